/-! a text read as a whole, in step -/
def flR (rb a k : Nat) : Prop := lnR rb a k ∨ a = 80
def flU (a k : Nat) : Prop := a = 78 ∧ ((2 ≤ k ∧ k ≤ 9) ∨ (35 ≤ k ∧ k ≤ 39))
def P00 (i : Nat) : Nat := [0, 12, 30, 2, 2, 3, 0, 0, 0].getD i 0
theorem two_read {σ κ : ZS} {u : Nat → Nat} {n bk rb : Nat} (hn : n ≤ 1600) (hu : ∀ i, i < n → u i < 256 ∧ sF σ 9 i = sgn (u i)) (hk : ∀ i, i < n → sF κ 79 i = sgn (u i) ∧ vp_nar .byte (sF κ 79 i) = sF κ 79 i) (k2 : sI κ 78 2 = nI n) (k34 : sI κ 78 34 = nI bk) (hbk : bk < 2) (hrb : rb = 1 - bk) : (∃ (τ υ : ZS) (t : ZT) (P : Nat → Nat) (X : Nat → Nat → Nat) (pl ln : Nat → Nat) (fo : Nat → Int32) (len tc tr : Nat), (xX3_read 10 9 (nI n) (mkH σ) = some (1, mkH τ) ∧ xX9_fleet 78 (mkH κ) = xX9_fleet_B95 78 (mkH υ)) ∧ LN rb u n τ υ t P X pl ln fo len tc tr ∧ sI υ 78 2 = nI 0 ∧ FG lnG tU fj (setTx σ (.ref 9)) τ ∧ FG (flR rb) flU (lnJ rb) κ υ) ∨ (∃ (τ υ : ZS), (xX3_read 10 9 (nI n) (mkH σ) = some (0, mkH τ) ∧ xX9_fleet 78 (mkH κ) = xX9_fleet_B95 78 (mkH υ)) ∧ BAD τ υ ∧ sI υ 78 2 = nI 0 ∧ FG lnG tU fj (setTx σ (.ref 9)) τ ∧ FG (flR rb) flU (lnJ rb) κ υ) := by
  have hrb2 : rb < 2 := by omega
  obtain ⟨c1, c2, c3, c4, c5, c6, c7, c8, c9, c10, c11, c12, c13, c14, c15⟩ := cRd_I (σ := σ) (n := n)
  have hcF := cRd_F (σ := σ) (n := n)
  have hcr := c_read0 (σ := σ) hn
  have T0 : TC (cRd σ n) u n := ⟨rfl, c1, hn, fun i hi => hu i hi⟩
  generalize cRd σ n = τ0 at *
  obtain ⟨τ1, a1, a2, a3⟩ := c_adv T0 (Nat.zero_le n) c2
  have g3 : sI (setI (setI (setI κ 78 4 0) 78 5 (-1)) 78 3 (sI κ 78 2)) 78 3 = nI n := by rw [sI_eq]; exact k2
  have g34 : sI (setI (setI (setI κ 78 4 0) 78 5 (-1)) 78 3 (sI κ 78 2)) 78 34 = nI bk := by rw [sI_ne (by omega), sI_ne (by omega), sI_ne (by omega)]; exact k34
  have g4 : sI (setI (setI (setI κ 78 4 0) 78 5 (-1)) 78 3 (sI κ 78 2)) 78 4 = 0 := by rw [sI_ne (by omega), sI_ne (by omega), sI_eq]
  have g5 : sI (setI (setI (setI κ 78 4 0) 78 5 (-1)) 78 3 (sI κ 78 2)) 78 5 = -1 := by rw [sI_ne (by omega), sI_eq]
  have g79 : ∀ i, sF (setI (setI (setI κ 78 4 0) 78 5 (-1)) 78 3 (sI κ 78 2)) 79 i = sF κ 79 i := fun i => rfl
  have hF0 : FG (flR rb) flU (lnJ rb) κ (setI (setI (setI κ 78 4 0) 78 5 (-1)) 78 3 (sI κ 78 2)) := FG_t (FG_I (by unfold flU; omega)) (FG_t (FG_I (by unfold flU; omega)) (FG_I (by unfold flU; omega)))
  have hfl := r_flt0 (κ := κ)
  generalize setI (setI (setI κ 78 4 0) 78 5 (-1)) 78 3 (sI κ 78 2) = κ0 at *
  obtain ⟨e, he⟩ := zfu n (by omega)
  obtain ⟨κ1, b1, b2, b3⟩ := r_txt hn n 0 e κ0 (by omega) g3 (fun i hi => by rw [g79]; exact (hk i hi).2) (fun i hi => absurd hi (by omega))
  rw [he, b1, r_46 (ρ := κ1) (bk := bk) (by rw [b3.2.1 78 34 (fun z => z)]; exact g34) hbk, ← hrb] at hfl
  have hF1 : FG (flR rb) flU (lnJ rb) κ κ1 := FG_t hF0 (FG_m b3 (fun a k z => Or.inr z) (fun a k z => z.elim) (fun _ z => z.elim))
  have hI1 : ∀ k, sI κ1 78 k = sI κ0 78 k := fun k => b3.2.1 78 k (fun z => z)
  have hF2 : FG (flR rb) flU (lnJ rb) κ1 (setI (setI (setI κ1 78 2 0) 78 7 0) 78 35 (nI rb)) := FG_t (FG_I (by unfold flU; omega)) (FG_t (FG_I (by unfold flU; omega)) (FG_I (by unfold flU; omega)))
  have d2 : sI (setI (setI (setI κ1 78 2 0) 78 7 0) 78 35 (nI rb)) 78 2 = 0 := by rw [sI_ne (by omega), sI_ne (by omega), sI_eq]
  have d7 : sI (setI (setI (setI κ1 78 2 0) 78 7 0) 78 35 (nI rb)) 78 7 = 0 := by rw [sI_ne (by omega), sI_eq]
  have d35 : sI (setI (setI (setI κ1 78 2 0) 78 7 0) 78 35 (nI rb)) 78 35 = nI rb := sI_eq
  have dI : ∀ k, k ≠ 2 → k ≠ 7 → k ≠ 35 → sI (setI (setI (setI κ1 78 2 0) 78 7 0) 78 35 (nI rb)) 78 k = sI κ1 78 k := fun k h1 h2 h3 => by rw [sI_ne (by omega), sI_ne (by omega), sI_ne (by omega)]
  have dF : ∀ a k, sF (setI (setI (setI κ1 78 2 0) 78 7 0) 78 35 (nI rb)) a k = sF κ1 a k := fun a k => rfl
  generalize setI (setI (setI κ1 78 2 0) 78 7 0) 78 35 (nI rb) = κ2 at *
  have hF3 := clB_F (ρ := κ2) (rb := rb)
  obtain ⟨v1, v2, v3, v4, v5, v6, v7, v8, v9, v10, v11⟩ := clB_V (ρ := κ2) (rb := rb)
  generalize clB κ2 rb = κ3 at *
  have eI3 : ∀ k, k ≠ 36 → sI κ3 78 k = sI κ2 78 k := fun k h => hF3.2.1 78 k (by unfold clT; omega)
  have T1 : TR κ3 u n := ⟨by rw [eI3 3 (by omega), dI 3 (by omega) (by omega) (by omega), hI1]; exact g3, hn, fun i hi => ⟨(hu i hi).1, by rw [hF3.1 80 i (by unfold clG; omega), dF, b2 i hi, g79]; exact (hk i hi).1⟩⟩
  obtain ⟨υ1, w1, w2, w3⟩ := r_adv T1 (Nat.zero_le n) (by rw [eI3 7 (by omega)]; exact d7)
  rw [w1, Option.bind_some] at hfl
  rw [a1, Option.bind_some] at hcr
  have hL : LK τ1 υ1 u n (lex (gu0 u n) n 0) := by
    refine ⟨TC_f a3 (fun z => z) (by unfold dT; omega) T0, TR_f w3 (fun z => z) (by unfold eT; omega) T1, a2, w2, ⟨0, Nat.zero_le n, rfl⟩, ?_, ?_, ?_, ?_⟩
    · rw [w3.2.1 78 4 (by unfold eT; omega), eI3 4 (by omega), dI 4 (by omega) (by omega) (by omega), hI1]; exact g4
    · rw [a3.2.1 10 1 (by unfold dT; omega)]; exact c4
    · rw [a3.2.1 10 2 (by unfold dT; omega)]; exact c5
    · rw [w3.2.1 78 5 (by unfold eT; omega), eI3 5 (by omega), dI 5 (by omega) (by omega) (by omega), hI1]; exact g5
  have i11 : ∀ k, sI τ1 11 k = sI τ0 11 k := fun k => a3.2.1 11 k (by unfold dT; omega)
  have iF : ∀ a k, sF υ1 a k = sF κ3 a k := fun a k => by rw [w3.1 a (fun z => z)]
  have y2 : sI υ1 78 2 = nI 0 := by rw [w3.2.1 78 2 (by unfold eT; omega), eI3 2 (by omega)]; exact d2
  have hN : LN rb u n τ1 υ1 (lex (gu0 u n) n 0) P00 (fun _ _ => 0) (fun _ => 0) (fun _ => 0) (fun _ => 0) 0 0 0 := by
    refine ⟨hL, ?_, by unfold PW; decide, fun j hj => ?_, ⟨?_, ?_⟩, ⟨⟨?_, ?_, fun i hi => absurd hi (by omega)⟩, ?_⟩, fun r s _ hs => absurd hs (by show ¬ s < 0; omega), fun s hs => absurd hs (by show ¬ s < 0; omega), fun s hs => absurd hs (by show ¬ s < 0; omega), ⟨?_, ?_, by omega, by omega, fun j _ => by rw [Nat.zero_testBit, Nat.zero_testBit]⟩, ⟨by omega, fun i hi => absurd hi (by omega)⟩, by decide, fun _ => ⟨rfl, ?_⟩, fun h => absurd h (by omega)⟩
    · rw [w3.2.1 78 35 (by unfold eT; omega), eI3 35 (by omega)]; exact d35
    · rw [i11, iF]
      rcases j7 hj with rfl | rfl | rfl | rfl | rfl | rfl | rfl
      · exact ⟨c6, v2⟩
      · exact ⟨c7, v3⟩
      · exact ⟨c8, v4⟩
      · exact ⟨c9, v5⟩
      · exact ⟨c10, v6⟩
      · exact ⟨c11, v8⟩
      · exact ⟨c12, v9⟩
    · rw [i11]; exact c13
    · rw [iF]; exact v1
    · rw [i11]; exact c14
    · rw [i11]; exact c15
    · rw [iF]; exact v7
    · rw [a3.2.1 10 9 (by unfold dT; omega)]; exact c3
    · rw [iF]; exact v10
    · rw [w3.2.1 78 36 (by unfold eT; omega)]; exact v11
  have hFc : FG lnG tU fj (setTx σ (.ref 9)) τ1 := FG_t (FG_m hcF (fun _ _ z => z.elim) (fun _ _ z => z) (fun _ z => z)) (FG_f a3 (fun a k z => by unfold dT at z; unfold tU; omega))
  have hFr : FG (flR rb) flU (lnJ rb) κ υ1 := FG_t hF1 (FG_t hF2 (FG_t (FG_m hF3 (fun a k z => Or.inl (by unfold clG at z; unfold lnR; omega)) (fun a k z => by unfold clT at z; unfold flU; omega) (fun _ z => z.elim)) (FG_n w3 (fun a k z => by unfold eT at z; unfold flU; omega))))
  obtain ⟨e1, he1⟩ := zfu n (by omega)
  have hm1 : ∀ τ, FG lnG lnT fj τ1 τ → FG lnG tU fj (setTx σ (.ref 9)) τ := fun τ h => FG_t hFc (FG_m h (fun _ _ z => z) (fun a k z => by unfold lnT at z; unfold tU; omega) (fun _ z => z))
  have hm2 : ∀ υ, FG (lnR rb) fT (lnJ rb) υ1 υ → FG (flR rb) flU (lnJ rb) κ υ ∧ sI υ 78 2 = nI 0 := fun υ h => ⟨FG_t hFr (FG_m h (fun _ _ z => Or.inl z) (fun a k z => by unfold fT rF at z; unfold flU; omega) (fun _ z => z)), by rw [h.2.1 78 2 (by unfold fT rF; omega)]; exact y2⟩
  rw [he1] at hcr hfl
  rw [show (0 : Int32) = nI 0 from rfl] at hcr
  rcases rd_loop hrb2 n 0 e1 e1 τ1 υ1 _ P00 _ _ _ _ 0 0 0 (by omega) (Nat.zero_le _) hN with ⟨τ, υ, t, P, X, pl, ln, fo, len, tc, tr, ⟨q1, q2⟩, q3, q4, q5⟩ | ⟨τ, υ, ⟨q1, q2⟩, q3, q4, q5⟩
  · exact Or.inl ⟨τ, υ, t, P, X, pl, ln, fo, len, tc, tr, ⟨hcr.trans q1, hfl.trans q2⟩, q3, (hm2 υ q5).2, hm1 τ q4, (hm2 υ q5).1⟩
  · exact Or.inr ⟨τ, υ, ⟨hcr.trans q1, hfl.trans q2⟩, q3, (hm2 υ q5).2, hm1 τ q4, (hm2 υ q5).1⟩
