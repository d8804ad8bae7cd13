/-! the law: call by call -/
theorem rdX {σ : ZS} {i : Nat} (hi : i < (sX σ).length) (h31 : i < 2 ^ 31) : z_aI (mkH σ) 0 (nI i) = some ((sX σ).getD i 0) := by
  unfold z_aI
  show (if (10 = 0 ∨ 10 = 10) ∧ ¬ nI i < 0 then (sX σ)[(nI i).toNatClampNeg]? else none) = _
  rw [if_pos ⟨Or.inr rfl, nI_pos h31⟩, nI_clamp h31, List.getD_eq_getElem?_getD, List.getElem?_eq_getElem hi]
  rfl
theorem lnX (σ : ZS) : z_aL (mkH σ) 0 = some (nI (sX σ).length) := rfl
section LQ
variable {σ : ZS} {k : Nat} (r18 : Nat → Nat → Nat → Int32 → ZH → Option (Int32 × ZH))
theorem br0 (cx rx : ZH → Option (Int32 × ZH)) (hq : QOK cx rx) (I : INV σ) (hk : 6 * k + 6 ≤ (sX σ).length) (hl : (sX σ).length ≤ 3072) : ∃ υ, INV υ ∧ sX υ = sX σ ∧ (z_gu (z_is (mkH σ) 8 8) ((cx  (mkH σ)).bind fun r => (z_gu (z_is r.2 78 9) ((rx  r.2).bind fun q => (if r.1 = q.1 then r18 0 8 78 (nI (6 * k) + 6) q.2 else some ((0 : Int32), q.2)))))) = r18 0 8 78 (nI (6 * (k + 1))) (mkH υ) := by
  obtain ⟨v, τ, υ, h1, h2, ⟨sx, sy⟩, I2⟩ := hq  σ I
  refine ⟨υ, I2, sy, ?_⟩
  rw [is_8, gu_t, h1, Option.bind_some]
  show (z_gu (z_is (mkH τ) 78 9) ((rx  (mkH τ)).bind fun q => (if v = q.1 then r18 0 8 78 (nI (6 * k) + 6) q.2 else some ((0 : Int32), q.2)))) = _
  rw [is_78, gu_t, h2, Option.bind_some]
  show (if v = v then r18 0 8 78 (nI (6 * k) + 6) (mkH υ) else some ((0 : Int32), mkH υ)) = _
  rw [if_pos rfl, nl_6, nI_add, show 6 * k + 6 = 6 * (k + 1) by omega]
theorem br1 (cx rx : Int32 → ZH → Option (Int32 × ZH)) (hq : ∀ a1 : Int32, QOK (cx a1) (rx a1)) (I : INV σ) (hk : 6 * k + 6 ≤ (sX σ).length) (hl : (sX σ).length ≤ 3072) : ∃ υ, INV υ ∧ sX υ = sX σ ∧ ((z_aI (mkH σ) 0 (nI (6 * k) + (1 : Int32))).bind fun x1 => (z_gu (z_is (mkH σ) 8 8) ((cx x1 (mkH σ)).bind fun r => ((z_aI r.2 0 (nI (6 * k) + (1 : Int32))).bind fun y1 => (z_gu (z_is r.2 78 9) ((rx y1 r.2).bind fun q => (if r.1 = q.1 then r18 0 8 78 (nI (6 * k) + 6) q.2 else some ((0 : Int32), q.2)))))))) = r18 0 8 78 (nI (6 * (k + 1))) (mkH υ) := by
  obtain ⟨v, τ, υ, h1, h2, ⟨sx, sy⟩, I2⟩ := hq ((sX σ).getD (6 * k + 1) 0) σ I
  refine ⟨υ, I2, sy, ?_⟩
  rw [nl_1, nI_add, rdX (σ := σ) (i := 6 * k + 1) (by omega) (by omega), Option.bind_some, is_8, gu_t, h1, Option.bind_some]
  have g1 : z_aI (mkH τ) 0 (nI (6 * k + 1)) = some ((sX σ).getD (6 * k + 1) 0) := by rw [rdX (σ := τ) (i := 6 * k + 1) (by rw [sx]; omega) (by omega), sx]
  show ((z_aI (mkH τ) 0 (nI (6 * k + 1))).bind fun y1 => (z_gu (z_is (mkH τ) 78 9) ((rx y1 (mkH τ)).bind fun q => (if v = q.1 then r18 0 8 78 (nI (6 * k) + 6) q.2 else some ((0 : Int32), q.2))))) = _
  rw [g1, Option.bind_some, is_78, gu_t, h2, Option.bind_some]
  show (if v = v then r18 0 8 78 (nI (6 * k) + 6) (mkH υ) else some ((0 : Int32), mkH υ)) = _
  rw [if_pos rfl, nl_6, nI_add, show 6 * k + 6 = 6 * (k + 1) by omega]
theorem br2 (cx rx : Int32 → Int32 → ZH → Option (Int32 × ZH)) (hq : ∀ a1 a2 : Int32, QOK (cx a1 a2) (rx a1 a2)) (I : INV σ) (hk : 6 * k + 6 ≤ (sX σ).length) (hl : (sX σ).length ≤ 3072) : ∃ υ, INV υ ∧ sX υ = sX σ ∧ ((z_aI (mkH σ) 0 (nI (6 * k) + (1 : Int32))).bind fun x1 => ((z_aI (mkH σ) 0 (nI (6 * k) + (2 : Int32))).bind fun x2 => (z_gu (z_is (mkH σ) 8 8) ((cx x1 x2 (mkH σ)).bind fun r => ((z_aI r.2 0 (nI (6 * k) + (1 : Int32))).bind fun y1 => ((z_aI r.2 0 (nI (6 * k) + (2 : Int32))).bind fun y2 => (z_gu (z_is r.2 78 9) ((rx y1 y2 r.2).bind fun q => (if r.1 = q.1 then r18 0 8 78 (nI (6 * k) + 6) q.2 else some ((0 : Int32), q.2)))))))))) = r18 0 8 78 (nI (6 * (k + 1))) (mkH υ) := by
  obtain ⟨v, τ, υ, h1, h2, ⟨sx, sy⟩, I2⟩ := hq ((sX σ).getD (6 * k + 1) 0) ((sX σ).getD (6 * k + 2) 0) σ I
  refine ⟨υ, I2, sy, ?_⟩
  rw [nl_1, nI_add, rdX (σ := σ) (i := 6 * k + 1) (by omega) (by omega), Option.bind_some, nl_2, nI_add, rdX (σ := σ) (i := 6 * k + 2) (by omega) (by omega), Option.bind_some, is_8, gu_t, h1, Option.bind_some]
  have g1 : z_aI (mkH τ) 0 (nI (6 * k + 1)) = some ((sX σ).getD (6 * k + 1) 0) := by rw [rdX (σ := τ) (i := 6 * k + 1) (by rw [sx]; omega) (by omega), sx]
  have g2 : z_aI (mkH τ) 0 (nI (6 * k + 2)) = some ((sX σ).getD (6 * k + 2) 0) := by rw [rdX (σ := τ) (i := 6 * k + 2) (by rw [sx]; omega) (by omega), sx]
  show ((z_aI (mkH τ) 0 (nI (6 * k + 1))).bind fun y1 => ((z_aI (mkH τ) 0 (nI (6 * k + 2))).bind fun y2 => (z_gu (z_is (mkH τ) 78 9) ((rx y1 y2 (mkH τ)).bind fun q => (if v = q.1 then r18 0 8 78 (nI (6 * k) + 6) q.2 else some ((0 : Int32), q.2)))))) = _
  rw [g1, Option.bind_some, g2, Option.bind_some, is_78, gu_t, h2, Option.bind_some]
  show (if v = v then r18 0 8 78 (nI (6 * k) + 6) (mkH υ) else some ((0 : Int32), mkH υ)) = _
  rw [if_pos rfl, nl_6, nI_add, show 6 * k + 6 = 6 * (k + 1) by omega]
theorem br3 (cx rx : Int32 → Int32 → Int32 → ZH → Option (Int32 × ZH)) (hq : ∀ a1 a2 a3 : Int32, QOK (cx a1 a2 a3) (rx a1 a2 a3)) (I : INV σ) (hk : 6 * k + 6 ≤ (sX σ).length) (hl : (sX σ).length ≤ 3072) : ∃ υ, INV υ ∧ sX υ = sX σ ∧ ((z_aI (mkH σ) 0 (nI (6 * k) + (1 : Int32))).bind fun x1 => ((z_aI (mkH σ) 0 (nI (6 * k) + (2 : Int32))).bind fun x2 => ((z_aI (mkH σ) 0 (nI (6 * k) + (3 : Int32))).bind fun x3 => (z_gu (z_is (mkH σ) 8 8) ((cx x1 x2 x3 (mkH σ)).bind fun r => ((z_aI r.2 0 (nI (6 * k) + (1 : Int32))).bind fun y1 => ((z_aI r.2 0 (nI (6 * k) + (2 : Int32))).bind fun y2 => ((z_aI r.2 0 (nI (6 * k) + (3 : Int32))).bind fun y3 => (z_gu (z_is r.2 78 9) ((rx y1 y2 y3 r.2).bind fun q => (if r.1 = q.1 then r18 0 8 78 (nI (6 * k) + 6) q.2 else some ((0 : Int32), q.2)))))))))))) = r18 0 8 78 (nI (6 * (k + 1))) (mkH υ) := by
  obtain ⟨v, τ, υ, h1, h2, ⟨sx, sy⟩, I2⟩ := hq ((sX σ).getD (6 * k + 1) 0) ((sX σ).getD (6 * k + 2) 0) ((sX σ).getD (6 * k + 3) 0) σ I
  refine ⟨υ, I2, sy, ?_⟩
  rw [nl_1, nI_add, rdX (σ := σ) (i := 6 * k + 1) (by omega) (by omega), Option.bind_some, nl_2, nI_add, rdX (σ := σ) (i := 6 * k + 2) (by omega) (by omega), Option.bind_some, nl_3, nI_add, rdX (σ := σ) (i := 6 * k + 3) (by omega) (by omega), Option.bind_some, is_8, gu_t, h1, Option.bind_some]
  have g1 : z_aI (mkH τ) 0 (nI (6 * k + 1)) = some ((sX σ).getD (6 * k + 1) 0) := by rw [rdX (σ := τ) (i := 6 * k + 1) (by rw [sx]; omega) (by omega), sx]
  have g2 : z_aI (mkH τ) 0 (nI (6 * k + 2)) = some ((sX σ).getD (6 * k + 2) 0) := by rw [rdX (σ := τ) (i := 6 * k + 2) (by rw [sx]; omega) (by omega), sx]
  have g3 : z_aI (mkH τ) 0 (nI (6 * k + 3)) = some ((sX σ).getD (6 * k + 3) 0) := by rw [rdX (σ := τ) (i := 6 * k + 3) (by rw [sx]; omega) (by omega), sx]
  show ((z_aI (mkH τ) 0 (nI (6 * k + 1))).bind fun y1 => ((z_aI (mkH τ) 0 (nI (6 * k + 2))).bind fun y2 => ((z_aI (mkH τ) 0 (nI (6 * k + 3))).bind fun y3 => (z_gu (z_is (mkH τ) 78 9) ((rx y1 y2 y3 (mkH τ)).bind fun q => (if v = q.1 then r18 0 8 78 (nI (6 * k) + 6) q.2 else some ((0 : Int32), q.2))))))) = _
  rw [g1, Option.bind_some, g2, Option.bind_some, g3, Option.bind_some, is_78, gu_t, h2, Option.bind_some]
  show (if v = v then r18 0 8 78 (nI (6 * k) + 6) (mkH υ) else some ((0 : Int32), mkH υ)) = _
  rw [if_pos rfl, nl_6, nI_add, show 6 * k + 6 = 6 * (k + 1) by omega]
theorem br5 (cx rx : Int32 → Int32 → Int32 → Int32 → Int32 → ZH → Option (Int32 × ZH)) (hq : ∀ a1 a2 a3 a4 a5 : Int32, QOK (cx a1 a2 a3 a4 a5) (rx a1 a2 a3 a4 a5)) (I : INV σ) (hk : 6 * k + 6 ≤ (sX σ).length) (hl : (sX σ).length ≤ 3072) : ∃ υ, INV υ ∧ sX υ = sX σ ∧ ((z_aI (mkH σ) 0 (nI (6 * k) + (1 : Int32))).bind fun x1 => ((z_aI (mkH σ) 0 (nI (6 * k) + (2 : Int32))).bind fun x2 => ((z_aI (mkH σ) 0 (nI (6 * k) + (3 : Int32))).bind fun x3 => ((z_aI (mkH σ) 0 (nI (6 * k) + (4 : Int32))).bind fun x4 => ((z_aI (mkH σ) 0 (nI (6 * k) + (5 : Int32))).bind fun x5 => (z_gu (z_is (mkH σ) 8 8) ((cx x1 x2 x3 x4 x5 (mkH σ)).bind fun r => ((z_aI r.2 0 (nI (6 * k) + (1 : Int32))).bind fun y1 => ((z_aI r.2 0 (nI (6 * k) + (2 : Int32))).bind fun y2 => ((z_aI r.2 0 (nI (6 * k) + (3 : Int32))).bind fun y3 => ((z_aI r.2 0 (nI (6 * k) + (4 : Int32))).bind fun y4 => ((z_aI r.2 0 (nI (6 * k) + (5 : Int32))).bind fun y5 => (z_gu (z_is r.2 78 9) ((rx y1 y2 y3 y4 y5 r.2).bind fun q => (if r.1 = q.1 then r18 0 8 78 (nI (6 * k) + 6) q.2 else some ((0 : Int32), q.2)))))))))))))))) = r18 0 8 78 (nI (6 * (k + 1))) (mkH υ) := by
  obtain ⟨v, τ, υ, h1, h2, ⟨sx, sy⟩, I2⟩ := hq ((sX σ).getD (6 * k + 1) 0) ((sX σ).getD (6 * k + 2) 0) ((sX σ).getD (6 * k + 3) 0) ((sX σ).getD (6 * k + 4) 0) ((sX σ).getD (6 * k + 5) 0) σ I
  refine ⟨υ, I2, sy, ?_⟩
  rw [nl_1, nI_add, rdX (σ := σ) (i := 6 * k + 1) (by omega) (by omega), Option.bind_some, nl_2, nI_add, rdX (σ := σ) (i := 6 * k + 2) (by omega) (by omega), Option.bind_some, nl_3, nI_add, rdX (σ := σ) (i := 6 * k + 3) (by omega) (by omega), Option.bind_some, nl_4, nI_add, rdX (σ := σ) (i := 6 * k + 4) (by omega) (by omega), Option.bind_some, nl_5, nI_add, rdX (σ := σ) (i := 6 * k + 5) (by omega) (by omega), Option.bind_some, is_8, gu_t, h1, Option.bind_some]
  have g1 : z_aI (mkH τ) 0 (nI (6 * k + 1)) = some ((sX σ).getD (6 * k + 1) 0) := by rw [rdX (σ := τ) (i := 6 * k + 1) (by rw [sx]; omega) (by omega), sx]
  have g2 : z_aI (mkH τ) 0 (nI (6 * k + 2)) = some ((sX σ).getD (6 * k + 2) 0) := by rw [rdX (σ := τ) (i := 6 * k + 2) (by rw [sx]; omega) (by omega), sx]
  have g3 : z_aI (mkH τ) 0 (nI (6 * k + 3)) = some ((sX σ).getD (6 * k + 3) 0) := by rw [rdX (σ := τ) (i := 6 * k + 3) (by rw [sx]; omega) (by omega), sx]
  have g4 : z_aI (mkH τ) 0 (nI (6 * k + 4)) = some ((sX σ).getD (6 * k + 4) 0) := by rw [rdX (σ := τ) (i := 6 * k + 4) (by rw [sx]; omega) (by omega), sx]
  have g5 : z_aI (mkH τ) 0 (nI (6 * k + 5)) = some ((sX σ).getD (6 * k + 5) 0) := by rw [rdX (σ := τ) (i := 6 * k + 5) (by rw [sx]; omega) (by omega), sx]
  show ((z_aI (mkH τ) 0 (nI (6 * k + 1))).bind fun y1 => ((z_aI (mkH τ) 0 (nI (6 * k + 2))).bind fun y2 => ((z_aI (mkH τ) 0 (nI (6 * k + 3))).bind fun y3 => ((z_aI (mkH τ) 0 (nI (6 * k + 4))).bind fun y4 => ((z_aI (mkH τ) 0 (nI (6 * k + 5))).bind fun y5 => (z_gu (z_is (mkH τ) 78 9) ((rx y1 y2 y3 y4 y5 (mkH τ)).bind fun q => (if v = q.1 then r18 0 8 78 (nI (6 * k) + 6) q.2 else some ((0 : Int32), q.2))))))))) = _
  rw [g1, Option.bind_some, g2, Option.bind_some, g3, Option.bind_some, g4, Option.bind_some, g5, Option.bind_some, is_78, gu_t, h2, Option.bind_some]
  show (if v = v then r18 0 8 78 (nI (6 * k) + 6) (mkH υ) else some ((0 : Int32), mkH υ)) = _
  rw [if_pos rfl, nl_6, nI_add, show 6 * k + 6 = 6 * (k + 1) by omega]
end LQ
theorem brS {σ : ZS} {k : Nat} (r18 : Nat → Nat → Nat → Int32 → ZH → Option (Int32 × ZH)) (I : INV σ) (hk : 6 * k + 6 ≤ (sX σ).length) (hl : (sX σ).length ≤ 3072) : ∃ υ, INV υ ∧ sX υ = sX σ ∧ ((z_aI (mkH σ) 0 (nI (6 * k) + (1 : Int32))).bind fun x1 => ((z_aI (mkH σ) 0 (nI (6 * k) + (2 : Int32))).bind fun x2 => ((z_aI (mkH σ) 0 (nI (6 * k) + (3 : Int32))).bind fun x3 => (if x3 = 0 then (z_gu (z_is (mkH σ) 8 8) ((xX8_seen 8 x1 x2 (0 : Int32) (mkH σ)).bind fun r => ((z_aI r.2 0 (nI (6 * k) + (1 : Int32))).bind fun y1 => ((z_aI r.2 0 (nI (6 * k) + (2 : Int32))).bind fun y2 => ((z_aI r.2 0 (nI (6 * k) + (3 : Int32))).bind fun y3 => (if y3 = 0 then (z_gu (z_is r.2 78 9) ((xX9_seen 78 y1 y2 (0 : Int32) r.2).bind fun q => (if r.1 = q.1 then r18 0 8 78 (nI (6 * k) + 6) q.2 else some ((0 : Int32), q.2)))) else (z_gu (z_is r.2 78 9) ((xX9_seen 78 y1 y2 (1 : Int32) r.2).bind fun q => (if r.1 = q.1 then r18 0 8 78 (nI (6 * k) + 6) q.2 else some ((0 : Int32), q.2)))))))))) else (z_gu (z_is (mkH σ) 8 8) ((xX8_seen 8 x1 x2 (1 : Int32) (mkH σ)).bind fun r => ((z_aI r.2 0 (nI (6 * k) + (1 : Int32))).bind fun y1 => ((z_aI r.2 0 (nI (6 * k) + (2 : Int32))).bind fun y2 => ((z_aI r.2 0 (nI (6 * k) + (3 : Int32))).bind fun y3 => (if y3 = 0 then (z_gu (z_is r.2 78 9) ((xX9_seen 78 y1 y2 (0 : Int32) r.2).bind fun q => (if r.1 = q.1 then r18 0 8 78 (nI (6 * k) + 6) q.2 else some ((0 : Int32), q.2)))) else (z_gu (z_is r.2 78 9) ((xX9_seen 78 y1 y2 (1 : Int32) r.2).bind fun q => (if r.1 = q.1 then r18 0 8 78 (nI (6 * k) + 6) q.2 else some ((0 : Int32), q.2)))))))))))))) = r18 0 8 78 (nI (6 * (k + 1))) (mkH υ) := by
  have key : ∀ w, w < 2 → ∃ v τ υ, xX8_seen 8 ((sX σ).getD (6 * k + 1) 0) ((sX σ).getD (6 * k + 2) 0) (nI w) (mkH σ) = some (v, mkH τ) ∧ xX9_seen 78 ((sX σ).getD (6 * k + 1) 0) ((sX σ).getD (6 * k + 2) 0) (nI w) (mkH τ) = some (v, mkH υ) ∧ (sX τ = sX σ ∧ sX υ = sX σ) ∧ INV υ := fun w hw => q_seen _ _ w hw σ I
  rw [nl_1, nI_add, rdX (σ := σ) (i := 6 * k + 1) (by omega) (by omega), Option.bind_some, nl_2, nI_add, rdX (σ := σ) (i := 6 * k + 2) (by omega) (by omega), Option.bind_some, nl_3, nI_add, rdX (σ := σ) (i := 6 * k + 3) (by omega) (by omega), Option.bind_some]
  generalize xX8_seen = c1 at *
  generalize xX9_seen = c2 at *
  by_cases hz : (sX σ).getD (6 * k + 3) 0 = 0
  · obtain ⟨v, τ, υ, h1, h2, ⟨sx, sy⟩, I2⟩ := key 0 (by omega)
    rw [nI_0] at h1 h2
    refine ⟨υ, I2, sy, ?_⟩
    have g : ∀ j, j < 6 → z_aI (mkH τ) 0 (nI (6 * k + j)) = some ((sX σ).getD (6 * k + j) 0) := fun j hj => by rw [rdX (σ := τ) (i := 6 * k + j) (by rw [sx]; omega) (by omega), sx]
    rw [if_pos hz, is_8, gu_t, h1, Option.bind_some]
    show ((z_aI (mkH τ) 0 (nI (6 * k + 1))).bind fun y1 => ((z_aI (mkH τ) 0 (nI (6 * k + 2))).bind fun y2 => ((z_aI (mkH τ) 0 (nI (6 * k + 3))).bind fun y3 => (if y3 = 0 then (z_gu (z_is (mkH τ) 78 9) ((c2 78 y1 y2 (0 : Int32) (mkH τ)).bind fun q => (if v = q.1 then r18 0 8 78 (nI (6 * k) + 6) q.2 else some ((0 : Int32), q.2)))) else (z_gu (z_is (mkH τ) 78 9) ((c2 78 y1 y2 (nI 1) (mkH τ)).bind fun q => (if v = q.1 then r18 0 8 78 (nI (6 * k) + 6) q.2 else some ((0 : Int32), q.2)))))))) = _
    rw [g 1 (by omega), Option.bind_some, g 2 (by omega), Option.bind_some, g 3 (by omega), Option.bind_some, if_pos hz, is_78, gu_t, h2, Option.bind_some]
    show (if v = v then r18 0 8 78 (nI (6 * k) + 6) (mkH υ) else some ((0 : Int32), mkH υ)) = _
    rw [if_pos rfl, nl_6, nI_add, show 6 * k + 6 = 6 * (k + 1) by omega]
  · obtain ⟨v, τ, υ, h1, h2, ⟨sx, sy⟩, I2⟩ := key 1 (by omega)
    refine ⟨υ, I2, sy, ?_⟩
    have g : ∀ j, j < 6 → z_aI (mkH τ) 0 (nI (6 * k + j)) = some ((sX σ).getD (6 * k + j) 0) := fun j hj => by rw [rdX (σ := τ) (i := 6 * k + j) (by rw [sx]; omega) (by omega), sx]
    rw [if_neg hz, is_8, gu_t, h1, Option.bind_some]
    show ((z_aI (mkH τ) 0 (nI (6 * k + 1))).bind fun y1 => ((z_aI (mkH τ) 0 (nI (6 * k + 2))).bind fun y2 => ((z_aI (mkH τ) 0 (nI (6 * k + 3))).bind fun y3 => (if y3 = 0 then (z_gu (z_is (mkH τ) 78 9) ((c2 78 y1 y2 (0 : Int32) (mkH τ)).bind fun q => (if v = q.1 then r18 0 8 78 (nI (6 * k) + 6) q.2 else some ((0 : Int32), q.2)))) else (z_gu (z_is (mkH τ) 78 9) ((c2 78 y1 y2 (nI 1) (mkH τ)).bind fun q => (if v = q.1 then r18 0 8 78 (nI (6 * k) + 6) q.2 else some ((0 : Int32), q.2)))))))) = _
    rw [g 1 (by omega), Option.bind_some, g 2 (by omega), Option.bind_some, g 3 (by omega), Option.bind_some, if_neg hz, is_78, gu_t, h2, Option.bind_some]
    show (if v = v then r18 0 8 78 (nI (6 * k) + 6) (mkH υ) else some ((0 : Int32), mkH υ)) = _
    rw [if_pos rfl, nl_6, nI_add, show 6 * k + 6 = 6 * (k + 1) by omega]
theorem law_s {σ : ZS} {k : Nat} (qf : QOK (xX8_fleet 8) (xX9_fleet 78)) (r18 : Nat → Nat → Nat → Int32 → ZH → Option (Int32 × ZH)) (I : INV σ) (hk : 6 * k + 6 ≤ (sX σ).length) (hl : (sX σ).length ≤ 3072) : ∃ υ, INV υ ∧ sX υ = sX σ ∧ xL_law_B18 r18 0 8 78 (nI (6 * k)) (mkH σ) = r18 0 8 78 (nI (6 * (k + 1))) (mkH υ) := by
  have h0 : ¬ (nI (sX σ).length - (6 : Int32)) < nI (6 * k) := fun z => by
    rw [nl_6, pk_sub (by omega)] at z
    have := (nI_ltI (by omega) (by omega)).mp z
    omega
  unfold xL_law_B18
  rw [lnX, Option.bind_some, if_neg h0, rdX (σ := σ) (i := 6 * k) (by omega) (by omega), Option.bind_some]
  generalize (sX σ).getD (6 * k) 0 &&& (63 : Int32) = v
  by_cases c0 : v = 0
  · rw [if_pos c0]
    exact br5 r18 (fun a b c d e => xX8_feed 8 a b c d e) (fun a b c d e => xX9_feed 78 a b c d e) q_feed I hk hl
  rw [if_neg c0]
  by_cases c1 : v = 1
  · rw [if_pos c1]
    exact br1 r18 (fun a => xX8_end 8 a) (fun a => xX9_end 78 a) q_end I hk hl
  rw [if_neg c1]
  by_cases c2 : v = 2
  · rw [if_pos c2]
    exact br0 r18 (xX8_fleet 8) (xX9_fleet 78) qf I hk hl
  rw [if_neg c2]
  by_cases c3 : v = 3
  · rw [if_pos c3]
    exact br1 r18 (fun a => xX8_fault 8 a) (fun a => xX9_fault 78 a) q_fault I hk hl
  rw [if_neg c3]
  by_cases c4 : v = 4
  · rw [if_pos c4]
    exact br2 r18 (fun a b => xX8_ship 8 a b) (fun a b => xX9_ship 78 a b) q_ship I hk hl
  rw [if_neg c4]
  by_cases c5 : v = 5
  · rw [if_pos c5]
    exact br3 r18 (fun a b c => xX8_own 8 a b c) (fun a b c => xX9_own 78 a b c) q_own I hk hl
  rw [if_neg c5]
  by_cases c6 : v = 6
  · rw [if_pos c6]
    exact br3 r18 (fun a b c => xX8_map 8 a b c) (fun a b c => xX9_map 78 a b c) q_map I hk hl
  rw [if_neg c6]
  by_cases c7 : v = 7
  · rw [if_pos c7]
    exact br3 r18 (fun a b c => xX8_known 8 a b c) (fun a b c => xX9_known 78 a b c) q_known I hk hl
  rw [if_neg c7]
  by_cases c8 : v = 8
  · rw [if_pos c8]
    exact br2 r18 (fun a b => xX8_far 8 a b) (fun a b => xX9_far 78 a b) q_far I hk hl
  rw [if_neg c8]
  by_cases c9 : v = 9
  · rw [if_pos c9]
    exact br0 r18 (xX8_step 8) (xX9_step 78) q_step I hk hl
  rw [if_neg c9]
  by_cases c10 : v = 10
  · rw [if_pos c10]
    exact br3 r18 (fun a b c => xX8_steer 8 a b c) (fun a b c => xX9_steer 78 a b c) q_steer I hk hl
  rw [if_neg c10]
  by_cases c11 : v = 11
  · rw [if_pos c11]
    exact br1 r18 (fun a => xX8_turn 8 a) (fun a => xX9_turn 78 a) q_turn I hk hl
  rw [if_neg c11]
  by_cases c12 : v = 12
  · rw [if_pos c12]
    exact br0 r18 (xX8_undo 8) (xX9_undo 78) q_undo I hk hl
  rw [if_neg c12]
  by_cases c13 : v = 13
  · rw [if_pos c13]
    exact br0 r18 (xX8_redo 8) (xX9_redo 78) q_redo I hk hl
  rw [if_neg c13]
  by_cases c14 : v = 14
  · rw [if_pos c14]
    exact br2 r18 (fun a b => xX8_candidates 8 a b) (fun a b => xX9_candidates 78 a b) q_cand I hk hl
  rw [if_neg c14]
  by_cases c15 : v = 15
  · rw [if_pos c15]
    exact br1 r18 (fun a => xX8_free 8 a) (fun a => xX9_free 78 a) q_free I hk hl
  rw [if_neg c15]
  by_cases c16 : v = 16
  · rw [if_pos c16]
    exact br2 r18 (fun a b => xX8_reuse 8 a b) (fun a b => xX9_reuse 78 a b) q_reuse I hk hl
  rw [if_neg c16]
  by_cases c17 : v = 17
  · rw [if_pos c17]
    exact br1 r18 (fun a => xX8_rate 8 a) (fun a => xX9_rate 78 a) q_rate I hk hl
  rw [if_neg c17]
  by_cases c18 : v = 18
  · rw [if_pos c18]
    exact br1 r18 (fun a => xX8_next 8 a) (fun a => xX9_next 78 a) q_next I hk hl
  rw [if_neg c18]
  by_cases c19 : v = 19
  · rw [if_pos c19]
    exact br2 r18 (fun a b => xX8_will 8 a b) (fun a b => xX9_will 78 a b) q_will I hk hl
  rw [if_neg c19]
  by_cases c20 : v = 20
  · rw [if_pos c20]
    exact br1 r18 (fun a => xX8_clashes 8 a) (fun a => xX9_clashes 78 a) q_clashes I hk hl
  rw [if_neg c20]
  by_cases c21 : v = 21
  · rw [if_pos c21]
    exact br2 r18 (fun a b => xX8_agree 8 a b) (fun a b => xX9_agree 78 a b) q_agree I hk hl
  rw [if_neg c21]
  by_cases c22 : v = 22
  · rw [if_pos c22]
    exact br1 r18 (fun a => xX8_wrong 8 a) (fun a => xX9_wrong 78 a) q_wrong I hk hl
  rw [if_neg c22]
  by_cases c23 : v = 23
  · rw [if_pos c23]
    exact br2 r18 (fun a b => xX8_hidden 8 a b) (fun a b => xX9_hidden 78 a b) q_hidden I hk hl
  rw [if_neg c23]
  by_cases c24 : v = 24
  · rw [if_pos c24]
    exact br1 r18 (fun a => xX8_colours 8 a) (fun a => xX9_colours 78 a) q_colours I hk hl
  rw [if_neg c24]
  by_cases c25 : v = 25
  · rw [if_pos c25]
    exact br1 r18 (fun a => xX8_crowd 8 a) (fun a => xX9_crowd 78 a) q_crowd I hk hl
  rw [if_neg c25]
  by_cases c26 : v = 26
  · rw [if_pos c26]
    exact br0 r18 (xX8_parts 8) (xX9_parts 78) q_parts I hk hl
  rw [if_neg c26]
  by_cases c27 : v = 27
  · rw [if_pos c27]
    exact br0 r18 (xX8_twins 8) (xX9_twins 78) q_twins I hk hl
  rw [if_neg c27]
  by_cases c28 : v = 28
  · rw [if_pos c28]
    exact br3 r18 (fun a b c => xX8_meet 8 a b c) (fun a b c => xX9_meet 78 a b c) q_meet I hk hl
  rw [if_neg c28]
  by_cases c29 : v = 29
  · rw [if_pos c29]
    exact br0 r18 (xX8_lit 8) (xX9_lit 78) q_lit I hk hl
  rw [if_neg c29]
  by_cases c30 : v = 30
  · rw [if_pos c30]
    exact br0 r18 (xX8_taken 8) (xX9_taken 78) q_taken I hk hl
  rw [if_neg c30]
  by_cases c31 : v = 31
  · rw [if_pos c31]
    exact br1 r18 (fun a => xX8_fullest 8 a) (fun a => xX9_fullest 78 a) q_fullest I hk hl
  rw [if_neg c31]
  by_cases c32 : v = 32
  · rw [if_pos c32]
    exact br1 r18 (fun a => xX8_strangers 8 a) (fun a => xX9_strangers 78 a) q_strangers I hk hl
  rw [if_neg c32]
  by_cases c33 : v = 33
  · rw [if_pos c33]
    exact br0 r18 (xX8_best 8) (xX9_best 78) q_best I hk hl
  rw [if_neg c33]
  by_cases c34 : v = 34
  · rw [if_pos c34]
    exact br1 r18 (fun a => xX8_reach 8 a) (fun a => xX9_reach 78 a) q_reach I hk hl
  rw [if_neg c34]
  by_cases c35 : v = 35
  · rw [if_pos c35]
    exact br3 r18 (fun a b c => xX8_law 8 a b c) (fun a b c => xX9_law 78 a b c) q_law I hk hl
  rw [if_neg c35]
  by_cases c36 : v = 36
  · rw [if_pos c36]
    exact br2 r18 (fun a b => xX8_odds 8 a b) (fun a b => xX9_odds 78 a b) q_odds I hk hl
  rw [if_neg c36]
  by_cases c37 : v = 37
  · rw [if_pos c37]
    exact br1 r18 (fun a => xX8_near 8 a) (fun a => xX9_near 78 a) q_near I hk hl
  rw [if_neg c37]
  by_cases c38 : v = 38
  · rw [if_pos c38]
    exact br1 r18 (fun a => xX8_lies 8 a) (fun a => xX9_lies 78 a) q_lies I hk hl
  rw [if_neg c38]
  by_cases c39 : v = 39
  · rw [if_pos c39]
    exact brS r18 I hk hl
  rw [if_neg c39]
  by_cases c40 : v = 40
  · rw [if_pos c40]
    exact br1 r18 (fun a => xX8_untell 8 a) (fun a => xX9_untell 78 a) q_untell I hk hl
  rw [if_neg c40]
  by_cases c41 : v = 41
  · rw [if_pos c41]
    exact br1 r18 (fun a => xX8_later 8 a) (fun a => xX9_later 78 a) q_later I hk hl
  rw [if_neg c41]
  by_cases c42 : v = 42
  · rw [if_pos c42]
    exact br1 r18 (fun a => xX8_fits 8 a) (fun a => xX9_fits 78 a) q_fits I hk hl
  rw [if_neg c42]
  by_cases c43 : v = 43
  · rw [if_pos c43]
    exact br2 r18 (fun a b => xX8_sure 8 a b) (fun a b => xX9_sure 78 a b) q_sure I hk hl
  rw [if_neg c43]
  by_cases c44 : v = 44
  · rw [if_pos c44]
    exact br3 r18 (fun a b c => xX8_ask 8 a b c) (fun a b c => xX9_ask 78 a b c) q_ask I hk hl
  rw [if_neg c44]
  by_cases c45 : v = 45
  · rw [if_pos c45]
    exact br1 r18 (fun a => xX8_image 8 a) (fun a => xX9_image 78 a) q_image I hk hl
  rw [if_neg c45]
  by_cases c46 : v = 46
  · rw [if_pos c46]
    exact br1 r18 (fun a => xX8_back 8 a) (fun a => xX9_back 78 a) q_back I hk hl
  rw [if_neg c46]
  by_cases c47 : v = 47
  · rw [if_pos c47]
    exact br1 r18 (fun a => xX8_about 8 a) (fun a => xX9_about 78 a) q_about I hk hl
  rw [if_neg c47]
  refine ⟨σ, I, rfl, ?_⟩
  rw [nl_6, nI_add, show 6 * k + 6 = 6 * (k + 1) by omega]
theorem law_l (qf : QOK (xX8_fleet 8) (xX9_fleet 78)) {xl : List Int32} (hl : xl.length ≤ 3072) : ∀ (m k : Nat) (σ : ZS) (e : Nat), INV σ → sX σ = xl → xl.length ≤ 6 * (k + m) → 6 * k ≤ xl.length → ∃ h, xL_law_L18 (e + m + 1) 0 8 78 (nI (6 * k)) (mkH σ) = some (1, h) := by
  intro m
  have hend : ∀ (k : Nat) (σ : ZS) (e : Nat), sX σ = xl → xl.length < 6 * k + 6 → 6 * k ≤ xl.length → ∃ h, xL_law_L18 (e + 1) 0 8 78 (nI (6 * k)) (mkH σ) = some (1, h) := by
    intro k σ e hx h1 h2
    refine ⟨mkH σ, ?_⟩
    have h0 : (nI xl.length - (6 : Int32)) < nI (6 * k) := by
      rcases Nat.lt_or_ge xl.length 6 with h | h
      · refine Int32.lt_iff_toInt_lt.mpr ?_
        rw [nl_6, pk_sub_toInt (by omega) (by omega), nI_toInt (by omega)]
        omega
      · rw [nl_6, pk_sub h]
        exact nI_lt (by omega) (by omega)
    show xL_law_B18 (xL_law_L18 e) 0 8 78 (nI (6 * k)) (mkH σ) = _
    unfold xL_law_B18
    rw [lnX, Option.bind_some, hx, if_pos h0]
  induction m with
  | zero =>
    intro k σ e I hx h1 h2
    exact hend k σ e hx (by omega) h2
  | succ m ih =>
    intro k σ e I hx h1 h2
    rcases Nat.lt_or_ge xl.length (6 * k + 6) with h | h
    · have := hend k σ (e + (m + 1)) hx h h2
      exact this
    · obtain ⟨υ, I2, sx, hs⟩ := law_s qf (xL_law_L18 (e + (m + 1))) I (by rw [hx]; exact h) (by rw [hx]; exact hl)
      obtain ⟨h', hh⟩ := ih (k + 1) υ e I2 (sx.trans hx) (by omega) (by omega)
      refine ⟨h', ?_⟩
      rw [← hh]
      exact hs
