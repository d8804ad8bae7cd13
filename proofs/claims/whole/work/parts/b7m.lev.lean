/-! the formula: a level -/
theorem AF_m {rb : Nat} {u : Nat → Nat} {n : Nat} {σ ρ : ZS} {t : ZT} {fo : Nat → Int32} {len un d wi : Nat} {K G : Nat → Nat} {lo lo' : Nat} {τ υ : ZS} {t' : ZT} {fo' : Nat → Int32} {len' un' p j : Nat} {K' G' : Nat → Nat} (h : lo' ≤ lo) (A : AF rb u n σ ρ t fo len un d wi K G lo τ υ t' fo' len' un' p j K' G') : AF rb u n σ ρ t fo len un d wi K G lo' τ υ t' fo' len' un' p j K' G' := by
  obtain ⟨a1, a2, a3, a4, a5, a6, a7, a8, a9, a10, a11, a12, a13⟩ := A
  exact ⟨a1, a2, a3, a4, a5, a6, a7, fun i hi => ⟨by have := a8 i hi; omega, (a8 i hi).2⟩, a9, a10, a11, a12, a13⟩
theorem CQ_f {T : Nat → Nat → Prop} {σ τ : ZS} {fo : Nat → Int32} {len un : Nat} (h : FR (fun _ => False) T σ τ) (h8 : ¬ T 11 8) (h15 : ¬ T 11 15) (C : CQ σ fo len un) : CQ τ fo len un := by
  refine ⟨?_, ?_, fun i hi => ?_⟩
  · rw [h.2.1 11 8 h8]; exact C.1
  · rw [h.2.1 11 15 h15]; exact C.2.1
  · rw [h.1 17 (fun z => z)]; exact C.2.2 i hi
theorem opr_b {l : Nat} (hl : l ≤ 4) : 1 ≤ opr l ∧ opr l ≤ 6 ∧ opr l < opr (l + 1) ∧ opr l ≤ rkL (l + 1) ∧ opr l ≠ 3 ∧ (2 ≤ l → 4 ≤ opr l) ∧ rkL l ≤ opr l ∧ (opr l = 4 ↔ l = 2) := by
  unfold opr rkL
  have h : l = 0 ∨ l = 1 ∨ l = 2 ∨ l = 3 ∨ l = 4 := by omega
  rcases h with rfl | rfl | rfl | rfl | rfl <;> decide
theorem cmpK_p {K : Nat → Nat} {d : Nat} : ∀ p, (∀ i, i < p → 5 ≤ K (d + i) ∧ K (d + i) ≤ 6) → cmpK K (d + p) = cmpK K d
  | 0, _ => rfl
  | p + 1, h => by
    have := h p (by omega)
    rw [show d + (p + 1) = d + p + 1 by omega, cmpK, if_pos (by omega)]
    exact cmpK_p p (fun i hi => h i (by omega))
theorem lv_tok {l : Nat} {t : ZT} {c : Bool} (hl : l ≤ 4) (h : rkT t < rkL (l + 1) ∨ (rkT t = 4 ∧ l + 1 ≤ 2 ∧ c = true)) (hn : rkT t ≠ opr l) : rkT t < rkL l ∨ (rkT t = 4 ∧ l ≤ 2 ∧ c = true) := by
  have hb := rkT_b t
  rcases h with h | ⟨h1, h2, h3⟩
  · left
    unfold rkL opr at *
    have hx : l = 0 ∨ l = 1 ∨ l = 2 ∨ l = 3 ∨ l = 4 := by omega
    rcases hx with rfl | rfl | rfl | rfl | rfl
    · simp at h hn ⊢; omega
    · simp at h hn ⊢; omega
    · simp at h hn ⊢; omega
    · simp at h hn ⊢; omega
    · simp at h hn ⊢; omega
  · exact Or.inr ⟨h1, by omega, h3⟩
theorem ntB_f {k : Nat} {t : ZT} (h4 : 4 ≤ k) (h6 : k ≤ 6) : ntB k t = false := by
  unfold ntB
  rw [decide_eq_false (by omega)]
  rfl
theorem lv_loop {rb : Nat} {u : Nat → Nat} {n l wi mx : Nat} {fL : Nat → Int32 → Int32 → ZH → Option (Int32 × ZH)} {fU : Nat → Int32 → ZH → Option (Int32 × ZH)} (hrb : rb < 2) (hl : l ≤ 4) (H : HL rb u n (l + 1) wi (fL 10)) (hmx : mx = if l = 2 then 1 else 30) {σ ρ : ZS} {t : ZT} {fo : Nat → Int32} {len un d : Nat} {K G : Nat → Nat} (P : PRE rb u n l σ ρ t fo len un d wi K G) : ∀ (m i e : Nat) (τ υ : ZS) (t' : ZT) (fo' : Nat → Int32) (len' un' p j : Nat) (K' G' : Nat → Nat), i + m = mx → AF rb u n σ ρ t fo len un d wi K G (opr l) τ υ t' fo' len' un' p j K' G' → p + l + wi ≤ 12 → un + i + 1 ≤ un' → (l = 2 → cmpK K' (d + p) = decide (i = 1)) → (rkT t' < rkL (l + 1) ∨ (rkT t' = 4 ∧ l + 1 ≤ 2 ∧ cmpK K' (d + p) = true)) → RES rb u n l σ ρ t fo len un d wi K G (xX3_readLevel_L92 fL fU (e + m + 1) 10 (nI l) (nI wi) (nI mx) (nI i) (mkH τ)) := by
  have hob := opr_b hl
  intro m
  induction m with
  | zero =>
    intro i e τ υ t' fo' len' un' p j K' G' him A hp hu hc ht
    have hB : xX3_readLevel_L92 fL fU (e + 0 + 1) 10 (nI l) (nI wi) (nI mx) (nI i) (mkH τ) = xX3_readLevel_B92 fL fU (xX3_readLevel_L92 fL fU (e + 0)) 10 (nI l) (nI wi) (nI mx) (nI i) (mkH τ) := rfl
    rw [hB]
    unfold xX3_readLevel_B92
    have h30 : mx ≤ 30 := by rw [hmx]; split <;> omega
    rw [if_pos (show nI mx ≤ nI i from (nI_leI (by omega) (by omega)).mpr (by omega))]
    have hun' := A.2.2.2.2.2.2.2.2.1.2.1
    have hl2 : l = 2 := by
      by_cases h2 : l = 2
      · exact h2
      · rw [if_neg h2] at hmx; omega
    rw [if_pos hl2] at hmx
    refine Or.inl ⟨τ, υ, t', fo', len', un', p, j, K', G', rfl, AF_m hob.2.2.2.2.2.2.1 A, hp, ?_⟩
    have hb := rkT_b t'
    have hcc := hc hl2
    subst hl2
    rw [decide_eq_true (show i = 1 by omega)] at hcc
    rcases ht with ht | ⟨-, h2, -⟩
    · have h5 : rkT t' < 5 := ht
      by_cases h4 : rkT t' = 4
      · exact Or.inr ⟨h4, by omega, hcc⟩
      · left
        show rkT t' < 3
        omega
    · omega
  | succ m ih =>
    intro i e τ υ t' fo' len' un' p j K' G' him A hp hu hc ht
    obtain ⟨P1, P2, P3, P4, P5, ⟨P6a, P6b, P6c, P6d, P6e⟩, P7, P8, P9, P10⟩ := P
    have A0 := A
    obtain ⟨a1, a2, a3, a4, a5, a6, a7, a8, ⟨b1, b2, b3, b4⟩, a10, a11, a12, a13⟩ := A
    have h30 : mx ≤ 30 := by rw [hmx]; split <;> omega
    have hB : xX3_readLevel_L92 fL fU (e + (m + 1) + 1) 10 (nI l) (nI wi) (nI mx) (nI i) (mkH τ) = xX3_readLevel_B92 fL fU (xX3_readLevel_L92 fL fU (e + m + 1)) 10 (nI l) (nI wi) (nI mx) (nI i) (mkH τ) := rfl
    rw [hB]
    have hle : ¬ nI mx ≤ nI i := fun z => by have := (nI_leI (by omega) (by omega)).mp z; omega
    by_cases hr : rkT t' = opr l
    · have hr0 : rkT t' ≠ 0 := by omega
      obtain ⟨o1, o2, o3, o4⟩ := op_R a2.2.2.2.2.1 hr0
      have hK1 := a6 (d - 1) (by omega)
      obtain ⟨τ1, υ1, s1, s2, s3, s4, s5, s6, s7⟩ := two_op (rb := rb) (d0 := d) a2 hrb (by omega) (by omega) (by omega) (by omega) a4 a5 (by rw [(a6 0 (by omega)).1]; exact P5) a7 (fun q hq => by rw [hr]; exact a8 q hq) (by rw [hK1.1, hr]; exact P9) hr0 (by
        rintro ⟨z1, z2⟩
        have h2 : l = 2 := hob.2.2.2.2.2.2.2.mp (hr.symm.trans z1)
        rw [hc h2] at z2
        have := of_decide_eq_true z2
        rw [if_pos h2] at hmx
        omega)
      have hlt := nx_gt a2.2.2.2.2.1 o4
      have hP : PRE rb u n (l + 1) τ1 υ1 (nx (gu0 u n) n t') fo' (len' + p) un' (d + 1) wi (fun i => if i = d then rkT t' else K' i) (fun i => if i = d then opS t' else G' i) := by
        refine ⟨s3, CQ_f s6 (by unfold dT; omega) (by unfold dT; omega) a3, s4, s5, ?_, ⟨by omega, by omega, P6c, b2, by omega⟩, a10, by omega, ?_, fun h3 => ?_⟩
        · show (if 0 = d then rkT t' else K' 0) = 8
          rw [if_neg (by omega), (a6 0 (by omega)).1]; exact P5
        · right
          show (if d + 1 - 1 = d then rkT t' else K' (d + 1 - 1)) < opr (l + 1)
          rw [if_pos (by omega), hr]; exact hob.2.2.1
        · show ntB (if d + 1 - 1 = d then rkT t' else K' (d + 1 - 1)) _ = false
          rw [if_pos (by omega), hr]
          exact ntB_f (hob.2.2.2.2.2.1 (by omega)) hob.2.1
      have hF1 : FG flG flT fj σ τ1 := FG_t a12 (FG_f s6 (fun a k z => Or.inl (dT_cF z)))
      have hF2 : FG (fG rb) fT fj ρ υ1 := FG_t a13 s7
      have hj : ∀ f, xX9_e_L19 (f + (1 + j)) 78 1 (mkH ρ) = xX9_e_L19 f 78 1 (mkH υ1) := fun f => by
        rw [← Nat.add_assoc, a1, s2]
      rcases H τ1 υ1 _ fo' (len' + p) un' (d + 1) _ _ hP with ⟨τ2, υ2, t2, fo2, len2, un2, p2, j2, K2, G2, c1, A2, c2, c3⟩ | ⟨τ2, υ2, j2, c1, c2, c3, c4, c5, c6⟩
      · have hA2 := A2
        obtain ⟨-, -, -, -, -, d6, -, d8, ⟨e1, e2, e3, e4⟩, -, -, -, -⟩ := hA2
        have hKd : (if d = d then rkT t' else K' d) = opr l := by rw [if_pos rfl, hr]
        obtain ⟨f1, f2⟩ := AF_h (σ := σ) (ρ := ρ) (t := t) (fo := fo) (len := len) (un := un) (d := d) (wi := wi) (K := K) (G := G) (lo := opr l) (j0 := 1 + j) (c := opC t') (fun q hq => by
            show (if q = d then rkT t' else K' q) = _ ∧ (if q = d then opS t' else G' q) = _
            rw [if_neg (by omega), if_neg (by omega)]; exact a6 q hq) (by
            show opr l ≤ (if d = d then rkT t' else K' d) ∧ (if d = d then rkT t' else K' d) ≤ 6
            rw [hKd]; exact ⟨Nat.le_refl _, hob.2.1⟩) hob.2.2.2.1 (by
            show cdR (opC t') (nI (if d = d then opS t' else G' d)) 0
            rw [if_pos rfl]; exact o1) (by
            show wi = wi + if (if d = d then rkT t' else K' d) = 3 then 1 else 0
            rw [hKd, if_neg hob.2.2.2.2.1]; rfl) hj A2 (by omega) (by omega) (by omega) (by omega) (Or.inr ⟨o3, a11⟩) hF1 hF2
        have hstep : xX3_readLevel_B92 fL fU (xX3_readLevel_L92 fL fU (e + m + 1)) 10 (nI l) (nI wi) (nI mx) (nI i) (mkH τ) = xX3_readLevel_L92 fL fU (e + m + 1) 10 (nI l) (nI wi) (nI mx) (nI (i + 1)) (mkH (setI (setF τ2 17 (len2 + p2) (opC t')) 11 15 (nI (len2 + p2 + 1)))) := by
          generalize xX3_readLevel_L92 fL fU (e + m + 1) = nl
          unfold xX3_readLevel_B92
          rw [if_neg hle, is_10, gu_t, c_code a2 hl, Option.bind_some, if_pos hr]
          dsimp only
          rw [if_neg o2, is_10, gu_t, s1, Option.bind_some, is_10, gu_t, nI_s, c1, Option.bind_some]
          dsimp only
          rw [if_neg (by decide), rR_10_0, Option.bind_some, is_11, gu_t, f1, Option.bind_some, nI_s]
        rw [hstep]
        refine ih (i + 1) e _ υ2 t2 _ len2 un2 (p2 + 1) (j2 + (1 + j)) K2 G2 (by omega) f2 (by omega) (by omega) (fun h2 => ?_) ?_
        · subst h2
          rw [if_pos rfl] at hmx
          rw [decide_eq_true (by omega), show d + (p2 + 1) = d + 1 + p2 by omega, cmpK_p p2 (fun q hq => d8 q hq), cmpK, (d6 d (by omega)).1]
          show (if (if d = d then rkT t' else K' d) = 5 ∨ (if d = d then rkT t' else K' d) = 6 then _ else decide ((if d = d then rkT t' else K' d) = 4)) = true
          rw [hKd]; rfl
        · rw [show d + (p2 + 1) = d + 1 + p2 by omega]; exact c3
      · refine Or.inr ⟨τ2, υ2, j2 + (1 + j), ?_, fun f => ?_, c3, by omega, FG_t hF1 c5, FG_t hF2 c6⟩
        · generalize xX3_readLevel_L92 fL fU (e + m + 1) = nl
          unfold xX3_readLevel_B92
          rw [if_neg hle, is_10, gu_t, c_code a2 hl, Option.bind_some, if_pos hr]
          dsimp only
          rw [if_neg o2, is_10, gu_t, s1, Option.bind_some, is_10, gu_t, nI_s, c1, Option.bind_some]
          dsimp only
          rw [if_pos rfl]
        · rw [← Nat.add_assoc, hj, c2]
    · refine Or.inl ⟨τ, υ, t', fo', len', un', p, j, K', G', ?_, AF_m hob.2.2.2.2.2.2.1 A0, hp, lv_tok hl ht hr⟩
      generalize xX3_readLevel_L92 fL fU (e + m + 1) = nl
      unfold xX3_readLevel_B92
      rw [if_neg hle, is_10, gu_t, c_code a2 hl, Option.bind_some, if_neg hr]
      dsimp only
      rw [if_pos rfl]
/-- a level that is no not: operand, then signs -/
theorem lv_64 {rb : Nat} {u : Nat → Nat} {n l wi : Nat} {fL : Nat → Int32 → Int32 → ZH → Option (Int32 × ZH)} {fU : Nat → Int32 → ZH → Option (Int32 × ZH)} (hrb : rb < 2) (hl : l ≤ 4) (H : HL rb u n (l + 1) wi (fL 10)) {σ ρ : ZS} {t : ZT} {fo : Nat → Int32} {len un d : Nat} {K G : Nat → Nat} (P : PRE rb u n l σ ρ t fo len un d wi K G) (hn : l = 2 → wB t 14 = false) : RES rb u n l σ ρ t fo len un d wi K G (xX3_readLevel_B64 fL fU 10 (nI l) (nI wi) (mkH σ)) := by
  have hob := opr_b hl
  have P0 := P
  obtain ⟨P1, P2, P3, P4, P5, ⟨P6a, P6b, P6c, P6d, P6e⟩, P7, P8, P9, P10⟩ := P
  have hP : PRE rb u n (l + 1) σ ρ t fo len un d wi K G := by
    refine ⟨P1, P2, P3, P4, P5, ⟨P6a, by omega, P6c, P6d, P6e⟩, P7, P8, by omega, fun h3 => ?_⟩
    by_cases h2 : l = 2
    · unfold ntB
      rw [hn h2]
      exact Bool.and_false _
    · exact P10 (by omega)
  obtain ⟨e, he⟩ := zfu 30 (by omega)
  have hmx2 : (if l = 2 then 1 else 30) ≤ 30 := by split <;> omega
  obtain ⟨w, hw⟩ : ∃ w, zFU = w + (if l = 2 then 1 else 30) + 1 := zfu _ (by omega)
  rcases H σ ρ t fo len un d K G hP with ⟨τ, υ, t', fo', len', un', p, j, K', G', c1, A, c2, c3⟩ | ⟨τ2, υ2, j2, c1, c2, c3, c4, c5, c6⟩
  · have hA := A
    obtain ⟨-, -, -, -, -, a6, -, a8, ⟨e1, e2, e3, e4⟩, -, -, -, -⟩ := hA
    have key := lv_loop (fU := fU) hrb hl H rfl P0 (if l = 2 then 1 else 30) 0 w τ υ t' fo' len' un' p j K' G' (by omega) (AF_m hob.2.2.2.1 A) (by omega) (by omega) (fun h2 => ?_) c3
    · have hv : xX3_readLevel_B64 fL fU 10 (nI l) (nI wi) (mkH σ) = xX3_readLevel_L92 fL fU (w + (if l = 2 then 1 else 30) + 1) 10 (nI l) (nI wi) (nI (if l = 2 then 1 else 30)) (nI 0) (mkH τ) := by
        rw [← hw]
        generalize hnl : xX3_readLevel_L92 fL fU zFU = nl
        unfold xX3_readLevel_B64
        rw [is_10, gu_t, nI_s, c1, Option.bind_some]
        dsimp only
        rw [if_neg (by decide), hnl]
        by_cases h2 : l = 2
        · rw [if_pos h2, if_pos (show nI l = (2 : Int32) from by rw [h2]; rfl)]; rfl
        · rw [if_neg h2, if_neg (show ¬ nI l = (2 : Int32) from nq (b := 2) (by omega) (by omega) h2)]; rfl
      rw [hv]
      exact key
    · subst h2
      have hk := a6 (d - 1) (by omega)
      rw [cmpK_p p (fun q hq => a8 q hq), show d = d - 1 + 1 by omega, cmpK, hk.1, decide_eq_false (show ¬ 0 = 1 by omega)]
      have h9 : 6 < K (d - 1) ∨ K (d - 1) < 4 := P9
      rw [if_neg (by omega), decide_eq_false (by omega)]
  · refine Or.inr ⟨τ2, υ2, j2, ?_, c2, c3, c4, c5, c6⟩
    generalize xX3_readLevel_L92 fL fU zFU = nl
    unfold xX3_readLevel_B64
    rw [is_10, gu_t, nI_s, c1, Option.bind_some]
    dsimp only
    rw [if_pos rfl]
theorem FG_cF {σ τ : ZS} (h : FR (fun _ => False) cF σ τ) : FG flG flT fj σ τ := FG_f h (fun a k z => Or.inl z)
theorem lv_step {rb : Nat} {u : Nat → Nat} {n l wi : Nat} {fL : Nat → Int32 → Int32 → ZH → Option (Int32 × ZH)} {fU : Nat → Int32 → ZH → Option (Int32 × ZH)} (hrb : rb < 2) (hl : l ≤ 4) (H : HL rb u n (l + 1) wi (fL 10)) (H2 : l = 2 → wi < 7 → HL rb u n 2 (wi + 1) (fL 10)) : HL rb u n l wi (xX3_readLevel_b fL fU 10) := by
  intro σ ρ t fo len un d K G P
  have h64 := lv_64 (fU := fU) hrb hl H P
  have P0 := P
  obtain ⟨P1, P2, P3, P4, P5, ⟨P6a, P6b, P6c, P6d, P6e⟩, P7, P8, P9, P10⟩ := P
  generalize hb64 : xX3_readLevel_B64 fL fU = b64 at *
  by_cases h2 : l = 2
  · subst h2
    have hv : xX3_readLevel_b fL fU 10 (nI 2) (nI wi) (mkH σ) = (if wB t 14 = true then (if nI wi ≤ (6 : Int32) then (z_gu (z_is (mkH σ) 10 3) ((xX3_advance 10 (mkH σ)).bind fun h37 => (z_gu (z_is h37 10 3) ((fL 10 (2 : Int32) (nI wi + (1 : Int32)) h37).bind fun r45 => (if r45.1 = 0 then some ((0 : Int32), r45.2) else ((z_gR r45.2 10 3 0).bind fun x54 => (z_gu (z_is r45.2 x54 2) ((xX2_addToFormula x54 (-3 : Int32) r45.2).bind fun h59 => some ((1 : Int32), h59))))))))) else (z_gu (z_is (mkH σ) 10 3) ((xX3_refuse 10 (mkH σ)).bind fun r32 => z_zr r32.1 r32.2))) else b64 10 (nI 2) (nI wi) (mkH σ)) := by
      unfold xX3_readLevel_b
      rw [if_pos (show nI 2 ≤ (4 : Int32) from by decide), if_pos (show nI 2 = (2 : Int32) from rfl), is_10, gu_t, show (14 : Int32) = nI 14 from rfl, c_isW P1 (by omega), Option.bind_some, hb64]
      by_cases hw : wB t 14 = true
      · rw [if_pos hw, if_pos hw]
        dsimp only
        rw [if_neg (by decide)]
        rfl
      · rw [if_neg hw, if_neg hw]
        dsimp only
        rw [if_pos rfl]
    rw [hv]
    by_cases hw : wB t 14 = true
    · rw [if_pos hw]
      have h9 : 6 < K (d - 1) ∨ K (d - 1) < 4 := P9
      obtain ⟨e, rfl⟩ : ∃ e, d = e + 1 := ⟨d - 1, by omega⟩
      rw [Nat.add_sub_cancel] at h9
      have hnt : ntB (K e) t = true := by
        unfold ntB
        rw [hw, decide_eq_true (by omega)]
        rfl
      by_cases hwi : wi < 7
      · rw [if_pos (show nI wi ≤ (6 : Int32) from by rw [show (6 : Int32) = nI 6 from rfl]; exact (nI_leI (by omega) (by omega)).mpr (by omega))]
        obtain ⟨υ1, s1, s2, s3, s4, s5⟩ := r_open P1 hrb P3 P4 (by omega) P6d hwi hnt (Or.inl rfl)
        obtain ⟨τ1, g1, g2, g3⟩ := s2 σ P1
        have hlt := nx_gt P1.2.2.2.2.1 (show t.2.2.1 ≠ 0 by have := (wB_y hw).1; omega)
        have hP : PRE rb u n 2 τ1 υ1 (nx (gu0 u n) n t) fo len un (e + 1 + 1) (wi + 1) (fun i => if i = e + 1 then (if true = true then 3 else 7) else K i) (fun i => if i = e + 1 then 126 else G i) := by
          refine ⟨g2, CQ_f g3 (by unfold dT; omega) (by unfold dT; omega) P2, s3, s4, ?_, ⟨by omega, by omega, by omega, P6d, P6e⟩, P7, P8, ?_, fun h3 => absurd h3 (by omega)⟩
          · show (if 0 = e + 1 then _ else K 0) = 8
            rw [if_neg (by omega)]; exact P5
          · right
            show (if e + 1 + 1 - 1 = e + 1 then (if true = true then 3 else 7) else K (e + 1 + 1 - 1)) < 4
            rw [if_pos (by omega), if_pos rfl]; omega
        have hF1 : FG flG flT fj σ τ1 := FG_f g3 (fun a k z => Or.inl (dT_cF z))
        have hKd : (if e + 1 = e + 1 then (if true = true then 3 else 7) else K (e + 1)) = 3 := by rw [if_pos rfl, if_pos rfl]
        rw [is_10, gu_t, g1, Option.bind_some, is_10, gu_t, nI_s]
        rcases H2 rfl hwi τ1 υ1 _ fo len un (e + 1 + 1) _ _ hP with ⟨τ2, υ2, t2, fo2, len2, un2, p2, j2, K2, G2, c1, A2, c2, c3⟩ | ⟨τ2, υ2, j2, c1, c2, c3, c4, c5, c6⟩
        · obtain ⟨-, -, -, -, -, d6, -, d8, ⟨e1, e2, e3, e4⟩, -, -, -, -⟩ := id A2
          obtain ⟨f1, f2⟩ := AF_h (σ := σ) (ρ := ρ) (t := t) (fo := fo) (len := len) (un := un) (d := e + 1) (wi := wi) (K := K) (G := G) (lo := rkL 2) (j0 := 1) (c := -3) (fun q hq => by
              show (if q = e + 1 then _ else K q) = _ ∧ (if q = e + 1 then 126 else G q) = _
              rw [if_neg (by omega), if_neg (by omega)]; exact ⟨rfl, rfl⟩) (by
              show rkL 2 ≤ (if e + 1 = e + 1 then (if true = true then 3 else 7) else K (e + 1)) ∧ (if e + 1 = e + 1 then (if true = true then 3 else 7) else K (e + 1)) ≤ 6
              rw [hKd]; decide) (Nat.le_refl _) (by
              show cdR (-3) (nI (if e + 1 = e + 1 then 126 else G (e + 1))) 0
              rw [if_pos rfl]; unfold cdR; simp [nI]) (by
              show wi + 1 = wi + if (if e + 1 = e + 1 then (if true = true then 3 else 7) else K (e + 1)) = 3 then 1 else 0
              rw [hKd, if_pos rfl]) s1 A2 (by omega) (by omega) (by omega) (by omega) (Or.inl ⟨by decide, rfl⟩) hF1 s5
          refine Or.inl ⟨_, υ2, t2, _, len2, un2, p2 + 1, j2 + 1, K2, G2, ?_, f2, by omega, ?_⟩
          · rw [show (2 : Int32) = nI 2 from rfl, c1, Option.bind_some]
            dsimp only
            rw [if_neg (by decide), rR_10_0, Option.bind_some, is_11, gu_t, f1, Option.bind_some]
          · rw [show e + 1 + (p2 + 1) = e + 1 + 1 + p2 by omega]; exact c3
        · refine Or.inr ⟨τ2, υ2, j2 + 1, ?_, fun f => ?_, c3, by omega, FG_t hF1 c5, FG_t s5 c6⟩
          · rw [show (2 : Int32) = nI 2 from rfl, c1, Option.bind_some]
            dsimp only
            rw [if_pos rfl]
          · rw [← Nat.add_assoc, s1, c2]
      · rw [if_neg (show ¬ nI wi ≤ (6 : Int32) from fun z => by rw [show (6 : Int32) = nI 6 from rfl] at z; have := (nI_leI (by omega) (by omega)).mp z; omega)]
        obtain ⟨τ, υ, q1, q2, q3, q4, q5⟩ := two_ref P1 hrb P3 P4 (by omega) P6d P6c (by unfold rfu; rw [hnt, decide_eq_true (show wi = 7 by omega)]; simp)
        have hle := TK_n P1.2.2.2.2.1
        refine Or.inr ⟨τ, υ, 2, ?_, q2, q3, by omega, FG_cF q4, q5⟩
        rw [is_10, gu_t, q1, Option.bind_some]
        exact zr0
    · rw [if_neg hw]
      exact h64 (fun _ => by simpa using hw)
  · have hv : xX3_readLevel_b fL fU 10 (nI l) (nI wi) (mkH σ) = b64 10 (nI l) (nI wi) (mkH σ) := by
      unfold xX3_readLevel_b
      rw [if_pos (show nI l ≤ (4 : Int32) from by rw [show (4 : Int32) = nI 4 from rfl]; exact (nI_leI (by omega) (by omega)).mpr (by omega)), if_neg (show ¬ nI l = (2 : Int32) from nq (b := 2) (by omega) (by omega) h2), hb64]
    rw [hv]
    exact h64 (fun z => absurd z h2)
