/-! names told before; the whole of a ship's line -/
def smN (v : Nat → Nat) (pl ln : Nat → Nat) (a m s : Nat) : Prop := ln s = m ∧ ∀ k, k < m → v (pl s + k) = v (a + k)
def NL (v : Nat → Nat) (n : Nat) (pl ln : Nat → Nat) (ns : Nat) : Prop := ∀ s, s < ns → ln s ≤ 8 ∧ pl s + ln s ≤ n ∧ ∀ k, k < ln s → isL (v (pl s + k)) = true
theorem c_told {σ : ZS} {u pl ln : Nat → Nat} {n ns a m : Nat} (T : TC σ u n) (h5 : sI σ 10 5 = nI a) (h6 : sI σ 10 6 = nI (a + m)) (ha : a + m ≤ n) (h7 : sI σ 11 7 = nI ns) (hns : ns ≤ 6) (N : NL (gu0 u n) n pl ln ns) (C : ∀ s, s < ns → sF σ 19 s = nI (pl s) ∧ sF σ 20 s = nI (ln s)) : ((∀ s, s < ns → ¬ smN (gu0 u n) pl ln a m s) → xX3_isToldName 10 (mkH σ) = some (0, mkH σ)) ∧ ((∃ s, s < ns ∧ smN (gu0 u n) pl ln a m s) → xX3_isToldName 10 (mkH σ) = some (1, mkH σ)) := by
  have hn := T.2.2.1
  have e0 : nI (a + m) - nI a = nI m := by rw [pk_sub (by omega), show a + m - a = m by omega]
  have key := lpA (fun e s => xX3_isToldName_L12 e 10 (nI m) (nI s) (mkH σ)) ns (fun s => ¬ smN (gu0 u n) pl ln a m s) (some (1, mkH σ)) (some (0, mkH σ)) (by omega) (fun e s hs => by
    obtain ⟨n1, n2, n3⟩ := N s hs
    obtain ⟨c1, c2⟩ := C s hs
    have hB : xX3_isToldName_L12 (e + 1) 10 (nI m) (nI s) (mkH σ) = if ln s = m then (xX3_sameBytes 10 (nI (pl s)) (nI a) (nI m) (mkH σ)).bind (fun r45 => (if r45.1 = 0 then xX3_isToldName_L12 e 10 (nI m) (nI (s + 1)) r45.2 else some ((1 : Int32), r45.2))) else xX3_isToldName_L12 e 10 (nI m) (nI (s + 1)) (mkH σ) := by
      show xX3_isToldName_B12 (xX3_isToldName_L12 e) 10 (nI m) (nI s) (mkH σ) = _
      generalize xX3_isToldName_L12 e = nl
      unfold xX3_isToldName_B12
      rw [rR_10_0, Option.bind_some, rI_11_7, Option.bind_some, h7, if_neg (fun z => by have := (nI_leI (by omega) (by omega)).mp z; omega), rR_10_12, Option.bind_some, ra_20 σ (show s < 6 by omega), Option.bind_some, c2]
      by_cases hl : ln s = m
      · rw [if_pos (show nI (ln s) = nI m by rw [hl]), if_pos hl, rR_10_11, Option.bind_some, ra_19 σ (show s < 6 by omega), Option.bind_some, c1, rI_10_5, Option.bind_some, h5, is_10, gu_t, nI_s]
      · rw [if_neg (nq (by omega) (by omega) hl), if_neg hl, nI_s]
    by_cases hl : ln s = m
    · rw [if_pos hl, c_same T (by omega) ha, Option.bind_some] at hB
      dsimp only at hB
      by_cases hq : ∀ k, k < m → u (pl s + k) = u (a + k)
      · rw [decide_eq_true hq, if_pos rfl, if_neg (show ¬ (1 : Int32) = 0 by decide)] at hB
        refine ⟨fun z => absurd ⟨hl, fun k hk => ?_⟩ z, fun _ => hB⟩
        rw [gu_i (by omega), gu_i (by omega)]; exact hq k hk
      · rw [decide_eq_false hq, if_neg (show ¬ false = true by decide), if_pos rfl] at hB
        refine ⟨fun _ => hB, fun z => absurd (fun y => hq (fun k hk => ?_)) z⟩
        have := y.2 k hk
        rw [gu_i (by omega), gu_i (by omega)] at this
        exact this
    · rw [if_neg hl] at hB
      exact ⟨fun _ => hB, fun z => absurd (fun y => hl y.1) z⟩) (fun e => by
    show xX3_isToldName_B12 (xX3_isToldName_L12 e) 10 (nI m) (nI ns) (mkH σ) = _
    unfold xX3_isToldName_B12
    rw [rR_10_0, Option.bind_some, rI_11_7, Option.bind_some, h7, if_pos (Int32.le_refl _)])
  have hx : xX3_isToldName 10 (mkH σ) = xX3_isToldName_L12 zFU 10 (nI m) (nI 0) (mkH σ) := by
    unfold xX3_isToldName
    generalize xX3_isToldName_L12 zFU = nl
    rw [rI_10_6, Option.bind_some, h6, rI_10_5, Option.bind_some, h5, e0]
    rfl
  rw [hx]
  exact ⟨key.1, fun ⟨s, h1, h2⟩ => key.2 ⟨s, h1, fun z => z h2⟩⟩
theorem pk_sm {v pl ln : Nat → Nat} {n ns a m s : Nat} (N : NL v n pl ln ns) (hs : s < ns) (hm : m ≤ 8) (hl : ∀ k, k < m → isL (v (a + k)) = true) : lg_cmp (jN (pkW v (pl s) (ln s))) (jN (pkW v a m)) = 0 ↔ smN v pl ln a m s := by
  obtain ⟨n1, n2, n3⟩ := N s hs
  rw [lg_n (pkW_lt n1 (fun k hk => by have := isL_i (n3 k hk); omega)) (pkW_lt hm (fun k hk => by have := isL_i (hl k hk); omega))]
  constructor
  · intro e
    obtain ⟨i1, i2⟩ := pkW_i _ _ (fun k hk => by have := isL_i (n3 k hk); omega) (fun k hk => by have := isL_i (hl k hk); omega) e
    exact ⟨i1, fun k hk => i2 k (by omega)⟩
  · rintro ⟨i1, i2⟩
    rw [i1]
    exact pkW_c m i2
theorem r_nmA {rb ns tk : Nat} (hrb : rb < 2) (hns : ns < 6) : ∀ (m k e : Nat) (x : ZS), k + m = ns → sI x 78 8 = nI tk → tk ≤ 5 → (∀ s, k ≤ s → s < ns → tk = 2 → lg_cmp (sJ x (6 * rb + s)) (sN x) = 0 → ∃ g, sI x 78 4 = nI g ∧ 1 ≤ g ∧ g ≤ 4) → xX9_readShip_L26 (e + m + 1) 78 (nI (6 * rb + ns)) (nI (6 * rb + k)) (mkH x) = xX9_readShip_B68 78 (nI (6 * rb + ns)) (mkH x) := by
  intro m
  induction m with
  | zero =>
    intro k e x hk h8 htk hm
    show xX9_readShip_B26 (xX9_readShip_L26 (e + 0)) 78 (nI (6 * rb + ns)) (nI (6 * rb + k)) (mkH x) = _
    unfold xX9_readShip_B26
    rw [if_pos (nI_le (by omega) (by omega))]
  | succ m ih =>
    intro k e x hk h8 htk hm
    rw [← ih (k + 1) e x (by omega) h8 htk (fun s h1 h2 => hm s (by omega) h2)]
    show xX9_readShip_B26 (xX9_readShip_L26 (e + (m + 1))) 78 (nI (6 * rb + ns)) (nI (6 * rb + k)) (mkH x) = _
    rw [show e + (m + 1) = e + m + 1 by omega]
    generalize xX9_readShip_L26 (e + m + 1) = nl
    unfold xX9_readShip_B26
    rw [if_neg (fun z => by have := (nI_leI (by omega) (by omega)).mp z; omega), rI_78_8, Option.bind_some, h8, nI_s]
    by_cases h2 : tk = 2
    · rw [if_pos (show nI tk = (2 : Int32) from by rw [h2]; rfl), rR_78_28, Option.bind_some, ra_98 x (show 6 * rb + k < 12 by omega), Option.bind_some, rName, Option.bind_some]
      by_cases h3 : lg_cmp (sJ x (6 * rb + k)) (sN x) = 0
      · obtain ⟨g, g1, g2, g3⟩ := hm k (by omega) (by omega) h2 h3
        rw [if_pos h3, rI_78_6, Option.bind_some, is_78, gu_t, r_fails0 g1 g2 g3, Option.bind_some]
        rfl
      · rw [if_neg h3]
        rfl
    · rw [if_neg (show ¬ nI tk = (2 : Int32) from nq (b := 2) (by omega) (by omega) h2)]
      rfl
theorem r_nmB {rb ns a : Nat} (hrb : rb < 2) (hns : ns < 6) {x : ZS} (h8 : sI x 78 8 = nI 2) (h4 : sI x 78 4 = 0) (h6 : sI x 78 6 = nI a) : ∀ (m k e : Nat), k + m = ns → (∃ s, k ≤ s ∧ s < ns ∧ lg_cmp (sJ x (6 * rb + s)) (sN x) = 0) → xX9_readShip_L26 (e + m + 1) 78 (nI (6 * rb + ns)) (nI (6 * rb + k)) (mkH x) = xX9_readShip_B68 78 (nI (6 * rb + ns)) (mkH (setI (setI x 78 4 (nI 3)) 78 5 (nI a))) := by
  intro m
  induction m with
  | zero =>
    rintro k e hk ⟨s, s1, s2, -⟩
    omega
  | succ m ih =>
    intro k e hk hm
    have hB : ∀ nl, xX9_readShip_B26 nl 78 (nI (6 * rb + ns)) (nI (6 * rb + k)) (mkH x) = if lg_cmp (sJ x (6 * rb + k)) (sN x) = 0 then nl 78 (nI (6 * rb + ns)) (nI (6 * rb + (k + 1))) (mkH (setI (setI x 78 4 (nI 3)) 78 5 (nI a))) else nl 78 (nI (6 * rb + ns)) (nI (6 * rb + (k + 1))) (mkH x) := by
      intro nl
      unfold xX9_readShip_B26
      rw [if_neg (fun z => by have := (nI_leI (by omega) (by omega)).mp z; omega), rI_78_8, Option.bind_some, h8, nI_s, if_pos (show nI 2 = (2 : Int32) from rfl), rR_78_28, Option.bind_some, ra_98 x (show 6 * rb + k < 12 by omega), Option.bind_some, rName, Option.bind_some]
      by_cases h3 : lg_cmp (sJ x (6 * rb + k)) (sN x) = 0
      · rw [if_pos h3, if_pos h3, rI_78_6, Option.bind_some, h6, is_78, gu_t, r_fails h4, Option.bind_some]
        rfl
      · rw [if_neg h3, if_neg h3]
        rfl
    show xX9_readShip_B26 (xX9_readShip_L26 (e + (m + 1))) 78 (nI (6 * rb + ns)) (nI (6 * rb + k)) (mkH x) = _
    rw [hB, show e + (m + 1) = e + m + 1 by omega]
    by_cases h3 : lg_cmp (sJ x (6 * rb + k)) (sN x) = 0
    · rw [if_pos h3]
      exact r_nmA (tk := 2) hrb hns m (k + 1) e _ (by omega) h8 (by omega) (fun s _ _ _ _ => ⟨3, by rw [sI_ne (by omega), sI_eq], by omega, by omega⟩)
    · rw [if_neg h3]
      obtain ⟨s, s1, s2, s3⟩ := hm
      refine ih (k + 1) e (by omega) ⟨s, ?_, s2, s3⟩
      by_cases hsk : s = k
      · subst hsk; exact absurd s3 h3
      · omega
theorem two_ship {σ ρ : ZS} {u pl ln : Nat → Nat} {n rb ns : Nat} {t : ZT} (L : LK σ ρ u n t) (hrb : rb < 2) (hns : ns < 6) (c7 : sI σ 11 7 = nI ns) (r1 : sF ρ 81 rb = nI ns) (r35 : sI ρ 78 35 = nI rb) (N : NL (gu0 u n) n pl ln ns) (C : ∀ s, s < ns → sF σ 19 s = nI (pl s) ∧ sF σ 20 s = nI (ln s)) (R : ∀ s, s < ns → sJ ρ (6 * rb + s) = jN (pkW (gu0 u n) (pl s) (ln s))) : (∃ (τ υ : ZS) (x : Nat → Nat) (t' : ZT), ((∀ r, r < 4 → x r ≤ 99) ∧ x 4 ≤ 9) ∧ (xX3_readShip 10 (mkH σ) = some (1, mkH τ) ∧ xX9_readShip 78 (mkH ρ) = some (mkH υ)) ∧ LK τ υ u n t' ∧ t.1 ≤ t'.1 ∧ (∀ r, r < 5 → sF τ (12 + r) ns = nI (x r) ∧ sF υ (91 + r) (6 * rb + ns) = nI (x r)) ∧ (sI τ 11 7 = nI (ns + 1) ∧ sF υ 81 rb = nI (ns + 1)) ∧ (t.2.2.1 = 1 ∧ sF τ 19 ns = nI t.1 ∧ sF τ 20 ns = nI (t.2.1 - t.1) ∧ sJ υ (6 * rb + ns) = jN (pkW (gu0 u n) t.1 (t.2.1 - t.1))) ∧ FG (shG ns) shT fj σ τ ∧ FG (shR rb ns) rF (fun j => j = 6 * rb + ns) ρ υ) ∨ (∃ τ υ, xX3_readShip 10 (mkH σ) = some (0, mkH τ) ∧ xX9_readShip 78 (mkH ρ) = some (mkH υ) ∧ BAD τ υ ∧ FG (shG ns) shT fj σ τ ∧ FG (shR rb ns) rF (fun j => j = 6 * rb + ns) ρ υ) := by
  have hs : 6 * rb + ns < 12 := by omega
  have L0 := L
  obtain ⟨l1, l2, l3, l4, l5, l6, l7⟩ := L
  obtain ⟨hk, hk1, -, -, hk5⟩ := TK_b l5
  have hn := l1.2.2.1
  have hnx := TK_nx l5
  have hb5 := rtk_b (k := t.2.2.1) (v := t.2.2.2)
  have hi2 := (rtk_i (v := t.2.2.2) hk).2.1
  have hR0 : xX9_readShip 78 (mkH ρ) = xX9_readShip_L26 zFU 78 (nI (6 * rb + ns)) (nI (6 * rb)) (mkH ρ) := by
    unfold xX9_readShip
    generalize xX9_readShip_L26 zFU = nl
    rw [rI_78_35, Option.bind_some, rR_78_11, Option.bind_some, Option.bind_some, r35, ra_81 ρ hrb, Option.bind_some, Option.bind_some, r1, nl_6, pk_mul, nI_add]
  have h68 : ∀ x : ZS, sI x 78 8 = nI (rtk t.2.2.1 t.2.2.2) → xX9_readShip_B68 78 (nI (6 * rb + ns)) (mkH x) = xX9_readShip_B92 78 (nI (6 * rb + ns)) (if rtk t.2.2.1 t.2.2.2 = 2 then 1 else 0) 78 (mkH (setJ x (6 * rb + ns) (sN x))) := by
    intro x hx
    unfold xX9_readShip_B68
    rw [rR_78_28, Option.bind_some, rName, Option.bind_some, wa_98 x _ hs, Option.bind_some, rI_78_8, Option.bind_some, show sI (setJ x (6 * rb + ns) (sN x)) 78 8 = nI (rtk t.2.2.1 t.2.2.2) from hx]
    by_cases h2 : rtk t.2.2.1 t.2.2.2 = 2
    · rw [if_pos (show nI (rtk t.2.2.1 t.2.2.2) = (2 : Int32) from by rw [h2]; rfl), if_pos h2]
    · rw [if_neg (show ¬ nI (rtk t.2.2.1 t.2.2.2) = (2 : Int32) from nq (b := 2) (by omega) (by omega) h2), if_neg h2]
  obtain ⟨e, he⟩ := zfu ns (by omega)
  have hcl : xX3_readShip 10 (mkH σ) = if t.2.2.1 = 1 ∧ t.2.2.2 = 19 then (xX3_isToldName 10 (mkH σ)).bind (fun r42 => (if r42.1 = 0 then ((z_gR r42.2 10 3 11).bind fun x55 => ((z_gI r42.2 10 3 5).bind fun x60 => ((z_uI r42.2 x55 (nI ns) x60).bind fun h63 => ((z_gR h63 10 3 12).bind fun x65 => ((z_gI h63 10 3 6).bind fun x70 => ((z_gI h63 10 3 5).bind fun x74 => ((z_uI h63 x65 (nI ns) (x70 - x74)).bind fun h78 => (z_gu (z_is h78 10 3) ((xX3_advance 10 h78).bind fun h80 => ((z_gR h80 10 3 0).bind fun x84 => ((z_gR h80 x84 2 11).bind fun x87 => ((z_uI h80 x87 (nI ns) (0 : Int32)).bind fun h92 => ((z_gR h92 10 3 0).bind fun x94 => ((z_gR h92 x94 2 12).bind fun x97 => ((z_uI h92 x97 (nI ns) (0 : Int32)).bind fun h102 => ((z_gR h102 10 3 0).bind fun x104 => ((z_gR h102 x104 2 13).bind fun x107 => ((z_uI h102 x107 (nI ns) (0 : Int32)).bind fun h112 => cAt (nI ns) h112)))))))))))))))))) else (z_gu (z_is r42.2 10 3) ((xX3_fail 10 (3 : Int32) r42.2).bind fun r50 => z_zr r50.1 r50.2)))) else (xX3_refuse 10 (mkH σ)).bind (fun r37 => z_zr r37.1 r37.2) := by
    unfold xX3_readShip
    rw [rR_10_0, Option.bind_some, rI_11_7, Option.bind_some, c7, if_pos (show nI ns < (6 : Int32) from by rw [nl_6]; exact nI_lt hns (by omega)), rI_10_7, Option.bind_some, l3.2.2.1]
    by_cases h1 : t.2.2.1 = 1
    · have hv := (hk1 h1).1
      rw [if_pos (show nI t.2.2.1 = (1 : Int32) from by rw [h1]; rfl), rI_10_8, Option.bind_some, l3.2.2.2 (Or.inl h1)]
      by_cases h19 : t.2.2.2 = 19
      · rw [if_pos (show nI t.2.2.2 = (19 : Int32) from by rw [h19]; rfl), if_pos ⟨h1, h19⟩, is_10, gu_t]
        rfl
      · rw [if_neg (show ¬ nI t.2.2.2 = (19 : Int32) from nq (b := 19) (by omega) (by omega) h19), if_neg (fun z => h19 z.2), is_10, gu_t]
    · rw [if_neg (show ¬ nI t.2.2.1 = (1 : Int32) from nq (b := 1) (by omega) (by omega) h1), if_neg (fun z => h1 z.1), is_10, gu_t]
  have mR : ∀ {x y : ZS}, FG (shR rb ns) rF fj x y → FG (shR rb ns) rF (fun j => j = 6 * rb + ns) x y := fun h => FG_m h (fun _ _ z => z) (fun _ _ z => z) (fun _ z => z.elim)
  have mC : ∀ {x y : ZS}, FG (fun a k => 12 ≤ a ∧ a ≤ 16 ∧ k = ns) shT fj x y → FG (shG ns) shT fj x y := fun h => FG_m h (fun a k z => by unfold shG; omega) (fun _ _ z => z) (fun _ z => z)
  by_cases hnm : t.2.2.1 = 1 ∧ t.2.2.2 = 19
  · obtain ⟨h1, h19⟩ := hnm
    obtain ⟨-, k8, klet, -⟩ := hk1 h1
    have htk : rtk t.2.2.1 t.2.2.2 = 2 := hi2.mpr ⟨h1, by omega⟩
    have hsN := l4.2.2.2.1 h1
    rw [if_pos ⟨h1, h19⟩] at hcl
    obtain ⟨ct1, ct2⟩ := c_told (a := t.1) (m := t.2.1 - t.1) l1 l3.1 (by rw [l3.2.1, show t.1 + (t.2.1 - t.1) = t.2.1 by omega]) (by omega) c7 (by omega) N C
    by_cases hex : ∃ s, s < ns ∧ smN (gu0 u n) pl ln t.1 (t.2.1 - t.1) s
    · right
      have hR1 : xX9_readShip 78 (mkH ρ) = xX9_readShip_B68 78 (nI (6 * rb + ns)) (mkH (setI (setI ρ 78 4 (nI 3)) 78 5 (nI t.1))) := by
        rw [hR0, he]
        exact r_nmB hrb hns (by rw [l4.2.2.1, htk]) l6 l4.1 ns 0 e (by omega) (by
          obtain ⟨s, s1, s2⟩ := hex
          refine ⟨s, by omega, s1, ?_⟩
          rw [R s s1, hsN]
          exact (pk_sm N s1 k8 klet).mpr s2)
      have hbad : BAD (setI (setI σ 10 1 (nI 3)) 10 2 (nI t.1)) (setI (setI ρ 78 4 (nI 3)) 78 5 (nI t.1)) := BAD_2 (by omega) (by omega) (LK_a L0) L0.2.2.2.1.1
      have hfb : FG (shR rb ns) rF (fun j => j = 6 * rb + ns) ρ (setI (setI ρ 78 4 (nI 3)) 78 5 (nI t.1)) := FG_n FN_bad (fun _ _ z => z)
      have g8 : sI (setI (setI ρ 78 4 (nI 3)) 78 5 (nI t.1)) 78 8 = nI (rtk t.2.2.1 t.2.2.2) := by rw [sI_ne (by omega), sI_ne (by omega)]; exact l4.2.2.1
      have g35 : sI (setI (setI ρ 78 4 (nI 3)) 78 5 (nI t.1)) 78 35 = nI rb := by rw [sI_ne (by omega), sI_ne (by omega)]; exact r35
      generalize setI (setI ρ 78 4 (nI 3)) 78 5 (nI t.1) = ρ1 at *
      have hJ : FG (shR rb ns) fe (fun j => j = 6 * rb + ns) ρ1 (setJ ρ1 (6 * rb + ns) (sN ρ1)) := FG_J rfl
      obtain ⟨υ, v1, v2⟩ := ng_At (ρ := setJ ρ1 (6 * rb + ns) (sN ρ1)) hrb hns g35 (BAD_n hbad)
      have v3 : FG (shR rb ns) fe (fun j => j = 6 * rb + ns) (setJ ρ1 (6 * rb + ns) (sN ρ1)) υ := FG_m v2 (fun _ _ z => z) (fun _ _ z => z) (fun _ z => z.elim)
      refine ⟨_, υ, ?_, ?_, bad_o hbad (FG_t hJ v3), FG_f FR_bad (fun a k z => Or.inl z), FG_t hfb (FG_e (FG_t hJ v3))⟩
      · rw [hcl, ct2 hex, Option.bind_some]
        dsimp only
        rw [if_neg (show ¬ (1 : Int32) = 0 by decide), is_10, gu_t, nl_3, c_fail 3 l3.1, Option.bind_some]
        dsimp only
        rw [zr0]
      · rw [hR1, h68 _ g8, r_92, is_78, gu_t, ng_must (ρ := setJ ρ1 (6 * rb + ns) (sN ρ1)) (BAD_n hbad), Option.bind_some, v1]
    · have hno : ∀ s, s < ns → ¬ smN (gu0 u n) pl ln t.1 (t.2.1 - t.1) s := fun s h1 h2 => hex ⟨s, h1, h2⟩
      have hR1 : xX9_readShip 78 (mkH ρ) = xX9_readShip_B68 78 (nI (6 * rb + ns)) (mkH ρ) := by
        rw [hR0, he]
        refine r_nmA hrb hns ns 0 e ρ (by omega) l4.2.2.1 hb5 (fun s h1 h2 _ h4 => ?_)
        rw [R s h2, hsN] at h4
        exact absurd ((pk_sm N h2 k8 klet).mp h4) (hno s h2)
      have LJ : LK (setF (setF σ 19 ns (nI t.1)) 20 ns (nI (t.2.1 - t.1))) (setJ ρ (6 * rb + ns) (sN ρ)) u n t := LK_cF (by omega) (LK_cF (by omega) (LK_rJ L0))
      obtain ⟨τ1, υ1, s1, s2, s3, s4, s5⟩ := LK_s LJ
      have hC1 : xX3_readShip 10 (mkH σ) = cAt (nI ns) (mkH (setF (setF (setF τ1 14 ns (nI 0)) 15 ns (nI 0)) 16 ns (nI 0))) := by
        rw [hcl, ct1 hno, Option.bind_some]
        dsimp only
        rw [if_pos rfl, rR_10_11, Option.bind_some, rI_10_5, Option.bind_some, l3.1, wa_19 σ _ hns, Option.bind_some, rR_10_12, Option.bind_some, rI_10_6, Option.bind_some, rI_10_5, Option.bind_some, show sI (setF σ 19 ns (nI t.1)) 10 6 = nI t.2.1 from l3.2.1, show sI (setF σ 19 ns (nI t.1)) 10 5 = nI t.1 from l3.1, pk_sub hnx.2.1, wa_20 _ _ hns, Option.bind_some, is_10, gu_t, s1, Option.bind_some, rR_10_0, Option.bind_some, rR_11_11, Option.bind_some, nl_0, wa_14 τ1 _ hns, Option.bind_some, rR_10_0, Option.bind_some, rR_11_12, Option.bind_some, wa_15 _ _ hns, Option.bind_some, rR_10_0, Option.bind_some, rR_11_13, Option.bind_some, wa_16 _ _ hns, Option.bind_some]
      have hR2 : xX9_readShip 78 (mkH ρ) = rAt (nI (6 * rb + ns)) (mkH υ1) := by
        rw [hR1, h68 ρ l4.2.2.1, if_pos htk, r_92, is_78, gu_t, r_must1 LJ.2.2.2.2.2.1 s2, Option.bind_some]
      have F1c : FG (shG ns) shT fj σ (setF (setF (setF τ1 14 ns (nI 0)) 15 ns (nI 0)) 16 ns (nI 0)) := FG_t (FG_F ⟨by omega, by omega, by omega, rfl⟩) (FG_t (FG_F ⟨by omega, by omega, by omega, rfl⟩) (FG_t (FG_f s4 (fun a k z => Or.inl (dT_cF z))) (FG_t (FG_F ⟨by omega, by omega, by omega, rfl⟩) (FG_t (FG_F ⟨by omega, by omega, by omega, rfl⟩) (FG_F ⟨by omega, by omega, by omega, rfl⟩)))))
      have F1r : FG (shR rb ns) rF (fun j => j = 6 * rb + ns) ρ υ1 := FG_t (FG_J rfl) (FG_n s5 (fun a k z => eT_rF z))
      have k19 : sF (setF (setF (setF τ1 14 ns (nI 0)) 15 ns (nI 0)) 16 ns (nI 0)) 19 ns = nI t.1 ∧ sF (setF (setF (setF τ1 14 ns (nI 0)) 15 ns (nI 0)) 16 ns (nI 0)) 20 ns = nI (t.2.1 - t.1) := ⟨by rw [sF_ne (by omega), sF_ne (by omega), sF_ne (by omega), s4.1 19 (fun z => z), sF_ne (by omega), sF_eq], by rw [sF_ne (by omega), sF_ne (by omega), sF_ne (by omega), s4.1 20 (fun z => z), sF_eq]⟩
      have kJ : sJ υ1 (6 * rb + ns) = jN (pkW (gu0 u n) t.1 (t.2.1 - t.1)) := by
        have hj : sJ υ1 (6 * rb + ns) = sJ (setJ ρ (6 * rb + ns) (sN ρ)) (6 * rb + ns) := congrFun (congrArg Prod.fst s5.2.2) _
        have hj2 : sJ (setJ ρ (6 * rb + ns) (sN ρ)) (6 * rb + ns) = sN ρ := if_pos rfl
        exact hj.trans (hj2.trans hsN)
      have k7 : sI (setF (setF (setF τ1 14 ns (nI 0)) 15 ns (nI 0)) 16 ns (nI 0)) 11 7 = nI ns := by
        show sI τ1 11 7 = nI ns
        rw [s4.2.1 11 7 (by unfold dT; omega)]; exact c7
      have k81 : sF υ1 81 rb = nI ns := by rw [s5.1 81 (fun z => z)]; exact r1
      have k35 : sI υ1 78 35 = nI rb := by rw [s5.2.1 78 35 (by unfold eT; omega)]; exact r35
      have kz : ∀ r, 2 ≤ r → r < 5 → sF (setF (setF (setF τ1 14 ns (nI 0)) 15 ns (nI 0)) 16 ns (nI 0)) (12 + r) ns = nI 0 := fun r h1 h2 => by
        rcases (by omega : r = 2 ∨ r = 3 ∨ r = 4) with rfl | rfl | rfl
        · rw [sF_ne (by omega), sF_ne (by omega), sF_eq]
        · rw [sF_ne (by omega), sF_eq]
        · rw [sF_eq]
      have LZ : LK (setF (setF (setF τ1 14 ns (nI 0)) 15 ns (nI 0)) 16 ns (nI 0)) υ1 u n (nx (gu0 u n) n t) := LK_cF (by omega) (LK_cF (by omega) (LK_cF (by omega) s3))
      generalize setF (setF (setF τ1 14 ns (nI 0)) 15 ns (nI 0)) 16 ns (nI 0) = σ2 at *
      rcases two_at LZ hrb hns k7 k81 k35 kz with ⟨τ, υ, x, t', o1, o2, o3, o4, o5, o6, o7, o8, o9, o10, o11⟩ | ⟨τ, υ, o3, o4, o5, o10, o11⟩
      · left
        refine ⟨τ, υ, x, t', ⟨o1, o2⟩, ⟨hC1.trans o3, hR2.trans o4⟩, o5, by omega, o7, ⟨o8, o9⟩, ⟨h1, ?_, ?_, ?_⟩, FG_t F1c (mC o10), FG_t F1r (mR o11)⟩
        · rw [o10.1 19 ns (by omega)]; exact k19.1
        · rw [o10.1 20 ns (by omega)]; exact k19.2
        · rw [o11.2.2.1 _ (fun z => z)]; exact kJ
      · right
        exact ⟨τ, υ, hC1.trans o3, hR2.trans o4, o5, FG_t F1c (mC o10), FG_t F1r (mR o11)⟩
  · right
    rw [if_neg hnm] at hcl
    have htk : ¬ rtk t.2.2.1 t.2.2.2 = 2 := fun z => hnm (by
      obtain ⟨z1, z2⟩ := hi2.mp z
      have := (hk1 z1).1
      exact ⟨z1, by omega⟩)
    have hR1 : xX9_readShip 78 (mkH ρ) = xX9_readShip_B68 78 (nI (6 * rb + ns)) (mkH ρ) := by
      rw [hR0, he]
      exact r_nmA hrb hns ns 0 e ρ (by omega) l4.2.2.1 hb5 (fun s _ _ h3 _ => absurd h3 htk)
    obtain ⟨τ, υ1, q1, -, q2, q3, q4, q5⟩ := two_no (LK_rJ (k := 6 * rb + ns) (v := sN ρ) L0)
    have g35 : sI υ1 78 35 = nI rb := by rw [q5.2.1 78 35 (by unfold rF; omega)]; exact r35
    obtain ⟨υ, v1, v2⟩ := ng_At (ρ := υ1) hrb hns g35 (BAD_n q3)
    refine ⟨τ, υ, ?_, ?_, bad_o q3 v2, FG_f q4 (fun a k z => Or.inl z), FG_t (FG_J rfl) (FG_t (FG_n q5 (fun _ _ z => z)) (mR (FG_e v2)))⟩
    · rw [hcl, q1, Option.bind_some]
      dsimp only
      rw [zr0]
    · rw [hR1, h68 ρ l4.2.2.1, if_neg htk, r_92, is_78, gu_t, q2, Option.bind_some, v1]
