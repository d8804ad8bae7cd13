/-! a ship's place: at, then moves and on -/
noncomputable def cUp (l1 : Int32) (h : ZH) : Option (Int32 × ZH) := ((z_gR h 10 3 0).bind fun x135 => ((z_gR h x135 2 9).bind fun x138 => ((z_gI h 10 3 10).bind fun x143 => ((z_uI h x138 l1 x143).bind fun h146 => (z_gu (z_is h146 10 3) ((xX3_takeNumber 10 (0 : Int32) (99 : Int32) h146).bind fun r151 => (if r151.1 = 0 then some ((0 : Int32), r151.2) else ((z_gR r151.2 10 3 0).bind fun x160 => ((z_gR r151.2 x160 2 10).bind fun x163 => ((z_gI r151.2 10 3 10).bind fun x168 => ((z_uI r151.2 x163 l1 x168).bind fun h171 => cMv l1 h171)))))))))))
noncomputable def cAt (l1 : Int32) (h : ZH) : Option (Int32 × ZH) := (z_gu (z_is h 10 3) ((xX3_takeWord 10 (9 : Int32) h).bind fun r116 => (if r116.1 = 0 then some ((0 : Int32), r116.2) else (z_gu (z_is r116.2 10 3) ((xX3_takeNumber 10 (0 : Int32) (99 : Int32) r116.2).bind fun r126 => (if r126.1 = 0 then some ((0 : Int32), r126.2) else cUp l1 r126.2))))))
noncomputable def rZ (l1 : Int32) (h : ZH) : Option ZH := ((z_gR h 78 9 23).bind fun x125 => ((z_uI h x125 l1 (0 : Int32)).bind fun h130 => ((z_gR h130 78 9 24).bind fun x132 => ((z_uI h130 x132 l1 (0 : Int32)).bind fun h137 => ((z_gR h137 78 9 25).bind fun x139 => ((z_uI h137 x139 l1 (0 : Int32)).bind fun h144 => rMv l1 h144))))))
noncomputable def rUp (l1 : Int32) (h : ZH) : Option ZH := ((z_gR h 78 9 22).bind fun x112 => (z_gu (z_is h 78 9) ((xX9_numeral 78 (0 : Int32) (99 : Int32) h).bind fun r120 => ((z_uI r120.2 x112 l1 r120.1).bind fun h123 => rZ l1 h123))))
noncomputable def rAt (l1 : Int32) (h : ZH) : Option ZH := ((z_gR h 78 9 21).bind fun x96 => (z_gu (z_is h 78 9) ((xX9_after 78 (24948 : Int64) (0 : Int32) (99 : Int32) h).bind fun r107 => ((z_uI r107.2 x96 l1 r107.1).bind fun h110 => rUp l1 h110))))
theorem r_92 {l1 s0 : Int32} {h : ZH} : xX9_readShip_B92 78 l1 s0 78 h = z_gu (z_is h 78 9) ((xX9_must 78 s0 h).bind fun h92 => rAt l1 h92) := rfl
theorem rZ_i {ρ : ZS} {s : Nat} (hs : s < 12) : rZ (nI s) (mkH ρ) = rMv (nI s) (mkH (setF (setF (setF ρ 93 s (nI 0)) 94 s (nI 0)) 95 s (nI 0))) := by
  unfold rZ
  rw [rR_78_23, Option.bind_some, nl_0, wa_93 ρ _ hs, Option.bind_some, rR_78_24, Option.bind_some, wa_94 _ _ hs, Option.bind_some, rR_78_25, Option.bind_some, wa_95 _ _ hs, Option.bind_some]
theorem ng_Z {ρ : ZS} {rb ns : Nat} (hrb : rb < 2) (hns : ns < 6) (h35 : sI ρ 78 35 = nI rb) (h : ¬ sI ρ 78 4 = 0) : ∃ υ, rZ (nI (6 * rb + ns)) (mkH ρ) = some (mkH υ) ∧ FG (shR rb ns) fe fj ρ υ := by
  have hs : 6 * rb + ns < 12 := by omega
  refine ⟨_, (rZ_i hs).trans (rMv_n (ρ := setF (setF (setF ρ 93 (6 * rb + ns) (nI 0)) 94 (6 * rb + ns) (nI 0)) 95 (6 * rb + ns) (nI 0)) hrb h35 h), ?_⟩
  exact FG_t (FG_F (Or.inl ⟨by omega, by omega, rfl⟩)) (FG_t (FG_F (Or.inl ⟨by omega, by omega, rfl⟩)) (FG_t (FG_F (Or.inl ⟨by omega, by omega, rfl⟩)) (FG_F (Or.inr ⟨rfl, rfl⟩))))
theorem ng_Up {ρ : ZS} {rb ns : Nat} (hrb : rb < 2) (hns : ns < 6) (h35 : sI ρ 78 35 = nI rb) (h : ¬ sI ρ 78 4 = 0) : ∃ υ, rUp (nI (6 * rb + ns)) (mkH ρ) = some (mkH υ) ∧ FG (shR rb ns) fe fj ρ υ := by
  have hs : 6 * rb + ns < 12 := by omega
  obtain ⟨υ, v1, v2⟩ := ng_Z (ρ := setF ρ 92 (6 * rb + ns) 0) hrb hns h35 h
  refine ⟨υ, ?_, FG_t (FG_F (Or.inl ⟨by omega, by omega, rfl⟩)) v2⟩
  unfold rUp
  rw [rR_78_22, Option.bind_some, is_78, gu_t, ng_num h, Option.bind_some]
  dsimp only
  rw [wa_92 ρ _ hs, Option.bind_some, v1]
theorem ng_At {ρ : ZS} {rb ns : Nat} (hrb : rb < 2) (hns : ns < 6) (h35 : sI ρ 78 35 = nI rb) (h : ¬ sI ρ 78 4 = 0) : ∃ υ, rAt (nI (6 * rb + ns)) (mkH ρ) = some (mkH υ) ∧ FG (shR rb ns) fe fj ρ υ := by
  have hs : 6 * rb + ns < 12 := by omega
  obtain ⟨υ, v1, v2⟩ := ng_Up (ρ := setF ρ 91 (6 * rb + ns) 0) hrb hns h35 h
  refine ⟨υ, ?_, FG_t (FG_F (Or.inl ⟨by omega, by omega, rfl⟩)) v2⟩
  unfold rAt
  rw [rR_78_21, Option.bind_some, is_78, gu_t, ng_aft h, Option.bind_some]
  dsimp only
  rw [wa_91 ρ _ hs, Option.bind_some, v1]
theorem bad_o {σ ρ υ : ZS} {G : Nat → Nat → Prop} {J : Nat → Prop} (b : BAD σ ρ) (h : FG G fe J ρ υ) : BAD σ υ := bad_g b (FG_r (G := fe) (T := fe) (J := fj)) h ⟨fun z => z, fun z => z⟩ ⟨fun z => z, fun z => z, fun z => z⟩
theorem FG_e {G : Nat → Nat → Prop} {T : Nat → Nat → Prop} {J : Nat → Prop} {ρ υ : ZS} (h : FG G fe J ρ υ) : FG G T J ρ υ := FG_m h (fun _ _ z => z) (fun _ _ z => z.elim) (fun _ z => z)
/-- up, then the rest: from behind the first number x of the place -/
theorem two_up {σ ρ : ZS} {u : Nat → Nat} {n rb ns x0 : Nat} {t : ZT} (L : LK σ ρ u n t) (hrb : rb < 2) (hns : ns < 6) (c7 : sI σ 11 7 = nI ns) (r1 : sF ρ 81 rb = nI ns) (r35 : sI ρ 78 35 = nI rb) (hx0 : x0 ≤ 99) (c10 : sI σ 10 10 = nI x0) (r91 : sF ρ 91 (6 * rb + ns) = nI x0) (cz : ∀ r, 2 ≤ r → r < 5 → sF σ (12 + r) ns = nI 0) : (∃ (τ υ : ZS) (x : Nat → Nat) (t' : ZT), (∀ r, r < 4 → x r ≤ 99) ∧ x 4 ≤ 9 ∧ cUp (nI ns) (mkH σ) = some (1, mkH τ) ∧ rUp (nI (6 * rb + ns)) (mkH ρ) = some (mkH υ) ∧ LK τ υ u n t' ∧ t.1 ≤ t'.1 ∧ (∀ r, r < 5 → sF τ (12 + r) ns = nI (x r) ∧ sF υ (91 + r) (6 * rb + ns) = nI (x r)) ∧ sI τ 11 7 = nI (ns + 1) ∧ sF υ 81 rb = nI (ns + 1) ∧ FG (fun a k => 12 ≤ a ∧ a ≤ 16 ∧ k = ns) shT fj σ τ ∧ FG (shR rb ns) rF fj ρ υ) ∨ (∃ τ υ, cUp (nI ns) (mkH σ) = some (0, mkH τ) ∧ rUp (nI (6 * rb + ns)) (mkH ρ) = some (mkH υ) ∧ BAD τ υ ∧ FG (fun a k => 12 ≤ a ∧ a ≤ 16 ∧ k = ns) shT fj σ τ ∧ FG (shR rb ns) rF fj ρ υ) := by
  have hs : 6 * rb + ns < 12 := by omega
  have L1 : LK (setF σ 12 ns (nI x0)) ρ u n t := LK_cF (by omega) L
  have F1c : FG (fun a k => 12 ≤ a ∧ a ≤ 16 ∧ k = ns) shT fj σ (setF σ 12 ns (nI x0)) := FG_F ⟨by omega, by omega, rfl⟩
  have hC : cUp (nI ns) (mkH σ) = (xX3_takeNumber 10 (nI 0) (nI 99) (mkH (setF σ 12 ns (nI x0)))).bind fun r151 => (if r151.1 = 0 then some ((0 : Int32), r151.2) else ((z_gR r151.2 10 3 0).bind fun x160 => ((z_gR r151.2 x160 2 10).bind fun x163 => ((z_gI r151.2 10 3 10).bind fun x168 => ((z_uI r151.2 x163 (nI ns) x168).bind fun h171 => cMv (nI ns) h171))))) := by
    unfold cUp
    rw [rR_10_0, Option.bind_some, rR_11_9, Option.bind_some, rI_10_10, Option.bind_some, c10, wa_12 σ _ hns, Option.bind_some, is_10, gu_t]
    rfl
  have hR : rUp (nI (6 * rb + ns)) (mkH ρ) = (xX9_numeral 78 (nI 0) (nI 99) (mkH ρ)).bind fun r120 => ((z_uI r120.2 92 (nI (6 * rb + ns)) r120.1).bind fun h123 => rZ (nI (6 * rb + ns)) h123) := by
    unfold rUp
    rw [rR_78_22, Option.bind_some, is_78, gu_t]
    rfl
  have k12 : sF (setF σ 12 ns (nI x0)) 12 ns = nI x0 := sF_eq
  have kz : ∀ r, 2 ≤ r → r < 5 → sF (setF σ 12 ns (nI x0)) (12 + r) ns = nI 0 := fun r h1 h2 => by rw [sF_ne (by omega)]; exact cz r h1 h2
  have k7 : sI (setF σ 12 ns (nI x0)) 11 7 = nI ns := c7
  generalize setF σ 12 ns (nI x0) = σ1 at *
  rcases two_num L1 (lo := 0) (hi := 99) (by omega) (by omega) with ⟨τ2, υ2, q1, q2, q3, -, q4, q5, q6, q7, q8⟩ | ⟨τ2, υ2, q1, q2, q3, q4, q5⟩
  · generalize t.2.2.2 = x1 at *
    have F3c : FG (fun a k => 12 ≤ a ∧ a ≤ 16 ∧ k = ns) shT fj σ (setF τ2 13 ns (nI x1)) := FG_t F1c (FG_t (FG_f q7 (fun a k z => Or.inl z)) (FG_F ⟨by omega, by omega, rfl⟩))
    have F3r : FG (shR rb ns) rF fj ρ (setF (setF (setF (setF υ2 92 (6 * rb + ns) (nI x1)) 93 (6 * rb + ns) (nI 0)) 94 (6 * rb + ns) (nI 0)) 95 (6 * rb + ns) (nI 0)) := FG_t (FG_n q8 (fun a k z => z)) (FG_t (FG_F (Or.inl ⟨by omega, by omega, rfl⟩)) (FG_t (FG_F (Or.inl ⟨by omega, by omega, rfl⟩)) (FG_t (FG_F (Or.inl ⟨by omega, by omega, rfl⟩)) (FG_F (Or.inl ⟨by omega, by omega, rfl⟩)))))
    have L3 : LK (setF τ2 13 ns (nI x1)) (setF (setF (setF (setF υ2 92 (6 * rb + ns) (nI x1)) 93 (6 * rb + ns) (nI 0)) 94 (6 * rb + ns) (nI 0)) 95 (6 * rb + ns) (nI 0)) u n (nx (gu0 u n) n t) := LK_cF (by omega) (LK_rF (by omega) (LK_rF (by omega) (LK_rF (by omega) (LK_rF (by omega) q6))))
    have hC2 : cUp (nI ns) (mkH σ) = cMv (nI ns) (mkH (setF τ2 13 ns (nI x1))) := by
      rw [hC, q1, Option.bind_some]
      dsimp only
      rw [if_neg (show ¬ (1 : Int32) = 0 by decide), rR_10_0, Option.bind_some, rR_11_10, Option.bind_some, rI_10_10, Option.bind_some, q3, wa_13 τ2 _ hns, Option.bind_some]
    have hR2 : rUp (nI (6 * rb + ns)) (mkH ρ) = rMv (nI (6 * rb + ns)) (mkH (setF (setF (setF (setF υ2 92 (6 * rb + ns) (nI x1)) 93 (6 * rb + ns) (nI 0)) 94 (6 * rb + ns) (nI 0)) 95 (6 * rb + ns) (nI 0))) := by
      rw [hR, q2, Option.bind_some]
      dsimp only
      rw [wa_92 υ2 _ hs, Option.bind_some, rZ_i hs]
    have p7 : sI (setF τ2 13 ns (nI x1)) 11 7 = nI ns := by
      show sI τ2 11 7 = nI ns
      rw [q7.2.1 11 7 (by unfold cF; omega)]; exact k7
    have p81 : sF (setF (setF (setF (setF υ2 92 (6 * rb + ns) (nI x1)) 93 (6 * rb + ns) (nI 0)) 94 (6 * rb + ns) (nI 0)) 95 (6 * rb + ns) (nI 0)) 81 rb = nI ns := by
      rw [sF_ne (by omega), sF_ne (by omega), sF_ne (by omega), sF_ne (by omega), q8.1 81 (fun z => z)]; exact r1
    have p35 : sI (setF (setF (setF (setF υ2 92 (6 * rb + ns) (nI x1)) 93 (6 * rb + ns) (nI 0)) 94 (6 * rb + ns) (nI 0)) 95 (6 * rb + ns) (nI 0)) 78 35 = nI rb := by
      rw [F3r.2.1 78 35 (by unfold rF; omega)]; exact r35
    have pz : ∀ r, 2 ≤ r → r < 5 → sF (setF τ2 13 ns (nI x1)) (12 + r) ns = nI 0 ∧ sF (setF (setF (setF (setF υ2 92 (6 * rb + ns) (nI x1)) 93 (6 * rb + ns) (nI 0)) 94 (6 * rb + ns) (nI 0)) 95 (6 * rb + ns) (nI 0)) (91 + r) (6 * rb + ns) = nI 0 := fun r h1 h2 => by
      refine ⟨by rw [sF_ne (by omega), q7.1 (12 + r) (fun z => z)]; exact kz r h1 h2, ?_⟩
      rcases (by omega : r = 2 ∨ r = 3 ∨ r = 4) with rfl | rfl | rfl
      · rw [sF_ne (by omega), sF_ne (by omega), sF_eq]
      · rw [sF_ne (by omega), sF_eq]
      · rw [sF_eq]
    have p01 : sF (setF τ2 13 ns (nI x1)) 12 ns = nI x0 ∧ sF (setF τ2 13 ns (nI x1)) 13 ns = nI x1 := ⟨by rw [sF_ne (by omega), q7.1 12 (fun z => z)]; exact k12, sF_eq⟩
    have p91 : sF (setF (setF (setF (setF υ2 92 (6 * rb + ns) (nI x1)) 93 (6 * rb + ns) (nI 0)) 94 (6 * rb + ns) (nI 0)) 95 (6 * rb + ns) (nI 0)) 91 (6 * rb + ns) = nI x0 ∧ sF (setF (setF (setF (setF υ2 92 (6 * rb + ns) (nI x1)) 93 (6 * rb + ns) (nI 0)) 94 (6 * rb + ns) (nI 0)) 95 (6 * rb + ns) (nI 0)) 92 (6 * rb + ns) = nI x1 := ⟨by rw [sF_ne (by omega), sF_ne (by omega), sF_ne (by omega), sF_ne (by omega), q8.1 91 (fun z => z)]; exact r91, by rw [sF_ne (by omega), sF_ne (by omega), sF_ne (by omega), sF_eq]⟩
    generalize setF (setF (setF (setF υ2 92 (6 * rb + ns) (nI x1)) 93 (6 * rb + ns) (nI 0)) 94 (6 * rb + ns) (nI 0)) 95 (6 * rb + ns) (nI 0) = υ3 at *
    generalize setF τ2 13 ns (nI x1) = τ3 at *
    have m1 : ∀ a k, mvG ns a k → 12 ≤ a ∧ a ≤ 16 ∧ k = ns := fun a k z => by unfold mvG at z; omega
    have m2 : ∀ a k, mvR rb ns a k → shR rb ns a k := fun a k z => by unfold mvR at z; unfold shR; omega
    rcases two_mv L3 hrb hns p7 p81 p35 pz with ⟨τ, υ, x, t', o1, o2, o3, o4, o5, o6, o7, o8, o9, o10, o11, o12⟩ | ⟨τ, υ, o4, o5, o6, o11, o12⟩
    · left
      refine ⟨τ, υ, fun r => if r = 0 then x0 else if r = 1 then x1 else x r, t', fun r hr => ?_, o3, hC2.trans o4, hR2.trans o5, o6, by omega, fun r hr => ?_, o9, o10, FG_t F3c (FG_m o11 m1 (fun _ _ z => z) (fun _ z => z)), FG_t F3r (FG_m o12 m2 (fun _ _ z => z) (fun _ z => z))⟩
      · rcases (by omega : r = 0 ∨ r = 1 ∨ r = 2 ∨ r = 3) with rfl | rfl | rfl | rfl
        · exact hx0
        · exact q4
        · exact o1
        · exact o2
      · rcases (by omega : r = 0 ∨ r = 1 ∨ (2 ≤ r ∧ r < 5)) with rfl | rfl | ⟨h1, h2⟩
        · exact ⟨by rw [o11.1 12 ns (by unfold mvG; omega)]; exact p01.1, by rw [o12.1 91 _ (by unfold mvR; omega)]; exact p91.1⟩
        · exact ⟨by rw [o11.1 13 ns (by unfold mvG; omega)]; exact p01.2, by rw [o12.1 92 _ (by unfold mvR; omega)]; exact p91.2⟩
        · show sF τ (12 + r) ns = nI (if r = 0 then x0 else if r = 1 then x1 else x r) ∧ sF υ (91 + r) (6 * rb + ns) = nI (if r = 0 then x0 else if r = 1 then x1 else x r)
          rw [if_neg (by omega), if_neg (by omega)]
          exact o8 r h1 h2
    · right
      exact ⟨τ, υ, hC2.trans o4, hR2.trans o5, o6, FG_t F3c (FG_m o11 m1 (fun _ _ z => z) (fun _ z => z)), FG_t F3r (FG_m o12 m2 (fun _ _ z => z) (fun _ z => z))⟩
  · right
    have d35 : sI (setF υ2 92 (6 * rb + ns) (nI 0)) 78 35 = nI rb := by
      show sI υ2 78 35 = nI rb
      rw [q5.2.1 78 35 (by unfold rF; omega)]; exact r35
    obtain ⟨υ, v1, v2⟩ := ng_Z (ρ := setF υ2 92 (6 * rb + ns) (nI 0)) hrb hns d35 (BAD_n q3)
    have hg : FG (shR rb ns) fe fj υ2 υ := FG_t (FG_F (Or.inl ⟨by omega, by omega, rfl⟩)) v2
    refine ⟨τ2, υ, ?_, ?_, bad_o q3 hg, FG_t F1c (FG_f q4 (fun a k z => Or.inl z)), FG_t (FG_n q5 (fun a k z => z)) (FG_e hg)⟩
    · rw [hC, q1, Option.bind_some]
      dsimp only
      rw [if_pos rfl]
    · rw [hR, q2, Option.bind_some]
      dsimp only
      rw [wa_92 υ2 _ hs, Option.bind_some, v1]
