/-! a ship's line: both sides in step -/
def FG (G T : Nat → Nat → Prop) (J : Nat → Prop) (σ τ : ZS) : Prop := (∀ a k, ¬ G a k → sF τ a k = sF σ a k) ∧ (∀ a k, ¬ T a k → sI τ a k = sI σ a k) ∧ (∀ j, ¬ J j → sJ τ j = sJ σ j) ∧ τ.2.2.2.2 = σ.2.2.2.2
def fe (_ _ : Nat) : Prop := False
def fj (_ : Nat) : Prop := False
theorem FG_r {G T : Nat → Nat → Prop} {J : Nat → Prop} {σ : ZS} : FG G T J σ σ := ⟨fun _ _ _ => rfl, fun _ _ _ => rfl, fun _ _ => rfl, rfl⟩
theorem FG_t {G T : Nat → Nat → Prop} {J : Nat → Prop} {σ τ υ : ZS} (h : FG G T J σ τ) (g : FG G T J τ υ) : FG G T J σ υ := ⟨fun a k z => (g.1 a k z).trans (h.1 a k z), fun a k z => (g.2.1 a k z).trans (h.2.1 a k z), fun j z => (g.2.2.1 j z).trans (h.2.2.1 j z), g.2.2.2.trans h.2.2.2⟩
theorem FG_m {G T G' T' : Nat → Nat → Prop} {J J' : Nat → Prop} {σ τ : ZS} (h : FG G T J σ τ) (hG : ∀ a k, G a k → G' a k) (hT : ∀ a k, T a k → T' a k) (hJ : ∀ j, J j → J' j) : FG G' T' J' σ τ := ⟨fun a k z => h.1 a k (fun y => z (hG a k y)), fun a k z => h.2.1 a k (fun y => z (hT a k y)), fun j z => h.2.2.1 j (fun y => z (hJ j y)), h.2.2.2⟩
theorem FG_n {G T T' : Nat → Nat → Prop} {J : Nat → Prop} {σ τ : ZS} (h : FN (fun _ => False) T' σ τ) (hT : ∀ a k, T' a k → T a k) : FG G T J σ τ := ⟨fun a k _ => congrFun (h.1 a (fun z => z)) k, fun a k z => h.2.1 a k (fun y => z (hT a k y)), fun j _ => congrFun (congrArg Prod.fst h.2.2) j, congrArg Prod.snd h.2.2⟩
theorem FG_f {G T T' : Nat → Nat → Prop} {J : Nat → Prop} {σ τ : ZS} (h : FR (fun _ => False) T' σ τ) (hT : ∀ a k, T' a k → T a k) : FG G T J σ τ := FG_n (FN_f h) hT
theorem FG_F {G T : Nat → Nat → Prop} {J : Nat → Prop} {σ : ZS} {a k : Nat} {v : Int32} (h : G a k) : FG G T J σ (setF σ a k v) := ⟨fun b j z => sF_ne (fun y => z (by rw [y.1, y.2]; exact h)), fun _ _ _ => rfl, fun _ _ => rfl, rfl⟩
theorem FG_I {G T : Nat → Nat → Prop} {J : Nat → Prop} {σ : ZS} {a k : Nat} {v : Int32} (h : T a k) : FG G T J σ (setI σ a k v) := FG_f (FR_I (T := fun b j => b = a ∧ j = k) ⟨rfl, rfl⟩) (fun b j z => by rw [z.1, z.2]; exact h)
theorem FG_J {G T : Nat → Nat → Prop} {J : Nat → Prop} {σ : ZS} {k : Nat} {v : Int64} (h : J k) : FG G T J σ (setJ σ k v) := ⟨fun _ _ _ => rfl, fun _ _ _ => rfl, fun j z => if_neg (fun y : j = k => z (by rw [y]; exact h)), rfl⟩
theorem LK_cF {σ ρ : ZS} {u : Nat → Nat} {n a k : Nat} {t : ZT} {v : Int32} (h : a ≠ 9) (L : LK σ ρ u n t) : LK (setF σ a k v) ρ u n t := LK_c (FR_F (S := fun b => b = a) (T := fun _ _ => False) rfl) (fun z => h z.symm) (fun _ _ _ z => z) L
theorem LK_cI {σ ρ : ZS} {u : Nat → Nat} {n a k : Nat} {t : ZT} {v : Int32} (h : ¬ (a = 10 ∧ 1 ≤ k ∧ k ≤ 8)) (L : LK σ ρ u n t) : LK (setI σ a k v) ρ u n t := LK_c (FR_I (S := fun _ => False) (T := fun b j => b = a ∧ j = k) ⟨rfl, rfl⟩) (fun z => z) (fun j h1 h2 z => h ⟨z.1.symm, by omega, by omega⟩) L
theorem LK_rF {σ ρ : ZS} {u : Nat → Nat} {n a k : Nat} {t : ZT} {v : Int32} (h : a ≠ 80) (L : LK σ ρ u n t) : LK σ (setF ρ a k v) u n t := LK_r (FN_f (FR_F (S := fun b => b = a) (T := fun _ _ => False) rfl)) rfl (fun z => h z.symm) (fun _ _ _ z => z) L
theorem LK_rI {σ ρ : ZS} {u : Nat → Nat} {n a k : Nat} {t : ZT} {v : Int32} (h : ¬ (a = 78 ∧ 3 ≤ k ∧ k ≤ 9)) (L : LK σ ρ u n t) : LK σ (setI ρ a k v) u n t := LK_r (FN_f (FR_I (S := fun _ => False) (T := fun b j => b = a ∧ j = k) ⟨rfl, rfl⟩)) rfl (fun z => z) (fun j h1 h2 z => h ⟨z.1.symm, by omega, by omega⟩) L
theorem LK_rJ {σ ρ : ZS} {u : Nat → Nat} {n k : Nat} {t : ZT} {v : Int64} (L : LK σ ρ u n t) : LK σ (setJ ρ k v) u n t := L
theorem r_224 {ρ : ZS} {rb : Nat} (hrb : rb < 2) (h : sI ρ 78 35 = nI rb) : xX9_readShip_B224 78 (mkH ρ) = some (mkH (setF ρ 81 rb (sF ρ 81 rb + 1))) := by
  unfold xX9_readShip_B224
  rw [rR_78_11, Option.bind_some, rI_78_35, Option.bind_some, h, ra_81 ρ hrb, Option.bind_some, wa_81 ρ _ hrb, Option.bind_some]
theorem c_273 {σ : ZS} : xX3_readShip_B273 10 (mkH σ) = some (1, mkH (setI σ 11 7 (sI σ 11 7 + 1))) := by
  unfold xX3_readShip_B273
  rw [rR_10_0, Option.bind_some, rI_11_7, Option.bind_some, wI_11_7, Option.bind_some]
/-- fields that a ship's line changes in the class -/
def shT (a k : Nat) : Prop := cF a k ∨ (a = 11 ∧ k = 7)
def shG (ns a k : Nat) : Prop := 12 ≤ a ∧ a ≤ 20 ∧ a ≠ 17 ∧ k = ns
def shR (rb ns a k : Nat) : Prop := (91 ≤ a ∧ a ≤ 95 ∧ k = 6 * rb + ns) ∨ (a = 81 ∧ k = rb)
/-- the word is there: both go on behind it, then a number -/
theorem r_aft1 {σ ρ υ : ZS} {u : Nat → Nat} {n w : Nat} {t : ZT} {c : Int64} {lo hi : Int32} (L : LK σ ρ u n t) (hw : w < 19) (hc : c = jN (kW w)) (hb : wB t w = true) (g : xX9_goOn 78 (mkH ρ) = some (mkH υ)) {x : Int32} {κ : ZS} (hn : xX9_numeral 78 lo hi (mkH υ) = some (x, mkH κ)) : xX9_after 78 c lo hi (mkH ρ) = some (x, mkH κ) := by
  unfold xX9_after
  rw [is_78, gu_t, r_isW L hw hc, Option.bind_some]
  dsimp only
  rw [if_pos hb, is_78, gu_t, r_must1 L.2.2.2.2.2.1 g, Option.bind_some, is_78, gu_t, hn, Option.bind_some]
theorem bad_g {σ τ ρ υ : ZS} {G T G' T' : Nat → Nat → Prop} {J J' : Nat → Prop} (b : BAD σ ρ) (hc : FG G T J σ τ) (hr : FG G' T' J' ρ υ) (h1 : ¬ T 10 1 ∧ ¬ T 10 2) (h2 : ¬ T' 78 4 ∧ ¬ T' 78 5 ∧ ¬ T' 78 6) : BAD τ υ := by
  obtain ⟨f, a, b1, b2, b3, b4, b5, b6, b7, b8⟩ := b
  exact ⟨f, a, b1, b2, b3, by rw [hc.2.1 10 1 h1.1]; exact b4, by rw [hc.2.1 10 2 h1.2]; exact b5, by rw [hr.2.1 78 4 h2.1]; exact b6, by rw [hr.2.1 78 5 h2.2.1]; exact b7, by rw [hr.2.1 78 6 h2.2.2]; exact b8⟩
theorem ng_191 {ρ : ZS} {rb s : Nat} (hrb : rb < 2) (h35 : sI ρ 78 35 = nI rb) (h : ¬ sI ρ 78 4 = 0) : xX9_readShip_B191 78 (nI s) (mkH ρ) = some (mkH (setF ρ 81 rb (sF ρ 81 rb + 1))) := by
  unfold xX9_readShip_B191
  rw [is_78, gu_t, r_bad h, Option.bind_some]
  dsimp only
  rw [if_pos rfl, r_224 hrb h35]
theorem two_on {σ ρ : ZS} {u : Nat → Nat} {n rb ns : Nat} {t : ZT} (L : LK σ ρ u n t) (hrb : rb < 2) (hns : ns < 6) (c7 : sI σ 11 7 = nI ns) (r1 : sF ρ 81 rb = nI ns) (r35 : sI ρ 78 35 = nI rb) (c16 : sF σ 16 ns = nI 0) (r95 : sF ρ 95 (6 * rb + ns) = nI 0) : (∃ τ υ x t', x ≤ 9 ∧ xX3_readShip_B235 10 (nI ns) (mkH σ) = some (1, mkH τ) ∧ xX9_readShip_B191 78 (nI (6 * rb + ns)) (mkH ρ) = some (mkH υ) ∧ LK τ υ u n t' ∧ t.1 ≤ t'.1 ∧ sF τ 16 ns = nI x ∧ sF υ 95 (6 * rb + ns) = nI x ∧ sI τ 11 7 = nI (ns + 1) ∧ sF υ 81 rb = nI (ns + 1) ∧ FG (fun a k => a = 16 ∧ k = ns) shT fj σ τ ∧ FG (fun a k => (a = 95 ∧ k = 6 * rb + ns) ∨ (a = 81 ∧ k = rb)) rF fj ρ υ) ∨ (∃ τ υ, xX3_readShip_B235 10 (nI ns) (mkH σ) = some (0, mkH τ) ∧ xX9_readShip_B191 78 (nI (6 * rb + ns)) (mkH ρ) = some (mkH υ) ∧ BAD τ υ ∧ FG (fun a k => a = 16 ∧ k = ns) shT fj σ τ ∧ FG (fun a k => (a = 95 ∧ k = 6 * rb + ns) ∨ (a = 81 ∧ k = rb)) rF fj ρ υ) := by
  have hs : 6 * rb + ns < 12 := by omega
  have l6 := L.2.2.2.2.2.1
  have hC : xX3_readShip_B235 10 (nI ns) (mkH σ) = if wB t 11 then (xX3_advance 10 (mkH σ)).bind (fun h245 => (z_gu (z_is h245 10 3) ((xX3_takeNumber 10 (nI 0) (nI 9) h245).bind fun r252 => (if r252.1 = 0 then some ((0 : Int32), r252.2) else ((z_gR r252.2 10 3 0).bind fun x261 => ((z_gR r252.2 x261 2 13).bind fun x264 => ((z_gI r252.2 10 3 10).bind fun x269 => ((z_uI r252.2 x264 (nI ns) x269).bind fun h272 => xX3_readShip_B273 10 h272)))))))) else some (1, mkH (setI σ 11 7 (sI σ 11 7 + 1))) := by
    unfold xX3_readShip_B235
    rw [is_10, gu_t, nl_11, c_isW L (by omega), Option.bind_some]
    dsimp only
    by_cases hb : wB t 11 = true
    · rw [if_pos hb, if_pos hb, if_neg (show ¬ (1 : Int32) = 0 by decide), is_10, gu_t]
      rfl
    · rw [if_neg hb, if_neg hb, if_pos rfl, c_273]
  have hR : xX9_readShip_B191 78 (nI (6 * rb + ns)) (mkH ρ) = if wB t 11 then (xX9_after 78 (28526 : Int64) (nI 0) (nI 9) (mkH ρ)).bind (fun r220 => ((z_uI r220.2 95 (nI (6 * rb + ns)) r220.1).bind fun h223 => xX9_readShip_B224 78 h223)) else some (mkH (setF ρ 81 rb (sF ρ 81 rb + 1))) := by
    unfold xX9_readShip_B191
    rw [is_78, gu_t, r_good l6, Option.bind_some]
    dsimp only
    rw [if_neg (show ¬ (1 : Int32) = 0 by decide), is_78, gu_t, r_isW L (w := 11) (by omega) (by decide +kernel), Option.bind_some]
    dsimp only
    by_cases hb : wB t 11 = true
    · rw [if_pos hb, if_pos hb, if_neg (show ¬ (1 : Int32) = 0 by decide), rR_78_25, Option.bind_some, is_78, gu_t]
      rfl
    · rw [if_neg hb, if_neg hb, if_pos rfl, r_224 hrb r35]
  rw [hC, hR]
  by_cases hb : wB t 11 = true
  · rw [if_pos hb, if_pos hb]
    obtain ⟨τ1, υ1, s1, s2, s3, s4, s5⟩ := LK_s L
    have hnx := TK_nx L.2.2.2.2.1
    rcases two_num s3 (lo := 0) (hi := 9) (by omega) (by omega) with ⟨τ2, υ2, q1, q2, q3, -, q4, q5, q6, q7, q8⟩ | ⟨τ2, υ2, q1, q2, q3, q4, q5⟩
    · left
      have hFc : FG (fun a k => a = 16 ∧ k = ns) shT fj σ τ2 := FG_t (FG_f s4 (fun a k z => Or.inl (dT_cF z))) (FG_f q7 (fun a k z => Or.inl z))
      have hFr : FG (fun a k => (a = 95 ∧ k = 6 * rb + ns) ∨ (a = 81 ∧ k = rb)) rF fj ρ υ2 := FG_t (FG_n s5 (fun a k z => eT_rF z)) (FG_n q8 (fun a k z => z))
      have d7 : sI τ2 11 7 = nI ns := by rw [q7.2.1 11 7 (by unfold cF; omega), s4.2.1 11 7 (by unfold dT; omega)]; exact c7
      have d1 : sF υ2 81 rb = nI ns := by rw [q8.1 81 (fun z => z), s5.1 81 (fun z => z)]; exact r1
      have d35 : sI υ2 78 35 = nI rb := by rw [q8.2.1 78 35 (by unfold rF; omega), s5.2.1 78 35 (by unfold eT; omega)]; exact r35
      generalize (nx (gu0 u n) n t).2.2.2 = x at *
      refine ⟨setI (setF τ2 16 ns (nI x)) 11 7 (nI (ns + 1)), setF (setF υ2 95 (6 * rb + ns) (nI x)) 81 rb (nI (ns + 1)), x, _, q4, ?_, ?_, LK_cI (by omega) (LK_cF (by omega) (LK_rF (by omega) (LK_rF (by omega) q6))), by omega, sF_eq, by rw [sF_ne (by omega), sF_eq], sI_eq, sF_eq, FG_t hFc (FG_t (FG_F ⟨rfl, rfl⟩) (FG_I (Or.inr ⟨rfl, rfl⟩))), FG_t hFr (FG_t (FG_F (Or.inl ⟨rfl, rfl⟩)) (FG_F (Or.inr ⟨rfl, rfl⟩)))⟩
      · rw [s1, Option.bind_some, is_10, gu_t, q1, Option.bind_some]
        dsimp only
        rw [if_neg (show ¬ (1 : Int32) = 0 by decide), rR_10_0, Option.bind_some, rR_11_13, Option.bind_some, rI_10_10, Option.bind_some, q3, wa_16 τ2 _ hns, Option.bind_some, c_273, show sI (setF τ2 16 ns (nI x)) 11 7 = nI ns from d7, nI_s]
      · rw [r_aft1 L (w := 11) (by omega) (by decide +kernel) hb s2 q2, Option.bind_some]
        dsimp only
        rw [wa_95 υ2 _ hs, Option.bind_some, r_224 (ρ := setF υ2 95 (6 * rb + ns) (nI x)) hrb d35, sF_ne (by omega), d1, nI_s]
    · right
      have hFc : FG (fun a k => a = 16 ∧ k = ns) shT fj σ τ2 := FG_t (FG_f s4 (fun a k z => Or.inl (dT_cF z))) (FG_f q4 (fun a k z => Or.inl z))
      have hFr : FG (fun a k => (a = 95 ∧ k = 6 * rb + ns) ∨ (a = 81 ∧ k = rb)) rF fj ρ υ2 := FG_t (FG_n s5 (fun a k z => eT_rF z)) (FG_n q5 (fun a k z => z))
      have d35 : sI υ2 78 35 = nI rb := by rw [q5.2.1 78 35 (by unfold rF; omega), s5.2.1 78 35 (by unfold eT; omega)]; exact r35
      have hg : FG (fun a k => (a = 95 ∧ k = 6 * rb + ns) ∨ (a = 81 ∧ k = rb)) fe fj υ2 (setF (setF υ2 95 (6 * rb + ns) (nI 0)) 81 rb (sF (setF υ2 95 (6 * rb + ns) (nI 0)) 81 rb + 1)) := FG_t (FG_F (Or.inl ⟨rfl, rfl⟩)) (FG_F (Or.inr ⟨rfl, rfl⟩))
      refine ⟨τ2, _, ?_, ?_, bad_g q3 (FG_r (G := fe) (T := fe) (J := fj)) hg ⟨fun z => z, fun z => z⟩ ⟨fun z => z, fun z => z, fun z => z⟩, hFc, FG_t hFr (FG_m hg (fun _ _ z => z) (fun _ _ z => z.elim) (fun _ z => z))⟩
      · rw [s1, Option.bind_some, is_10, gu_t, q1, Option.bind_some]
        dsimp only
        rw [if_pos rfl]
      · rw [r_aft1 L (w := 11) (by omega) (by decide +kernel) hb s2 q2, Option.bind_some]
        dsimp only
        rw [wa_95 υ2 _ hs, Option.bind_some, r_224 (ρ := setF υ2 95 (6 * rb + ns) (nI 0)) hrb d35]
  · rw [if_neg hb, if_neg hb]
    left
    refine ⟨_, _, 0, t, by omega, rfl, rfl, LK_cI (by omega) (LK_rF (by omega) L), Nat.le_refl _, c16, by rw [sF_ne (by omega)]; exact r95, by rw [sI_eq, c7, nI_s], by rw [sF_eq, r1, nI_s], FG_I (Or.inr ⟨rfl, rfl⟩), FG_F (Or.inr ⟨rfl, rfl⟩)⟩
noncomputable def cMv (l1 : Int32) (h : ZH) : Option (Int32 × ZH) := (z_gu (z_is h 10 3) ((xX3_isWord 10 (10 : Int32) h).bind fun r175 => (if r175.1 = 0 then xX3_readShip_B235 10 l1 r175.2 else (z_gu (z_is r175.2 10 3) ((xX3_advance 10 r175.2).bind fun h182 => (z_gu (z_is h182 10 3) ((xX3_takeNumber 10 (0 : Int32) (99 : Int32) h182).bind fun r189 => (if r189.1 = 0 then some ((0 : Int32), r189.2) else ((z_gR r189.2 10 3 0).bind fun x198 => ((z_gR r189.2 x198 2 11).bind fun x201 => ((z_gI r189.2 10 3 10).bind fun x206 => ((z_uI r189.2 x201 l1 x206).bind fun h209 => (z_gu (z_is h209 10 3) ((xX3_takeNumber 10 (0 : Int32) (99 : Int32) h209).bind fun r214 => (if r214.1 = 0 then some ((0 : Int32), r214.2) else ((z_gR r214.2 10 3 0).bind fun x223 => ((z_gR r214.2 x223 2 12).bind fun x226 => ((z_gI r214.2 10 3 10).bind fun x231 => ((z_uI r214.2 x226 l1 x231).bind fun h234 => xX3_readShip_B235 10 l1 h234)))))))))))))))))))
noncomputable def rMv (l1 : Int32) (h : ZH) : Option ZH := (z_gu (z_is h 78 9) ((xX9_isGood 78 h).bind fun r146 => (if r146.1 = 0 then xX9_readShip_B191 78 l1 r146.2 else (z_gu (z_is r146.2 78 9) ((xX9_isWord 78 (470021465459 : Int64) r146.2).bind fun r156 => (if r156.1 = 0 then xX9_readShip_B191 78 l1 r156.2 else ((z_gR r156.2 78 9 23).bind fun x163 => (z_gu (z_is r156.2 78 9) ((xX9_after 78 (470021465459 : Int64) (0 : Int32) (99 : Int32) r156.2).bind fun r174 => ((z_uI r174.2 x163 l1 r174.1).bind fun h177 => ((z_gR h177 78 9 24).bind fun x179 => (z_gu (z_is h177 78 9) ((xX9_numeral 78 (0 : Int32) (99 : Int32) h177).bind fun r187 => ((z_uI r187.2 x179 l1 r187.1).bind fun h190 => xX9_readShip_B191 78 l1 h190))))))))))))))
def mvG (ns a k : Nat) : Prop := 14 ≤ a ∧ a ≤ 16 ∧ k = ns
def mvR (rb ns a k : Nat) : Prop := (93 ≤ a ∧ a ≤ 95 ∧ k = 6 * rb + ns) ∨ (a = 81 ∧ k = rb)
theorem rMv_n {ρ : ZS} {rb s : Nat} (hrb : rb < 2) (h35 : sI ρ 78 35 = nI rb) (h : ¬ sI ρ 78 4 = 0) : rMv (nI s) (mkH ρ) = some (mkH (setF ρ 81 rb (sF ρ 81 rb + 1))) := by
  unfold rMv
  rw [is_78, gu_t, r_bad h, Option.bind_some]
  dsimp only
  rw [if_pos rfl, ng_191 hrb h35 h]
theorem two_mv {σ ρ : ZS} {u : Nat → Nat} {n rb ns : Nat} {t : ZT} (L : LK σ ρ u n t) (hrb : rb < 2) (hns : ns < 6) (c7 : sI σ 11 7 = nI ns) (r1 : sF ρ 81 rb = nI ns) (r35 : sI ρ 78 35 = nI rb) (cz : ∀ r, 2 ≤ r → r < 5 → sF σ (12 + r) ns = nI 0 ∧ sF ρ (91 + r) (6 * rb + ns) = nI 0) : (∃ (τ υ : ZS) (x : Nat → Nat) (t' : ZT), x 2 ≤ 99 ∧ x 3 ≤ 99 ∧ x 4 ≤ 9 ∧ cMv (nI ns) (mkH σ) = some (1, mkH τ) ∧ rMv (nI (6 * rb + ns)) (mkH ρ) = some (mkH υ) ∧ LK τ υ u n t' ∧ t.1 ≤ t'.1 ∧ (∀ r, 2 ≤ r → r < 5 → sF τ (12 + r) ns = nI (x r) ∧ sF υ (91 + r) (6 * rb + ns) = nI (x r)) ∧ sI τ 11 7 = nI (ns + 1) ∧ sF υ 81 rb = nI (ns + 1) ∧ FG (mvG ns) shT fj σ τ ∧ FG (mvR rb ns) rF fj ρ υ) ∨ (∃ τ υ, cMv (nI ns) (mkH σ) = some (0, mkH τ) ∧ rMv (nI (6 * rb + ns)) (mkH ρ) = some (mkH υ) ∧ BAD τ υ ∧ FG (mvG ns) shT fj σ τ ∧ FG (mvR rb ns) rF fj ρ υ) := by
  have hs : 6 * rb + ns < 12 := by omega
  have l6 := L.2.2.2.2.2.1
  have m1 : ∀ a k, (fun a k => a = 16 ∧ k = ns) a k → mvG ns a k := fun a k z => ⟨by omega, by omega, z.2⟩
  have m2 : ∀ a k, (fun a k => (a = 95 ∧ k = 6 * rb + ns) ∨ (a = 81 ∧ k = rb)) a k → mvR rb ns a k := fun a k z => by unfold mvR; omega
  have hfin : ∀ (τ υ : ZS) (t1 : ZT) (x y : Nat), x ≤ 99 → y ≤ 99 → LK τ υ u n t1 → t.1 ≤ t1.1 → FG (mvG ns) shT fj σ τ → FG (mvR rb ns) rF fj ρ υ → sI τ 11 7 = nI ns → sF υ 81 rb = nI ns → sF τ 14 ns = nI x → sF υ 93 (6 * rb + ns) = nI x → sF τ 15 ns = nI y → sF υ 94 (6 * rb + ns) = nI y → sF τ 16 ns = nI 0 → sF υ 95 (6 * rb + ns) = nI 0 → cMv (nI ns) (mkH σ) = xX3_readShip_B235 10 (nI ns) (mkH τ) → rMv (nI (6 * rb + ns)) (mkH ρ) = xX9_readShip_B191 78 (nI (6 * rb + ns)) (mkH υ) → (∃ (τ υ : ZS) (x : Nat → Nat) (t' : ZT), x 2 ≤ 99 ∧ x 3 ≤ 99 ∧ x 4 ≤ 9 ∧ cMv (nI ns) (mkH σ) = some (1, mkH τ) ∧ rMv (nI (6 * rb + ns)) (mkH ρ) = some (mkH υ) ∧ LK τ υ u n t' ∧ t.1 ≤ t'.1 ∧ (∀ r, 2 ≤ r → r < 5 → sF τ (12 + r) ns = nI (x r) ∧ sF υ (91 + r) (6 * rb + ns) = nI (x r)) ∧ sI τ 11 7 = nI (ns + 1) ∧ sF υ 81 rb = nI (ns + 1) ∧ FG (mvG ns) shT fj σ τ ∧ FG (mvR rb ns) rF fj ρ υ) ∨ (∃ τ υ, cMv (nI ns) (mkH σ) = some (0, mkH τ) ∧ rMv (nI (6 * rb + ns)) (mkH ρ) = some (mkH υ) ∧ BAD τ υ ∧ FG (mvG ns) shT fj σ τ ∧ FG (mvR rb ns) rF fj ρ υ) := by
    intro τ υ t1 x y hx hy L1 hle hc hr h7 h81 h14 h93 h15 h94 h16 h95 e1 e2
    rcases two_on L1 hrb hns h7 h81 (by rw [hr.2.1 78 35 (by unfold rF; omega)]; exact r35) h16 h95 with ⟨τ', υ', z, t', o1, o2, o3, o4, o5, o6, o7, o8, o9, o10, o11⟩ | ⟨τ', υ', o2, o3, o4, o10, o11⟩
    · left
      refine ⟨τ', υ', fun r => if r = 2 then x else if r = 3 then y else z, t', hx, hy, o1, e1.trans o2, e2.trans o3, o4, by omega, fun r h1 h2 => ?_, o8, o9, FG_t hc (FG_m o10 m1 (fun _ _ z => z) (fun _ z => z)), FG_t hr (FG_m o11 m2 (fun _ _ z => z) (fun _ z => z))⟩
      rcases (by omega : r = 2 ∨ r = 3 ∨ r = 4) with rfl | rfl | rfl
      · exact ⟨by rw [o10.1 14 ns (by omega)]; exact h14, by rw [o11.1 93 _ (by omega)]; exact h93⟩
      · exact ⟨by rw [o10.1 15 ns (by omega)]; exact h15, by rw [o11.1 94 _ (by omega)]; exact h94⟩
      · exact ⟨o6, o7⟩
    · right
      exact ⟨τ', υ', e1.trans o2, e2.trans o3, o4, FG_t hc (FG_m o10 m1 (fun _ _ z => z) (fun _ z => z)), FG_t hr (FG_m o11 m2 (fun _ _ z => z) (fun _ z => z))⟩
  obtain ⟨z14, z93⟩ := cz 2 (by omega) (by omega)
  obtain ⟨z15, z94⟩ := cz 3 (by omega) (by omega)
  obtain ⟨z16, z95⟩ := cz 4 (by omega) (by omega)
  by_cases hb : wB t 10 = true
  · have hC : cMv (nI ns) (mkH σ) = (xX3_advance 10 (mkH σ)).bind fun h182 => (z_gu (z_is h182 10 3) ((xX3_takeNumber 10 (nI 0) (nI 99) h182).bind fun r189 => (if r189.1 = 0 then some ((0 : Int32), r189.2) else ((z_gR r189.2 10 3 0).bind fun x198 => ((z_gR r189.2 x198 2 11).bind fun x201 => ((z_gI r189.2 10 3 10).bind fun x206 => ((z_uI r189.2 x201 (nI ns) x206).bind fun h209 => (z_gu (z_is h209 10 3) ((xX3_takeNumber 10 (nI 0) (nI 99) h209).bind fun r214 => (if r214.1 = 0 then some ((0 : Int32), r214.2) else ((z_gR r214.2 10 3 0).bind fun x223 => ((z_gR r214.2 x223 2 12).bind fun x226 => ((z_gI r214.2 10 3 10).bind fun x231 => ((z_uI r214.2 x226 (nI ns) x231).bind fun h234 => xX3_readShip_B235 10 (nI ns) h234)))))))))))))) := by
      unfold cMv
      rw [is_10, gu_t, nl_10, c_isW L (by omega), Option.bind_some]
      dsimp only
      rw [if_pos hb, if_neg (show ¬ (1 : Int32) = 0 by decide), is_10, gu_t]
      rfl
    have hR : rMv (nI (6 * rb + ns)) (mkH ρ) = (xX9_after 78 (470021465459 : Int64) (nI 0) (nI 99) (mkH ρ)).bind fun r174 => ((z_uI r174.2 93 (nI (6 * rb + ns)) r174.1).bind fun h177 => ((z_gR h177 78 9 24).bind fun x179 => (z_gu (z_is h177 78 9) ((xX9_numeral 78 (nI 0) (nI 99) h177).bind fun r187 => ((z_uI r187.2 x179 (nI (6 * rb + ns)) r187.1).bind fun h190 => xX9_readShip_B191 78 (nI (6 * rb + ns)) h190))))) := by
      unfold rMv
      rw [is_78, gu_t, r_good l6, Option.bind_some]
      dsimp only
      rw [if_neg (show ¬ (1 : Int32) = 0 by decide), is_78, gu_t, r_isW L (w := 10) (by omega) (by decide +kernel), Option.bind_some]
      dsimp only
      rw [if_pos hb, if_neg (show ¬ (1 : Int32) = 0 by decide), rR_78_23, Option.bind_some, is_78, gu_t]
      rfl
    obtain ⟨τ1, υ1, s1, s2, s3, s4, s5⟩ := LK_s L
    have hnx := TK_nx L.2.2.2.2.1
    have F1c : FG (mvG ns) shT fj σ τ1 := FG_f s4 (fun a k z => Or.inl (dT_cF z))
    have F1r : FG (mvR rb ns) rF fj ρ υ1 := FG_n s5 (fun a k z => eT_rF z)
    rcases two_num s3 (lo := 0) (hi := 99) (by omega) (by omega) with ⟨τ2, υ2, q1, q2, q3, -, q4, q5, q6, q7, q8⟩ | ⟨τ2, υ2, q1, q2, q3, q4, q5⟩
    · generalize hx : (nx (gu0 u n) n t).2.2.2 = x at *
      have F2c : FG (mvG ns) shT fj σ (setF τ2 14 ns (nI x)) := FG_t F1c (FG_t (FG_f q7 (fun a k z => Or.inl z)) (FG_F ⟨by omega, by omega, rfl⟩))
      have F2r : FG (mvR rb ns) rF fj ρ (setF υ2 93 (6 * rb + ns) (nI x)) := FG_t F1r (FG_t (FG_n q8 (fun a k z => z)) (FG_F (Or.inl ⟨by omega, by omega, rfl⟩)))
      have hC2 : cMv (nI ns) (mkH σ) = (xX3_takeNumber 10 (nI 0) (nI 99) (mkH (setF τ2 14 ns (nI x)))).bind fun r214 => (if r214.1 = 0 then some ((0 : Int32), r214.2) else ((z_gR r214.2 10 3 0).bind fun x223 => ((z_gR r214.2 x223 2 12).bind fun x226 => ((z_gI r214.2 10 3 10).bind fun x231 => ((z_uI r214.2 x226 (nI ns) x231).bind fun h234 => xX3_readShip_B235 10 (nI ns) h234))))) := by
        rw [hC, s1, Option.bind_some, is_10, gu_t, q1, Option.bind_some]
        dsimp only
        rw [if_neg (show ¬ (1 : Int32) = 0 by decide), rR_10_0, Option.bind_some, rR_11_11, Option.bind_some, rI_10_10, Option.bind_some, q3, wa_14 τ2 _ hns, Option.bind_some, is_10, gu_t]
      have hR2 : rMv (nI (6 * rb + ns)) (mkH ρ) = (xX9_numeral 78 (nI 0) (nI 99) (mkH (setF υ2 93 (6 * rb + ns) (nI x)))).bind fun r187 => ((z_uI r187.2 94 (nI (6 * rb + ns)) r187.1).bind fun h190 => xX9_readShip_B191 78 (nI (6 * rb + ns)) h190) := by
        rw [hR, r_aft1 L (w := 10) (by omega) (by decide +kernel) hb s2 q2, Option.bind_some]
        dsimp only
        rw [wa_93 υ2 _ hs, Option.bind_some, rR_78_24, Option.bind_some, is_78, gu_t]
      have L2 : LK (setF τ2 14 ns (nI x)) (setF υ2 93 (6 * rb + ns) (nI x)) u n (nx (gu0 u n) n (nx (gu0 u n) n t)) := LK_cF (by omega) (LK_rF (by omega) q6)
      generalize h2t : nx (gu0 u n) n (nx (gu0 u n) n t) = t2 at *
      have k14 : sF (setF τ2 14 ns (nI x)) 14 ns = nI x := sF_eq
      have k93 : sF (setF υ2 93 (6 * rb + ns) (nI x)) 93 (6 * rb + ns) = nI x := sF_eq
      have k16 : sF (setF τ2 14 ns (nI x)) 16 ns = nI 0 := by rw [sF_ne (by omega), q7.1 16 (fun z => z), s4.1 16 (fun z => z)]; exact z16
      have k95 : sF (setF υ2 93 (6 * rb + ns) (nI x)) 95 (6 * rb + ns) = nI 0 := by rw [sF_ne (by omega), q8.1 95 (fun z => z), s5.1 95 (fun z => z)]; exact z95
      have k7 : sI (setF τ2 14 ns (nI x)) 11 7 = nI ns := by
        show sI τ2 11 7 = nI ns
        rw [q7.2.1 11 7 (by unfold cF; omega), s4.2.1 11 7 (by unfold dT; omega)]; exact c7
      have k81 : sF (setF υ2 93 (6 * rb + ns) (nI x)) 81 rb = nI ns := by rw [sF_ne (by omega), q8.1 81 (fun z => z), s5.1 81 (fun z => z)]; exact r1
      have k35 : sI (setF υ2 93 (6 * rb + ns) (nI x)) 78 35 = nI rb := by rw [F2r.2.1 78 35 (by unfold rF; omega)]; exact r35
      generalize setF τ2 14 ns (nI x) = τ3 at *
      generalize setF υ2 93 (6 * rb + ns) (nI x) = υ3 at *
      rcases two_num L2 (lo := 0) (hi := 99) (by omega) (by omega) with ⟨τ4, υ4, p1, p2, p3, -, p4, p5, p6, p7, p8⟩ | ⟨τ4, υ4, p1, p2, p3, p4, p5⟩
      · refine hfin (setF τ4 15 ns (nI t2.2.2.2)) (setF υ4 94 (6 * rb + ns) (nI t2.2.2.2)) (nx (gu0 u n) n t2) x t2.2.2.2 q4 p4 (LK_cF (by omega) (LK_rF (by omega) p6)) (by omega) (FG_t F2c (FG_t (FG_f p7 (fun a k z => Or.inl z)) (FG_F ⟨by omega, by omega, rfl⟩))) (FG_t F2r (FG_t (FG_n p8 (fun a k z => z)) (FG_F (Or.inl ⟨by omega, by omega, rfl⟩)))) ?_ ?_ ?_ ?_ sF_eq sF_eq ?_ ?_ ?_ ?_
        · show sI τ4 11 7 = nI ns
          rw [p7.2.1 11 7 (by unfold cF; omega)]; exact k7
        · rw [sF_ne (by omega), p8.1 81 (fun z => z)]; exact k81
        · rw [sF_ne (by omega), p7.1 14 (fun z => z)]; exact k14
        · rw [sF_ne (by omega), p8.1 93 (fun z => z)]; exact k93
        · rw [sF_ne (by omega), p7.1 16 (fun z => z)]; exact k16
        · rw [sF_ne (by omega), p8.1 95 (fun z => z)]; exact k95
        · rw [hC2, p1, Option.bind_some]
          dsimp only
          rw [if_neg (show ¬ (1 : Int32) = 0 by decide), rR_10_0, Option.bind_some, rR_11_12, Option.bind_some, rI_10_10, Option.bind_some, p3, wa_15 τ4 _ hns, Option.bind_some]
        · rw [hR2, p2, Option.bind_some]
          dsimp only
          rw [wa_94 υ4 _ hs, Option.bind_some]
      · right
        have d35 : sI (setF υ4 94 (6 * rb + ns) (nI 0)) 78 35 = nI rb := by
          show sI υ4 78 35 = nI rb
          rw [p5.2.1 78 35 (by unfold rF; omega)]; exact k35
        have hg : FG (mvR rb ns) fe fj υ4 (setF (setF υ4 94 (6 * rb + ns) (nI 0)) 81 rb (sF (setF υ4 94 (6 * rb + ns) (nI 0)) 81 rb + 1)) := FG_t (FG_F (Or.inl ⟨by omega, by omega, rfl⟩)) (FG_F (Or.inr ⟨rfl, rfl⟩))
        refine ⟨τ4, _, ?_, ?_, bad_g p3 (FG_r (G := fe) (T := fe) (J := fj)) hg ⟨fun z => z, fun z => z⟩ ⟨fun z => z, fun z => z, fun z => z⟩, FG_t F2c (FG_f p4 (fun a k z => Or.inl z)), FG_t F2r (FG_t (FG_n p5 (fun a k z => z)) (FG_m hg (fun _ _ z => z) (fun _ _ z => z.elim) (fun _ z => z)))⟩
        · rw [hC2, p1, Option.bind_some]
          dsimp only
          rw [if_pos rfl]
        · rw [hR2, p2, Option.bind_some]
          dsimp only
          rw [wa_94 υ4 _ hs, Option.bind_some, ng_191 hrb d35 (BAD_n p3)]
    · right
      have d35 : sI (setF (setF υ2 93 (6 * rb + ns) (nI 0)) 94 (6 * rb + ns) (nI 0)) 78 35 = nI rb := by
        show sI υ2 78 35 = nI rb
        rw [q5.2.1 78 35 (by unfold rF; omega), s5.2.1 78 35 (by unfold eT; omega)]; exact r35
      have hg : FG (mvR rb ns) fe fj υ2 (setF (setF (setF υ2 93 (6 * rb + ns) (nI 0)) 94 (6 * rb + ns) (nI 0)) 81 rb (sF (setF (setF υ2 93 (6 * rb + ns) (nI 0)) 94 (6 * rb + ns) (nI 0)) 81 rb + 1)) := FG_t (FG_F (Or.inl ⟨by omega, by omega, rfl⟩)) (FG_t (FG_F (Or.inl ⟨by omega, by omega, rfl⟩)) (FG_F (Or.inr ⟨rfl, rfl⟩)))
      refine ⟨τ2, _, ?_, ?_, bad_g q3 (FG_r (G := fe) (T := fe) (J := fj)) hg ⟨fun z => z, fun z => z⟩ ⟨fun z => z, fun z => z, fun z => z⟩, FG_t F1c (FG_f q4 (fun a k z => Or.inl z)), FG_t F1r (FG_t (FG_n q5 (fun a k z => z)) (FG_m hg (fun _ _ z => z) (fun _ _ z => z.elim) (fun _ z => z)))⟩
      · rw [hC, s1, Option.bind_some, is_10, gu_t, q1, Option.bind_some]
        dsimp only
        rw [if_pos rfl]
      · rw [hR, r_aft1 L (w := 10) (by omega) (by decide +kernel) hb s2 q2, Option.bind_some]
        dsimp only
        rw [wa_93 υ2 _ hs, Option.bind_some, rR_78_24, Option.bind_some, is_78, gu_t, ng_num (ρ := setF υ2 93 (6 * rb + ns) (nI 0)) (BAD_n q3), Option.bind_some]
        dsimp only
        rw [wa_94 _ _ hs, Option.bind_some, ng_191 (ρ := setF (setF υ2 93 (6 * rb + ns) (nI 0)) 94 (6 * rb + ns) (nI 0)) hrb d35 (BAD_n q3)]
  · refine hfin σ ρ t 0 0 (by omega) (by omega) L (Nat.le_refl _) FG_r FG_r c7 r1 z14 z93 z15 z94 z16 z95 ?_ ?_
    · unfold cMv
      rw [is_10, gu_t, nl_10, c_isW L (by omega), Option.bind_some]
      dsimp only
      rw [if_neg hb, if_pos rfl]
    · unfold rMv
      rw [is_78, gu_t, r_good l6, Option.bind_some]
      dsimp only
      rw [if_neg (show ¬ (1 : Int32) = 0 by decide), is_78, gu_t, r_isW L (w := 10) (by omega) (by decide +kernel), Option.bind_some]
      dsimp only
      rw [if_neg hb, if_pos rfl]
