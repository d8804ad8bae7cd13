/-! the class's acts kept: what stays when states are made -/
def GF (S : Nat → Prop) (T : Nat → Nat → Prop) (U : Nat → Nat → Prop) (σ τ : ZS) : Prop := (∀ a, ¬ S a → a < 118 + 13 * sK σ → sF τ a = sF σ a) ∧ (∀ a k, ¬ T a k → a < 118 + 13 * sK σ → sI τ a k = sI σ a k) ∧ (∀ a k, ¬ U a k → sQ τ a k = sQ σ a k) ∧ sN τ = sN σ ∧ sJ τ = sJ σ ∧ sTx τ = sTx σ ∧ sX τ = sX σ ∧ sK σ ≤ sK τ
section GFs
variable {S S' : Nat → Prop} {T T' U U' : Nat → Nat → Prop} {σ τ υ : ZS}
theorem GF_f (h : FR S T σ τ) : GF S T U σ τ := by
  obtain ⟨h1, h2, h3⟩ := h
  refine ⟨fun a ha _ => h1 a ha, fun a k ha _ => h2 a k ha, fun a k _ => ?_, ?_, ?_, ?_, ?_, ?_⟩
  · show τ.2.2.2.2.2.2.1 a k = _; rw [h3]
  · show τ.2.2.1 = _; rw [h3]
  · show τ.2.2.2.1 = _; rw [h3]
  · show τ.2.2.2.2.2.1 = _; rw [h3]
  · show τ.2.2.2.2.2.2.2.2 = _; rw [h3]
  · show σ.2.2.2.2.2.2.2.1 ≤ τ.2.2.2.2.2.2.2.1; rw [h3]; exact Nat.le_refl _
theorem FR_now (h : FR S T σ τ) : sNow τ = sNow σ := by
  show τ.2.2.2.2.1 = _; rw [h.2.2]
theorem GF_r : GF S T U σ σ := GF_f FR_r
theorem GF_t (h : GF S T U σ τ) (g : GF S T U τ υ) : GF S T U σ υ := by
  obtain ⟨h1, h2, h3, h4, h5, h6, h7, h8⟩ := h
  obtain ⟨g1, g2, g3, g4, g5, g6, g7, g8⟩ := g
  exact ⟨fun a ha hl => (g1 a ha (by omega)).trans (h1 a ha hl), fun a k ha hl => (g2 a k ha (by omega)).trans (h2 a k ha hl), fun a k ha => (g3 a k ha).trans (h3 a k ha), g4.trans h4, g5.trans h5, g6.trans h6, g7.trans h7, Nat.le_trans h8 g8⟩
theorem GF_m (h : GF S T U σ τ) (hS : ∀ a, S a → S' a) (hT : ∀ a k, T a k → T' a k) (hU : ∀ a k, U a k → U' a k) : GF S' T' U' σ τ := ⟨fun a ha hl => h.1 a (fun z => ha (hS a z)) hl, fun a k ha hl => h.2.1 a k (fun z => ha (hT a k z)) hl, fun a k ha => h.2.2.1 a k (fun z => ha (hU a k z)), h.2.2.2⟩
theorem GF_g : GF S T U σ (growS σ) := ⟨fun a _ hl => funext fun k => gr_F (by omega), fun a k _ hl => gr_I (by omega), fun _ _ _ => rfl, rfl, rfl, rfl, rfl, Nat.le_succ _⟩
theorem GF_q {a k : Nat} {v : Option Nat} (h : U a k) : GF S T U σ (setQ σ a k v) := by
  refine ⟨fun _ _ _ => rfl, fun _ _ _ _ => rfl, fun b j hb => ?_, rfl, rfl, rfl, rfl, Nat.le_refl _⟩
  show up2 (sQ σ) a k v b j = _
  unfold up2
  rw [if_neg (fun z => hb (by rw [z.1, z.2]; exact h))]
theorem sQ_eq {a k : Nat} {v : Option Nat} : sQ (setQ σ a k v) a k = v := by
  show up2 (sQ σ) a k v a k = _
  unfold up2
  rw [if_pos ⟨rfl, rfl⟩]
theorem sQ_ne {a k b j : Nat} {v : Option Nat} (h : ¬ (b = a ∧ j = k)) : sQ (setQ σ a k v) b j = sQ σ b j := by
  show up2 (sQ σ) a k v b j = _
  unfold up2
  rw [if_neg h]
theorem st_mono {n m p : Nat} (h : isSt n p) (hm : n ≤ m) : isSt m p := by
  rcases h with h | h | ⟨j, hj, h⟩
  · exact Or.inl h
  · exact Or.inr (Or.inl h)
  · exact Or.inr (Or.inr ⟨j, by omega, h⟩)
theorem GF_cV {q : Nat} (h : GF S T U σ τ) (hq : isSt (sK σ) q) (hS : ∀ a, q ≤ a → a ≤ q + 12 → ¬ S a) (hT : ∀ k, ¬ T q k) : cV τ q = cV σ q := by
  have hl := st_lt hq
  funext j
  by_cases hj : j < 516
  · obtain ⟨s, hs, hs2, -, -, he⟩ := cV_row σ q j hj
    rw [he, he, h.1 (q + s) (hS _ (by omega) (by omega)) (by omega)]
  · rw [cV_sc _ _ _ hj, cV_sc _ _ _ hj, h.2.1 q 13 (hT _) (by omega), h.2.1 q 14 (hT _) (by omega), h.2.1 q 15 (hT _) (by omega), h.2.1 q 16 (hT _) (by omega), h.2.1 q 17 (hT _) (by omega)]
end GFs
/-- all places that hold a state: 0 the one at hand, 1 to 40 acts, 41 to 43 boxes -/
def PT (σ : ZS) (i : Nat) : Option Nat := if i = 0 then some (sNow σ) else if i < 41 then sQ σ 67 (i - 1) else sQ σ 75 (i - 41)
def PTR (σ : ZS) : Prop := (∀ i p, i < 44 → PT σ i = some p → isSt (sK σ) p ∧ p ≠ 42) ∧ ∀ i j p, i < 44 → j < 44 → PT σ i = some p → PT σ j = some p → i = j
theorem PT_0 (σ : ZS) : PT σ 0 = some (sNow σ) := rfl
theorem PT_h {σ : ZS} {i : Nat} (hi : i < 40) : PT σ (i + 1) = sQ σ 67 i := by
  unfold PT
  rw [if_neg (by omega), if_pos (by omega), show i + 1 - 1 = i by omega]
theorem PT_b {σ : ZS} {i : Nat} : PT σ (i + 41) = sQ σ 75 i := by
  unfold PT
  rw [if_neg (by omega), if_neg (by omega), show i + 41 - 41 = i by omega]
/-- acts: what changes -/
def kT (p a k : Nat) : Prop := qT p a k ∨ (a = 66 ∧ (k = 2 ∨ k = 3))
def kU (a _k : Nat) : Prop := a = 67
theorem c_keep49 {σ : ZS} {p q c : Nat} (hp : isSt (sK σ) p) (hq : isSt (sK σ) q) (hpq : q ≠ p) (h2 : sI σ 66 2 = nI c) : ∃ τ, xX1_keep_B49 66 q p (mkH σ) = some (mkH τ) ∧ sI τ 66 2 = nI (c + 1) ∧ sI τ 66 3 = 0 ∧ cV τ p = cV σ q ∧ FR (qS p) (kT p) σ τ := by
  have hp3 := st_in hp
  obtain ⟨υ, u1, u2, u3⟩ := c_copy hq hp hpq
  have r2 : sI υ 66 2 = nI c := by rw [u3.2.1 66 2 (by unfold qT; omega)]; exact h2
  have hF : FR (qS p) (kT p) σ υ := FR_m u3 (fun _ z => z) (fun _ _ z => Or.inl z)
  refine ⟨setI (setI υ 66 2 (nI (c + 1))) 66 3 0, ?_, ?_, sI_eq, ?_, FR_t hF (FR_t (FR_I (Or.inr ⟨rfl, Or.inl rfl⟩)) (FR_I (Or.inr ⟨rfl, Or.inr rfl⟩)))⟩
  · simp only [xX1_keep_B49, is_S hp, gu_t, u1, Option.bind_some, rI_66_2, r2, nI_s, wI_66_2, wI_66_3]
  · rw [sI_ne (by omega), sI_eq]
  · rw [← u2]
    exact cV_o (S := fun _ => False) (T := fun a _ => a = 66) (FR_t (FR_I rfl) (FR_I rfl)) (fun _ _ _ z => z) (fun k z => by omega)
theorem mk_2 (σ : ZS) : (mkH σ).2 = 118 + 13 * sK σ := rfl
/-- a state for the next act: one that is there, or a new one -/
theorem c_keep13 {σ : ZS} {q c : Nat} (hq : isSt (sK σ) q) (hc : c < 40) (hn : ∀ p, sQ σ 67 c = some p → isSt (sK σ) p ∧ p ≠ q) (h2 : sI σ 66 2 = nI c) : ∃ τ p, xX1_keep_B13 66 q (mkH σ) = some (mkH τ) ∧ sI τ 66 2 = nI (c + 1) ∧ sI τ 66 3 = 0 ∧ cV τ p = cV σ q ∧ sQ τ 67 c = some p ∧ (∀ i, i ≠ c → sQ τ 67 i = sQ σ 67 i) ∧ (sQ σ 67 c = some p ∨ (sQ σ 67 c = none ∧ p = 118 + 13 * sK σ)) ∧ isSt (sK τ) p ∧ p ≠ q ∧ sNow τ = sNow σ ∧ GF (qS p) (kT p) kU σ τ := by
  cases hs : sQ σ 67 c with
  | some p =>
    obtain ⟨hp, hpq⟩ := hn p hs
    obtain ⟨τ, t1, t2, t3, t4, t5⟩ := c_keep49 hp hq (Ne.symm hpq) h2
    have g : GF (qS p) (kT p) kU σ τ := GF_f t5
    have hQ : ∀ a k, sQ τ a k = sQ σ a k := fun a k => by show τ.2.2.2.2.2.2.1 a k = _; rw [t5.2.2]
    refine ⟨τ, p, ?_, t2, t3, t4, by rw [hQ, hs], fun i _ => hQ 67 i, Or.inl rfl, st_mono hp g.2.2.2.2.2.2.2, hpq, FR_now t5, g⟩
    simp only [xX1_keep_B13, rR_66_1, rI_66_2, h2, Option.bind_some, ra_67 σ hc, hs]
    exact t1
  | none =>
    have hl := st_lt hq
    have hq1 : isSt (sK (growS σ)) q := gr_mono hq
    have hF : isSt (sK (setQ (growS σ) 67 c (some (118 + 13 * sK σ)))) (118 + 13 * sK σ) := gr_st
    have h66 : sI (growS σ) 66 2 = nI c := by rw [gr_I (by omega)]; exact h2
    obtain ⟨τ, t1, t2, t3, t4, t5⟩ := c_keep49 (σ := setQ (growS σ) 67 c (some (118 + 13 * sK σ))) (p := 118 + 13 * sK σ) (q := q) (c := c) hF hq1 (by omega) h66
    have hQ : ∀ a k, sQ τ a k = sQ (setQ (growS σ) 67 c (some (118 + 13 * sK σ))) a k := fun a k => by show τ.2.2.2.2.2.2.1 a k = _; rw [t5.2.2]
    have g : GF (qS (118 + 13 * sK σ)) (kT (118 + 13 * sK σ)) kU σ τ := GF_t (GF_t GF_g (GF_q rfl)) (GF_f t5)
    have hv : cV (setQ (growS σ) 67 c (some (118 + 13 * sK σ))) q = cV σ q := by
      rw [← gr_cV hq]
      rfl
    refine ⟨τ, 118 + 13 * sK σ, ?_, t2, t3, by rw [t4, hv], by rw [hQ, sQ_eq], fun i hi => ?_, Or.inr ⟨rfl, rfl⟩, ?_, by omega, ?_, g⟩
    · simp only [xX1_keep_B13, rR_66_1, rI_66_2, h2, Option.bind_some, ra_67 σ hc, hs]
      simp only [z_nw, Option.bind_some, mk_2, gH_R (show 66 ≠ 118 + 13 * sK σ by omega), rR_66_0, new_init, rR_66_1, rI_66_2, h66, wa_67 (σ := growS σ) hc gr_st]
      exact t1
    · rw [hQ, sQ_ne (by omega)]
      rfl
    · have := FR_K t5
      rw [this]
      exact hF
    · rw [FR_now t5]
      rfl
theorem c_drop {σ : ZS} {c p0 : Nat} (hc : c + 1 = 40) (h0 : sQ σ 67 0 = some p0) (hp0 : isSt (sK σ) p0) (hall : ∀ i, i < 40 → ∃ p, sQ σ 67 i = some p ∧ isSt (sK σ) p) (h2 : sI σ 66 2 = nI (c + 1)) : ∃ τ, xX1_dropOldest 66 (mkH σ) = some (mkH τ) ∧ sI τ 66 2 = nI c ∧ (∀ i, i < c → sQ τ 67 i = sQ σ 67 (i + 1)) ∧ sQ τ 67 c = some p0 ∧ sNow τ = sNow σ ∧ sK τ = sK σ ∧ GF (fun _ => False) (fun a k => a = 66 ∧ k = 2) kU σ τ := by
  obtain ⟨e, he⟩ := zfu c (by omega)
  have c40 : (40 : Int32) = nI (c + 1) := by rw [hc]; rfl
  have c39 : (39 : Int32) = nI c := by rw [show c = 39 by omega]; rfl
  have key := lpC (fun e k (τ : ZS) => xX1_dropOldest_L9 e 66 p0 (nI (k + 1)) (mkH τ)) (fun τ => xX1_dropOldest_B35 66 p0 (mkH τ)) c (fun k τ => GF (fun _ => False) (fun a k => a = 66 ∧ k = 2) kU σ τ ∧ sNow τ = sNow σ ∧ sK τ = sK σ ∧ sI τ 66 2 = nI (c + 1) ∧ (∀ i, i < k → sQ τ 67 i = sQ σ 67 (i + 1)) ∧ ∀ i, k ≤ i → sQ τ 67 i = sQ σ 67 i) ?_ ?_ c 0 σ e (by omega) ⟨GF_r, rfl, rfl, h2, fun j hj => absurd hj (Nat.not_lt_zero j), fun _ _ => rfl⟩
  · obtain ⟨τ, hv, hG, hN, hK, hI, hA, hO⟩ := key
    have e39 : nI (c + 1) - (1 : Int32) = nI c := nI_pred c
    refine ⟨setI (setQ τ 67 c (some p0)) 66 2 (nI c), ?_, sI_eq, fun i hi => ?_, ?_, hN, hK, GF_t hG (GF_t (GF_q rfl) (GF_f (FR_I ⟨rfl, rfl⟩)))⟩
    · simp only [xX1_dropOldest, rR_66_1, Option.bind_some, nl_0, ra_67 σ (show 0 < 40 by omega), h0]
      rw [he]
      refine hv.trans ?_
      have hI2 : sI (setQ τ 67 c (some p0)) 66 2 = nI (c + 1) := hI
      simp only [xX1_dropOldest_B35, rR_66_1, Option.bind_some, c39, wa_67 (σ := τ) (show c < 40 by omega) (by rw [hK]; exact hp0), rI_66_2, hI2, e39, wI_66_2]
    · show sQ (setQ τ 67 c (some p0)) 67 i = _
      rw [sQ_ne (by omega)]
      exact hA i hi
    · show sQ (setQ τ 67 c (some p0)) 67 c = _
      exact sQ_eq
  · rintro e k τ hk ⟨hG, hN, hK, hI, hA, hO⟩
    have hB : xX1_dropOldest_L9 (e + 1) 66 p0 (nI (k + 1)) (mkH τ) = xX1_dropOldest_B9 (xX1_dropOldest_L9 e) 66 p0 (nI (k + 1)) (mkH τ) := rfl
    obtain ⟨p, hp, hpS⟩ := hall (k + 1) (by omega)
    have hq : sQ τ 67 (k + 1) = some p := by rw [hO (k + 1) (by omega)]; exact hp
    have e1 : nI (k + 1) - (1 : Int32) = nI k := nI_pred k
    simp only [hB, xX1_dropOldest_B9, c40, rR_66_1, Option.bind_some, ra_67 τ (show k + 1 < 40 by omega), hq, e1, wa_67 (σ := τ) (show k < 40 by omega) (by rw [hK]; exact hpS), nI_s]
    rw [if_neg (fun z => by have := (nI_leI (by omega) (by omega)).mp z; omega)]
    refine ⟨_, rfl, GF_t hG (GF_q rfl), hN, hK, hI, fun i hi => ?_, fun i hi => ?_⟩
    · by_cases h : i = k
      · rw [h, sQ_eq, hp]
      · rw [sQ_ne (by omega)]; exact hA i (by omega)
    · rw [sQ_ne (by omega)]; exact hO i (by omega)
  · rintro e τ ⟨hG, hN, hK, hI, hA, hO⟩
    show xX1_dropOldest_B9 (xX1_dropOldest_L9 e) 66 p0 (nI (c + 1)) (mkH τ) = _
    simp only [xX1_dropOldest_B9, c40]
    rw [if_pos ((nI_leI (by omega) (by omega)).mpr (Nat.le_refl _))]
theorem PTR_map {σ τ : ZS} (m : Nat → Nat) (hm : ∀ i, i < 44 → m i < 44) (hi : ∀ i j, i < 44 → j < 44 → m i = m j → i = j) (he : ∀ i, i < 44 → PT τ i = PT σ (m i)) (hK : sK σ ≤ sK τ) (h : PTR σ) : PTR τ := by
  refine ⟨fun i p hi4 hp => ?_, fun i j p h1 h2 hp hq => ?_⟩
  · rw [he i hi4] at hp
    obtain ⟨q1, q2⟩ := h.1 (m i) p (hm i hi4) hp
    exact ⟨st_mono q1 hK, q2⟩
  · rw [he i h1] at hp
    rw [he j h2] at hq
    exact hi i j h1 h2 (h.2 (m i) (m j) p (hm i h1) (hm j h2) hp hq)
theorem PTR_new {σ τ : ZS} {s : Nat} (hs : s < 44) (he : ∀ i, i < 44 → i ≠ s → PT τ i = PT σ i) (hp : PT τ s = some (118 + 13 * sK σ)) (hst : isSt (sK τ) (118 + 13 * sK σ)) (hK : sK σ ≤ sK τ) (h : PTR σ) : PTR τ := by
  have hne : ∀ i p, i < 44 → PT σ i = some p → p ≠ 118 + 13 * sK σ := fun i p h1 h2 z => by
    have := st_lt (h.1 i p h1 h2).1
    omega
  refine ⟨fun i p hi4 hq => ?_, fun i j p h1 h2 hq hr => ?_⟩
  · by_cases hi : i = s
    · subst hi
      rw [hp] at hq
      have := Option.some.inj hq
      subst this
      exact ⟨hst, by omega⟩
    · rw [he i hi4 hi] at hq
      obtain ⟨q1, q2⟩ := h.1 i p hi4 hq
      exact ⟨st_mono q1 hK, q2⟩
  · by_cases hi : i = s
    · by_cases hj : j = s
      · rw [hi, hj]
      · subst hi
        rw [hp] at hq
        rw [he j h2 hj] at hr
        exact absurd (Option.some.inj hq).symm (hne j p h2 hr)
    · by_cases hj : j = s
      · subst hj
        rw [hp] at hr
        rw [he i h1 hi] at hq
        exact absurd (Option.some.inj hr).symm (hne i p h1 hq)
      · rw [he i h1 hi] at hq
        rw [he j h2 hj] at hr
        exact h.2 i j p h1 h2 hq hr
theorem c_keep {σ : ZS} {dn : Nat} (hP : PTR σ) (hd : dn ≤ 40) (h2 : sI σ 66 2 = nI dn) (hall : ∀ i, i < dn → ∃ p, sQ σ 67 i = some p) : ∃ τ p c, xX1_keep 66 (sNow σ) (mkH σ) = some (mkH τ) ∧ ((dn = 40 ∧ c + 1 = 40) ∨ (dn < 40 ∧ c = dn)) ∧ sI τ 66 2 = nI (c + 1) ∧ sI τ 66 3 = 0 ∧ sQ τ 67 c = some p ∧ cV τ p = cV σ (sNow σ) ∧ (∀ i, i < c → sQ τ 67 i = if dn = 40 then sQ σ 67 (i + 1) else sQ σ 67 i) ∧ sNow τ = sNow σ ∧ PTR τ ∧ GF (qS p) (kT p) kU σ τ := by
  have hn0 := hP.1 0 (sNow σ) (by omega) (PT_0 σ)
  simp only [xX1_keep, rI_66_2, h2, Option.bind_some]
  by_cases h40 : dn = 40
  · rw [if_pos (by rw [h40]; rfl)]
    obtain ⟨c, hc⟩ : ∃ c : Nat, c + 1 = 40 := ⟨39, rfl⟩
    have hall2 : ∀ i, i < 40 → ∃ p, sQ σ 67 i = some p ∧ isSt (sK σ) p := fun i hi => by
      obtain ⟨p, hp⟩ := hall i (by omega)
      exact ⟨p, hp, (hP.1 (i + 1) p (by omega) (by rw [PT_h hi]; exact hp)).1⟩
    obtain ⟨p0, hp0, hs0⟩ := hall2 0 (by omega)
    obtain ⟨υ, u1, u2, u3, u4, u5, u6, u7⟩ := c_drop hc hp0 hs0 hall2 (by rw [h2, h40, hc])
    have hne : p0 ≠ sNow σ := fun z => by
      have := hP.2 1 0 p0 (by omega) (by omega) (by rw [PT_h (i := 0) (by omega)]; exact hp0) (by rw [PT_0, z])
      omega
    have hqu : isSt (sK υ) (sNow σ) := by rw [u6]; exact hn0.1
    obtain ⟨τ, p, t1, t2, t3, t4, t5, t6, t7, t8, t9, t10, t11⟩ := c_keep13 (σ := υ) (q := sNow σ) (c := c) hqu (by omega) (fun p hp => by
      rw [u4] at hp
      have := Option.some.inj hp
      subst this
      exact ⟨by rw [u6]; exact hs0, hne⟩) u2
    have hpp : p = p0 := by
      rcases t7 with h | ⟨h, -⟩
      · rw [u4] at h; exact (Option.some.inj h).symm
      · rw [u4] at h; cases h
    subst hpp
    have hb : ∀ k, sQ τ 75 k = sQ σ 75 k := fun k => by rw [t11.2.2.1 75 k (by unfold kU; omega), u7.2.2.1 75 k (by unfold kU; omega)]
    have g : GF (qS p) (kT p) kU σ τ := GF_t (GF_m u7 (fun _ z => z.elim) (fun a k z => Or.inr ⟨z.1, Or.inl z.2⟩) (fun _ _ z => z)) t11
    have hv : cV υ (sNow σ) = cV σ (sNow σ) := GF_cV u7 hn0.1 (fun _ _ _ z => z) (fun k z => by have := st_in hn0.1; omega)
    refine ⟨τ, p, c, ?_, Or.inl ⟨h40, hc⟩, t2, t3, t5, by rw [t4, hv], fun i hi => ?_, by rw [t10, u5], ?_, g⟩
    · simp only [is_66, gu_t, u1, Option.bind_some]
      exact t1
    · rw [if_pos h40, t6 i (by omega), u3 i hi]
    · refine PTR_map (fun i => if i = 0 then 0 else if i < 40 then i + 1 else if i = 40 then 1 else i) ?_ ?_ ?_ g.2.2.2.2.2.2.2 hP
      · intro i hi
        show (if i = 0 then 0 else if i < 40 then i + 1 else if i = 40 then 1 else i) < 44
        repeat' split
        all_goals omega
      · intro i j hi hj h
        replace h : (if i = 0 then 0 else if i < 40 then i + 1 else if i = 40 then 1 else i) = (if j = 0 then 0 else if j < 40 then j + 1 else if j = 40 then 1 else j) := h
        revert h
        repeat' split
        all_goals omega
      · intro i hi
        show PT τ i = PT σ (if i = 0 then 0 else if i < 40 then i + 1 else if i = 40 then 1 else i)
        by_cases i0 : i = 0
        · rw [if_pos i0, i0, PT_0, PT_0, t10, u5]
        · rw [if_neg i0]
          by_cases i1 : i < 40
          · rw [if_pos i1]
            have e1 := PT_h (σ := τ) (i := i - 1) (by omega)
            rw [show i - 1 + 1 = i by omega] at e1
            rw [e1, PT_h i1, t6 (i - 1) (by omega), u3 (i - 1) (by omega), show i - 1 + 1 = i by omega]
          · rw [if_neg i1]
            by_cases i2 : i = 40
            · rw [if_pos i2]
              have e1 := PT_h (σ := τ) (i := c) (by omega)
              rw [show c + 1 = i by omega] at e1
              rw [e1, t5]
              exact (hp0.symm.trans (PT_h (σ := σ) (i := 0) (by omega)).symm)
            · rw [if_neg i2]
              have e1 := PT_b (σ := τ) (i := i - 41)
              have e2 := PT_b (σ := σ) (i := i - 41)
              rw [show i - 41 + 41 = i by omega] at e1 e2
              rw [e1, e2, hb]
  · rw [if_neg (show ¬ nI dn = 40 from fun z => h40 ((nI_eq (by omega) (show 40 < 2 ^ 31 by decide)).mp z))]
    have hlt : dn < 40 := by omega
    obtain ⟨τ, p, t1, t2, t3, t4, t5, t6, t7, t8, t9, t10, t11⟩ := c_keep13 (σ := σ) (q := sNow σ) (c := dn) hn0.1 hlt (fun p hp => by
      have hq := hP.1 (dn + 1) p (by omega) (by rw [PT_h hlt]; exact hp)
      refine ⟨hq.1, fun z => ?_⟩
      have := hP.2 (dn + 1) 0 p (by omega) (by omega) (by rw [PT_h hlt]; exact hp) (by rw [PT_0, z])
      omega) h2
    have hb : ∀ k, sQ τ 75 k = sQ σ 75 k := fun k => t11.2.2.1 75 k (by unfold kU; omega)
    have hE : ∀ i, i < 44 → i ≠ dn + 1 → PT τ i = PT σ i := by
      intro i hi hne
      by_cases i0 : i = 0
      · rw [i0, PT_0, PT_0, t10]
      · by_cases i1 : i < 41
        · have e1 := PT_h (σ := τ) (i := i - 1) (by omega)
          have e2 := PT_h (σ := σ) (i := i - 1) (by omega)
          rw [show i - 1 + 1 = i by omega] at e1 e2
          rw [e1, e2, t6 (i - 1) (by omega)]
        · have e1 := PT_b (σ := τ) (i := i - 41)
          have e2 := PT_b (σ := σ) (i := i - 41)
          rw [show i - 41 + 41 = i by omega] at e1 e2
          rw [e1, e2, hb]
    refine ⟨τ, p, dn, t1, Or.inr ⟨hlt, rfl⟩, t2, t3, t5, t4, fun i hi => ?_, t10, ?_, t11⟩
    · rw [if_neg h40, t6 i (by omega)]
    · rcases t7 with h | ⟨-, h⟩
      · refine PTR_map id (fun i hi => hi) (fun i j _ _ h => h) (fun i hi => ?_) t11.2.2.2.2.2.2.2 hP
        show PT τ i = PT σ i
        by_cases hne : i = dn + 1
        · rw [hne, PT_h hlt, PT_h hlt, t5, h]
        · exact hE i hi hne
      · refine PTR_new (s := dn + 1) (by omega) hE (by rw [PT_h hlt, t5, h]) (by rw [← h]; exact t8) t11.2.2.2.2.2.2.2 hP
/-- a state of the acts against the one at hand -/
theorem c_exch {σ : ZS} {i p : Nat} (hP : PTR σ) (hi : i < 40) (hp : sQ σ 67 i = some p) : xX1_exchange 66 (nI i) (sNow σ) (mkH σ) = some (p, mkH (setQ σ 67 i (some (sNow σ)))) := by
  have hn0 := hP.1 0 (sNow σ) (by omega) (PT_0 σ)
  simp only [xX1_exchange, rR_66_1, Option.bind_some, ra_67 σ hi, hp, wa_67 hi hn0.1]
theorem PTR_ex {σ : ZS} {i p : Nat} (hP : PTR σ) (hi : i < 40) (hp : sQ σ 67 i = some p) : PTR (setNow (setQ σ 67 i (some (sNow σ))) p) := by
  refine PTR_map (σ := σ) (fun k => if k = 0 then i + 1 else if k = i + 1 then 0 else k) ?_ ?_ ?_ (Nat.le_refl _) hP
  · intro k hk
    show (if k = 0 then i + 1 else if k = i + 1 then 0 else k) < 44
    repeat' split
    all_goals omega
  · intro k j hk hj h
    replace h : (if k = 0 then i + 1 else if k = i + 1 then 0 else k) = (if j = 0 then i + 1 else if j = i + 1 then 0 else j) := h
    revert h
    repeat' split
    all_goals omega
  · intro k hk
    show PT (setNow (setQ σ 67 i (some (sNow σ))) p) k = PT σ (if k = 0 then i + 1 else if k = i + 1 then 0 else k)
    by_cases k0 : k = 0
    · rw [if_pos k0, k0, PT_h hi, hp]
      rfl
    · rw [if_neg k0]
      by_cases k1 : k = i + 1
      · rw [if_pos k1, k1, PT_h hi, PT_0]
        show sQ (setQ σ 67 i (some (sNow σ))) 67 i = _
        rw [sQ_eq]
      · rw [if_neg k1]
        unfold PT
        rw [if_neg k0, if_neg k0]
        by_cases k2 : k < 41
        · rw [if_pos k2, if_pos k2]
          show sQ (setQ σ 67 i (some (sNow σ))) 67 (k - 1) = _
          rw [sQ_ne (by omega)]
        · rw [if_neg k2, if_neg k2]
          show sQ (setQ σ 67 i (some (sNow σ))) 75 (k - 41) = _
          rw [sQ_ne (by omega)]
