/-! sure, ask -/
theorem c_least {τ : ZS} {m : Nat → Bool} (hm : ∀ v, v < 100 → sF τ 74 v = if m v then 1 else 0) : ∀ j k e, k + j = 100 → ((∀ v, k ≤ v → v < 100 → m v = false) → xX4_least_L2 (e + j + 1) 68 (nI k) (mkH τ) = some (-1, mkH τ)) ∧ ∀ v0, k ≤ v0 → v0 < 100 → m v0 = true → (∀ v, k ≤ v → v < v0 → m v = false) → xX4_least_L2 (e + j + 1) 68 (nI k) (mkH τ) = some (nI v0, mkH τ) := by
  intro j
  induction j with
  | zero =>
    intro k e hk
    refine ⟨fun _ => ?_, fun v0 h1 h2 => by omega⟩
    show xX4_least_B2 (xX4_least_L2 (e + 0)) 68 (nI k) (mkH τ) = _
    unfold xX4_least_B2
    rw [if_pos (show (100 : Int32) ≤ nI k by rw [show k = 100 by omega]; decide)]
  | succ j ih =>
    intro k e hk
    have hB : xX4_least_L2 (e + (j + 1) + 1) 68 (nI k) (mkH τ) = if m k = true then some (nI k, mkH τ) else xX4_least_L2 (e + j + 1) 68 (nI (k + 1)) (mkH τ) := by
      show xX4_least_B2 (xX4_least_L2 (e + (j + 1))) 68 (nI k) (mkH τ) = _
      rw [show e + (j + 1) = e + j + 1 by omega]
      generalize xX4_least_L2 (e + j + 1) = nl
      unfold xX4_least_B2
      rw [if_neg (fun z => by rw [nl_100] at z; have := (nI_leI (by omega) (by omega)).mp z; omega), rR_68_6, Option.bind_some, ra_74 τ (by omega), Option.bind_some, hm k (by omega), nI_s]
      by_cases h : m k = true
      · rw [if_pos h, if_pos h, if_neg (by decide)]
      · rw [if_neg h, if_neg h, if_pos rfl]
    obtain ⟨i1, i2⟩ := ih (k + 1) e (by omega)
    refine ⟨fun h => ?_, fun v0 h1 h2 h3 h4 => ?_⟩
    · rw [hB, if_neg (by rw [h k (Nat.le_refl _) (by omega)]; decide)]
      exact i1 (fun v v1 v2 => h v (by omega) v2)
    · rw [hB]
      by_cases hk0 : k = v0
      · subst hk0
        rw [if_pos h3]
      · rw [if_neg (by rw [h4 k (Nat.le_refl _) (by omega)]; decide)]
        exact i2 v0 (by omega) h2 h3 (fun v v1 v2 => h4 v (by omega) v2)
theorem c_great {τ : ZS} {m : Nat → Bool} (hm : ∀ v, v < 100 → sF τ 74 v = if m v then 1 else 0) : ∀ k e, k < 100 → ((∀ v, v ≤ k → m v = false) → xX4_greatest_L3 (e + k + 2) 68 (nI k) (mkH τ) = some (-1, mkH τ)) ∧ ∀ v0, v0 ≤ k → m v0 = true → (∀ v, v0 < v → v ≤ k → m v = false) → xX4_greatest_L3 (e + k + 2) 68 (nI k) (mkH τ) = some (nI v0, mkH τ) := by
  have hB : ∀ k e, k < 100 → xX4_greatest_L3 (e + 1) 68 (nI k) (mkH τ) = if m k = true then some (nI k, mkH τ) else xX4_greatest_L3 e 68 (nI k + (-1)) (mkH τ) := by
    intro k e hk
    show xX4_greatest_B3 (xX4_greatest_L3 e) 68 (nI k) (mkH τ) = _
    generalize xX4_greatest_L3 e = nl
    unfold xX4_greatest_B3
    rw [if_neg (nI_pos (by omega)), rR_68_6, Option.bind_some, ra_74 τ hk, Option.bind_some, hm k hk]
    by_cases h : m k = true
    · rw [if_pos h, if_pos h, if_neg (by decide)]
    · rw [if_neg h, if_neg h, if_pos rfl]
  intro k
  induction k with
  | zero =>
    intro e hk
    refine ⟨fun h => ?_, fun v0 h1 h2 h3 => ?_⟩
    · rw [show e + 0 + 2 = (e + 1) + 1 by omega, hB 0 (e + 1) hk, if_neg (by rw [h 0 (Nat.le_refl _)]; decide)]
      show xX4_greatest_B3 (xX4_greatest_L3 e) 68 (nI 0 + (-1)) (mkH τ) = _
      unfold xX4_greatest_B3
      rw [if_pos (by decide)]
    · have : v0 = 0 := by omega
      subst this
      rw [show e + 0 + 2 = (e + 1) + 1 by omega, hB 0 (e + 1) hk, if_pos h2]
  | succ k ih =>
    intro e hk
    obtain ⟨i1, i2⟩ := ih e (by omega)
    refine ⟨fun h => ?_, fun v0 h1 h2 h3 => ?_⟩
    · rw [show e + (k + 1) + 2 = (e + k + 2) + 1 by omega, hB (k + 1) (e + k + 2) hk, if_neg (by rw [h (k + 1) (Nat.le_refl _)]; decide), pk_m1]
      exact i1 (fun v hv => h v (by omega))
    · rw [show e + (k + 1) + 2 = (e + k + 2) + 1 by omega, hB (k + 1) (e + k + 2) hk]
      by_cases hv : v0 = k + 1
      · subst hv
        rw [if_pos h2]
      · rw [if_neg (by rw [h3 (k + 1) (by omega) (Nat.le_refl _)]; decide), pk_m1]
        exact i2 v0 (by omega) h2 (fun v v1 v2 => h3 v v1 (by omega))
section SU
variable {σ : ZS} {bk c : Nat} {P : Nat → Nat} {D X : Nat → Nat → Int32}
theorem r_up (R : RP σ bk P) (W : PW P) (hX : XP σ bk P X) (I : IE σ P c D) (k : Int32) {v0 : Nat} (h0 : fiB D X (P 2) (P 0) c k (nI v0) = true) : ∀ j a e, a + j = v0 → (∀ v, a ≤ v → v < v0 → fiB D X (P 2) (P 0) c k (nI v) = false) → xX9_sure_L30 (e + j + 1) 78 0 k (nI a) (mkH σ) = some (nI v0, mkH σ) := by
  intro j
  induction j with
  | zero =>
    intro a e ha _
    have : a = v0 := by omega
    subst this
    show xX9_sure_B30 (xX9_sure_L30 (e + 0)) 78 0 k (nI a) (mkH σ) = _
    generalize xX9_sure_L30 (e + 0) = nl
    unfold xX9_sure_B30
    rw [is_78, gu_t, r_fit R W hX I, Option.bind_some, h0]
    rfl
  | succ j ih =>
    intro a e ha h
    have hh := ih (a + 1) e (by omega) (fun v v1 v2 => h v (by omega) v2)
    rw [← hh]
    show xX9_sure_B30 (xX9_sure_L30 (e + (j + 1))) 78 0 k (nI a) (mkH σ) = _
    rw [show e + (j + 1) = e + j + 1 by omega]
    generalize xX9_sure_L30 (e + j + 1) = nl
    unfold xX9_sure_B30
    rw [is_78, gu_t, r_fit R W hX I, Option.bind_some, h a (Nat.le_refl _) (by omega), nI_s]
    rfl
theorem r_dn (R : RP σ bk P) (W : PW P) (hX : XP σ bk P X) (I : IE σ P c D) (k : Int32) {v0 : Nat} (h0 : fiB D X (P 2) (P 0) c k (nI v0) = true) : ∀ j e, (∀ v, v0 < v → v ≤ v0 + j → fiB D X (P 2) (P 0) c k (nI v) = false) → xX9_sure_L30 (e + j + 1) 78 1 k (nI (v0 + j)) (mkH σ) = some (nI v0, mkH σ) := by
  intro j
  induction j with
  | zero =>
    intro e _
    show xX9_sure_B30 (xX9_sure_L30 (e + 0)) 78 1 k (nI v0) (mkH σ) = _
    generalize xX9_sure_L30 (e + 0) = nl
    unfold xX9_sure_B30
    rw [is_78, gu_t, r_fit R W hX I, Option.bind_some, h0]
    rfl
  | succ j ih =>
    intro e h
    have hh := ih e (fun v v1 v2 => h v v1 (by omega))
    rw [← hh]
    show xX9_sure_B30 (xX9_sure_L30 (e + (j + 1))) 78 1 k (nI (v0 + (j + 1))) (mkH σ) = _
    rw [show e + (j + 1) = e + j + 1 by omega, show v0 + (j + 1) = v0 + j + 1 by omega]
    generalize xX9_sure_L30 (e + j + 1) = nl
    unfold xX9_sure_B30
    rw [is_78, gu_t, r_fit R W hX I, Option.bind_some, h (v0 + j + 1) (by omega) (by omega)]
    show (if (0 : Int32) = 0 then (if (1 : Int32) = 0 then nl 78 1 k (nI (v0 + j + 1) + 1) (mkH σ) else nl 78 1 k (nI (v0 + j + 1) + -1) (mkH σ)) else _) = _
    rw [if_pos rfl, if_neg (by decide), pk_m1]
end SU
theorem sure_w {w : Int32} : (0 ≤ w ∧ w ≤ 1) ↔ (w = 0 ∨ w = 1) := by
  constructor
  · intro z
    obtain ⟨j, hj, e⟩ := nI_of2 (x := w) (M := 1) (n := 1) (by decide) (Int32.not_lt.mpr z.1) z.2
    rcases (show j = 0 ∨ j = 1 by omega) with rfl | rfl
    · exact Or.inl e
    · exact Or.inr e
  · rintro (h | h) <;> rw [h] <;> decide
theorem q_sure (w k : Int32) : QOK (xX8_sure 8 w k) (xX9_sure 78 w k) := by
  refine Q_sc fun σ bk P on fo len X I => ?_
  by_cases hw : w = 0 ∨ w = 1
  · obtain ⟨⟨W, F, E, C, hX⟩, -, is, -⟩ := id I
    obtain ⟨c, D, ie⟩ := IE_of is
    obtain ⟨τ, t1, t2, t3, t4⟩ := c_sift C.1 W hX ie k
    have w0 := W.1
    generalize hm : mayB D X (P 2) (P 0) c k = m at t1 t2 t3
    have hle := cnM_le (m := m) 100
    have hCx : ∀ v, (if w = 0 then xX4_least 68 (mkH τ) else xX4_greatest 68 (mkH τ)) = some (v, mkH τ) → xX8_sure 8 w k (mkH σ) = some (v, mkH τ) := by
      intro v hv
      have e0 : xX8_sure 8 w k (mkH σ) = xX8_sure_B11 8 w k (mkH σ) := by
        unfold xX8_sure
        rcases hw with h | h
        · rw [if_pos h]
        · rw [if_neg (by rw [h]; decide), if_pos h]
      rw [e0]
      unfold xX8_sure_B11
      generalize xX4_sift = sf at *
      generalize xX4_least = ls at *
      generalize xX4_greatest = gr at *
      rw [rR_8_12, Option.bind_some, is_68, gu_t, t1, Option.bind_some]
      show (if w = 0 then ((z_gR (mkH τ) 8 8 12).bind fun x25 => (z_gu (z_is (mkH τ) x25 4) ((ls x25 (mkH τ)).bind fun r28 => some (r28.1, r28.2)))) else ((z_gR (mkH τ) 8 8 12).bind fun x35 => (z_gu (z_is (mkH τ) x35 4) ((gr x35 (mkH τ)).bind fun r38 => some (r38.1, r38.2))))) = _
      by_cases h : w = 0
      · rw [if_pos h] at hv ⊢
        rw [rR_8_12, Option.bind_some, is_68, gu_t, hv, Option.bind_some]
      · rw [if_neg h] at hv ⊢
        rw [rR_8_12, Option.bind_some, is_68, gu_t, hv, Option.bind_some]
    have hR2 : ∀ (I2 : IV τ bk P on fo len X), RP τ bk P ∧ XP τ bk P X ∧ IE τ P c D := fun I2 => ⟨I2.1.2.2.1.1, XP_q (sc_sf t4) hX E.1.2.1 W.1, IE_f t4 (fun a h z => by omega) ⟨by omega, by omega⟩ ie⟩
    by_cases hz : ∀ v, v < 100 → m v = false
    · have h0 : cnM m 100 = 0 := (cnM_0 100).mpr hz
      refine ⟨-1, τ, hCx (-1) ?_, sc_sf t4, fun I2 h4 => ⟨τ, ?_, sc_4 FR_r⟩⟩
      · by_cases h : w = 0
        · rw [if_pos h]
          obtain ⟨e, he⟩ := zfu 100 (by omega)
          unfold xX4_least
          rw [he, ← nI_0]
          exact (c_least t2 100 0 e (by omega)).1 (fun v _ hv => hz v hv)
        · rw [if_neg h]
          obtain ⟨e, he⟩ := zfu 100 (by omega)
          unfold xX4_greatest
          rw [he, show e + 100 + 1 = e + 99 + 2 by omega, nl_99]
          exact (c_great t2 99 e (by omega)).1 (fun v hv => hz v (by omega))
      · obtain ⟨R2, X2, IE2⟩ := hR2 I2
        have hf := r_fits R2 W X2 IE2 k
        rw [hm, h0] at hf
        unfold xX9_sure
        rw [r_isIn, Option.bind_some, if_pos (sure_w.mpr hw), if_neg (show ¬ (1 : Int32) = 0 by decide)]
        show z_gu (z_is (mkH τ) 78 9) ((xX9_fits 78 k (mkH τ)).bind fun r11 => (if r11.1 = 0 then some ((-1 : Int32), r11.2) else (if w = 0 then xX9_sure_L30 zFU 78 w k (0 : Int32) r11.2 else xX9_sure_L30 zFU 78 w k (99 : Int32) r11.2))) = _
        rw [is_78, gu_t, hf, Option.bind_some, if_pos nI_0]
    · have hne : ∃ v, v < 100 ∧ m v = true := by
        apply Classical.byContradiction
        intro hn
        exact hz (fun v hv => by
          cases h : m v
          · rfl
          · exact absurd ⟨v, hv, h⟩ hn)
      have hp : 0 < P 0 := by
        obtain ⟨v, hv, h⟩ := hne
        rw [← hm] at h
        unfold mayB at h
        rw [Bool.and_eq_true] at h
        exact of_decide_eq_true h.1
      have hmf : ∀ v, m v = fiB D X (P 2) (P 0) c k (nI v) := fun v => by rw [← hm]; unfold mayB; rw [decide_eq_true hp]; rfl
      have hc0 : cnM m 100 ≠ 0 := fun z => hz ((cnM_0 100).mp z)
      have hRx : ∀ (I2 : IV τ bk P on fo len X) v, (if w = 0 then xX9_sure_L30 zFU 78 w k (0 : Int32) (mkH τ) else xX9_sure_L30 zFU 78 w k (99 : Int32) (mkH τ)) = some (v, mkH τ) → xX9_sure 78 w k (mkH τ) = some (v, mkH τ) := by
        intro I2 v hv
        obtain ⟨R2, X2, IE2⟩ := hR2 I2
        have hf := r_fits R2 W X2 IE2 k
        rw [hm] at hf
        unfold xX9_sure
        rw [r_isIn, Option.bind_some, if_pos (sure_w.mpr hw), if_neg (show ¬ (1 : Int32) = 0 by decide)]
        show z_gu (z_is (mkH τ) 78 9) ((xX9_fits 78 k (mkH τ)).bind fun r11 => (if r11.1 = 0 then some ((-1 : Int32), r11.2) else (if w = 0 then xX9_sure_L30 zFU 78 w k (0 : Int32) r11.2 else xX9_sure_L30 zFU 78 w k (99 : Int32) r11.2))) = _
        rw [is_78, gu_t, hf, Option.bind_some, if_neg (nI_ne0 (by omega) (by omega))]
        exact hv
      by_cases h : w = 0
      · obtain ⟨v0, ⟨a1, a2⟩, a3⟩ := pk_least (fun v => v < 100 ∧ m v = true) hne
        have a4 : ∀ v, v < v0 → m v = false := fun v hv => by
          cases hb : m v
          · rfl
          · exact absurd ⟨by omega, hb⟩ (a3 v hv)
        refine ⟨nI v0, τ, hCx _ ?_, sc_sf t4, fun I2 h4 => ⟨τ, hRx I2 _ ?_, sc_4 FR_r⟩⟩
        · rw [if_pos h]
          obtain ⟨e, he⟩ := zfu 100 (by omega)
          unfold xX4_least
          rw [he, ← nI_0]
          exact (c_least t2 100 0 e (by omega)).2 v0 (by omega) a1 a2 (fun v _ hv => a4 v hv)
        · obtain ⟨R2, X2, IE2⟩ := hR2 I2
          obtain ⟨e, he⟩ := zfu v0 (by omega)
          have hh := r_up R2 W X2 IE2 k (by rw [← hmf]; exact a2) v0 0 e (by omega) (fun v _ hv => by rw [← hmf]; exact a4 v hv)
          rw [← he, nI_0] at hh
          rw [if_pos h, h]
          exact hh
      · have h1 : w = 1 := hw.resolve_left h
        obtain ⟨d, ⟨a1, a2⟩, a3⟩ := pk_least (fun d => d < 100 ∧ m (99 - d) = true) (by
          obtain ⟨v, hv, hb⟩ := hne
          exact ⟨99 - v, by omega, by rw [show 99 - (99 - v) = v by omega]; exact hb⟩)
        have a4 : ∀ v, 99 - d < v → v ≤ 99 → m v = false := fun v hv1 hv2 => by
          cases hb : m v
          · rfl
          · exact absurd ⟨by omega, by rw [show 99 - (99 - v) = v by omega]; exact hb⟩ (a3 (99 - v) (by omega))
        refine ⟨nI (99 - d), τ, hCx _ ?_, sc_sf t4, fun I2 h4 => ⟨τ, hRx I2 _ ?_, sc_4 FR_r⟩⟩
        · rw [if_neg h]
          obtain ⟨e, he⟩ := zfu 100 (by omega)
          unfold xX4_greatest
          rw [he, show e + 100 + 1 = e + 99 + 2 by omega, nl_99]
          exact (c_great t2 99 e (by omega)).2 (99 - d) (by omega) a2 a4
        · obtain ⟨R2, X2, IE2⟩ := hR2 I2
          obtain ⟨e, he⟩ := zfu d (by omega)
          have hh := r_dn R2 W X2 IE2 k (v0 := 99 - d) (by rw [← hmf]; exact a2) d e (fun v v1 v2 => by rw [← hmf]; exact a4 v v1 (by omega))
          rw [← he, show 99 - d + d = 99 by omega, ← nl_99] at hh
          rw [if_neg h, h1]
          exact hh
  · have n0 : ¬ w = 0 := fun z => hw (Or.inl z)
    have n1 : ¬ w = 1 := fun z => hw (Or.inr z)
    refine ⟨-1, σ, ?_, FR_r, fun I2 h4 => ⟨σ, ?_, sc_4 FR_r⟩⟩
    · unfold xX8_sure
      rw [if_neg n0, if_neg n1]
    · unfold xX9_sure
      rw [r_isIn, Option.bind_some, if_neg (fun z => hw (sure_w.mp z)), if_pos rfl]
/-! ask -/
def ynF (m w : Nat → Bool) (v : Nat) (s : Nat × Nat) : Nat × Nat := if m v then (if w v then (s.1 + 1, s.2) else (s.1, s.2 + 1)) else s
def ynN (m w : Nat → Bool) (j : Nat) : Nat × Nat := zf (ynF m w) 0 j (0, 0)
theorem yn_s {m w : Nat → Bool} {j : Nat} : ynN m w (j + 1) = ynF m w j (ynN m w j) := by
  unfold ynN
  rw [zf_l, Nat.zero_add]
theorem yn_sum {m w : Nat → Bool} : ∀ j, (ynN m w j).1 + (ynN m w j).2 = cnM m j := by
  intro j
  induction j with
  | zero => rfl
  | succ j ih =>
    rw [yn_s, cnM_s]
    unfold ynF
    by_cases h : m j = true
    · rw [if_pos h, if_pos h]
      by_cases h2 : w j = true
      · rw [if_pos h2]
        show (ynN m w j).1 + 1 + (ynN m w j).2 = _
        omega
      · rw [if_neg h2]
        show (ynN m w j).1 + ((ynN m w j).2 + 1) = _
        omega
    · rw [if_neg h, if_neg h]
      exact ih
def mbN (m w : Nat → Bool) : Nat := if (ynN m w 100).1 ≤ (ynN m w 100).2 then (ynN m w 100).2 else (ynN m w 100).1
theorem mb_le {m w : Nat → Bool} : mbN m w ≤ 100 := by
  have h1 := yn_sum (m := m) (w := w) 100
  have h2 := cnM_le (m := m) 100
  unfold mbN
  split <;> omega
def akF (mb : Nat → Nat) (f : Nat) (b : Option (Nat × Nat)) : Option (Nat × Nat) := match b with | none => some (f, mb f) | some q => if mb f < q.2 then some (f, mb f) else some q
def a10 (b : Option (Nat × Nat)) : Int32 := match b with | none => 101 | some q => nI q.2
def a5 (b : Option (Nat × Nat)) : Int32 := match b with | none => 100000 | some q => nI q.2
def akI (b : Option (Nat × Nat)) : Prop := ∀ q, b = some q → q.2 ≤ 100
theorem ak_I {mb : Nat → Nat} (hmb : ∀ f, mb f ≤ 100) {f : Nat} {b : Option (Nat × Nat)} (h : akI b) : akI (akF mb f b) := by
  intro q hq
  cases b with
  | none =>
    have := Option.some.inj hq
    rw [← this]
    exact hmb f
  | some p =>
    have hq2 : (if mb f < p.2 then some (f, mb f) else some p) = some q := hq
    by_cases hc : mb f < p.2
    · rw [if_pos hc] at hq2
      rw [← Option.some.inj hq2]
      exact hmb f
    · rw [if_neg hc] at hq2
      rw [← Option.some.inj hq2]
      exact h p rfl
section AK
variable {σ : ZS} {bk c s : Nat} {P : Nat → Nat} {D X : Nat → Nat → Int32}
theorem c_yn {m : Nat → Bool} {fr : Nat} (C : CP σ P) (W : PW P) (hX : XP σ bk P X) (hs : s < P 0) (hm : ∀ v, v < 100 → sF σ 74 v = if m v then 1 else 0) (r13 : Nat → Int32 → Int32 → ZH → Option ZH) : xX4_seekFrame_L24 r13 zFU 68 (nI s) (nI fr) 0 0 (mkH σ) = xX4_seekFrame_B61 r13 68 (nI s) (nI fr) (nI (ynN m (fun v => wsB X (P 2) (P 0) (nI v) (nI fr) s) 100).1) (mkH σ) := by
  have kc := lpZ (fun e v (q : Nat × Nat) => xX4_seekFrame_L24 r13 e 68 (nI s) (nI fr) (nI q.1) (nI v) (mkH σ)) (ynF m (fun v => wsB X (P 2) (P 0) (nI v) (nI fr) s)) 100 (fun _ _ => True) (fun q => xX4_seekFrame_B61 r13 68 (nI s) (nI fr) (nI q.1) (mkH σ)) (by omega) ?_ ?_ 0 (by omega) (0, 0) trivial
  · have k1 := kc.1
    rw [nI_0] at k1
    exact k1
  · intro e v q hv _
    refine ⟨?_, trivial⟩
    show xX4_seekFrame_B24 r13 (xX4_seekFrame_L24 r13 e) 68 (nI s) (nI fr) (nI q.1) (nI v) (mkH σ) = _
    generalize xX4_seekFrame_L24 r13 e = nl
    unfold xX4_seekFrame_B24
    rw [if_neg (fun z => by rw [nl_100] at z; have := (nI_leI (by omega) (by omega)).mp z; omega)]
    simp only [rR_68_6, Option.bind_some, ra_74 σ hv, hm v hv, is_68, gu_t, c_was C W hX hs, nI_s, ynF]
    by_cases h1 : m v = true
    · by_cases h2 : wsB X (P 2) (P 0) (nI v) (nI fr) s = true
      · simp only [h1, h2, if_true, t10, if_false]
      · simp only [h1, h2, if_true, t10, Bool.false_eq_true, if_false, t00]
    · simp only [h1, Bool.false_eq_true, if_false, t00, if_true]
  · intro e q _
    show xX4_seekFrame_B24 r13 (xX4_seekFrame_L24 r13 e) 68 (nI s) (nI fr) (nI q.1) (nI 100) (mkH σ) = _
    unfold xX4_seekFrame_B24
    rw [if_pos (show (100 : Int32) ≤ nI 100 by decide)]
theorem r_mb {fr : Nat} (R : RP σ bk P) (W : PW P) (hX : XP σ bk P X) (I : IE σ P c D) (hs : s < P 0) (k : Int32) : xX9_mostBy 78 (nI fr) (nI s) k (mkH σ) = some (nI (mbN (mayB D X (P 2) (P 0) c k) (fun v => wsB X (P 2) (P 0) (nI v) (nI fr) s)), mkH σ) := by
  have hmf : ∀ v, mayB D X (P 2) (P 0) c k v = fiB D X (P 2) (P 0) c k (nI v) := fun v => by unfold mayB; rw [decide_eq_true (by omega)]; rfl
  generalize hm : mayB D X (P 2) (P 0) c k = m at hmf
  have kc := lpZ (fun e v (q : Nat × Nat) => xX9_mostBy_L9 e 78 (nI fr) (nI s) k (nI q.1) (nI q.2) (nI v) (mkH σ)) (ynF m (fun v => wsB X (P 2) (P 0) (nI v) (nI fr) s)) 100 (fun _ _ => True) (fun q => xX9_mostBy_B55 (nI q.1) (nI q.2) (mkH σ)) (by omega) ?_ ?_ 0 (by omega) (0, 0) trivial
  · have k1 := kc.1
    rw [nI_0] at k1
    have h1 := yn_sum (m := m) (w := fun v => wsB X (P 2) (P 0) (nI v) (nI fr) s) 100
    have h2 := cnM_le (m := m) 100
    unfold xX9_mostBy
    refine k1.trans ?_
    show xX9_mostBy_B55 (nI (ynN m (fun v => wsB X (P 2) (P 0) (nI v) (nI fr) s) 100).1) (nI (ynN m (fun v => wsB X (P 2) (P 0) (nI v) (nI fr) s) 100).2) (mkH σ) = _
    unfold xX9_mostBy_B55 mbN
    simp only [nI_le' (show (ynN m (fun v => wsB X (P 2) (P 0) (nI v) (nI fr) s) 100).1 < 2 ^ 31 by omega) (show (ynN m (fun v => wsB X (P 2) (P 0) (nI v) (nI fr) s) 100).2 < 2 ^ 31 by omega)]
    split <;> rfl
  · intro e v q hv _
    refine ⟨?_, trivial⟩
    show xX9_mostBy_B9 (xX9_mostBy_L9 e) 78 (nI fr) (nI s) k (nI q.1) (nI q.2) (nI v) (mkH σ) = _
    generalize xX9_mostBy_L9 e = nl
    unfold xX9_mostBy_B9
    rw [if_neg (fun z => by rw [nl_100] at z; have := (nI_leI (by omega) (by omega)).mp z; omega)]
    simp only [is_78, gu_t, r_fit R W hX I, ← hmf, Option.bind_some, r_was R W hX hs, nI_s, ynF]
    by_cases h1 : m v = true
    · by_cases h2 : wsB X (P 2) (P 0) (nI v) (nI fr) s = true
      · simp only [h1, h2, if_true, t10, if_false]
      · simp only [h1, h2, if_true, t10, Bool.false_eq_true, if_false, t00]
    · simp only [h1, Bool.false_eq_true, if_false, t00, if_true]
  · intro e q _
    show xX9_mostBy_B9 (xX9_mostBy_L9 e) 78 (nI fr) (nI s) k (nI q.1) (nI q.2) (nI 100) (mkH σ) = _
    unfold xX9_mostBy_B9
    rw [if_pos (show (100 : Int32) ≤ nI 100 by decide)]
theorem c_seekF {m : Nat → Bool} (C : CP σ P) (W : PW P) (hX : XP σ bk P X) (hs : s < P 0) (hm : ∀ v, v < 100 → sF σ 74 v = if m v then 1 else 0) (h7 : sI σ 68 7 = nI (cnM m 100)) : ∃ τ, xX4_seekFrame 68 (nI s) (mkH σ) = some (mkH τ) ∧ sI τ 68 9 = eF (zf (akF (fun f => mbN m (fun v => wsB X (P 2) (P 0) (nI v) (nI f) s))) 0 41 none) ∧ sI τ 68 10 = a10 (zf (akF (fun f => mbN m (fun v => wsB X (P 2) (P 0) (nI v) (nI f) s))) 0 41 none) ∧ FR (fun _ => False) (fun a k => a = 68 ∧ (k = 9 ∨ k = 10)) σ τ := by
  have hmb : ∀ f, (fun f => mbN m (fun v => wsB X (P 2) (P 0) (nI v) (nI f) s)) f ≤ 100 := fun f => mb_le
  have hdef : ∀ f, (fun f => mbN m (fun v => wsB X (P 2) (P 0) (nI v) (nI f) s)) f = mbN m (fun v => wsB X (P 2) (P 0) (nI v) (nI f) s) := fun _ => rfl
  generalize (fun f => mbN m (fun v => wsB X (P 2) (P 0) (nI v) (nI f) s)) = mb at hmb hdef ⊢
  have hst : ∀ τ, FR (fun _ => False) (fun a k => a = 68 ∧ (k = 9 ∨ k = 10)) σ τ → CP τ P ∧ XP τ bk P X ∧ (∀ v, v < 100 → sF τ 74 v = if m v then 1 else 0) ∧ sI τ 68 7 = nI (cnM m 100) := fun τ hF => by
    refine ⟨CP_f hF (fun k z => by omega) C, fun r s hr hs => ?_, fun v hv => ?_, ?_⟩
    · rw [hF.1 (91 + r) (fun z => z), hF.1 (22 + r) (fun z => z)]
      exact hX r s hr hs
    · rw [hF.1 74 (fun z => z)]; exact hm v hv
    · rw [hF.2.1 68 7 (by omega)]; exact h7
  obtain ⟨e, he⟩ := zfu 41 (by omega)
  have key := lpI (fun e f (τ : ZS) => xX4_seekFrame_L13 e 68 (nI s) (nI f) (mkH τ)) 41 (fun f τ => FR (fun _ => False) (fun a k => a = 68 ∧ (k = 9 ∨ k = 10)) σ τ ∧ sI τ 68 9 = eF (zf (akF mb) 0 f none) ∧ sI τ 68 10 = a10 (zf (akF mb) 0 f none) ∧ akI (zf (akF mb) 0 f none)) (fun r => ∃ τ, r = mkH τ ∧ sI τ 68 9 = eF (zf (akF mb) 0 41 none) ∧ sI τ 68 10 = a10 (zf (akF mb) 0 41 none) ∧ FR (fun _ => False) (fun a k => a = 68 ∧ (k = 9 ∨ k = 10)) σ τ) ?_ ?_ 41 0 (setI (setI σ 68 9 (-1)) 68 10 101) e (by omega) ⟨FR_t (FR_I ⟨rfl, Or.inl rfl⟩) (FR_I ⟨rfl, Or.inr rfl⟩), by rw [sI_ne (by omega), sI_eq]; rfl, by rw [sI_eq]; rfl, fun q hq => by cases hq⟩
  · obtain ⟨r, hr, τ, rfl, h2, h3, h4⟩ := key
    refine ⟨τ, ?_, h2, h3, h4⟩
    rw [← he, nI_0] at hr
    have e1 : xX4_seekFrame 68 (nI s) (mkH σ) = ((z_sF (mkH σ) 68 4 9 (.int (-1 : Int32))).bind fun h2 => ((z_sF h2 68 4 10 (.int (101 : Int32))).bind fun h8 => xX4_seekFrame_L13 zFU 68 (nI s) (0 : Int32) h8)) := rfl
    rw [e1]
    generalize xX4_seekFrame_L13 zFU = nl at *
    rw [wI_68_9, Option.bind_some, wI_68_10, Option.bind_some]
    exact hr
  · rintro e f τ hf ⟨hF, h1, h2, h3⟩
    right
    obtain ⟨C2, X2, m2, g7⟩ := hst τ hF
    have hc := c_yn (fr := f) C2 W X2 hs m2 (xX4_seekFrame_L13 e)
    have y1 := yn_sum (m := m) (w := fun v => wsB X (P 2) (P 0) (nI v) (nI f) s) 100
    have y2 := cnM_le (m := m) 100
    have hmf := hdef f
    have h100 := hmb f
    rw [zf_l, Nat.zero_add]
    generalize zf (akF mb) 0 f none = b at h1 h2 h3
    have hB0 : xX4_seekFrame_L13 (e + 1) 68 (nI s) (nI f) (mkH τ) = xX4_seekFrame_B61 (xX4_seekFrame_L13 e) 68 (nI s) (nI f) (nI (ynN m (fun v => wsB X (P 2) (P 0) (nI v) (nI f) s) 100).1) (mkH τ) := by
      rw [← hc]
      show xX4_seekFrame_B13 (xX4_seekFrame_L13 e) 68 (nI s) (nI f) (mkH τ) = _
      unfold xX4_seekFrame_B13
      rw [if_neg (fun z => by rw [show (40 : Int32) = nI 40 from rfl] at z; have := (nI_ltI (by omega) (by omega)).mp z; omega)]
    have hmax : xJ9_max_7cf53 (nI (ynN m (fun v => wsB X (P 2) (P 0) (nI v) (nI f) s) 100).1) (nI (cnM m 100) - nI (ynN m (fun v => wsB X (P 2) (P 0) (nI v) (nI f) s) 100).1) (mkH τ) = some (nI (mb f), mkH τ) := by
      rw [c_max, pk_sub (by omega), hmf]
      unfold mbN
      generalize ynN m (fun v => wsB X (P 2) (P 0) (nI v) (nI f) s) 100 = q at y1
      simp only [nI_lt' (show q.1 < 2 ^ 31 by omega) (show cnM m 100 - q.1 < 2 ^ 31 by omega)]
      rw [show cnM m 100 - q.1 = q.2 by omega]
      by_cases hlt : q.1 < q.2
      · rw [if_pos hlt, if_pos (by omega)]
      · rw [if_neg hlt]
        by_cases hle : q.1 ≤ q.2
        · rw [if_pos hle, show q.1 = q.2 by omega]
        · rw [if_neg hle]
    have hB : xX4_seekFrame_L13 (e + 1) 68 (nI s) (nI f) (mkH τ) = if a10 b ≤ nI (mb f) then xX4_seekFrame_L13 e 68 (nI s) (nI (f + 1)) (mkH τ) else xX4_seekFrame_L13 e 68 (nI s) (nI (f + 1)) (mkH (setI (setI τ 68 10 (nI (mb f))) 68 9 (nI f))) := by
      rw [hB0]
      generalize xX4_seekFrame_L13 e = nl
      unfold xX4_seekFrame_B61
      rw [rI_68_7, Option.bind_some, g7, hmax, Option.bind_some, rI_68_10, Option.bind_some, h2, nI_s, wI_68_10, Option.bind_some, wI_68_9, Option.bind_some]
    show ∃ s', xX4_seekFrame_L13 (e + 1) 68 (nI s) (nI f) (mkH τ) = xX4_seekFrame_L13 e 68 (nI s) (nI (f + 1)) (mkH s') ∧ _
    rw [hB]
    have hupd : ¬ a10 b ≤ nI (mb f) → akF mb f b = some (f, mb f) := by
      intro hn
      cases b with
      | none => rfl
      | some q =>
        show (if mb f < q.2 then some (f, mb f) else some q) = _
        have := h3 q rfl
        have hn2 : ¬ nI q.2 ≤ nI (mb f) := hn
        rw [nI_le' (by omega) (by omega)] at hn2
        rw [if_pos (by omega)]
    have hkeep : a10 b ≤ nI (mb f) → akF mb f b = b := by
      intro hn
      cases b with
      | none =>
        have hn2 : nI 101 ≤ nI (mb f) := hn
        rw [nI_le' (by omega) (by omega)] at hn2
        omega
      | some q =>
        show (if mb f < q.2 then some (f, mb f) else some q) = _
        have := h3 q rfl
        have hn2 : nI q.2 ≤ nI (mb f) := hn
        rw [nI_le' (by omega) (by omega)] at hn2
        rw [if_neg (by omega)]
    by_cases hcd : a10 b ≤ nI (mb f)
    · rw [if_pos hcd, hkeep hcd]
      exact ⟨τ, rfl, hF, h1, h2, h3⟩
    · rw [if_neg hcd]
      refine ⟨setI (setI τ 68 10 (nI (mb f))) 68 9 (nI f), rfl, FR_t hF (FR_t (FR_I ⟨rfl, Or.inr rfl⟩) (FR_I ⟨rfl, Or.inl rfl⟩)), ?_, ?_, ak_I hmb h3⟩
      · rw [hupd hcd, sI_eq]; rfl
      · rw [hupd hcd, sI_ne (by omega), sI_eq]; rfl
  · rintro e τ ⟨hF, h1, h2, h3⟩
    refine ⟨_, ?_, τ, rfl, h1, h2, hF⟩
    show xX4_seekFrame_B13 (xX4_seekFrame_L13 e) 68 (nI s) (nI 41) (mkH τ) = _
    unfold xX4_seekFrame_B13
    rw [if_pos (show (40 : Int32) < nI 41 by decide)]
theorem r_ask1 (R : RP σ bk P) (W : PW P) (hX : XP σ bk P X) (I : IE σ P c D) (hs : s < P 0) (k w : Int32) : xX9_ask_L44 zFU 78 (nI s) w k (-1) 100000 0 (mkH σ) = (fun b => if w = 0 then some (eF b, mkH σ) else some (a5 b, mkH σ)) (zf (akF (fun f => mbN (mayB D X (P 2) (P 0) c k) (fun v => wsB X (P 2) (P 0) (nI v) (nI f) s))) 0 41 none) := by
  have hmb : ∀ f, (fun f => mbN (mayB D X (P 2) (P 0) c k) (fun v => wsB X (P 2) (P 0) (nI v) (nI f) s)) f ≤ 100 := fun f => mb_le
  have hdef : ∀ f, xX9_mostBy 78 (nI f) (nI s) k (mkH σ) = some (nI ((fun f => mbN (mayB D X (P 2) (P 0) c k) (fun v => wsB X (P 2) (P 0) (nI v) (nI f) s)) f), mkH σ) := fun f => r_mb R W hX I hs k
  generalize (fun f => mbN (mayB D X (P 2) (P 0) c k) (fun v => wsB X (P 2) (P 0) (nI v) (nI f) s)) = mb at hmb hdef ⊢
  have kc := lpZ (fun e f (b : Option (Nat × Nat)) => xX9_ask_L44 e 78 (nI s) w k (eF b) (a5 b) (nI f) (mkH σ)) (akF mb) 41 (fun _ b => akI b) (fun b => if w = 0 then some (eF b, mkH σ) else some (a5 b, mkH σ)) (by omega) ?_ ?_ 0 (by omega) none (fun q hq => by cases hq)
  · have k1 := kc.1
    rw [nI_0] at k1
    exact k1
  · intro e f b hf hI
    refine ⟨?_, ak_I hmb hI⟩
    have h100 := hmb f
    show xX9_ask_B44 (xX9_ask_L44 e) 78 (nI s) w k (eF b) (a5 b) (nI f) (mkH σ) = _
    generalize xX9_ask_L44 e = nl
    unfold xX9_ask_B44
    rw [if_neg (fun z => by rw [show (40 : Int32) = nI 40 from rfl] at z; have := (nI_ltI (by omega) (by omega)).mp z; omega), is_78, gu_t, hdef f, Option.bind_some, nI_s]
    cases b with
    | none =>
      rw [if_pos (show nI (mb f) < a5 none from by show nI (mb f) < 100000; rw [nl_100000]; exact nI_lt (by omega) (by omega))]
      rfl
    | some q =>
      have := hI q rfl
      have e1 : (nI (mb f) < a5 (some q)) = (mb f < q.2) := nI_lt' (by omega) (by omega)
      by_cases hc : mb f < q.2
      · rw [if_pos (show nI (mb f) < a5 (some q) from by rw [e1]; exact hc)]
        show _ = nl 78 (nI s) w k (eF (if mb f < q.2 then some (f, mb f) else some q)) (a5 (if mb f < q.2 then some (f, mb f) else some q)) (nI (f + 1)) (mkH σ)
        rw [if_pos hc]
        rfl
      · rw [if_neg (show ¬ nI (mb f) < a5 (some q) from by rw [e1]; exact hc)]
        show _ = nl 78 (nI s) w k (eF (if mb f < q.2 then some (f, mb f) else some q)) (a5 (if mb f < q.2 then some (f, mb f) else some q)) (nI (f + 1)) (mkH σ)
        rw [if_neg hc]
  · intro e b _
    show xX9_ask_B44 (xX9_ask_L44 e) 78 (nI s) w k (eF b) (a5 b) (nI 41) (mkH σ) = _
    unfold xX9_ask_B44
    rw [if_pos (show (40 : Int32) < nI 41 by decide)]
end AK
theorem ak_so {mb : Nat → Nat} : ∀ m k b, 0 < m → ∃ q, zf (akF mb) k m b = some q := by
  intro m
  induction m with
  | zero => intro k b h; omega
  | succ m ih =>
    intro k b _
    rw [zf]
    rcases Nat.eq_zero_or_pos m with h | h
    · subst h
      cases b with
      | none => exact ⟨_, rfl⟩
      | some q =>
        show ∃ p, (if mb k < q.2 then some (k, mb k) else some q) = some p
        split
        · exact ⟨_, rfl⟩
        · exact ⟨_, rfl⟩
    · exact ih (k + 1) _ h
theorem q_ask (a w k : Int32) : QOK (xX8_ask 8 a w k) (xX9_ask 78 a w k) := by
  refine Q_sc fun σ bk P on fo len X I => ?_
  obtain ⟨⟨W, F, E, C, hX⟩, -, is, -⟩ := id I
  have w0 := W.1
  have CB' := CP_B C.1 W
  have B := RP_B E.1 W
  have hCe : xX8_ask 8 a w k (mkH σ) = if ((0 ≤ a ∧ a < nI (P 0)) ∧ ¬ a = nI (P 0) - 1) ∧ (w = 0 ∨ w = 1) then xX8_ask_B37 8 a w k (mkH σ) else some (-1, mkH σ) := by
    unfold xX8_ask
    generalize xX8_ask_B37 = b37
    simp only [rR_8_5, Option.bind_some, is_21, gu_t, c_isShip CB', rI_21_7, C.1.1]
    by_cases h1 : 0 ≤ a ∧ a < nI (P 0)
    · simp only [if_pos h1, t10, if_false]
      by_cases h2 : a = nI (P 0) - 1
      · rw [if_pos h2, if_neg (fun z => z.1.2 h2)]
      · rw [if_neg h2]
        by_cases h3 : w = 0
        · rw [if_pos h3, if_pos ⟨⟨h1, h2⟩, Or.inl h3⟩]
        · rw [if_neg h3]
          by_cases h4 : w = 1
          · rw [if_pos h4, if_pos ⟨⟨h1, h2⟩, Or.inr h4⟩]
          · rw [if_neg h4, if_neg (fun z => z.2.elim h3 h4)]
    · simp only [if_neg h1, t00, if_true]
      rw [if_neg (fun z => h1 z.1.1)]
  have hRe : ∀ τ, RP τ bk P → xX9_ask 78 a w k (mkH τ) = if ((0 ≤ a ∧ a < nI (P 0)) ∧ ¬ a = nI (P 0) - 1) ∧ (w = 0 ∨ w = 1) then ((xX9_fits 78 k (mkH τ)).bind fun r25 => (if r25.1 = 0 then some ((-1 : Int32), r25.2) else xX9_ask_L44 zFU 78 a w k (-1 : Int32) (100000 : Int32) (0 : Int32) r25.2)) else some (-1, mkH τ) := by
    intro τ R2
    unfold xX9_ask
    generalize xX9_ask_L44 zFU = nl
    generalize xX9_fits = ft
    rw [is_78, gu_t, r_lots (RP_B R2 W), Option.bind_some, r_isIn, Option.bind_some]
    by_cases h1 : (0 ≤ a ∧ a < nI (P 0)) ∧ ¬ a = nI (P 0) - 1
    · rw [if_pos ((lots2 w0).mpr h1), if_neg (show ¬ (1 : Int32) = 0 by decide), r_isIn, Option.bind_some]
      by_cases h2 : w = 0 ∨ w = 1
      · rw [if_pos (sure_w.mpr h2), if_neg (show ¬ (1 : Int32) = 0 by decide), if_pos ⟨h1, h2⟩]
        show z_gu (z_is (mkH τ) 78 9) _ = _
        rw [is_78, gu_t]
      · rw [if_neg (fun z => h2 (sure_w.mp z)), if_pos rfl, if_neg (fun z => h2 z.2)]
    · rw [if_neg (fun z => h1 ((lots2 w0).mp z)), if_pos rfl, if_neg (fun z => h1 z.1)]
  by_cases hc : ((0 ≤ a ∧ a < nI (P 0)) ∧ ¬ a = nI (P 0) - 1) ∧ (w = 0 ∨ w = 1)
  · rw [hCe, if_pos hc]
    obtain ⟨s, hs, rfl⟩ := in_n (by omega) hc.1.1
    obtain ⟨c, D, ie⟩ := IE_of is
    obtain ⟨τ, t1, t2, t3, t4⟩ := c_sift C.1 W hX ie k
    have hCP : CP τ P := CP_f t4 (fun k z => by omega) C.1
    have hXP : XP τ bk P X := XP_q (sc_sf t4) hX E.1.2.1 W.1
    have hIE : IE τ P c D := IE_f t4 (fun a h z => by omega) ⟨by omega, by omega⟩ ie
    have hle := cnM_le (m := mayB D X (P 2) (P 0) c k) 100
    have hf2 : ∀ υ, RP υ bk P → XP υ bk P X → IE υ P c D → xX9_fits 78 k (mkH υ) = some (nI (cnM (mayB D X (P 2) (P 0) c k) 100), mkH υ) := fun υ h1 h2 h3 => r_fits h1 W h2 h3 k
    by_cases hz : cnM (mayB D X (P 2) (P 0) c k) 100 = 0
    · refine ⟨-1, τ, ?_, sc_sf t4, fun I2 h4 => ⟨τ, ?_, sc_4 FR_r⟩⟩
      · unfold xX8_ask_B37
        generalize xX4_sift = sf at *
        rw [rR_8_12, Option.bind_some, is_68, gu_t, t1, Option.bind_some, if_pos (show (nI (cnM (mayB D X (P 2) (P 0) c k) 100), mkH τ).1 = 0 from by rw [hz]; rfl)]
      · have R2 := I2.1.2.2.1.1
        rw [hRe τ R2, if_pos hc, hf2 τ R2 hXP hIE, Option.bind_some, if_pos (show (nI (cnM (mayB D X (P 2) (P 0) c k) 100), mkH τ).1 = 0 from by rw [hz]; rfl)]
    · obtain ⟨υ, u1, u2, u3, u4⟩ := c_seekF hCP W hXP hs t2 t3
      obtain ⟨q, hq⟩ := ak_so (mb := fun f => mbN (mayB D X (P 2) (P 0) c k) (fun v => wsB X (P 2) (P 0) (nI v) (nI f) s)) 41 0 none (by omega)
      have hne : ¬ (nI (cnM (mayB D X (P 2) (P 0) c k) 100), mkH τ).1 = 0 := nI_ne0 (by omega) (by omega)
      have hFu : FR scS scT σ υ := FR_t (sc_sf t4) (FR_m u4 (fun _ z => z.elim) (fun a k z => by unfold scT; omega))
      refine ⟨if w = 0 then eF (some q) else a5 (some q), υ, ?_, hFu, fun I2 h4 => ⟨υ, ?_, sc_4 FR_r⟩⟩
      · unfold xX8_ask_B37
        generalize xX4_sift = sf at *
        generalize xX4_seekFrame = sk at *
        rw [rR_8_12, Option.bind_some, is_68, gu_t, t1, Option.bind_some, if_neg hne]
        show ((z_gR (mkH τ) 8 8 12).bind fun x51 => (z_gu (z_is (mkH τ) x51 4) ((sk x51 (nI s) (mkH τ)).bind fun h55 => (if w = 0 then ((z_gR h55 8 8 12).bind fun x63 => ((z_gI h55 x63 4 9).bind fun x66 => some (x66, h55))) else ((z_gR h55 8 8 12).bind fun x73 => ((z_gI h55 x73 4 10).bind fun x76 => some (x76, h55))))))) = _
        rw [rR_8_12, Option.bind_some, is_68, gu_t, u1, Option.bind_some, rR_8_12, Option.bind_some, Option.bind_some, rI_68_9, Option.bind_some, rI_68_10, Option.bind_some, u2, u3, hq]
        by_cases h0 : w = 0
        · rw [if_pos h0, if_pos h0]
        · rw [if_neg h0, if_neg h0]
          rfl
      · have R2 := I2.1.2.2.1.1
        have hXu : XP υ bk P X := fun r s hr hs => by
          rw [u4.1 (91 + r) (fun z => z), u4.1 (22 + r) (fun z => z)]
          exact hXP r s hr hs
        have hIu : IE υ P c D := IE_f u4 (fun a h z => z) ⟨by omega, by omega⟩ hIE
        have hr := r_ask1 R2 W hXu hIu hs k w
        rw [hq] at hr
        rw [hRe υ R2, if_pos hc, hf2 υ R2 hXu hIu, Option.bind_some, if_neg (show ¬ (nI (cnM (mayB D X (P 2) (P 0) c k) 100), mkH υ).1 = 0 from hne)]
        refine hr.trans ?_
        show (if w = 0 then some (eF (some q), mkH υ) else some (a5 (some q), mkH υ)) = _
        by_cases h0 : w = 0
        · rw [if_pos h0, if_pos h0]
        · rw [if_neg h0, if_neg h0]
  · rw [hCe, if_neg hc]
    refine ⟨-1, σ, rfl, FR_r, fun I2 h4 => ⟨σ, ?_, sc_4 FR_r⟩⟩
    rw [hRe σ E.1, if_neg hc]
