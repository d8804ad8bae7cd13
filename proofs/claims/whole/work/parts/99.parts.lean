/-! parts of the fleet -/
def swF (lk : Nat → Nat) (b x : Nat) : Nat := if x.testBit b then x ||| lk b else x
def swp (lk : Nat → Nat) (x : Nat) : Nat := zf (swF lk) 0 6 x
def hgN (lk : Nat → Nat) (x : Nat) : Nat := zf (fun _ x => swp lk x) 0 6 x
def clo (lk : Nat → Nat) (x : Nat) : Prop := ∀ b t, b < 6 → x.testBit b = true → (lk b).testBit t = true → x.testBit t = true
theorem or_of {x y : Nat} (h : ∀ t, y.testBit t = true → x.testBit t = true) : x ||| y = x := by
  apply Nat.eq_of_testBit_eq
  intro t
  rw [Nat.testBit_or]
  cases hy : y.testBit t
  · rw [Bool.or_false]
  · rw [h t hy]
    rfl
theorem sw_ge {lk : Nat → Nat} : ∀ m k x t, x.testBit t = true → (zf (swF lk) k m x).testBit t = true := by
  intro m
  induction m with
  | zero => intro k x t h; exact h
  | succ m ih =>
    intro k x t h
    rw [zf]
    refine ih _ _ _ ?_
    unfold swF
    split
    · rw [Nat.testBit_or, h]; rfl
    · exact h
theorem sw_lt {lk : Nat → Nat} (hl : ∀ a, a < 6 → lk a < 64) : ∀ m k x, k + m ≤ 6 → x < 64 → zf (swF lk) k m x < 64 := by
  intro m
  induction m with
  | zero => intro k x _ h; exact h
  | succ m ih =>
    intro k x hk h
    rw [zf]
    refine ih _ _ (by omega) ?_
    unfold swF
    split
    · exact or_lt (n := 6) h (hl k (by omega))
    · exact h
theorem sw_clo {lk : Nat → Nat} {x : Nat} (h : clo lk x) : ∀ m k, k + m ≤ 6 → zf (swF lk) k m x = x := by
  intro m
  induction m with
  | zero => intro k _; rfl
  | succ m ih =>
    intro k hk
    have e : swF lk k x = x := by
      unfold swF
      by_cases hb : x.testBit k = true
      · rw [if_pos hb]
        exact or_of (fun t ht => h k t (by omega) hb ht)
      · rw [if_neg hb]
    rw [zf, e]
    exact ih (k + 1) (by omega)
theorem clo_sw {lk : Nat → Nat} {x : Nat} (h : swp lk x = x) : clo lk x := by
  intro b t hb h1 h2
  have e : zf (swF lk) 0 6 x = zf (swF lk) (b + 1) (5 - b) (swF lk b (zf (swF lk) 0 b x)) := by
    rw [show (6 : Nat) = b + ((5 - b) + 1) by omega, zf_add, Nat.zero_add, zf]
  have h3 : (zf (swF lk) 0 6 x).testBit t = true := by
    rw [e]
    refine sw_ge _ _ _ _ ?_
    have h4 := sw_ge (lk := lk) b 0 x b h1
    generalize zf (swF lk) 0 b x = y at h4
    unfold swF
    rw [if_pos h4, Nat.testBit_or, h2, Bool.or_true]
  unfold swp at h
  rw [h] at h3
  exact h3
theorem pc_mono : ∀ f x y, (∀ t, x.testBit t = true → y.testBit t = true) → pc f x ≤ pc f y := by
  intro f
  induction f with
  | zero => intro x y _; exact Nat.le_refl _
  | succ f ih =>
    intro x y h
    show x % 2 + pc f (x / 2) ≤ y % 2 + pc f (y / 2)
    have h1 := ih (x / 2) (y / 2) (fun t ht => by rw [← Nat.testBit_succ] at *; exact h _ ht)
    have h2 := h 0
    rw [Nat.testBit_zero, Nat.testBit_zero, decide_eq_true_eq, decide_eq_true_eq] at h2
    omega
theorem pc_64 {x : Nat} (h : x < 64) : pc 32 x ≤ 6 := by
  rw [show (32 : Nat) = 6 + 26 from rfl, pc_add, Nat.div_eq_of_lt (by omega), pc_0]
  have := pc_le 6 x
  omega
theorem pc_st {x y : Nat} (hy : y < 64) (h : ∀ t, x.testBit t = true → y.testBit t = true) (hne : y ≠ x) : pc 32 x + 1 ≤ pc 32 y := by
  obtain ⟨t, h1, h2⟩ : ∃ t, y.testBit t = true ∧ x.testBit t = false := by
    apply Classical.byContradiction
    intro hn
    apply hne
    apply Nat.eq_of_testBit_eq
    intro t
    cases h1 : y.testBit t
    · cases h2 : x.testBit t
      · rfl
      · rw [h t h2] at h1; cases h1
    · cases h2 : x.testBit t
      · exact absurd ⟨t, h1, h2⟩ hn
      · rfl
  have ht := bit_lt (n := 6) hy h1
  rw [← pc_set 32 x t (by omega) h2]
  refine pc_mono 32 _ _ (fun u hu => ?_)
  rw [Nat.testBit_or, Bool.or_eq_true, Nat.testBit_two_pow, decide_eq_true_eq] at hu
  rcases hu with hu | hu
  · exact h u hu
  · rw [← hu]; exact h1
theorem hg_lt {lk : Nat → Nat} (hl : ∀ a, a < 6 → lk a < 64) : ∀ i x, x < 64 → zf (fun _ x => swp lk x) 0 i x < 64 := fun i x hx => zf_I (fun _ x => x < 64) i (fun _ s _ h => sw_lt hl 6 0 s (by omega) h) i 0 x (by omega) hx
theorem hg_clo {lk : Nat → Nat} (hl : ∀ a, a < 6 → lk a < 64) {x : Nat} (hx : x < 64) (h0 : 0 < x) : clo lk (hgN lk x) := by
  have key : ∀ i, clo lk (zf (fun _ x => swp lk x) 0 i x) ∨ i + 1 ≤ pc 32 (zf (fun _ x => swp lk x) 0 i x) := by
    intro i
    induction i with
    | zero => exact Or.inr (pc_pos 32 x h0 (by omega))
    | succ i ih =>
      rw [zf_l]
      have hlt := hg_lt hl i x hx
      generalize zf (fun _ x => swp lk x) 0 i x = y at ih hlt ⊢
      by_cases hs : swp lk y = y
      · rw [hs]
        exact Or.inl (clo_sw hs)
      · rcases ih with ih | ih
        · exact absurd (sw_clo ih 6 0 (by omega)) hs
        · right
          have := pc_st (sw_lt hl 6 0 y (by omega) hlt) (sw_ge 6 0 y) hs
          unfold swp
          omega
  rcases key 6 with h | h
  · exact h
  · have := pc_64 (hg_lt hl 6 x hx)
    omega
theorem hg_ge {lk : Nat → Nat} {x t : Nat} (h : x.testBit t = true) : (hgN lk x).testBit t = true := zf_I (fun _ x => x.testBit t = true) 6 (fun _ s _ h => sw_ge 6 0 s t h) 6 0 x (by omega) h
/-- the reference's sweep -/
def srF (ir : Nat → Nat) (left b x : Nat) : Nat := if x.testBit b then x ||| (ir b &&& left) else x
def srp (ir : Nat → Nat) (left n x : Nat) : Nat := zf (srF ir left) 0 n x
/-- what is left: closed, of those that are on -/
def lfP (A on : Nat → Int32) (rg n left : Nat) : Prop := (∀ t, left.testBit t = true → t < n ∧ onA A on t = true) ∧ clo (lkN A on rg n) left
theorem sr_eq {A on : Nat → Int32} {rg n left : Nat} (hn : n ≤ 6) (H : lfP A on rg n left) : ∀ m k x, k + m ≤ n → (∀ t, x.testBit t = true → left.testBit t = true) → zf (srF (irN A rg n) left) k m x = zf (swF (lkN A on rg n)) k m x ∧ ∀ t, (zf (swF (lkN A on rg n)) k m x).testBit t = true → left.testBit t = true := by
  intro m
  induction m with
  | zero => intro k x _ h; exact ⟨rfl, h⟩
  | succ m ih =>
    intro k x hk h
    have e : srF (irN A rg n) left k x = swF (lkN A on rg n) k x ∧ ∀ t, (swF (lkN A on rg n) k x).testBit t = true → left.testBit t = true := by
      unfold srF swF
      by_cases hb : x.testBit k = true
      · rw [if_pos hb, if_pos hb]
        have hlk := h k hb
        refine ⟨?_, fun t ht => ?_⟩
        · apply Nat.eq_of_testBit_eq
          intro t
          rw [Nat.testBit_or, Nat.testBit_or, Nat.testBit_and, Bool.eq_iff_iff, Bool.or_eq_true, Bool.or_eq_true, Bool.and_eq_true]
          by_cases htk : k = t
          · subst htk
            simp [hb]
          · constructor
            · rintro (h1 | ⟨h1, h2⟩)
              · exact Or.inl h1
              · right
                obtain ⟨a1, a2⟩ := H.1 k hlk
                obtain ⟨b1, b2⟩ := H.1 t h2
                rw [ir_bit, Bool.and_eq_true] at h1
                rw [lk_bit, lk_in a1 b1 htk, a2, b2, h1.2, decide_eq_true (show t < 6 by omega)]
                rfl
            · rintro (h1 | h1)
              · exact Or.inl h1
              · right
                have h2 := H.2 k t (by omega) hlk h1
                refine ⟨?_, h2⟩
                obtain ⟨a1, a2⟩ := H.1 k hlk
                obtain ⟨b1, b2⟩ := H.1 t h2
                rw [lk_bit, lk_in a1 b1 htk] at h1
                simp only [Bool.and_eq_true] at h1
                rw [ir_bit, h1.2.2.2, decide_eq_true b1]
                rfl
        · rw [Nat.testBit_or, Bool.or_eq_true] at ht
          rcases ht with ht | ht
          · exact h t ht
          · exact H.2 k t (by omega) hlk ht
      · rw [if_neg hb, if_neg hb]
        exact ⟨rfl, h⟩
    rw [zf, zf, e.1]
    exact ih (k + 1) _ (by omega) e.2
theorem srp_eq {A on : Nat → Int32} {rg n left : Nat} (hn : n ≤ 6) (H : lfP A on rg n left) {x : Nat} (h : ∀ t, x.testBit t = true → left.testBit t = true) : srp (irN A rg n) left n x = swp (lkN A on rg n) x ∧ ∀ t, (swp (lkN A on rg n) x).testBit t = true → left.testBit t = true := by
  obtain ⟨h1, h2⟩ := sr_eq hn H n 0 x (by omega) h
  have e : swp (lkN A on rg n) x = zf (swF (lkN A on rg n)) 0 n x := by
    unfold swp
    rw [show (6 : Nat) = n + (6 - n) by omega, zf_add]
    generalize zf (swF (lkN A on rg n)) 0 n x = y at h2
    have : ∀ m k, n ≤ k → zf (swF (lkN A on rg n)) k m y = y := by
      intro m
      induction m with
      | zero => intro k _; rfl
      | succ m ih =>
        intro k hk
        have e2 : swF (lkN A on rg n) k y = y := by
          unfold swF
          rw [if_neg]
          intro z
          have := (H.1 k (h2 k z)).1
          omega
        rw [zf, e2]
        exact ih (k + 1) (by omega)
    exact this _ _ (by omega)
  unfold srp
  rw [e]
  exact ⟨h1, h2⟩
theorem hgr_eq {A on : Nat → Int32} {rg n left : Nat} (hn : n ≤ 6) (H : lfP A on rg n left) {x : Nat} (h : ∀ t, x.testBit t = true → left.testBit t = true) : ∀ i, zf (fun _ x => srp (irN A rg n) left n x) 0 i x = zf (fun _ x => swp (lkN A on rg n) x) 0 i x ∧ ∀ t, (zf (fun _ x => swp (lkN A on rg n) x) 0 i x).testBit t = true → left.testBit t = true := by
  intro i
  induction i with
  | zero => exact ⟨rfl, h⟩
  | succ i ih =>
    rw [zf_l, zf_l, ih.1]
    exact srp_eq hn H ih.2
/-- without the ones of a set -/
def wo (left set : Nat) : Nat := left &&& (set ^^^ 4294967295)
theorem wo_n (left set : Nat) : nI left &&& (nI set ^^^ (-1 : Int32)) = nI (wo left set) := by
  rw [m1_n, nx_xor, nx_and]
  rfl
theorem wo_bit {left set t : Nat} (ht : t < 32) : (wo left set).testBit t = (left.testBit t && !set.testBit t) := by
  unfold wo
  rw [Nat.testBit_and, Nat.testBit_xor, ones_bit ht, Bool.xor_true]
theorem wo_le {left set : Nat} : wo left set ≤ left := Nat.and_le_left
theorem wo_in {left set t : Nat} (h : (wo left set).testBit t = true) : left.testBit t = true := by
  unfold wo at h
  rw [Nat.testBit_and, Bool.and_eq_true] at h
  exact h.1
theorem lf_wo {A on : Nat → Int32} {rg n left set : Nat} (hn : n ≤ 6) (H : lfP A on rg n left) (hc : clo (lkN A on rg n) set) : lfP A on rg n (wo left set) := by
  refine ⟨fun t ht => H.1 t (wo_in ht), fun b t hb h1 h2 => ?_⟩
  have hlb := wo_in h1
  have hlt := H.2 b t hb hlb h2
  obtain ⟨b1, -⟩ := H.1 b hlb
  obtain ⟨t1, -⟩ := H.1 t hlt
  rw [wo_bit (by omega), hlt]
  rw [wo_bit (by omega), hlb] at h1
  cases hs : set.testBit t
  · rfl
  · exfalso
    have h3 : (lkN A on rg n t).testBit b = true := by
      rw [lk_bit, lk_sy, decide_eq_true (show b < 6 by omega), Bool.true_and]
      rw [lk_bit] at h2
      exact (Bool.and_eq_true _ _ ▸ h2).2
    rw [hc t b (by omega) hs h3] at h1
    cases h1
theorem low_bit : ∀ x, x < 64 → ∀ a, a < 6 → (x.testBit a = true ∧ ∀ t, t < a → x.testBit t = false) → nI x &&& -(nI x) = nI (2 ^ a) := by decide +kernel
def cpF (lk : Nat → Nat) (a : Nat) (s : Nat × Nat) : Nat × Nat := if s.2.testBit a then (s.1 + 1, wo s.2 (hgN lk (2 ^ a))) else s
theorem c_hang {σ : ZS} {lit a : Nat} {lk : Nat → Nat} (w : WBp σ lit lk) (ha : a < 6) : xX7_allHangingOn 62 (nI a) (mkH σ) = some (nI (hgN lk (2 ^ a)), mkH σ) := by
  have hl : ∀ a, a < 6 → lk a < 64 := fun a h => (w.2.2 a h).2
  have hpa : 2 ^ a < 64 := pow_lt (n := 6) ha
  have hin : ∀ (r6 : Nat → Int32 → Int32 → ZH → Option (Int32 × ZH)) (x k : Nat), x < 64 → xX7_allHangingOn_L15 r6 zFU 62 (nI x) (nI k) 0 (mkH σ) = r6 62 (nI (swp lk x)) (nI (k + 1)) (mkH σ) := by
    intro r6 x k hx
    have kc := lpZ (fun e b (x : Nat) => xX7_allHangingOn_L15 r6 e 62 (nI x) (nI k) (nI b) (mkH σ)) (swF lk) 6 (fun _ x => x < 64) (fun x => r6 62 (nI x) (nI (k + 1)) (mkH σ)) (by omega) ?_ ?_ 0 (by omega) x hx
    · rw [nI_0] at kc
      exact kc.1
    · intro e b x hb hx
      refine ⟨?_, sw_lt hl 1 b x (by omega) hx⟩
      show xX7_allHangingOn_B15 r6 (xX7_allHangingOn_L15 r6 e) 62 (nI x) (nI k) (nI b) (mkH σ) = _
      generalize xX7_allHangingOn_L15 r6 e = nl
      unfold xX7_allHangingOn_B15
      rw [if_neg (fun z => by rw [nl_6] at z; have := (nI_leI (by omega) (by omega)).mp z; omega)]
      simp only [rR_62_1, Option.bind_some, ra_63 σ hb, (w.2.2 b hb).1, nx_or, nI_s, swF]
      by_cases h : x.testBit b = true
      · rw [if_pos ((bb_iff (by omega) (by omega)).mpr h)]
        simp only [if_pos h]
      · rw [if_neg (fun z => h ((bb_iff (by omega) (by omega)).mp z))]
        simp only [if_neg h]
    · intro e x _
      show xX7_allHangingOn_B15 r6 (xX7_allHangingOn_L15 r6 e) 62 (nI x) (nI k) (nI 6) (mkH σ) = _
      unfold xX7_allHangingOn_B15
      rw [if_pos (show (6 : Int32) ≤ nI 6 by decide), nI_s]
  have kc := lpZ (fun e k (x : Nat) => xX7_allHangingOn_L6 e 62 (nI x) (nI k) (mkH σ)) (fun _ x => swp lk x) 6 (fun _ x => x < 64) (fun x => some (nI x, mkH σ)) (by omega) ?_ ?_ 0 (by omega) (2 ^ a) hpa
  · rw [nI_0] at kc
    unfold xX7_allHangingOn
    rw [one_shl (by omega)]
    exact kc.1
  · intro e k x hk hx
    refine ⟨?_, sw_lt hl 6 0 x (by omega) hx⟩
    have hh := hin (xX7_allHangingOn_L6 e) x k hx
    show xX7_allHangingOn_B6 (xX7_allHangingOn_L6 e) 62 (nI x) (nI k) (mkH σ) = _
    unfold xX7_allHangingOn_B6
    rw [if_neg (fun z => by rw [nl_6] at z; have := (nI_leI (by omega) (by omega)).mp z; omega)]
    exact hh
  · intro e x _
    show xX7_allHangingOn_B6 (xX7_allHangingOn_L6 e) 62 (nI x) (nI 6) (mkH σ) = _
    unfold xX7_allHangingOn_B6
    rw [if_pos (show (6 : Int32) ≤ nI 6 by decide)]
theorem c_parts {σ : ZS} {lit : Nat} {lk : Nat → Nat} (w : WBp σ lit lk) : xX7_countParts 62 (mkH σ) = some (nI (zf (cpF lk) 0 6 (0, lit)).1, mkH σ) := by
  have kc := lpZ (fun e a (s : Nat × Nat) => xX7_countParts_L9 e 62 (nI s.1) (nI s.2) (nI a) (mkH σ)) (cpF lk) 6 (fun _ s => s.2 < 64) (fun s => some (nI s.1, mkH σ)) (by omega) ?_ ?_ 0 (by omega) (0, lit) w.2.1
  · have k1 := kc.1
    rw [nI_0] at k1
    unfold xX7_countParts
    generalize xX7_countParts_L9 zFU = nl at *
    simp only [rI_62_0, Option.bind_some, w.1]
    exact k1
  · intro e a s ha hs
    refine ⟨?_, ?_⟩
    · show xX7_countParts_B9 (xX7_countParts_L9 e) 62 (nI s.1) (nI s.2) (nI a) (mkH σ) = _
      generalize xX7_countParts_L9 e = nl
      unfold xX7_countParts_B9
      rw [if_neg (fun z => by rw [nl_6] at z; have := (nI_leI (by omega) (by omega)).mp z; omega)]
      simp only [is_62, gu_t, c_hang w ha, Option.bind_some, wo_n, nI_s, cpF]
      by_cases h : s.2.testBit a = true
      · rw [if_pos ((bb_iff (by omega) (by omega)).mpr h)]
        simp only [if_pos h]
      · rw [if_neg (fun z => h ((bb_iff (by omega) (by omega)).mp z))]
        simp only [if_neg h]
    · unfold cpF
      split
      · exact Nat.lt_of_le_of_lt wo_le hs
      · exact hs
  · intro e s _
    show xX7_countParts_B9 (xX7_countParts_L9 e) 62 (nI s.1) (nI s.2) (nI 6) (mkH σ) = _
    unfold xX7_countParts_B9
    rw [if_pos (show (6 : Int32) ≤ nI 6 by decide)]
/-- one turn of the reference -/
theorem r_part1 {σ : ZS} {bk len left c x : Nat} {P : Nat → Nat} {on fo : Nat → Int32} (E : RE σ bk P on fo len) (W : PW P) (hx : x < 64) (hle : left < 64) (r7 : Nat → Int32 → Int32 → ZH → Option (Int32 × ZH)) : xX9_parts_L19 r7 zFU 78 (nI left) (nI c) (nI x) 0 (mkH σ) = r7 78 (nI (wo left (zf (fun _ x => srp (irN (sF σ 104) (P 2) (P 0)) left (P 0) x) 0 6 x))) (nI (c + 1)) (mkH σ) := by
  have w0 := W.1
  have B := RP_B E.1 W
  have hsr : ∀ m k x, k + m ≤ P 0 → x < 64 → zf (srF (irN (sF σ 104) (P 2) (P 0)) left) k m x < 64 := by
    intro m
    induction m with
    | zero => intro k x _ h; exact h
    | succ m ih =>
      intro k x hk h
      rw [zf]
      refine ih _ _ (by omega) ?_
      unfold srF
      split
      · exact or_lt (n := 6) h (Nat.lt_of_le_of_lt Nat.and_le_right hle)
      · exact h
  have hin : ∀ (r19 : Nat → Int32 → Int32 → Int32 → Int32 → ZH → Option (Int32 × ZH)) (x k : Nat), x < 64 → xX9_parts_L29 r7 r19 zFU 78 (nI left) (nI c) (nI x) (nI k) 0 (mkH σ) = r19 78 (nI left) (nI c) (nI (srp (irN (sF σ 104) (P 2) (P 0)) left (P 0) x)) (nI (k + 1)) (mkH σ) := by
    intro r19 x k hx
    have kc := lpZ (fun e b (x : Nat) => xX9_parts_L29 r7 r19 e 78 (nI left) (nI c) (nI x) (nI k) (nI b) (mkH σ)) (srF (irN (sF σ 104) (P 2) (P 0)) left) (P 0) (fun _ x => x < 64) (fun x => r19 78 (nI left) (nI c) (nI x) (nI (k + 1)) (mkH σ)) (by omega) ?_ ?_ 0 (by omega) x hx
    · rw [nI_0, Nat.sub_zero] at kc
      exact kc.1
    · intro e b x hb hx
      refine ⟨?_, hsr 1 b x (by omega) hx⟩
      show xX9_parts_B29 r7 r19 (xX9_parts_L29 r7 r19 e) 78 (nI left) (nI c) (nI x) (nI k) (nI b) (mkH σ) = _
      generalize xX9_parts_L29 r7 r19 e = nl
      simp only [xX9_parts_B29, is_78, gu_t, r_lots B, Option.bind_some]
      rw [if_neg (fun z => by have := (nI_leI (by omega) (by omega)).mp z; omega)]
      simp only [r_bit, bitB_n (show x < 2 ^ 31 by omega) (show b < 32 by omega), Option.bind_some, is_78, gu_t, r_ir E.1 W (show b < 6 by omega), nx_and, nx_or, nI_s, srF]
      by_cases h : x.testBit b = true
      · simp only [h, if_true, t10, if_false]
      · simp only [h, Bool.false_eq_true, if_false, t00, if_true, Bool.false_eq_true]
    · intro e x _
      show xX9_parts_B29 r7 r19 (xX9_parts_L29 r7 r19 e) 78 (nI left) (nI c) (nI x) (nI k) (nI (P 0)) (mkH σ) = _
      simp only [xX9_parts_B29, is_78, gu_t, r_lots B, Option.bind_some]
      rw [if_pos (Int32.le_refl _), nI_s]
  have kc := lpZ (fun e k (x : Nat) => xX9_parts_L19 r7 e 78 (nI left) (nI c) (nI x) (nI k) (mkH σ)) (fun _ x => srp (irN (sF σ 104) (P 2) (P 0)) left (P 0) x) 6 (fun _ x => x < 64) (fun x => r7 78 (nI (wo left x)) (nI (c + 1)) (mkH σ)) (by omega) ?_ ?_ 0 (by omega) x hx
  · rw [nI_0] at kc
    exact kc.1
  · intro e k x hk hx
    refine ⟨?_, hsr (P 0) 0 x (by omega) hx⟩
    have hh := hin (xX9_parts_L19 r7 e) x k hx
    show xX9_parts_B19 r7 (xX9_parts_L19 r7 e) 78 (nI left) (nI c) (nI x) (nI k) (mkH σ) = _
    unfold xX9_parts_B19
    rw [if_neg (fun z => by rw [nl_6] at z; have := (nI_leI (by omega) (by omega)).mp z; omega)]
    exact hh
  · intro e x _
    show xX9_parts_B19 r7 (xX9_parts_L19 r7 e) 78 (nI left) (nI c) (nI x) (nI 6) (mkH σ) = _
    unfold xX9_parts_B19 xX9_parts_B70
    rw [if_pos (show (6 : Int32) ≤ nI 6 by decide), wo_n, nI_s]
theorem r_parts {σ : ZS} {bk len : Nat} {P : Nat → Nat} {on fo : Nat → Int32} (E : RE σ bk P on fo len) (W : PW P) : ∀ m a left c e, a + m = 6 → left < 64 → lfP (sF σ 104) on (P 2) (P 0) left → (∀ t, t < a → left.testBit t = false) → xX9_parts_L7 (e + m + 1) 78 (nI left) (nI c) (mkH σ) = some (nI (zf (cpF (lkN (sF σ 104) on (P 2) (P 0))) a m (c, left)).1, mkH σ) := by
  have w0 := W.1
  intro m
  induction m with
  | zero =>
    intro a left c e ha hle H hlo
    have : left = 0 := by
      refine eq_bits (by omega) (by decide) (fun t ht => ?_)
      rw [Nat.zero_testBit]
      cases h : left.testBit t
      · rfl
      · have := bit_lt (n := 6) hle h
        rw [hlo t (by omega)] at h
        cases h
    subst this
    show xX9_parts_B7 (xX9_parts_L7 (e + 0)) 78 (nI 0) (nI c) (mkH σ) = _
    unfold xX9_parts_B7
    rw [if_pos nI_0]
    rfl
  | succ m ih =>
    intro a left c e ha hle H hlo
    rw [zf]
    by_cases hb : left.testBit a = true
    · have a6 : a < 6 := by omega
      have hne : left ≠ 0 := by
        rintro rfl
        rw [Nat.zero_testBit] at hb
        cases hb
      have hlow := low_bit left hle a a6 ⟨hb, hlo⟩
      have hpa : 2 ^ a < 64 := pow_lt (n := 6) a6
      have h1 := r_part1 (left := left) (c := c) (x := 2 ^ a) E W hpa hle (xX9_parts_L7 (e + (m + 1)))
      have hin : ∀ t, (2 ^ a).testBit t = true → left.testBit t = true := fun t ht => by
        rw [Nat.testBit_two_pow, decide_eq_true_eq] at ht
        rw [← ht]; exact hb
      rw [(hgr_eq w0 H hin 6).1] at h1
      have hcl := hg_clo (lk := lkN (sF σ 104) on (P 2) (P 0)) (fun a _ => lk_lt) hpa (Nat.two_pow_pos a)
      have e1 : cpF (lkN (sF σ 104) on (P 2) (P 0)) a (c, left) = (c + 1, wo left (hgN (lkN (sF σ 104) on (P 2) (P 0)) (2 ^ a))) := by
        unfold cpF
        rw [if_pos hb]
      rw [e1]
      have h2 := ih (a + 1) (wo left (hgN (lkN (sF σ 104) on (P 2) (P 0)) (2 ^ a))) (c + 1) e (by omega) (Nat.lt_of_le_of_lt wo_le hle) (lf_wo w0 H hcl) (fun t ht => by
        rw [wo_bit (by omega)]
        by_cases hta : t = a
        · rw [hta, hg_ge Nat.testBit_two_pow_self, Bool.not_true, Bool.and_false]
        · rw [hlo t (by omega)]
          rfl)
      rw [← h2]
      show xX9_parts_B7 (xX9_parts_L7 (e + (m + 1))) 78 (nI left) (nI c) (mkH σ) = _
      unfold xX9_parts_B7
      rw [if_neg (nI_ne0 (by omega) (by omega)), hlow]
      exact h1
    · have e1 : cpF (lkN (sF σ 104) on (P 2) (P 0)) a (c, left) = (c, left) := by
        unfold cpF
        rw [if_neg hb]
      rw [e1, show e + (m + 1) + 1 = (e + 1) + m + 1 by omega]
      exact ih (a + 1) left c (e + 1) (by omega) hle H (fun t ht => by
        by_cases hta : t = a
        · rw [hta]; simpa using hb
        · exact hlo t (by omega))
theorem q_parts : QOK (xX8_parts 8) (xX9_parts 78) := by
  rintro σ ⟨bk, P, on, fo, len, X, I⟩
  obtain ⟨τ, t1, t2, t3, I2, t5⟩ := k_now I
  obtain ⟨⟨W, F, E, C, -⟩, -⟩ := id I2
  have w0 := W.1
  rw [← t5] at t2
  have hl := lit_lt (A := sF τ 104) (on := on) w0
  have hc := c_parts t2
  have H : lfP (sF τ 104) on (P 2) (P 0) (litN (sF τ 104) on (P 0)) := by
    refine ⟨fun t ht => by rw [lit_bit] at ht; simpa using ht, fun b t _ _ h2 => ?_⟩
    rw [lk_bit, Bool.and_eq_true] at h2
    have h3 := h2.2
    unfold lkB at h3
    simp only [Bool.and_eq_true] at h3
    exact h3.2.2.1
  obtain ⟨e, he⟩ := zfu 6 (by omega)
  have hr := r_parts E W 6 0 (litN (sF τ 104) on (P 0)) 0 e (by omega) (by omega) H (fun t ht => by omega)
  refine ⟨nI (zf (cpF (lkN (sF τ 104) on (P 2) (P 0))) 0 6 (0, litN (sF τ 104) on (P 0))).1, τ, τ, ?_, ?_, ⟨FR_X t3, FR_X t3⟩, bk, P, on, fo, len, X, I2⟩
  · unfold xX8_parts
    generalize xX7_countParts = cp at *
    generalize xX7_knot = kn at *
    simp only [rR_8_10, rNow, Option.bind_some, is_62, gu_t, t1, hc]
  · rw [nI_0, ← he] at hr
    unfold xX9_parts
    generalize xX9_parts_L7 zFU = nl at *
    simp only [is_78, gu_t, r_litN E W, Option.bind_some]
    exact hr
