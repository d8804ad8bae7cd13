/-! the fewest colours -/
def Col (lk : Nat → Nat) (set k : Nat) : Prop := ∃ c : Nat → Nat, (∀ a, a < 6 → set.testBit a = true → c a < k) ∧ ∀ a b, a < 6 → b < 6 → set.testBit a = true → set.testBit b = true → (lk a).testBit b = true → c a ≠ c b
def apP (lk : Nat → Nat) (set : Nat) : Prop := ∀ a, a < 6 → set.testBit a = true → lk a &&& set = 0
/-- rows of links: none to itself -/
def irr (lk : Nat → Nat) : Prop := ∀ a, a < 6 → (lk a).testBit a = false
theorem col_6 {lk : Nat → Nat} (hi : irr lk) (set : Nat) : Col lk set 6 := ⟨fun a => a, fun a ha _ => ha, fun a b ha _ _ _ h e => by
  have e' : a = b := e
  rw [← e', hi a ha] at h
  cases h⟩
theorem col_0 (lk : Nat → Nat) (k : Nat) : Col lk 0 k := ⟨fun _ => 0, fun a _ h => (by rw [Nat.zero_testBit] at h; cases h), fun a b _ _ h => (by rw [Nat.zero_testBit] at h; cases h)⟩
theorem col_add {lk : Nat → Nat} {set al v : Nat} (ha : apP lk al) (hc : Col lk (set ^^^ al) v) : Col lk set (v + 1) := by
  obtain ⟨c, c1, c2⟩ := hc
  have hr : ∀ a, set.testBit a = true → ¬ al.testBit a = true → (set ^^^ al).testBit a = true := fun a h1 h2 => by
    rw [Nat.testBit_xor, h1, show al.testBit a = false by simpa using h2]
    rfl
  refine ⟨fun a => if al.testBit a then v else c a, fun a h1 h2 => ?_, fun a b h1 h2 h3 h4 h5 => ?_⟩
  · show (if al.testBit a then v else c a) < v + 1
    by_cases h : al.testBit a = true
    · rw [if_pos h]; omega
    · rw [if_neg h]
      have := c1 a h1 (hr a h2 h)
      omega
  · show (if al.testBit a then v else c a) ≠ (if al.testBit b then v else c b)
    by_cases ha2 : al.testBit a = true
    · by_cases hb2 : al.testBit b = true
      · exfalso
        have h6 := ha a h1 ha2
        have h7 : (lk a &&& al).testBit b = true := by rw [Nat.testBit_and, h5, hb2]; rfl
        rw [h6, Nat.zero_testBit] at h7
        cases h7
      · rw [if_pos ha2, if_neg hb2]
        have := c1 b h2 (hr b h4 hb2)
        omega
    · by_cases hb2 : al.testBit b = true
      · rw [if_neg ha2, if_pos hb2]
        have := c1 a h1 (hr a h3 ha2)
        omega
      · rw [if_neg ha2, if_neg hb2]
        exact c2 a b h1 h2 (hr a h3 ha2) (hr b h4 hb2) h5
/-- one colour's ships, and the others with a colour less -/
theorem col_sub {lk : Nat → Nat} {set j : Nat} (hs : set < 64) (h0 : set ≠ 0) (hc : Col lk set j) : ∃ al, al < 64 ∧ al ≠ 0 ∧ al &&& set = al ∧ apP lk al ∧ 1 ≤ j ∧ Col lk (set ^^^ al) (j - 1) := by
  obtain ⟨c, c1, c2⟩ := hc
  obtain ⟨x, hx⟩ : ∃ x, set.testBit x = true := by
    apply Classical.byContradiction
    intro hn
    exact h0 (eq_bits (by omega) (by decide) (fun t _ => by
      rw [Nat.zero_testBit]
      cases h : set.testBit t
      · rfl
      · exact absurd ⟨t, h⟩ hn))
  have x6 := bit_lt (n := 6) hs hx
  have hbit : ∀ t, (zf (fun k a => if set.testBit k && decide (c k = c x) then a ||| 2 ^ k else a) 0 6 0).testBit t = (decide (t < 6) && (set.testBit t && decide (c t = c x))) := fun t => by
    rw [bs_bit (fun k => set.testBit k && decide (c k = c x)), Nat.zero_testBit, Bool.false_or]
    congr 1
    exact decide_eq_decide.mpr (by omega)
  have hlt : zf (fun k a => if set.testBit k && decide (c k = c x) then a ||| 2 ^ k else a) 0 6 0 < 2 ^ 6 := bs_lt (fun k => set.testBit k && decide (c k = c x)) 6 6 0 0 (by omega) (by decide)
  generalize zf (fun k a => if set.testBit k && decide (c k = c x) then a ||| 2 ^ k else a) 0 6 0 = al at hbit hlt
  have hal : ∀ t, al.testBit t = true → t < 6 ∧ set.testBit t = true ∧ c t = c x := fun t ht => by
    rw [hbit t] at ht
    simpa using ht
  have hrest : ∀ t, (set ^^^ al).testBit t = true → t < 6 ∧ set.testBit t = true ∧ c t ≠ c x := fun t ht => by
    rw [Nat.testBit_xor, hbit t] at ht
    cases h1 : set.testBit t
    · rw [h1] at ht
      simp at ht
    · have t6 := bit_lt (n := 6) hs h1
      rw [h1, decide_eq_true t6] at ht
      simp at ht
      exact ⟨t6, rfl, ht⟩
  have hcx := c1 x x6 hx
  refine ⟨al, hlt, ?_, ?_, ?_, by omega, fun a => if c a = j - 1 then c x else c a, fun a ha h => ?_, fun a b ha hb h1 h2 h3 => ?_⟩
  · rintro rfl
    have := hbit x
    rw [Nat.zero_testBit, hx, decide_eq_true x6] at this
    simp at this
  · apply Nat.eq_of_testBit_eq
    intro t
    rw [Nat.testBit_and]
    cases h : al.testBit t
    · rfl
    · rw [(hal t h).2.1]
      rfl
  · intro a ha h
    apply Nat.eq_of_testBit_eq
    intro t
    rw [Nat.testBit_and, Nat.zero_testBit]
    cases h1 : (lk a).testBit t
    · rfl
    · cases h2 : al.testBit t
      · rfl
      · exact absurd ((hal a h).2.2.trans (hal t h2).2.2.symm) (c2 a t ha (hal t h2).1 (hal a h).2.1 (hal t h2).2.1 h1)
  · show (if c a = j - 1 then c x else c a) < j - 1
    obtain ⟨-, r2, r3⟩ := hrest a h
    have := c1 a ha r2
    by_cases hj : c a = j - 1
    · rw [if_pos hj]; omega
    · rw [if_neg hj]; omega
  · show (if c a = j - 1 then c x else c a) ≠ (if c b = j - 1 then c x else c b)
    obtain ⟨-, r2, r3⟩ := hrest a h1
    obtain ⟨-, s2, s3⟩ := hrest b h2
    have hne := c2 a b ha hb r2 s2 h3
    by_cases hj : c a = j - 1
    · by_cases hk : c b = j - 1
      · omega
      · rw [if_pos hj, if_neg hk]; exact fun z => s3 z.symm
    · by_cases hk : c b = j - 1
      · rw [if_neg hj, if_pos hk]; exact r3
      · rw [if_neg hj, if_neg hk]; exact hne
/-- the sets that are gone through -/
def chn (set : Nat) : Nat → Nat → List Nat
  | 0, _ => []
  | f + 1, al => if al = 0 then [] else al :: chn set f ((al - 1) &&& set)
theorem chn_all : ∀ set, set < 64 → ∀ s, s < 64 → s ≠ 0 → s &&& set = s → (chn set 64 set).contains s = true := by decide +kernel
theorem xor_lt : ∀ set, set < 64 → ∀ s, s < 64 → s ≠ 0 → s &&& set = s → set ^^^ s < set := by decide +kernel
theorem c_isAp {σ : ZS} {lit set : Nat} {lk : Nat → Nat} (w : WBp σ lit lk) (hs : set < 64) : (apP lk set → xX7_isApart 62 (nI set) (mkH σ) = some (1, mkH σ)) ∧ (¬ apP lk set → xX7_isApart 62 (nI set) (mkH σ) = some (0, mkH σ)) := by
  have key := lpA (fun e k => xX7_isApart_L2 e 62 (nI set) (nI k) (mkH σ)) 6 (fun a => set.testBit a = true → lk a &&& set = 0) (some (0, mkH σ)) (some (1, mkH σ)) (by omega) ?_ ?_
  · rw [nI_0] at key
    unfold xX7_isApart
    refine ⟨fun h => key.1 h, fun h => key.2 ?_⟩
    apply Classical.byContradiction
    intro hn
    exact h (fun a ha => Classical.byContradiction fun z => hn ⟨a, ha, z⟩)
  · intro e k hk
    obtain ⟨h1, h2⟩ := w.2.2 k hk
    have hl : lk k &&& set < 64 := Nat.lt_of_le_of_lt Nat.and_le_left h2
    have e1 : xX7_isApart_L2 (e + 1) 62 (nI set) (nI k) (mkH σ) = if set.testBit k = true then (if lk k &&& set = 0 then xX7_isApart_L2 e 62 (nI set) (nI (k + 1)) (mkH σ) else some (0, mkH σ)) else xX7_isApart_L2 e 62 (nI set) (nI (k + 1)) (mkH σ) := by
      show xX7_isApart_B2 (xX7_isApart_L2 e) 62 (nI set) (nI k) (mkH σ) = _
      unfold xX7_isApart_B2
      generalize xX7_isApart_L2 e = nl
      rw [if_neg (fun z => by rw [nl_6] at z; have := (nI_leI (by omega) (by omega)).mp z; omega)]
      have e2 : (nI (lk k &&& set) = (0 : Int32)) = (lk k &&& set = 0) := by rw [← nI_0]; exact nI_eq' (by omega) (by omega)
      simp only [rR_62_1, Option.bind_some, ra_63 σ hk, h1, nx_and, e2, nI_s]
      by_cases hb : set.testBit k = true
      · rw [if_pos ((bb_iff (by omega) (by omega)).mpr hb), if_pos hb]
      · rw [if_neg (fun z => hb ((bb_iff (by omega) (by omega)).mp z)), if_neg hb]
    refine ⟨fun h => ?_, fun h => ?_⟩
    · rw [e1]
      by_cases hb : set.testBit k = true
      · rw [if_pos hb, if_pos (h hb)]
      · rw [if_neg hb]
    · rw [e1]
      by_cases hb : set.testBit k = true
      · rw [if_pos hb, if_neg (fun z => h (fun _ => z))]
      · exact absurd (fun z => absurd z hb) h
  · intro e
    show xX7_isApart_B2 (xX7_isApart_L2 e) 62 (nI set) (nI 6) (mkH σ) = _
    unfold xX7_isApart_B2
    rw [if_pos (show (6 : Int32) ≤ nI 6 by decide)]
/-- the least number of colours -/
def chi (lk : Nat → Nat) (set v : Nat) : Prop := v ≤ 6 ∧ Col lk set v ∧ ∀ j, Col lk set j → v ≤ j
/-- the row of the fewest, below k -/
def fwR (σ : ZS) (lk : Nat → Nat) (k : Nat) : Prop := ∀ s, s < k → ∃ v, sF σ 65 s = nI v ∧ chi lk s v
def fS (a : Nat) : Prop := a = 65
theorem WB_f {σ τ : ZS} {lit : Nat} {lk : Nat → Nat} (h : FR fS (fun _ _ => False) σ τ) (w : WBp σ lit lk) : WBp τ lit lk := by
  unfold WBp
  rw [h.2.1 62 0 (fun z => z), h.1 63 (fun z => by unfold fS at z; omega)]
  exact w
theorem c_few1 {lit set : Nat} {lk : Nat → Nat} (hs : set < 64) (r9 : Nat → Int32 → ZH → Option (Int32 × ZH)) : ∀ (f al cur : Nat) (σ : ZS) (e : Nat), al ≤ f → al < 64 → al &&& set = al → WBp σ lit lk → fwR σ lk set → sF σ 65 set = nI cur → cur ≤ 6 → Col lk set cur → ∃ τ cur', xX7_fewestColours_L25 r9 (e + f + 1) 62 (nI set) (nI al) (mkH σ) = r9 62 (nI (set + 1)) (mkH τ) ∧ FR fS (fun _ _ => False) σ τ ∧ fwR τ lk set ∧ sF τ 65 set = nI cur' ∧ cur' ≤ cur ∧ Col lk set cur' ∧ ∀ s ∈ chn set f al, apP lk s → ∀ v, chi lk (set ^^^ s) v → cur' ≤ v + 1 := by
  intro f
  induction f with
  | zero =>
    intro al cur σ e h1 h2 h3 w R hc h6 hcol
    have : al = 0 := by omega
    subst this
    refine ⟨σ, cur, ?_, FR_r, R, hc, Nat.le_refl _, hcol, fun s hs => by cases hs⟩
    show xX7_fewestColours_B25 r9 (xX7_fewestColours_L25 r9 (e + 0)) 62 (nI set) (nI 0) (mkH σ) = _
    unfold xX7_fewestColours_B25
    rw [if_pos (show nI 0 ≤ 0 by decide), nI_s]
  | succ f ih =>
    intro al cur σ e h1 h2 h3 w R hc h6 hcol
    by_cases h0 : al = 0
    · subst h0
      refine ⟨σ, cur, ?_, FR_r, R, hc, Nat.le_refl _, hcol, fun s hs => by
        have : chn set (f + 1) 0 = [] := if_pos rfl
        rw [this] at hs; cases hs⟩
      show xX7_fewestColours_B25 r9 (xX7_fewestColours_L25 r9 (e + (f + 1))) 62 (nI set) (nI 0) (mkH σ) = _
      unfold xX7_fewestColours_B25
      rw [if_pos (show nI 0 ≤ 0 by decide), nI_s]
    · have hx := xor_lt set hs al h2 h0 h3
      obtain ⟨v, hv, hchi⟩ := R _ hx
      have ha1 : nI al - (1 : Int32) = nI (al - 1) := by
        have := nI_pred (al - 1)
        rwa [show al - 1 + 1 = al by omega] at this
      have hle2 : (al - 1) &&& set ≤ al - 1 := Nat.and_le_left
      have hsub : (al - 1 &&& set) &&& set = al - 1 &&& set := by rw [Nat.and_assoc, Nat.and_self]
      obtain ⟨p1, p2⟩ := c_isAp w h2
      have v6 := hchi.1
      have hstep : ∃ σ1 cur1, xX7_fewestColours_L25 r9 (e + (f + 1) + 1) 62 (nI set) (nI al) (mkH σ) = xX7_fewestColours_L25 r9 (e + f + 1) 62 (nI set) (nI (al - 1 &&& set)) (mkH σ1) ∧ FR fS (fun _ _ => False) σ σ1 ∧ fwR σ1 lk set ∧ sF σ1 65 set = nI cur1 ∧ cur1 ≤ cur ∧ Col lk set cur1 ∧ (apP lk al → cur1 ≤ v + 1) := by
        have hB : xX7_fewestColours_L25 r9 (e + (f + 1) + 1) 62 (nI set) (nI al) (mkH σ) = xX7_fewestColours_B25 r9 (xX7_fewestColours_L25 r9 (e + f + 1)) 62 (nI set) (nI al) (mkH σ) := rfl
        rw [hB]
        generalize xX7_fewestColours_L25 r9 (e + f + 1) = nl
        unfold xX7_fewestColours_B25
        rw [if_neg (nI_nle (by omega) (by omega))]
        simp only [rR_62_3, Option.bind_some, nx_xor, ra_65 σ (show set ^^^ al < 64 by omega), ra_65 σ hs, hv, hc, nl_1, nI_add, nI_le' (show cur < 2 ^ 31 by omega) (show 1 + v < 2 ^ 31 by omega)]
        rw [← nl_1, ha1, nx_and]
        by_cases hle : cur ≤ 1 + v
        · rw [if_pos hle]
          exact ⟨σ, cur, rfl, FR_r, R, hc, Nat.le_refl _, hcol, fun _ => by omega⟩
        · rw [if_neg hle]
          by_cases hap : apP lk al
          · simp only [is_62, gu_t, p1 hap, Option.bind_some, t10, if_false, rR_62_3, wa_65 σ (k := set) (nI (1 + v)) hs]
            refine ⟨setF σ 65 set (nI (1 + v)), 1 + v, rfl, FR_F rfl, fun s hs2 => ?_, sF_eq, by omega, by rw [Nat.add_comm]; exact col_add hap hchi.2.1, fun _ => by omega⟩
            rw [sF_ne (by omega)]
            exact R s hs2
          · simp only [is_62, gu_t, p2 hap, Option.bind_some, t00, if_true]
            exact ⟨σ, cur, rfl, FR_r, R, hc, Nat.le_refl _, hcol, fun z => absurd z hap⟩
      obtain ⟨σ1, cur1, s1, s2, s3, s4, s5, s6, s7⟩ := hstep
      obtain ⟨τ, cur', t1, t2, t3, t4, t5, t6, t7⟩ := ih (al - 1 &&& set) cur1 σ1 e (by omega) (by omega) hsub (WB_f s2 w) s3 s4 (by omega) s6
      refine ⟨τ, cur', s1.trans t1, FR_t s2 t2, t3, t4, by omega, t6, fun s hs2 hap v' hv' => ?_⟩
      have hch : chn set (f + 1) al = al :: chn set f ((al - 1) &&& set) := if_neg h0
      rw [hch] at hs2
      rcases List.mem_cons.mp hs2 with rfl | hs2
      · have e1 := hchi.2.2 v' hv'.2.1
        have := s7 hap
        omega
      · exact t7 s hs2 hap v' hv'
theorem c_few {σ : ZS} {lit : Nat} {lk : Nat → Nat} (hi : irr lk) (w : WBp σ lit lk) : ∃ τ v, xX7_fewestColours 62 (mkH σ) = some (nI v, mkH τ) ∧ chi lk lit v ∧ FR fS (fun _ _ => False) σ τ := by
  obtain ⟨e, he⟩ := zfu 63 (by omega)
  have key := lpI (fun e k (τ : ZS) => xX7_fewestColours_L9 e 62 (nI k) (mkH τ)) 64 (fun k τ => 1 ≤ k ∧ FR fS (fun _ _ => False) σ τ ∧ fwR τ lk k) (fun r => ∃ τ v, r = (nI v, mkH τ) ∧ chi lk lit v ∧ FR fS (fun _ _ => False) σ τ) ?_ ?_ 63 1 (setF σ 65 0 0) e (by omega) ⟨Nat.le_refl _, FR_F rfl, fun s hs => ⟨0, ?_, ?_⟩⟩
  · obtain ⟨r, h1, τ, v, rfl, h3, h4⟩ := key
    refine ⟨τ, v, ?_, h3, h4⟩
    unfold xX7_fewestColours
    generalize hnl : xX7_fewestColours_L9 zFU = nl
    have hw := wa_65 σ (k := 0) 0 (show 0 < 64 by omega)
    rw [nI_0] at hw
    simp only [rR_62_3, Option.bind_some, hw]
    rw [← hnl, he]
    exact h1
  · rintro e k τ hk ⟨hk1, hF, R⟩
    right
    obtain ⟨e2, he2⟩ := zfu 64 (by omega)
    have w2 := WB_f (FR_t hF (FR_F (a := 65) (k := k) (v := 6) rfl)) w
    obtain ⟨υ, cur, u1, u2, u3, u4, u5, u6, u7⟩ := c_few1 (lit := lit) hk (xX7_fewestColours_L9 e) 64 k 6 (setF τ 65 k 6) e2 (by omega) hk (Nat.and_self k) w2 (fun s hs => by rw [sF_ne (by omega)]; exact R s hs) sF_eq (Nat.le_refl _) (col_6 hi k)
    refine ⟨υ, ?_, by omega, FR_t hF (FR_t (FR_F rfl) u2), fun s hs => ?_⟩
    · show xX7_fewestColours_B9 (xX7_fewestColours_L9 e) 62 (nI k) (mkH τ) = _
      unfold xX7_fewestColours_B9
      rw [if_neg (fun z => by rw [show (64 : Int32) = nI 64 from rfl] at z; have := (nI_leI (by omega) (by omega)).mp z; omega), rR_62_3, Option.bind_some, wa_65 τ (k := k) 6 hk, Option.bind_some, he2]
      exact u1
    · rcases Nat.lt_or_ge s k with h | h
      · exact u3 s h
      · have : s = k := by omega
        subst this
        refine ⟨cur, u4, by omega, u6, fun j hj => ?_⟩
        obtain ⟨al, a1, a2, a3, a4, a5, a6⟩ := col_sub hk (show s ≠ 0 by omega) hj
        obtain ⟨v, -, hv⟩ := R _ (xor_lt s hk al a1 a2 a3)
        have hm := chn_all s hk al a1 a2 a3
        have := u7 al (List.contains_iff_mem.mp hm) a4 v hv
        have := hv.2.2 _ a6
        omega
  · rintro e τ ⟨-, hF, R⟩
    obtain ⟨v, hv, hchi⟩ := R lit w.2.1
    have w2 := WB_f hF w
    refine ⟨(nI v, mkH τ), ?_, τ, v, rfl, hchi, hF⟩
    show xX7_fewestColours_B9 (xX7_fewestColours_L9 e) 62 (nI 64) (mkH τ) = _
    unfold xX7_fewestColours_B9
    rw [if_pos (show (64 : Int32) ≤ nI 64 by decide)]
    simp only [rR_62_3, rI_62_0, w2.1, Option.bind_some, ra_65 τ w.2.1, hv]
  · have : s = 0 := by omega
    subst this
    rw [sF_eq]
    rfl
  · have : s = 0 := by omega
    subst this
    exact ⟨by omega, col_0 lk 0, fun j _ => Nat.zero_le j⟩
