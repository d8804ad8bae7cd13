/-! the web: who hears whom; hidden, twins, reach -/
theorem abs_neg (x : Int32) : absS (-x) = absS x := by
  have hx1 := Int32.le_toInt x
  have hx2 := Int32.toInt_lt x
  have hn : (-x).toInt = (-x.toInt).bmod (2 ^ 32) := Int32.toInt_neg x
  have h0 : (0 : Int32).toInt = 0 := by decide
  unfold absS
  by_cases h1 : 0 ≤ x
  · have h1' := Int32.le_iff_toInt_le.mp h1
    rw [h0] at h1'
    by_cases h2 : 0 ≤ -x
    · have h2' := Int32.le_iff_toInt_le.mp h2
      rw [if_pos h1, if_pos h2]
      apply Int32.toInt_inj.mp
      rw [h0, hn] at h2'
      rw [hn]
      unfold Int.bmod at *
      simp only at *
      split at h2' <;> split <;> omega
    · rw [if_pos h1, if_neg h2, Int32.neg_neg]
  · have h1' := Int32.lt_iff_toInt_lt.mp (Int32.not_le.mp h1)
    rw [h0] at h1'
    by_cases h2 : 0 ≤ -x
    · rw [if_neg h1, if_pos h2]
    · have h2' := Int32.lt_iff_toInt_lt.mp (Int32.not_le.mp h2)
      rw [if_neg h1, if_neg h2, Int32.neg_neg]
      apply Int32.toInt_inj.mp
      rw [h0, hn] at h2'
      rw [hn]
      unfold Int.bmod at *
      simp only at *
      split at h2' <;> split <;> omega
theorem abs_sub (x y : Int32) : absS (x - y) = absS (y - x) := by
  rw [← abs_neg, Int32.neg_sub]
theorem far_sy (A : Nat → Int32) (a b : Nat) : farS A a b = farS A b a := by
  unfold farS
  rw [abs_sub (A a), abs_sub (A (6 + a))]
theorem hr_sy (A : Nat → Int32) (rg a b : Nat) : hrB A rg a b = hrB A rg b a := by
  unfold hrB
  rw [far_sy]
def wS (a : Nat) : Prop := 62 ≤ a ∧ a ≤ 65
def wT (a _k : Nat) : Prop := a = 62
theorem CE_w {σ τ : ZS} {P : Nat → Nat} {on fo : Nat → Int32} {len : Nat} (h : FR wS wT σ τ) (C : CE σ P on fo len) : CE τ P on fo len := by
  refine ⟨CP_f h (fun k z => by unfold wT at z; omega) C.1, ?_, ?_⟩
  · rw [h.1 26 (fun z => by unfold wS at z; omega)]; exact C.2.1
  · unfold CFm
    rw [h.1 27 (fun z => by unfold wS at z; omega), h.2.1 21 15 (fun z => by unfold wT at z; omega)]
    exact C.2.2
theorem cV_w {σ τ : ZS} {p : Nat} (hp : isSt (sK σ) p) (h : FR wS wT σ τ) : cV τ p = cV σ p := by
  have := st_in hp
  exact cV_o h (fun a h1 h2 z => by unfold wS at z; omega) (fun k z => by unfold wT at z; omega)
theorem sc_wb {σ τ : ZS} (h : FR wS wT σ τ) : FR scS scT σ τ := FR_m h (fun a z => by unfold wS at z; unfold scS; omega) (fun a k z => by unfold wT at z; unfold scT; omega)
def lkB (A on : Nat → Int32) (rg n a b : Nat) : Bool := !decide (a = b) && ((litN A on n).testBit a && ((litN A on n).testBit b && hrB A rg a b))
def lkN (A on : Nat → Int32) (rg n a : Nat) : Nat := zf (fun k x => if lkB A on rg n a k then x ||| 2 ^ k else x) 0 6 0
theorem lk_lt {A on : Nat → Int32} {rg n a : Nat} : lkN A on rg n a < 2 ^ 6 := bs_lt _ 6 6 0 0 (by omega) (by decide)
theorem lk_bit {A on : Nat → Int32} {rg n a t : Nat} : (lkN A on rg n a).testBit t = (decide (t < 6) && lkB A on rg n a t) := by
  unfold lkN
  rw [bs_bit, Nat.zero_testBit, Bool.false_or]
  congr 1
  exact decide_eq_decide.mpr (by omega)
theorem lk_sy (A on : Nat → Int32) (rg n a b : Nat) : lkB A on rg n a b = lkB A on rg n b a := by
  unfold lkB
  rw [hr_sy, show decide (a = b) = decide (b = a) from decide_eq_decide.mpr ⟨fun h => h.symm, fun h => h.symm⟩]
  cases decide (b = a) <;> cases (litN A on n).testBit a <;> cases (litN A on n).testBit b <;> rfl
theorem two_bit {x a b : Nat} (hx : x < 2 ^ 31) (ha : a < 32) (hb : b < 32) : (((nI x >>> (nI a &&& 31)) &&& (nI x >>> (nI b &&& 31))) &&& (1 : Int32) = 1) ↔ (x.testBit a = true ∧ x.testBit b = true) := by
  rw [pk_shrN hx (nI a &&& 31) a (s_l a ha), pk_shrN hx (nI b &&& 31) b (s_l b hb), nx_and]
  have h1 : x / 2 ^ a &&& x / 2 ^ b < 2 ^ 31 := Nat.lt_of_le_of_lt Nat.and_le_left (Nat.lt_of_le_of_lt (Nat.div_le_self _ _) hx)
  rw [pk_andN (n := x / 2 ^ a &&& x / 2 ^ b) (m := 1) (by omega) 1 (by decide), nl_1, nI_eq (by omega) (by omega)]
  have h2 : (x / 2 ^ a &&& x / 2 ^ b).testBit 0 = (x.testBit a && x.testBit b) := by
    rw [Nat.testBit_and, Nat.testBit_div_two_pow, Nat.testBit_div_two_pow, Nat.zero_add, Nat.zero_add]
  rw [Nat.testBit_zero] at h2
  constructor
  · intro h
    rw [decide_eq_true (show (x / 2 ^ a &&& x / 2 ^ b) % 2 = 1 by simpa using h)] at h2
    have := h2.symm
    simpa using this
  · rintro ⟨h3, h4⟩
    rw [h3, h4] at h2
    simpa using of_decide_eq_true h2
theorem setF2 {σ : ZS} {a k : Nat} {u v : Int32} : setF (setF σ a k u) a k v = setF σ a k v := by
  unfold setF
  have : up2 (sF (σ.1, up2 (sF σ) a k u, σ.2.2)) a k v = up2 (sF σ) a k v := by
    funext b j
    unfold up2
    by_cases h : b = a ∧ j = k
    · rw [if_pos h, if_pos h]
    · rw [if_neg h, if_neg h]
      show (if b = a ∧ j = k then u else sF σ b j) = _
      rw [if_neg h]
  rw [this]
section KN
variable {σ : ZS} {p len : Nat} {P : Nat → Nat} {on fo A : Nat → Int32}
theorem c_kn1 {a : Nat} (hp : isSt (sK σ) p) (C : CE σ P on fo len) (W : PW P) (L : LV (P 0) (cV σ p) A) (h0 : sI σ 62 0 = nI (litN A on (P 0))) (ha : a < 6) (r10 : Nat → Nat → Int32 → ZH → Option ZH) : xX7_knot_L25 r10 zFU 62 p (nI a) 0 (mkH (setF σ 63 a 0)) = r10 62 p (nI (a + 1)) (mkH (setF σ 63 a (nI (lkN A on (P 2) (P 0) a)))) := by
  have w0 := W.1
  have hl := lit_lt (A := A) (on := on) w0
  have kc := lpZ (fun e k (x : Nat) => xX7_knot_L25 r10 e 62 p (nI a) (nI k) (mkH (setF σ 63 a (nI x)))) (fun k x => if lkB A on (P 2) (P 0) a k then x ||| 2 ^ k else x) 6 (fun _ _ => True) (fun x => r10 62 p (nI (a + 1)) (mkH (setF σ 63 a (nI x)))) (by omega) ?_ ?_ 0 (by omega) 0 trivial
  · rw [nI_0] at kc
    exact kc.1
  · intro e k x hk _
    refine ⟨?_, trivial⟩
    have hF : FR wS wT σ (setF σ 63 a (nI x)) := FR_F (by unfold wS; omega)
    have hpt : isSt (sK (setF σ 63 a (nI x))) p := hp
    have C' := CE_w hF C
    have L' : LV (P 0) (cV (setF σ 63 a (nI x)) p) A := by rw [cV_w hp hF]; exact L
    have h0' : sI (setF σ 63 a (nI x)) 62 0 = nI (litN A on (P 0)) := h0
    have hv : sF (setF σ 63 a (nI x)) 63 a = nI x := sF_eq
    have hw := wa_63 (setF σ 63 a (nI x)) (k := a) (nI (x ||| 2 ^ k)) ha
    rw [setF2] at hw
    show xX7_knot_B25 r10 (xX7_knot_L25 r10 e) 62 p (nI a) (nI k) (mkH (setF σ 63 a (nI x))) = _
    generalize xX7_knot_L25 r10 e = nl
    simp only [xX7_knot_B25, xX7_knot_B59, xX7_knot_B60, nl_6]
    rw [if_neg (fun z => by have := (nI_leI (by omega) (by omega)).mp z; omega)]
    simp only [rI_62_0, h0', Option.bind_some, is_S hpt, gu_t, nI_s, t10, t00, if_true, if_false, rR_62_1, ra_63 (setF σ 63 a (nI x)) ha, hv, one_shl (show k < 32 by omega), nx_or, hw, lkB]
    by_cases hak : a = k
    · rw [if_pos (by rw [hak])]
      simp only [decide_eq_true hak, Bool.not_true, Bool.false_and, Bool.false_eq_true, if_false]
    · rw [if_neg (fun z => hak ((nI_eq (by omega) (by omega)).mp z))]
      simp only [decide_eq_false hak, Bool.not_false, Bool.true_and]
      have tb := two_bit (show litN A on (P 0) < 2 ^ 31 by omega) (show a < 32 by omega) (show k < 32 by omega)
      by_cases hb : (litN A on (P 0)).testBit a = true ∧ (litN A on (P 0)).testBit k = true
      · rw [if_pos (tb.mpr hb)]
        have ha2 := hb.1
        have hk2 := hb.2
        rw [lit_bit] at ha2 hk2
        have ha3 : a < P 0 := by simp at ha2; exact ha2.1
        have hk3 : k < P 0 := by simp at hk2; exact hk2.1
        simp only [c_hrB hpt C'.1 W L' ha3 hk3, Option.bind_some, hb.1, hb.2, Bool.true_and]
        by_cases hh : hrB A (P 2) a k = true
        · simp only [hh, if_true, t10, if_false, rR_62_1, Option.bind_some, ra_63 (setF σ 63 a (nI x)) ha, hv, nx_or, hw]
        · simp only [hh, Bool.false_eq_true, if_false, t00, if_true]
      · rw [if_neg (fun z => hb (tb.mp z))]
        have : ((litN A on (P 0)).testBit a && ((litN A on (P 0)).testBit k && hrB A (P 2) a k)) = false := by
          cases h1 : (litN A on (P 0)).testBit a
          · rfl
          · cases h2 : (litN A on (P 0)).testBit k
            · rfl
            · exact absurd ⟨h1, h2⟩ hb
        simp only [this, Bool.false_eq_true, if_false]
  · intro e x _
    show xX7_knot_B25 r10 (xX7_knot_L25 r10 e) 62 p (nI a) (nI 6) (mkH (setF σ 63 a (nI x))) = _
    unfold xX7_knot_B25
    rw [if_pos (show (6 : Int32) ≤ nI 6 by decide), nI_s]
/-- the web of a state: who is on, the rows of links -/
def WBp (σ : ZS) (lit : Nat) (lk : Nat → Nat) : Prop := sI σ 62 0 = nI lit ∧ lit < 64 ∧ ∀ a, a < 6 → sF σ 63 a = nI (lk a) ∧ lk a < 64
theorem c_knot (hp : isSt (sK σ) p) (C : CE σ P on fo len) (W : PW P) (L : LV (P 0) (cV σ p) A) : ∃ τ, xX7_knot 62 p (mkH σ) = some (mkH τ) ∧ WBp τ (litN A on (P 0)) (lkN A on (P 2) (P 0)) ∧ FR wS wT σ τ := by
  have w0 := W.1
  have hl := lit_lt (A := A) (on := on) w0
  obtain ⟨e, he⟩ := zfu 6 (by omega)
  have key := lpI (fun e k (τ : ZS) => xX7_knot_L10 e 62 p (nI k) (mkH τ)) 6 (fun k τ => FR wS wT σ τ ∧ sI τ 62 0 = nI (litN A on (P 0)) ∧ ∀ a, a < k → sF τ 63 a = nI (lkN A on (P 2) (P 0) a)) (fun v => ∃ τ, v = mkH τ ∧ WBp τ (litN A on (P 0)) (lkN A on (P 2) (P 0)) ∧ FR wS wT σ τ) ?_ ?_ 6 0 (setI σ 62 0 (nI (litN A on (P 0)))) e (by omega) ⟨FR_I rfl, sI_eq, fun a h => by omega⟩
  · obtain ⟨v, hv, τ, rfl, t2, t3⟩ := key
    refine ⟨τ, ?_, t2, t3⟩
    have hk : xX7_knot_L10 zFU 62 p 0 (mkH (setI σ 62 0 (nI (litN A on (P 0))))) = some (mkH τ) := by
      rw [he, ← nI_0]
      exact hv
    clear hv he
    have e1 : xX7_knot 62 p (mkH σ) = z_gu (z_is (mkH σ) p 5) ((xX5_onBits p (mkH σ)).bind fun r2 => ((z_sF r2.2 62 7 0 (.int r2.1)).bind fun h5 => xX7_knot_L10 zFU 62 p 0 h5)) := rfl
    rw [e1]
    generalize xX7_knot_L10 zFU = nl at *
    rw [is_S hp, gu_t, c_litN hp C W L, Option.bind_some, wI_62_0, Option.bind_some]
    exact hk
  · rintro e k τ hk ⟨hF, h0, hl2⟩
    right
    have hpt : isSt (sK τ) p := by rw [FR_K hF]; exact hp
    have hc := c_kn1 hpt (CE_w hF C) W (by rw [cV_w hp hF]; exact L) h0 hk (xX7_knot_L10 e)
    refine ⟨setF τ 63 k (nI (lkN A on (P 2) (P 0) k)), ?_, FR_t hF (FR_F (by unfold wS; omega)), h0, fun a ha => ?_⟩
    · have hB : xX7_knot_L10 (e + 1) 62 p (nI k) (mkH τ) = xX7_knot_B10 (xX7_knot_L10 e) 62 p (nI k) (mkH τ) := rfl
      refine hB.trans ?_
      generalize xX7_knot_L10 e = nl at *
      unfold xX7_knot_B10
      generalize xX7_knot_L25 nl zFU = n2 at *
      rw [if_neg (fun z => by rw [nl_6] at z; have := (nI_leI (by omega) (by omega)).mp z; omega), rR_62_1, Option.bind_some, wa_63 τ (k := k) 0 hk, Option.bind_some, hc]
    · by_cases hak : a = k
      · rw [hak, sF_eq]
      · rw [sF_ne (by omega)]
        exact hl2 a (by omega)
  · rintro e τ ⟨hF, h0, hl2⟩
    refine ⟨mkH τ, ?_, τ, rfl, ⟨h0, by omega, fun a ha => ⟨hl2 a ha, lk_lt⟩⟩, hF⟩
    show xX7_knot_B10 (xX7_knot_L10 e) 62 p (nI 6) (mkH τ) = _
    unfold xX7_knot_B10
    rw [if_pos (show (6 : Int32) ≤ nI 6 by decide)]
end KN
theorem c_linked {σ : ZS} {lit a b : Nat} {lk : Nat → Nat} (w : WBp σ lit lk) (ha : a < 6) (hb : b < 6) : xX7_linked 62 (nI a) (nI b) (mkH σ) = some (if (lk a).testBit b then 1 else 0, mkH σ) := by
  obtain ⟨h1, h2⟩ := w.2.2 a ha
  simp only [xX7_linked, rR_62_1, Option.bind_some, ra_63 σ ha, h1]
  have hbb := bitB_n (show lk a < 2 ^ 31 by omega) (show b < 32 by omega)
  unfold bitB at hbb
  by_cases h : (lk a).testBit b = true
  · rw [h] at hbb
    rw [if_pos (of_decide_eq_true hbb), if_pos h]
  · rw [show (lk a).testBit b = false by simpa using h] at hbb
    rw [if_neg (of_decide_eq_false hbb), if_neg h]
def thN (lk : Nat → Nat) (a b : Nat) : Nat := if a = b then 0 else if (lk a).testBit b then 0 else lk a &&& lk b
theorem c_third {σ : ZS} {lit a b : Nat} {lk : Nat → Nat} (w : WBp σ lit lk) (ha : a < 6) (hb : b < 6) : xX7_thirdOnes 62 (nI a) (nI b) (mkH σ) = some (nI (thN lk a b), mkH σ) := by
  unfold xX7_thirdOnes thN
  by_cases hab : a = b
  · rw [if_pos (by rw [hab]), if_pos hab]
    rfl
  · rw [if_neg (fun z => hab ((nI_eq (by omega) (by omega)).mp z)), if_neg hab]
    simp only [is_62, gu_t, c_linked w ha hb, Option.bind_some, rR_62_1, ra_63 σ ha, ra_63 σ hb, (w.2.2 a ha).1, (w.2.2 b hb).1, nx_and]
    by_cases h : (lk a).testBit b = true
    · simp only [h, if_true, t10, if_false]
      rfl
    · simp only [h, Bool.false_eq_true, if_false, t00, if_true]
/-- what the reference finds hidden -/
def hbB (A on : Nat → Int32) (rg a b c : Nat) : Bool := onA A on c && (hrB A rg a c && hrB A rg b c)
def hbN (A on : Nat → Int32) (rg n a b : Nat) : Nat := if a = b then 0 else if onA A on a && (onA A on b && !hrB A rg a b) then zf (fun k x => if hbB A on rg a b k then x ||| 2 ^ k else x) 0 n 0 else 0
theorem th_eq {A on : Nat → Int32} {rg n a b : Nat} (hn : n ≤ 6) (ha : a < n) (hb : b < n) : thN (lkN A on rg n) a b = hbN A on rg n a b := by
  unfold thN hbN
  by_cases hab : a = b
  · rw [if_pos hab, if_pos hab]
  · rw [if_neg hab, if_neg hab, lk_bit, decide_eq_true (show b < 6 by omega), Bool.true_and]
    have hla : (litN A on n).testBit a = onA A on a := by rw [lit_bit, decide_eq_true ha, Bool.true_and]
    have hlb : (litN A on n).testBit b = onA A on b := by rw [lit_bit, decide_eq_true hb, Bool.true_and]
    have hq : lkB A on rg n a b = (onA A on a && (onA A on b && hrB A rg a b)) := by
      unfold lkB
      rw [hla, hlb, decide_eq_false hab]
      rfl
    have hx : lkN A on rg n a &&& lkN A on rg n b < 2 ^ 32 := by
      have := lk_lt (A := A) (on := on) (rg := rg) (n := n) (a := a)
      exact Nat.lt_of_le_of_lt Nat.and_le_left (by omega)
    have hoff : ∀ c, onA A on c = false → c < n → lkN A on rg n c = 0 := by
      intro c hc hcn
      have := lk_lt (A := A) (on := on) (rg := rg) (n := n) (a := c)
      refine eq_bits (by omega) (by decide) (fun t ht => ?_)
      rw [lk_bit, Nat.zero_testBit]
      unfold lkB
      rw [lit_bit, hc]
      simp
    rw [hq]
    cases h1 : onA A on a
    · rw [hoff a h1 ha]
      simp
    · cases h2 : onA A on b
      · rw [hoff b h2 hb]
        simp
      · cases h3 : hrB A rg a b
        · simp only [Bool.true_and, Bool.not_false, Bool.false_eq_true, if_false, if_true]
          refine eq_bits hx (Nat.lt_of_lt_of_le (bs_lt _ 6 n 0 0 (by omega) (by decide)) (by decide)) (fun t ht => ?_)
          rw [Nat.testBit_and, lk_bit, lk_bit, bs_bit, Nat.zero_testBit, Bool.false_or]
          unfold lkB hbB
          rw [hla, hlb, h1, h2, lit_bit]
          by_cases htn : t < n
          · rw [decide_eq_true (show t < 6 by omega), decide_eq_true htn, decide_eq_true (show 0 ≤ t ∧ t < 0 + n by omega)]
            by_cases hta : a = t
            · subst hta
              rw [hr_sy A rg b, h3]
              simp
            · by_cases htb : b = t
              · subst htb
                rw [h3]
                simp
              · rw [decide_eq_false hta, decide_eq_false htb]
                cases onA A on t <;> cases hrB A rg a t <;> cases hrB A rg b t <;> rfl
          · rw [decide_eq_false htn, decide_eq_false (show ¬ (0 ≤ t ∧ t < 0 + n) by omega)]
            simp
        · simp
theorem r_hb {σ : ZS} {bk len a b : Nat} {P : Nat → Nat} {on fo : Nat → Int32} (E : RE σ bk P on fo len) (W : PW P) (ha : a < P 0) (hb : b < P 0) : xX9_hiddenBy 78 (nI a) (nI b) (mkH σ) = some (nI (hbN (sF σ 104) on (P 2) (P 0) a b), mkH σ) := by
  have w0 := W.1
  have B := RP_B E.1 W
  have a6 : a < 6 := by omega
  have b6 : b < 6 := by omega
  have kc := lpZ (fun e k (x : Nat) => xX9_hiddenBy_L37 e 78 (nI a) (nI b) (nI x) (nI k) (mkH σ)) (fun k x => if hbB (sF σ 104) on (P 2) a b k then x ||| 2 ^ k else x) (P 0) (fun _ _ => True) (fun x => some (nI x, mkH σ)) (by omega) ?_ ?_ 0 (by omega) 0 trivial
  · rw [nI_0, Nat.sub_zero] at kc
    unfold xX9_hiddenBy hbN
    generalize xX9_hiddenBy_L37 zFU = nl at *
    by_cases hab : a = b
    · rw [if_pos (by rw [hab]), if_pos hab]
      rfl
    · rw [if_neg (fun z => hab ((nI_eq (by omega) (by omega)).mp z)), if_neg hab]
      simp only [is_78, gu_t, r_on E W ha, r_on E W hb, Option.bind_some, r_hrB E.1 W a6 b6]
      cases h1 : onA (sF σ 104) on a
      · simp [nI_0]
      · cases h2 : onA (sF σ 104) on b
        · simp [nI_0]
        · cases h3 : hrB (sF σ 104) (P 2) a b
          · simp only [if_true, t10, if_false, Bool.false_eq_true, t00, Bool.not_false, Bool.and_self]
            exact kc.1
          · simp [nI_0]
  · intro e k x hk _
    refine ⟨?_, trivial⟩
    show xX9_hiddenBy_B37 (xX9_hiddenBy_L37 e) 78 (nI a) (nI b) (nI x) (nI k) (mkH σ) = _
    simp only [xX9_hiddenBy_B37, is_78, gu_t, r_lots B, Option.bind_some]
    rw [if_neg (fun z => by have := (nI_leI (by omega) (by omega)).mp z; omega)]
    simp only [is_78, gu_t, r_on E W hk, r_hrB E.1 W a6 (show k < 6 by omega), r_hrB E.1 W b6 (show k < 6 by omega), Option.bind_some, one_shl (show k < 32 by omega), nx_or, nI_s, hbB]
    by_cases h1 : onA (sF σ 104) on k = true
    · by_cases h2 : hrB (sF σ 104) (P 2) a k = true
      · by_cases h3 : hrB (sF σ 104) (P 2) b k = true
        · simp [h1, h2, h3]
        · simp [h1, h2, h3]
      · simp [h1, h2]
    · simp [h1]
  · intro e x _
    show xX9_hiddenBy_B37 (xX9_hiddenBy_L37 e) 78 (nI a) (nI b) (nI x) (nI (P 0)) (mkH σ) = _
    simp only [xX9_hiddenBy_B37, is_78, gu_t, r_lots B, Option.bind_some]
    rw [if_pos ((nI_leI (by omega) (by omega)).mpr (Nat.le_refl _))]
/-- the web knotted of the state at hand; all else as it was -/
theorem k_now {σ : ZS} {bk len : Nat} {P : Nat → Nat} {on fo : Nat → Int32} {X : Nat → Nat → Int32} (I : IV σ bk P on fo len X) : ∃ τ, xX7_knot 62 (sNow σ) (mkH σ) = some (mkH τ) ∧ WBp τ (litN (sF σ 104) on (P 0)) (lkN (sF σ 104) on (P 2) (P 0)) ∧ FR wS wT σ τ ∧ IV τ bk P on fo len X ∧ sF τ 104 = sF σ 104 := by
  obtain ⟨⟨W, F, E, C, -⟩, -, -, V, L, PR, -⟩ := id I
  have hp := (PR.1 0 _ (by omega) (PT_0 σ)).1
  obtain ⟨τ, t1, t2, t3⟩ := c_knot hp C W L
  have h4 := sc_4 (sc_wb t3)
  exact ⟨τ, t1, t2, t3, IV_q h4.1 h4.2 I, t3.1 104 (fun z => by unfold wS at z; omega)⟩
theorem q_hidden (a b : Int32) : QOK (xX8_hidden 8 a b) (xX9_hidden 78 a b) := by
  rintro σ ⟨bk, P, on, fo, len, X, I⟩
  obtain ⟨⟨W, F, E, C, -⟩, -⟩ := id I
  have w0 := W.1
  have B := RP_B E.1 W
  have CB' := CP_B C.1 W
  by_cases ha : 0 ≤ a ∧ a < nI (P 0)
  · by_cases hb : 0 ≤ b ∧ b < nI (P 0)
    · obtain ⟨s, hs, rfl⟩ := in_n (by omega) ha
      obtain ⟨o, ho, rfl⟩ := in_n (by omega) hb
      obtain ⟨τ, t1, t2, t3, I2, t5⟩ := k_now I
      obtain ⟨⟨-, -, E2, -⟩, -⟩ := id I2
      refine ⟨nI (thN (lkN (sF σ 104) on (P 2) (P 0)) s o), τ, τ, ?_, ?_, ⟨FR_X t3, FR_X t3⟩, bk, P, on, fo, len, X, I2⟩
      · unfold xX8_hidden
        generalize xX7_knot = kn at *
        simp only [rR_8_5, Option.bind_some, is_21, gu_t, c_isShip CB', if_pos ha, if_pos hb, t10, if_false, rR_8_10, rNow, is_62, t1, c_third t2 (show s < 6 by omega) (show o < 6 by omega)]
      · simp only [xX9_hidden, is_78, gu_t, r_isShip (RP_B E2.1 W), Option.bind_some, if_pos ha, if_pos hb, t10, if_false, r_hb E2 W hs ho, t5, th_eq w0 hs ho]
    · refine ⟨-1, σ, σ, ?_, ?_, ⟨rfl, rfl⟩, bk, P, on, fo, len, X, I⟩
      · simp only [xX8_hidden, rR_8_5, Option.bind_some, is_21, gu_t, c_isShip CB', if_pos ha, if_neg hb, t10, if_false, if_true]
      · simp only [xX9_hidden, is_78, gu_t, r_isShip B, Option.bind_some, if_pos ha, if_neg hb, t10, if_false, if_true]
  · refine ⟨-1, σ, σ, ?_, ?_, ⟨rfl, rfl⟩, bk, P, on, fo, len, X, I⟩
    · simp only [xX8_hidden, rR_8_5, Option.bind_some, is_21, gu_t, c_isShip CB', if_neg ha, if_true]
    · simp only [xX9_hidden, is_78, gu_t, r_isShip B, Option.bind_some, if_neg ha, if_true]
