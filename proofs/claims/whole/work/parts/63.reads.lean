/-! what both sides read: specs over a view A of 521 ints, and the reference's reads -/
def absS (x : Int32) : Int32 := if 0 ≤ x then x else -x
def farS (A : Nat → Int32) (a b : Nat) : Int32 := absS (A a - A b) + absS (A (6 + a) - A (6 + b))
def halfS (x : Int32) : Int32 := if 100 - x ≤ x then 100 - x else x
def speedS (A : Nat → Int32) (s : Nat) : Int32 := halfS (A (12 + s)) + halfS (A (18 + s))
def onA (A : Nat → Int32) (on : Nat → Int32) (s : Nat) : Bool := onS (A 516) (A 517) (on s) (nI s)
def sb (a k : Int32) : Int32 := a ||| ((1 : Int32) <<< (k &&& 31))
def litS (A : Nat → Int32) (on : Nat → Int32) (n : Nat) : Int32 := zf (fun s a => if onA A on s then sb a (nI s) else a) 0 n 0
def ownS (A : Nat → Int32) (s n : Nat) : Int32 := zf (fun i a => sb a (A (30 + 3 * s + i))) 0 n 0
def freeS (A : Nat → Int32) (s n : Nat) (own : Int32) : Int32 := zf (fun k a => if 0 ≤ A (84 + 30 * s + k) then a else if bitB own (nI k) then a else sb a (nI k)) 0 n 0
def awayS (A : Nat → Int32) (s o : Nat) : Int32 := absS (A (444 + 6 * s + o) - A s) + absS (A (480 + 6 * s + o) - A (6 + s))
def seedS (x : Int32) : Int32 := (137 * x + 71) - (137 * x + 71) / 1000 * 1000
theorem r_lit {σ : ZS} {bk nsh nsl : Nat} (B : RB σ bk nsh nsl) : xX9_litNow 78 (mkH σ) = some (litS (sF σ 104) (fun s => sF σ 95 (6 * bk + s)) nsh, mkH σ) := by
  obtain ⟨e, he⟩ := zfu nsh (by have := B.2.2.2.1; omega)
  unfold xX9_litNow
  rw [he]
  exact r_litNow_L B nsh 0 0 e (by omega)
theorem r_abs (x : Int32) (h : ZH) : xX9_absolute x h = some (absS x, h) := by
  unfold xX9_absolute absS
  by_cases hc : 0 ≤ x
  · rw [if_pos hc, if_pos hc]
  · rw [if_neg hc, if_neg hc]
theorem r_apart {σ : ZS} {a b : Nat} (ha : a < 6) (hb : b < 6) : xX9_apart 78 (nI a) (nI b) (mkH σ) = some (farS (sF σ 104) a b, mkH σ) := by
  simp only [xX9_apart, rR_78_41, Option.bind_some, nl_0, nl_6, nI_add, Nat.zero_add, ra_104 σ (k := a) (by omega), ra_104 σ (k := b) (by omega), ra_104 σ (k := 6 + a) (by omega), ra_104 σ (k := 6 + b) (by omega), r_abs]
  rfl
theorem r_doHear {σ : ZS} {bk nsh nsl a b : Nat} (B : RB σ bk nsh nsl) (ha : a < 6) (hb : b < 6) : xX9_doHear 78 (nI a) (nI b) (mkH σ) = some (if farS (sF σ 104) a b ≤ sF σ 83 bk then 1 else 0, mkH σ) := by
  obtain ⟨b1, b2, -⟩ := B
  simp only [xX9_doHear, is_78, gu_t, r_apart ha hb, Option.bind_some, rR_78_13, rI_78_34, b1, ra_83 σ b2]
  by_cases hc : sF σ 83 bk < farS (sF σ 104) a b
  · rw [if_pos hc, if_neg (Int32.not_le.mpr hc)]
  · rw [if_neg hc, if_pos (Int32.not_lt.mp hc)]
theorem r_speed {σ : ZS} {s : Nat} (hs : s < 6) : xX9_speedOf 78 (nI s) (mkH σ) = some (speedS (sF σ 104) s, mkH σ) := by
  simp only [xX9_speedOf, rR_78_41, Option.bind_some, nl_12, nl_18, nI_add, ra_104 σ (k := 12 + s) (by omega), ra_104 σ (k := 18 + s) (by omega)]
  unfold speedS halfS
  by_cases h1 : (100 : Int32) - sF σ 104 (12 + s) ≤ sF σ 104 (12 + s) <;> by_cases h2 : (100 : Int32) - sF σ 104 (18 + s) ≤ sF σ 104 (18 + s) <;> simp [h1, h2, xX9_speedOf_B36]
theorem r_own_L {σ : ZS} {s n : Nat} (hs : s < 6) (hn : n ≤ 3) (ho : sF σ 104 (24 + s) = nI n) : ∀ (m k : Nat) (acc : Int32) (e : Nat), k + m = n → xX9_ownedBy_L4 (e + m + 1) 78 (nI s) acc (nI k) (mkH σ) = some (zf (fun i a => sb a (sF σ 104 (30 + 3 * s + i))) k m acc, mkH σ) := by
  intro m
  induction m with
  | zero =>
    intro k acc e hk
    show xX9_ownedBy_B4 (xX9_ownedBy_L4 (e + 0)) 78 (nI s) acc (nI k) (mkH σ) = _
    simp only [xX9_ownedBy_B4, rR_78_41, Option.bind_some, nl_24, nI_add, ra_104 σ (k := 24 + s) (by omega), ho]
    rw [if_pos ((nI_leI (by omega) (by omega)).mpr (by omega))]
    rfl
  | succ m ih =>
    intro k acc e hk
    show xX9_ownedBy_B4 (xX9_ownedBy_L4 (e + (m + 1))) 78 (nI s) acc (nI k) (mkH σ) = _
    simp only [xX9_ownedBy_B4, rR_78_41, Option.bind_some, nl_24, nI_add, ra_104 σ (k := 24 + s) (by omega), ho]
    rw [if_neg (fun z => by have := (nI_leI (by omega) (by omega)).mp z; omega)]
    simp only [nl_30, nl_3, pk_mul, nI_add, ra_104 σ (k := 30 + 3 * s + k) (by omega), Option.bind_some, nI_s]
    rw [zf, show e + (m + 1) = e + m + 1 by omega]
    exact ih (k + 1) _ e (by omega)
theorem r_own {σ : ZS} {s n : Nat} (hs : s < 6) (hn : n ≤ 3) (ho : sF σ 104 (24 + s) = nI n) : xX9_ownedBy 78 (nI s) (mkH σ) = some (ownS (sF σ 104) s n, mkH σ) := by
  obtain ⟨e, he⟩ := zfu n (by omega)
  unfold xX9_ownedBy
  rw [he]
  exact r_own_L hs hn ho n 0 0 e (by omega)
theorem r_free_L {σ : ZS} {bk nsh nsl s n : Nat} (B : RB σ bk nsh nsl) (hs : s < 6) (hn : n ≤ 3) (ho : sF σ 104 (24 + s) = nI n) : ∀ (m k : Nat) (acc : Int32) (e : Nat), k + m = nsl → xX9_freeOf_L4 (e + m + 1) 78 (nI s) acc (nI k) (mkH σ) = some (zf (fun k a => if 0 ≤ sF σ 104 (84 + 30 * s + k) then a else if bitB (ownS (sF σ 104) s n) (nI k) then a else sb a (nI k)) k m acc, mkH σ) := by
  have hb := B.2.2.2.2.2.2
  intro m
  induction m with
  | zero =>
    intro k acc e hk
    show xX9_freeOf_B4 (xX9_freeOf_L4 (e + 0)) 78 (nI s) acc (nI k) (mkH σ) = _
    simp only [xX9_freeOf_B4, is_78, gu_t, r_round B, Option.bind_some]
    rw [if_pos ((nI_leI (by omega) (by omega)).mpr (by omega))]
    rfl
  | succ m ih =>
    intro k acc e hk
    show xX9_freeOf_B4 (xX9_freeOf_L4 (e + (m + 1))) 78 (nI s) acc (nI k) (mkH σ) = _
    simp only [xX9_freeOf_B4, is_78, gu_t, r_round B, Option.bind_some]
    rw [if_neg (fun z => by have := (nI_leI (by omega) (by omega)).mp z; omega)]
    simp only [is_78, gu_t, r_holderIn (σ := σ) hs (show k < 30 by omega), Option.bind_some, r_own hs hn ho, r_bit, nI_s]
    rw [zf, show e + (m + 1) = e + m + 1 by omega]
    by_cases h1 : 0 ≤ sF σ 104 (84 + 30 * s + k)
    · rw [if_pos h1, if_pos h1]
      exact ih (k + 1) _ e (by omega)
    · rw [if_neg h1, if_neg h1]
      by_cases h2 : bitB (ownS (sF σ 104) s n) (nI k) = true
      · simp only [h2, if_true]
        rw [if_neg (by decide)]
        exact ih (k + 1) _ e (by omega)
      · simp only [h2, if_false]
        rw [if_pos (by decide)]
        exact ih (k + 1) _ e (by omega)
theorem r_free {σ : ZS} {bk nsh nsl s n : Nat} (B : RB σ bk nsh nsl) (hs : s < 6) (hn : n ≤ 3) (ho : sF σ 104 (24 + s) = nI n) : xX9_freeOf 78 (nI s) (mkH σ) = some (freeS (sF σ 104) s nsl (ownS (sF σ 104) s n), mkH σ) := by
  obtain ⟨e, he⟩ := zfu nsl (by have := B.2.2.2.2.2.2; omega)
  unfold xX9_freeOf
  rw [he]
  exact r_free_L B hs hn ho nsl 0 0 e (by omega)
theorem r_away {σ : ZS} {s o : Nat} (hs : s < 6) (ho : o < 6) : xX9_awayFrom 78 (nI s) (nI o) (mkH σ) = some (awayS (sF σ 104) s o, mkH σ) := by
  simp only [xX9_awayFrom, rR_78_41, Option.bind_some, nl_0, nl_6, nl_444, nl_480, pk_mul, nI_add, Nat.zero_add, ra_104 σ (k := s) (by omega), ra_104 σ (k := 444 + 6 * s + o) (by omega), ra_104 σ (k := 480 + 6 * s + o) (by omega), ra_104 σ (k := 6 + s) (by omega), r_abs]
  rfl
theorem sF_setF {σ : ZS} {a k b j : Nat} {v : Int32} : sF (setF σ a k v) b j = if b = a ∧ j = k then v else sF σ b j := rfl
theorem r_draw {σ : ZS} : xX9_drawOn 78 (mkH σ) = some (seedS (sF σ 104 519), mkH (setF σ 104 519 (seedS (sF σ 104 519)))) := by
  simp only [xX9_drawOn, rR_78_41, Option.bind_some, nl_519, ra_104 σ (k := 519) (by omega), wa_104 σ (k := 519) _ (by omega), ra_104 (setF σ 104 519 _) (k := 519) (by omega), sF_setF]
  simp [seedS]
theorem r_newLeft {σ : ZS} {bk nsh nsl : Nat} (B : RB σ bk nsh nsl) (hk : ¬ sF σ 86 bk = 0) : xX9_newLeft 78 (mkH σ) = some (1 + (seedS (sF σ 104 519) - seedS (sF σ 104 519) / sF σ 86 bk * sF σ 86 bk), mkH (setF σ 104 519 (seedS (sF σ 104 519)))) := by
  obtain ⟨b1, b2, -⟩ := B
  have e1 : sI (setF σ 104 519 (seedS (sF σ 104 519))) 78 34 = nI bk := b1
  have e2 : sF (setF σ 104 519 (seedS (sF σ 104 519))) 86 bk = sF σ 86 bk := by rw [sF_setF]; simp
  simp only [xX9_newLeft, is_78, gu_t, r_draw, Option.bind_some, rR_78_16, rI_78_34, e1, ra_86 _ b2, e2]
  rw [if_neg hk]
