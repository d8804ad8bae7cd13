/-! a State of the class as a view of 521 ints, and its reads -/
def cV (σ : ZS) (p i : Nat) : Int32 := if i < 6 then sF σ (p + 1) (i - 0) else if i < 12 then sF σ (p + 2) (i - 6) else if i < 18 then sF σ (p + 3) (i - 12) else if i < 24 then sF σ (p + 4) (i - 18) else if i < 30 then sF σ (p + 5) (i - 24) else if i < 48 then sF σ (p + 6) (i - 30) else if i < 66 then sF σ (p + 7) (i - 48) else if i < 84 then sF σ (p + 8) (i - 66) else if i < 264 then sF σ (p + 9) (i - 84) else if i < 444 then sF σ (p + 10) (i - 264) else if i < 480 then sF σ (p + 11) (i - 444) else if i < 516 then sF σ (p + 12) (i - 480) else if i = 516 then sI σ p 13 else if i = 517 then sI σ p 15 else if i = 518 then sI σ p 16 else if i = 519 then sI σ p 17 else if i = 520 then sI σ p 14 else 0
theorem cV_1 (σ : ZS) (p : Nat) {i : Nat} (h : i < 6) : cV σ p (0 + i) = sF σ (p + 1) i := by
  unfold cV
  rw [if_pos (by omega), show 0 + i - 0 = i by omega]
theorem cV_2 (σ : ZS) (p : Nat) {i : Nat} (h : i < 6) : cV σ p (6 + i) = sF σ (p + 2) i := by
  unfold cV
  rw [if_neg (by omega), if_pos (by omega), show 6 + i - 6 = i by omega]
theorem cV_3 (σ : ZS) (p : Nat) {i : Nat} (h : i < 6) : cV σ p (12 + i) = sF σ (p + 3) i := by
  unfold cV
  rw [if_neg (by omega), if_neg (by omega), if_pos (by omega), show 12 + i - 12 = i by omega]
theorem cV_4 (σ : ZS) (p : Nat) {i : Nat} (h : i < 6) : cV σ p (18 + i) = sF σ (p + 4) i := by
  unfold cV
  rw [if_neg (by omega), if_neg (by omega), if_neg (by omega), if_pos (by omega), show 18 + i - 18 = i by omega]
theorem cV_5 (σ : ZS) (p : Nat) {i : Nat} (h : i < 6) : cV σ p (24 + i) = sF σ (p + 5) i := by
  unfold cV
  rw [if_neg (by omega), if_neg (by omega), if_neg (by omega), if_neg (by omega), if_pos (by omega), show 24 + i - 24 = i by omega]
theorem cV_6 (σ : ZS) (p : Nat) {i : Nat} (h : i < 18) : cV σ p (30 + i) = sF σ (p + 6) i := by
  unfold cV
  rw [if_neg (by omega), if_neg (by omega), if_neg (by omega), if_neg (by omega), if_neg (by omega), if_pos (by omega), show 30 + i - 30 = i by omega]
theorem cV_7 (σ : ZS) (p : Nat) {i : Nat} (h : i < 18) : cV σ p (48 + i) = sF σ (p + 7) i := by
  unfold cV
  rw [if_neg (by omega), if_neg (by omega), if_neg (by omega), if_neg (by omega), if_neg (by omega), if_neg (by omega), if_pos (by omega), show 48 + i - 48 = i by omega]
theorem cV_8 (σ : ZS) (p : Nat) {i : Nat} (h : i < 18) : cV σ p (66 + i) = sF σ (p + 8) i := by
  unfold cV
  rw [if_neg (by omega), if_neg (by omega), if_neg (by omega), if_neg (by omega), if_neg (by omega), if_neg (by omega), if_neg (by omega), if_pos (by omega), show 66 + i - 66 = i by omega]
theorem cV_9 (σ : ZS) (p : Nat) {i : Nat} (h : i < 180) : cV σ p (84 + i) = sF σ (p + 9) i := by
  unfold cV
  rw [if_neg (by omega), if_neg (by omega), if_neg (by omega), if_neg (by omega), if_neg (by omega), if_neg (by omega), if_neg (by omega), if_neg (by omega), if_pos (by omega), show 84 + i - 84 = i by omega]
theorem cV_10 (σ : ZS) (p : Nat) {i : Nat} (h : i < 180) : cV σ p (264 + i) = sF σ (p + 10) i := by
  unfold cV
  rw [if_neg (by omega), if_neg (by omega), if_neg (by omega), if_neg (by omega), if_neg (by omega), if_neg (by omega), if_neg (by omega), if_neg (by omega), if_neg (by omega), if_pos (by omega), show 264 + i - 264 = i by omega]
theorem cV_11 (σ : ZS) (p : Nat) {i : Nat} (h : i < 36) : cV σ p (444 + i) = sF σ (p + 11) i := by
  unfold cV
  rw [if_neg (by omega), if_neg (by omega), if_neg (by omega), if_neg (by omega), if_neg (by omega), if_neg (by omega), if_neg (by omega), if_neg (by omega), if_neg (by omega), if_neg (by omega), if_pos (by omega), show 444 + i - 444 = i by omega]
theorem cV_12 (σ : ZS) (p : Nat) {i : Nat} (h : i < 36) : cV σ p (480 + i) = sF σ (p + 12) i := by
  unfold cV
  rw [if_neg (by omega), if_neg (by omega), if_neg (by omega), if_neg (by omega), if_neg (by omega), if_neg (by omega), if_neg (by omega), if_neg (by omega), if_neg (by omega), if_neg (by omega), if_neg (by omega), if_pos (by omega), show 480 + i - 480 = i by omega]
theorem cV_516 (σ : ZS) (p : Nat) : cV σ p 516 = sI σ p 13 := rfl
theorem cV_517 (σ : ZS) (p : Nat) : cV σ p 517 = sI σ p 15 := rfl
theorem cV_518 (σ : ZS) (p : Nat) : cV σ p 518 = sI σ p 16 := rfl
theorem cV_519 (σ : ZS) (p : Nat) : cV σ p 519 = sI σ p 17 := rfl
theorem cV_520 (σ : ZS) (p : Nat) : cV σ p 520 = sI σ p 14 := rfl
/-- the class's plan: ships and slots -/
def CB (σ : ZS) (nsh nsl : Nat) : Prop := sI σ 21 7 = nI nsh ∧ nsh ≤ 6 ∧ sI σ 21 0 = nI nsl ∧ 6 ≤ nsl ∧ nsl ≤ 30
theorem c_abs (x : Int32) (h : ZH) : xJ9_abs_0f7a4 x h = some (absS x, h) := by
  unfold xJ9_abs_0f7a4 absS
  by_cases hc : 0 ≤ x
  · rw [if_pos hc, if_pos hc]
  · rw [if_neg hc, if_neg hc]
theorem c_min (x y : Int32) (h : ZH) : xJ9_min_7cf53 x y h = some (if y < x then y else x, h) := by
  unfold xJ9_min_7cf53
  by_cases hc : y < x
  · rw [if_pos hc, if_pos hc]
  · rw [if_neg hc, if_neg hc]
theorem c_max (x y : Int32) (h : ZH) : xJ9_max_7cf53 x y h = some (if x < y then y else x, h) := by
  unfold xJ9_max_7cf53
  by_cases hc : x < y
  · rw [if_pos hc, if_pos hc]
  · rw [if_neg hc, if_neg hc]
theorem c_half (x : Int32) : (if (100 : Int32) - x < x then 100 - x else x) = halfS x := by
  unfold halfS
  by_cases h1 : (100 : Int32) - x < x
  · rw [if_pos h1, if_pos (Int32.le_of_lt h1)]
  · rw [if_neg h1]
    by_cases h2 : (100 : Int32) - x ≤ x
    · rw [if_pos h2]
      exact (Int32.le_antisymm (Int32.not_lt.mp h1) h2)
    · rw [if_neg h2]
theorem and1 (y : Int32) : y &&& 1 = 0 ∨ y &&& 1 = 1 := by
  obtain ⟨j, hj, e⟩ := pk_andE y (m := 1) 1 (by decide)
  rw [e]
  rcases (show j = 0 ∨ j = 1 by omega) with rfl | rfl
  · exact Or.inl rfl
  · exact Or.inr rfl
theorem and1n {y : Int32} : (y &&& 1 = 0) ↔ ¬ (y &&& 1 = 1) := by
  rcases and1 y with h | h <;> rw [h] <;> decide
section CR
variable {σ : ZS} {p : Nat}
theorem c_holder {s k : Nat} (hp : isSt (sK σ) p) (hs : s < 6) (hk : k < 30) : xX5_holderOf p (nI s) (nI k) (mkH σ) = some (cV σ p (84 + 30 * s + k), mkH σ) := by
  have e : cV σ p (84 + 30 * s + k) = sF σ (p + 9) (s * 30 + k) := by rw [show 84 + 30 * s + k = 84 + (s * 30 + k) by omega, cV_9 σ p (by omega)]
  simp only [xX5_holderOf, rR_S9 hp, Option.bind_some, nl_30, pk_mul, nI_add, ra_S9 hp (k := s * 30 + k) (by omega), e]
theorem c_distance {a b : Nat} (hp : isSt (sK σ) p) (ha : a < 6) (hb : b < 6) : xX5_distance p (nI a) (nI b) (mkH σ) = some (farS (cV σ p) a b, mkH σ) := by
  have e1 : cV σ p a = sF σ (p + 1) a := by have := cV_1 σ p ha; rwa [Nat.zero_add] at this
  have e2 : cV σ p b = sF σ (p + 1) b := by have := cV_1 σ p hb; rwa [Nat.zero_add] at this
  simp only [xX5_distance, rR_S1 hp, rR_S2 hp, Option.bind_some, ra_S1 hp ha, ra_S1 hp hb, ra_S2 hp ha, ra_S2 hp hb, c_abs]
  unfold farS
  rw [e1, e2, cV_2 σ p ha, cV_2 σ p hb]
theorem c_inRange {a b : Nat} (hp : isSt (sK σ) p) (ha : a < 6) (hb : b < 6) : xX5_inRange p (nI a) (nI b) (mkH σ) = some (if farS (cV σ p) a b ≤ sI σ 21 1 then 1 else 0, mkH σ) := by
  simp only [xX5_inRange, is_S hp, gu_t, c_distance hp ha hb, Option.bind_some, rR_S0 hp, rI_21_1]
  by_cases hc : sI σ 21 1 < farS (cV σ p) a b
  · rw [if_pos hc, if_neg (Int32.not_le.mpr hc)]
  · rw [if_neg hc, if_pos (Int32.not_lt.mp hc)]
theorem c_speed {s : Nat} (hp : isSt (sK σ) p) (hs : s < 6) : xX5_speedOf p (nI s) (mkH σ) = some (speedS (cV σ p) s, mkH σ) := by
  simp only [xX5_speedOf, rR_S3 hp, rR_S4 hp, Option.bind_some, ra_S3 hp hs, ra_S4 hp hs, c_min, c_half]
  unfold speedS
  rw [cV_3 σ p hs, cV_4 σ p hs]
theorem c_isOn {s : Nat} (hp : isSt (sK σ) p) (hs : s < 6) : xX5_isOn p (nI s) (mkH σ) = some (if onA (cV σ p) (sF σ 26) s then 1 else 0, mkH σ) := by
  simp only [xX5_isOn, rI_S13 hp, rI_S15 hp, rR_S0 hp, Option.bind_some, rR_21_13, ra_26 σ hs]
  unfold onA onS bitB
  rw [cV_516, cV_517]
  by_cases h1 : ((sI σ p 13 >>> (nI s &&& 31)) &&& (1 : Int32)) = 0
  · rw [if_pos h1]
    have h2 := and1n.mp h1
    by_cases h3 : sI σ p 15 < sF σ 26 s
    · rw [if_pos h3]
      simp [Int32.not_le.mpr h3]
    · rw [if_neg h3]
      simp [Int32.not_lt.mp h3, h2]
  · rw [if_neg h1]
    have h2 : ((sI σ p 13 >>> (nI s &&& 31)) &&& (1 : Int32)) = 1 := (and1 _).resolve_left h1
    simp [h2]
theorem c_onBits_L {nsh nsl : Nat} (hp : isSt (sK σ) p) (B : CB σ nsh nsl) : ∀ (m k : Nat) (acc : Int32) (e : Nat), k + m = nsh → xX5_onBits_L4 (e + m + 1) p acc (nI k) (mkH σ) = some (zf (fun s a => if onA (cV σ p) (sF σ 26) s then sb a (nI s) else a) k m acc, mkH σ) := by
  obtain ⟨b1, b2, -⟩ := B
  intro m
  induction m with
  | zero =>
    intro k acc e hk
    show xX5_onBits_B4 (xX5_onBits_L4 (e + 0)) p acc (nI k) (mkH σ) = _
    simp only [xX5_onBits_B4, rR_S0 hp, rI_21_7, b1, Option.bind_some]
    rw [if_pos ((nI_leI (by omega) (by omega)).mpr (by omega))]
    rfl
  | succ m ih =>
    intro k acc e hk
    show xX5_onBits_B4 (xX5_onBits_L4 (e + (m + 1))) p acc (nI k) (mkH σ) = _
    simp only [xX5_onBits_B4, rR_S0 hp, rI_21_7, b1, Option.bind_some]
    rw [if_neg (fun z => by have := (nI_leI (by omega) (by omega)).mp z; omega)]
    simp only [is_S hp, gu_t, c_isOn hp (show k < 6 by omega), Option.bind_some, nI_s]
    rw [zf, show e + (m + 1) = e + m + 1 by omega]
    by_cases ho : onA (cV σ p) (sF σ 26) k = true
    · simp only [ho, if_true]
      rw [if_neg (by decide)]
      exact ih (k + 1) _ e (by omega)
    · simp only [ho, if_false]
      rw [if_pos (by decide)]
      exact ih (k + 1) _ e (by omega)
theorem c_onBits {nsh nsl : Nat} (hp : isSt (sK σ) p) (B : CB σ nsh nsl) : xX5_onBits p (mkH σ) = some (litS (cV σ p) (sF σ 26) nsh, mkH σ) := by
  obtain ⟨e, he⟩ := zfu nsh (by have := B.2.1; omega)
  unfold xX5_onBits
  rw [he]
  exact c_onBits_L hp B nsh 0 0 e (by omega)
theorem c_own_L {s n : Nat} (hp : isSt (sK σ) p) (hs : s < 6) (hn : n ≤ 3) (ho : cV σ p (24 + s) = nI n) : ∀ (m k : Nat) (acc : Int32) (e : Nat), k + m = n → xX5_ownedBits_L4 (e + m + 1) p (nI s) acc (nI k) (mkH σ) = some (zf (fun i a => sb a (cV σ p (30 + 3 * s + i))) k m acc, mkH σ) := by
  rw [cV_5 σ p hs] at ho
  intro m
  induction m with
  | zero =>
    intro k acc e hk
    show xX5_ownedBits_B4 (xX5_ownedBits_L4 (e + 0)) p (nI s) acc (nI k) (mkH σ) = _
    simp only [xX5_ownedBits_B4, rR_S5 hp, Option.bind_some, ra_S5 hp hs, ho]
    rw [if_pos ((nI_leI (by omega) (by omega)).mpr (by omega))]
    rfl
  | succ m ih =>
    intro k acc e hk
    show xX5_ownedBits_B4 (xX5_ownedBits_L4 (e + (m + 1))) p (nI s) acc (nI k) (mkH σ) = _
    simp only [xX5_ownedBits_B4, rR_S5 hp, Option.bind_some, ra_S5 hp hs, ho]
    rw [if_neg (fun z => by have := (nI_leI (by omega) (by omega)).mp z; omega)]
    have e1 : cV σ p (30 + 3 * s + k) = sF σ (p + 6) (s * 3 + k) := by rw [show 30 + 3 * s + k = 30 + (s * 3 + k) by omega, cV_6 σ p (by omega)]
    simp only [rR_S6 hp, nl_3, pk_mul, nI_add, ra_S6 hp (k := s * 3 + k) (by omega), Option.bind_some, nI_s]
    rw [zf, show e + (m + 1) = e + m + 1 by omega, e1]
    exact ih (k + 1) _ e (by omega)
theorem c_own {s n : Nat} (hp : isSt (sK σ) p) (hs : s < 6) (hn : n ≤ 3) (ho : cV σ p (24 + s) = nI n) : xX5_ownedBits p (nI s) (mkH σ) = some (ownS (cV σ p) s n, mkH σ) := by
  obtain ⟨e, he⟩ := zfu n (by omega)
  unfold xX5_ownedBits
  rw [he]
  exact c_own_L hp hs hn ho n 0 0 e (by omega)
theorem sI_setI {a k b j : Nat} {v : Int32} : sI (setI σ a k v) b j = if b = a ∧ j = k then v else sI σ b j := rfl
theorem c_draw (hp : isSt (sK σ) p) : xX5_drawSeed p (mkH σ) = some (seedS (cV σ p 519), mkH (setI σ p 17 (seedS (cV σ p 519)))) := by
  have e : ((sI σ p 17 * (137 : Int32)) + (71 : Int32)) - ((sI σ p 17 * (137 : Int32)) + (71 : Int32)) / (1000 : Int32) * (1000 : Int32) = seedS (cV σ p 519) := by
    unfold seedS
    rw [cV_519, Int32.mul_comm]
  simp only [xX5_drawSeed, rI_S17 hp, Option.bind_some, wI_S17 _ hp, e, rI_S17 (σ := setI σ p 17 _) hp, sI_setI]
  simp
theorem c_isShip {nsh nsl : Nat} (B : CB σ nsh nsl) (v : Int32) : xX2_isShip 21 v (mkH σ) = some (if 0 ≤ v ∧ v < nI nsh then 1 else 0, mkH σ) := by
  obtain ⟨b1, -⟩ := B
  simp only [xX2_isShip, rI_21_7, Option.bind_some, b1]
  by_cases h1 : v < 0
  · rw [if_pos h1, if_neg (fun z => absurd z.1 (Int32.not_le.mpr h1))]
  · rw [if_neg h1]
    by_cases h2 : nI nsh ≤ v
    · rw [if_pos h2, if_neg (fun z => absurd z.2 (Int32.not_lt.mpr h2))]
    · rw [if_neg h2, if_pos ⟨Int32.not_lt.mp h1, Int32.not_le.mp h2⟩]
theorem c_isSlot {nsh nsl : Nat} (B : CB σ nsh nsl) (v : Int32) : xX2_isSlot 21 v (mkH σ) = some (if 0 ≤ v ∧ v < nI nsl then 1 else 0, mkH σ) := by
  obtain ⟨-, -, b1, -⟩ := B
  simp only [xX2_isSlot, rI_21_0, Option.bind_some, b1]
  by_cases h1 : v < 0
  · rw [if_pos h1, if_neg (fun z => absurd z.1 (Int32.not_le.mpr h1))]
  · rw [if_neg h1]
    by_cases h2 : nI nsl ≤ v
    · rw [if_pos h2, if_neg (fun z => absurd z.2 (Int32.not_lt.mpr h2))]
    · rw [if_neg h2, if_pos ⟨Int32.not_lt.mp h1, Int32.not_le.mp h2⟩]
end CR
