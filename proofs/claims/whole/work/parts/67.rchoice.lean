/-! the reference's choice: the window, the farthest one, the candidates, the one chosen -/
theorem bs_bit (p : Nat → Bool) : ∀ m k a t, (zf (fun k a => if p k then a ||| 2 ^ k else a) k m a).testBit t = (a.testBit t || (decide (k ≤ t ∧ t < k + m) && p t)) := by
  intro m
  induction m with
  | zero =>
    intro k a t
    rw [zf, show decide (k ≤ t ∧ t < k + 0) = false from decide_eq_false (by omega)]
    simp
  | succ m ih =>
    intro k a t
    rw [zf, ih]
    by_cases hk : t = k
    · subst hk
      rw [show decide (t + 1 ≤ t ∧ t < t + 1 + m) = false from decide_eq_false (by omega), show decide (t ≤ t ∧ t < t + (m + 1)) = true from decide_eq_true (by omega)]
      cases hp : p t
      · simp
      · simp [Nat.testBit_or, Nat.testBit_two_pow]
    · rw [show decide (k + 1 ≤ t ∧ t < k + 1 + m) = decide (k ≤ t ∧ t < k + (m + 1)) from decide_eq_decide.mpr (by omega)]
      cases hp : p k
      · simp
      · simp [Nat.testBit_or, Nat.testBit_two_pow, show ¬ k = t by omega]
theorem bs_lt (p : Nat → Bool) (b : Nat) : ∀ m k a, k + m ≤ b → a < 2 ^ b → zf (fun k a => if p k then a ||| 2 ^ k else a) k m a < 2 ^ b := by
  intro m
  induction m with
  | zero => intro k a _ h; exact h
  | succ m ih =>
    intro k a hk h
    rw [zf]
    refine ih (k + 1) _ (by omega) ?_
    cases p k
    · simpa using h
    · simpa using or_lt h (pow_lt (by omega))
def ownN (A : Nat → Int32) (s : Nat) : Nat := zf (fun i a => a ||| 2 ^ tn (A (30 + 3 * s + i))) 0 (tn (A (24 + s))) 0
theorem own_n {lo : Nat} {n m : Nat} {A : Nat → Int32} (W : WF lo n m A) (hm : m ≤ 30) {s : Nat} (hs : s < 6) : ownS A s (tn (A (24 + s))) = nI (ownN A s) ∧ ownN A s < 2 ^ 30 := by
  have h3 := (WF_own W hs).2
  refine zf_2 (fun _ (a : Int32) (b : Nat) => a = nI b ∧ b < 2 ^ 30) (tn (A (24 + s))) ?_ _ 0 0 0 (by omega) ⟨rfl, by decide⟩
  rintro k a b hk ⟨rfl, hb⟩
  obtain ⟨⟨t, ht, e⟩, -⟩ := W.2.1 s k hs (by omega) hk
  rw [e, tn_n (by omega), sb_n (by omega)]
  exact ⟨rfl, or_lt hb (pow_lt (by omega))⟩
/-- free for a ship -/
def frB (A : Nat → Int32) (s t : Nat) : Bool := decide (A (84 + 30 * s + t) < 0) && !(ownN A s).testBit t
def freeN (A : Nat → Int32) (s m : Nat) : Nat := zf (fun k a => if frB A s k then a ||| 2 ^ k else a) 0 m 0
theorem free_n {A : Nat → Int32} {s m : Nat} (hm : m ≤ 30) (ho : ownN A s < 2 ^ 30) : freeS A s m (nI (ownN A s)) = nI (freeN A s m) ∧ freeN A s m < 2 ^ 30 := by
  refine zf_2 (fun _ (a : Int32) (b : Nat) => a = nI b ∧ b < 2 ^ 30) m ?_ _ 0 0 0 (by omega) ⟨rfl, by decide⟩
  rintro k a b hk ⟨rfl, hb⟩
  simp only [bitB_n (show ownN A s < 2 ^ 31 by omega) (show k < 32 by omega), sb_n (a := b) (show k < 32 by omega)]
  unfold frB
  by_cases h1 : 0 ≤ A (84 + 30 * s + k)
  · simp [h1, Int32.not_lt.mpr h1, hb]
  · have h2 := Int32.not_le.mp h1
    cases (ownN A s).testBit k
    · simp [h2, h1, or_lt hb (pow_lt (show k < 30 by omega))]
    · simp [hb]
theorem free_bit {A : Nat → Int32} {s m t : Nat} : (freeN A s m).testBit t = (decide (t < m) && frB A s t) := by
  unfold freeN
  rw [bs_bit]
  simp
/-- place i of the window round a slot -/
def wP (m wd slot i : Nat) : Nat := (slot + i + 10 * m - wd) % m
def wN (m wd : Nat) : Nat := if 2 * wd + 1 < m then 2 * wd + 1 else m
theorem wP_lt {m wd slot i : Nat} (hm : 0 < m) : wP m wd slot i < m := Nat.mod_lt _ hm
theorem wN_le {m wd : Nat} : wN m wd ≤ m ∧ wN m wd ≤ 2 * wd + 1 := by
  unfold wN
  by_cases h : 2 * wd + 1 < m
  · rw [if_pos h]; omega
  · rw [if_neg h]; omega
theorem ar_1 (a b c d : Int32) : a + (b - c) + d = (a + b + d) - c := by
  simp only [Int32.sub_eq_add_neg]
  ac_rfl
theorem ar_2 (a b : Int32) : a - b + 1 = a + 1 - b := by
  simp only [Int32.sub_eq_add_neg]
  ac_rfl
theorem r_window {σ : ZS} {bk : Nat} {P : Nat → Nat} (R : RP σ bk P) (W : PW P) {wd slot : Nat} (hw : wd ≤ 9) (hs : slot < 30) (ht : (sI σ 78 43 < 0 ∧ wd = P 3) ∨ sI σ 78 43 = nI wd) : ∃ τ, xX9_layWindow 78 (nI slot) (mkH σ) = some (nI (wN (P 1) wd), mkH τ) ∧ (∀ i, i < wN (P 1) wd → sF τ 106 i = nI (wP (P 1) wd slot i)) ∧ FR (fun a => a = 106) (fun _ _ => False) σ τ := by
  obtain ⟨p0, p1, p2, -⟩ := W
  have hb := wN_le (m := P 1) (wd := wd)
  obtain ⟨e, he⟩ := zfu (wN (P 1) wd) (by omega)
  have key := lp (fun e i (τ : ZS) => xX9_layWindow_L30 e 78 (nI slot) (nI wd) (nI i) (nI i - nI wd) (mkH τ)) (fun i τ => setF τ 106 i (nI (wP (P 1) wd slot i))) (wN (P 1) wd) (fun i τ => FR (fun a => a = 106) (fun _ _ => False) σ τ ∧ ∀ j, j < i → sF τ 106 j = nI (wP (P 1) wd slot j)) (fun τ => (nI (wN (P 1) wd), mkH τ)) ?_ ?_ (wN (P 1) wd) 0 σ e (by omega) ⟨FR_r, fun j hj => absurd hj (Nat.not_lt_zero j)⟩
  · refine ⟨_, ?_, key.2.2, key.2.1⟩
    rw [← he] at key
    have k2 := key.1
    unfold xX9_layWindow
    rcases ht with ⟨h1, rfl⟩ | h1
    · simp only [rI_78_43, Option.bind_some, rR_78_14, rI_78_34, R.1, ra_84 σ R.2.1, R.2.2.2.2.2.1]
      rw [if_pos h1]
      have : (nI 0 - nI (P 3)) = -nI (P 3) := by rw [nI_0, Int32.zero_sub]
      rw [this] at k2
      exact k2
    · simp only [rI_78_43, Option.bind_some, h1]
      rw [if_neg (nI_pos (by omega))]
      have : (nI 0 - nI wd) = -nI wd := by rw [nI_0, Int32.zero_sub]
      rw [this] at k2
      exact k2
  · rintro e k τ hk ⟨hF, hW⟩
    have R' : RP τ bk P := RP_f hF (fun a h1 h2 z => by omega) (fun z => z) R
    have B' : RB τ bk (P 0) (P 1) := ⟨R'.1, R'.2.1, R'.2.2.1, p0, R'.2.2.2.1, p1, p2⟩
    have c1 : ¬ nI wd < nI k - nI wd := by
      intro z
      have := Int32.lt_iff_toInt_lt.mp z
      rw [nI_toInt (by omega), pk_sub_toInt (by omega) (by omega)] at this
      omega
    refine ⟨?_, FR_t hF (FR_F rfl), fun j hj => ?_⟩
    · show xX9_layWindow_B30 (xX9_layWindow_L30 e) 78 (nI slot) (nI wd) (nI k) (nI k - nI wd) (mkH τ) = _
      simp only [xX9_layWindow_B30]
      rw [if_neg c1]
      simp only [is_78, gu_t, r_round B', Option.bind_some, rR_78_44]
      rw [if_neg (fun z => by have := (nI_leI (by omega) (by omega)).mp z; omega), if_neg (nI_ne0 (by omega) (by omega))]
      rw [ar_1, nl_10, pk_mul, nI_add, nI_add, pk_sub (by omega), pk_rem (by omega) (by omega) (by omega), wa_106 τ _ (by omega), ar_2, nI_s]
      rfl
    · by_cases hjk : j = k
      · subst hjk
        exact sF_eq
      · rw [sF_ne (by omega)]
        exact hW j (by omega)
  · rintro e τ ⟨hF, -⟩
    have R' : RP τ bk P := RP_f hF (fun a h1 h2 z => by omega) (fun z => z) R
    have B' : RB τ bk (P 0) (P 1) := ⟨R'.1, R'.2.1, R'.2.2.1, p0, R'.2.2.2.1, p1, p2⟩
    show xX9_layWindow_B30 (xX9_layWindow_L30 e) 78 (nI slot) (nI wd) (nI (wN (P 1) wd)) (nI (wN (P 1) wd) - nI wd) (mkH τ) = _
    simp only [xX9_layWindow_B30]
    by_cases c1 : nI wd < nI (wN (P 1) wd) - nI wd
    · rw [if_pos c1]
    · rw [if_neg c1]
      simp only [is_78, gu_t, r_round B', Option.bind_some]
      rw [if_pos]
      apply (nI_leI (by omega) (by omega)).mpr
      apply Nat.le_of_not_lt
      intro h
      apply c1
      apply Int32.lt_iff_toInt_lt.mpr
      rw [nI_toInt (by omega), pk_sub_toInt (by omega) (by omega)]
      have : wN (P 1) wd = 2 * wd + 1 := by
        unfold wN at h ⊢
        by_cases h2 : 2 * wd + 1 < P 1
        · rw [if_pos h2]
        · rw [if_neg h2] at h; omega
      omega
/-- one place looked at for the farthest holder -/
def stF (A : Nat → Int32) (s : Nat) (w : Nat → Nat) (sk : Nat → Bool) (k : Nat) (b : Int32 × Int32) : Int32 × Int32 :=
  if A (84 + 30 * s + w k) < 0 then b else if sk (w k) then b else if b.2 < awayS A s (tn (A (84 + 30 * s + w k))) then (nI (w k), awayS A s (tn (A (84 + 30 * s + w k)))) else b
def farO (A : Nat → Int32) (s : Nat) (w : Nat → Nat) (sk : Nat → Bool) (n : Nat) : Int32 := (zf (stF A s w sk) 0 n (-1, -1)).1
theorem farO_in {A : Nat → Int32} {s : Nat} {w : Nat → Nat} {sk : Nat → Bool} {n : Nat} : farO A s w sk n = -1 ∨ ∃ k, k < n ∧ farO A s w sk n = nI (w k) ∧ sk (w k) = false := by
  refine zf_I (fun _ (b : Int32 × Int32) => b.1 = -1 ∨ ∃ k, k < n ∧ b.1 = nI (w k) ∧ sk (w k) = false) n ?_ n 0 (-1, -1) (by omega) (Or.inl rfl)
  intro k b hk hI
  unfold stF
  by_cases h1 : A (84 + 30 * s + w k) < 0
  · rw [if_pos h1]; exact hI
  · rw [if_neg h1]
    by_cases h2 : sk (w k) = true
    · rw [if_pos h2]; exact hI
    · rw [if_neg h2]
      by_cases h3 : b.2 < awayS A s (tn (A (84 + 30 * s + w k)))
      · rw [if_pos h3]
        exact Or.inr ⟨k, hk, rfl, by simpa using h2⟩
      · rw [if_neg h3]; exact hI
theorem r_far {lo : Nat} {σ : ZS} {s n x nsh m : Nat} {w : Nat → Nat} (V : WF lo nsh m (sF σ 104)) (hns : nsh ≤ 6) (hm : m ≤ 30) (hs : s < 6) (hn : n ≤ 30) (hx : x < 2 ^ 30) (hw : ∀ i, i < n → sF σ 106 i = nI (w i)) (hw2 : ∀ i, i < n → w i < 30) : xX9_farthestOf 78 (nI s) (nI n) (nI x) (mkH σ) = some (farO (sF σ 104) s w (fun t => (ownN (sF σ 104) s).testBit t || x.testBit t) n, mkH σ) := by
  obtain ⟨e, he⟩ := zfu n (by omega)
  have ow := own_n V hm hs
  have oc := WF_own V hs
  have key := lp (fun e k (b : Int32 × Int32) => xX9_farthestOf_L9 e 78 (nI s) (nI n) (nI x) b.1 b.2 (nI k) (mkH σ)) (stF (sF σ 104) s w (fun t => (ownN (sF σ 104) s).testBit t || x.testBit t)) n (fun _ _ => True) (fun b => (b.1, mkH σ)) ?_ ?_ n 0 (-1, -1) e (by omega) trivial
  · unfold xX9_farthestOf
    rw [he]
    exact key.1
  · intro e k b hk _
    refine ⟨?_, trivial⟩
    show xX9_farthestOf_B9 (xX9_farthestOf_L9 e) 78 (nI s) (nI n) (nI x) b.1 b.2 (nI k) (mkH σ) = _
    simp only [xX9_farthestOf_B9]
    rw [if_neg (fun z => by have := (nI_leI (by omega) (by omega)).mp z; omega)]
    simp only [rR_78_44, Option.bind_some, ra_106 σ (k := k) (by omega), hw k hk, is_78, gu_t, r_holderIn (σ := σ) hs (hw2 k hk), nI_s, r_own hs oc.2 oc.1, ow.1, r_bit, bitB_n (show ownN (sF σ 104) s < 2 ^ 31 by omega) (show w k < 32 by have := hw2 k hk; omega), bitB_n (show x < 2 ^ 31 by omega) (show w k < 32 by have := hw2 k hk; omega)]
    unfold stF
    by_cases h1 : sF σ 104 (84 + 30 * s + w k) < 0
    · rw [if_pos h1, if_pos h1]
    · rw [if_neg h1, if_neg h1]
      have ho : ∃ o, o < nsh ∧ sF σ 104 (84 + 30 * s + w k) = nI o := by
        rcases V.2.2.1 s (w k) hs (hw2 k hk) with h | ⟨o, y, h2, -, -, -, h3, -⟩
        · rw [h.1] at h1
          exact absurd (by decide) h1
        · exact ⟨o, h2, h3⟩
      obtain ⟨o, ho, eo⟩ := ho
      rw [eo, tn_n (by omega)]
      simp only [r_away (σ := σ) hs (show o < 6 by omega), Option.bind_some]
      by_cases h2 : (ownN (sF σ 104) s).testBit (w k) = true
      · simp [h2]
      · by_cases h3 : x.testBit (w k) = true
        · simp [h2, h3]
        · by_cases h4 : b.2 < awayS (sF σ 104) s o
          · simp [h2, h3, h4, rR_78_44, ra_106 σ (k := k) (show k < 30 by omega), hw k hk, is_78, gu_t]
          · simp [h2, h3, h4]
  · intro e b _
    show xX9_farthestOf_B9 (xX9_farthestOf_L9 e) 78 (nI s) (nI n) (nI x) b.1 b.2 (nI n) (mkH σ) = _
    simp only [xX9_farthestOf_B9]
    rw [if_pos ((nI_leI (by omega) (by omega)).mpr (Nat.le_refl n))]
/-- candidates: the free ones of the window, then those of the farthest -/
def cand0 (A : Nat → Int32) (s : Nat) (w : Nat → Nat) (n : Nat) : Nat := zf (fun k a => if frB A s (w k) then a ||| 2 ^ w k else a) 0 n 0
def candL (A : Nat → Int32) (s : Nat) (w : Nat → Nat) (n ls : Nat) : Nat → Nat → Nat
  | 0, x => x
  | f + 1, x => if ls ≤ pc 32 x then x else if farO A s w (fun t => (ownN A s).testBit t || x.testBit t) n < 0 then x else candL A s w n ls f (x ||| 2 ^ tn (farO A s w (fun t => (ownN A s).testBit t || x.testBit t) n))
def candS (A : Nat → Int32) (s : Nat) (w : Nat → Nat) (n ls : Nat) : Nat := candL A s w n ls ls (cand0 A s w n)
theorem cand0_lt {A : Nat → Int32} {s : Nat} {w : Nat → Nat} {n : Nat} (hw2 : ∀ i, i < n → w i < 30) : cand0 A s w n < 2 ^ 30 := by
  refine zf_I (fun _ a => a < 2 ^ 30) n ?_ n 0 0 (by omega) (by decide)
  intro k a hk ha
  cases frB A s (w k)
  · simpa using ha
  · simpa using or_lt ha (pow_lt (hw2 k hk))
theorem and_pow (x k : Nat) : x &&& 2 ^ k = if x.testBit k then 2 ^ k else 0 := by
  apply Nat.eq_of_testBit_eq
  intro i
  rw [Nat.testBit_and, Nat.testBit_two_pow]
  by_cases hk : k = i
  · subst hk
    cases x.testBit k <;> simp [Nat.testBit_two_pow]
  · cases x.testBit k <;> simp [Nat.testBit_two_pow, hk]
theorem r_candL {lo : Nat} {σ : ZS} {bk s n nsh m : Nat} {P : Nat → Nat} {w : Nat → Nat} (R : RP σ bk P) (W : PW P) (V : WF lo nsh m (sF σ 104)) (hns : nsh ≤ 6) (hm : m ≤ 30) (hs : s < 6) (hn : n ≤ 30) (hw : ∀ i, i < n → sF σ 106 i = nI (w i)) (hw2 : ∀ i, i < n → w i < 30) : ∀ (f x e : Nat) (q : Int32), x < 2 ^ 30 → 0 ≤ q → P 4 ≤ pc 32 x + f → xX9_candidatesOf_L47 (e + f + 2) 78 (nI s) (nI n) (nI x) q (mkH σ) = some (nI (candL (sF σ 104) s w n (P 4) f x), mkH σ) ∧ candL (sF σ 104) s w n (P 4) f x < 2 ^ 30 := by
  have hl : P 4 ≤ 4 := W.2.2.2.2.2.2.1
  intro f
  induction f with
  | zero =>
    intro x e q hx hq hp
    refine ⟨?_, hx⟩
    show xX9_candidatesOf_B47 (xX9_candidatesOf_L47 (e + 0 + 1)) 78 (nI s) (nI n) (nI x) q (mkH σ) = _
    simp only [xX9_candidatesOf_B47, r_bitsOf (show x < 2 ^ 31 by omega), Option.bind_some, rR_78_15, rI_78_34, R.1, ra_85 σ R.2.1, R.2.2.2.2.2.2.1]
    have := pc_le 32 x
    rw [if_pos ((nI_leI (by omega) (by omega)).mpr (by omega))]
    rfl
  | succ f ih =>
    intro x e q hx hq hp
    have := pc_le 32 x
    rw [candL]
    show xX9_candidatesOf_B47 (xX9_candidatesOf_L47 (e + (f + 1) + 1)) 78 (nI s) (nI n) (nI x) q (mkH σ) = _ ∧ _
    simp only [xX9_candidatesOf_B47, r_bitsOf (show x < 2 ^ 31 by omega), Option.bind_some, rR_78_15, rI_78_34, R.1, ra_85 σ R.2.1, R.2.2.2.2.2.2.1]
    by_cases h1 : P 4 ≤ pc 32 x
    · rw [if_pos ((nI_leI (by omega) (by omega)).mpr h1), if_pos h1]
      exact ⟨rfl, hx⟩
    · rw [if_neg (fun z => h1 ((nI_leI (by omega) (by omega)).mp z)), if_neg h1, if_neg (Int32.not_lt.mpr hq)]
      simp only [is_78, gu_t, r_far V hns hm hs hn hx hw hw2, Option.bind_some]
      rcases farO_in (A := sF σ 104) (s := s) (w := w) (sk := fun t => (ownN (sF σ 104) s).testBit t || x.testBit t) (n := n) with h | ⟨k, hk, h, h2⟩
      · rw [h, if_pos (by decide), if_pos (by decide)]
        refine ⟨?_, hx⟩
        show xX9_candidatesOf_B47 (xX9_candidatesOf_L47 (e + f + 1)) 78 (nI s) (nI n) (nI x) (-1) (mkH σ) = _
        simp only [xX9_candidatesOf_B47, r_bitsOf (show x < 2 ^ 31 by omega), Option.bind_some, rR_78_15, rI_78_34, R.1, ra_85 σ R.2.1, R.2.2.2.2.2.2.1]
        rw [if_neg (fun z => h1 ((nI_leI (by omega) (by omega)).mp z)), if_pos (by decide)]
      · have hk2 := hw2 k hk
        rw [h, if_neg (nI_pos (by omega)), if_neg (nI_pos (by omega)), tn_n (by omega), one_shl (by omega), nx_or]
        have hb : x.testBit (w k) = false := (Bool.or_eq_false_iff.mp h2).2
        have hpc := pc_set 32 x (w k) (by omega) hb
        exact ih (x ||| 2 ^ w k) e (nI (w k)) (or_lt hx (pow_lt hk2)) (nI_pos' (by omega)) (by omega)
theorem r_cand {lo : Nat} {σ : ZS} {bk s wd slot : Nat} {P : Nat → Nat} (R : RP σ bk P) (W : PW P) (V : WF lo (P 0) (P 1) (sF σ 104)) (hs : s < 6) (hwd : wd ≤ 9) (hsl : slot < 30) (ht : (sI σ 78 43 < 0 ∧ wd = P 3) ∨ sI σ 78 43 = nI wd) : ∃ τ, xX9_candidatesOf 78 (nI s) (nI slot) (mkH σ) = some (nI (candS (sF σ 104) s (wP (P 1) wd slot) (wN (P 1) wd) (P 4)), mkH τ) ∧ (∀ i, i < wN (P 1) wd → sF τ 106 i = nI (wP (P 1) wd slot i)) ∧ FR (fun a => a = 106) (fun _ _ => False) σ τ ∧ candS (sF σ 104) s (wP (P 1) wd slot) (wN (P 1) wd) (P 4) < 2 ^ 30 := by
  obtain ⟨τ, h1, h2, h3⟩ := r_window R W hwd hsl ht
  have hA : sF τ 104 = sF σ 104 := h3.1 104 (by decide)
  have R' : RP τ bk P := RP_f h3 (fun a h1 h2 z => by omega) (fun z => z) R
  have B' := RP_B R' W
  have V' : WF lo (P 0) (P 1) (sF τ 104) := by rw [hA]; exact V
  have hm : P 1 ≤ 30 := W.2.2.1
  have hb := wN_le (m := P 1) (wd := wd)
  have hm0 : 6 ≤ P 1 := W.2.1
  have hw2 : ∀ i, i < wN (P 1) wd → wP (P 1) wd slot i < 30 := fun i _ => Nat.lt_of_lt_of_le (wP_lt (by omega)) hm
  have oc := WF_own V' hs
  have ow := own_n V' hm hs
  have fr := free_n (A := sF τ 104) (s := s) hm ow.2
  obtain ⟨e, he⟩ := zfu (wN (P 1) wd) (by omega)
  obtain ⟨e2, he2⟩ := zfu (P 4 + 1) (by have := W.2.2.2.2.2.2.1; omega)
  have c0 := cand0_lt (A := sF τ 104) (s := s) (w := wP (P 1) wd slot) (n := wN (P 1) wd) hw2
  have kL := r_candL R' W V' W.1 hm hs (show wN (P 1) wd ≤ 30 by omega) h2 hw2 (P 4) (cand0 (sF τ 104) s (wP (P 1) wd slot) (wN (P 1) wd)) e2 0 c0 (by decide) (by omega)
  have key := lp (fun e k (a : Nat) => xX9_candidatesOf_L12 e 78 (nI s) (nI (wN (P 1) wd)) (nI a) (nI k) (mkH τ)) (fun k a => if frB (sF τ 104) s (wP (P 1) wd slot k) then a ||| 2 ^ wP (P 1) wd slot k else a) (wN (P 1) wd) (fun k a => a = zf (fun k a => if frB (sF τ 104) s (wP (P 1) wd slot k) then a ||| 2 ^ wP (P 1) wd slot k else a) 0 k 0) (fun _ => (nI (candS (sF τ 104) s (wP (P 1) wd slot) (wN (P 1) wd) (P 4)), mkH τ)) ?_ ?_ (wN (P 1) wd) 0 0 e (by omega) rfl
  · refine ⟨τ, ?_, h2, h3, ?_⟩
    · unfold xX9_candidatesOf
      simp only [is_78, gu_t, h1, Option.bind_some]
      rw [he]
      have := key.1
      rw [hA] at this
      exact this
    · have := kL.2
      rw [hA] at this
      exact this
  · intro e k a hk ha
    constructor
    · show xX9_candidatesOf_B12 (xX9_candidatesOf_L12 e) 78 (nI s) (nI (wN (P 1) wd)) (nI a) (nI k) (mkH τ) = _
      simp only [xX9_candidatesOf_B12]
      rw [if_neg (fun z => by have := (nI_leI (by omega) (by omega)).mp z; omega)]
      simp only [is_78, gu_t, r_free B' hs oc.2 oc.1, ow.1, fr.1, Option.bind_some, rR_78_44, ra_106 τ (k := k) (by omega), h2 k hk, one_shl (show wP (P 1) wd slot k < 32 by have := hw2 k hk; omega), nx_and, nx_or, nI_s, and_pow, free_bit]
      rw [show decide (wP (P 1) wd slot k < P 1) = true from decide_eq_true (wP_lt (by omega)), Bool.true_and]
      cases frB (sF τ 104) s (wP (P 1) wd slot k) <;> simp
    · rw [ha]
      have z1 : ∀ (f : Nat → Nat → Nat) m k a, zf f k (m + 1) a = f (k + m) (zf f k m a) := by
        intro f m
        induction m with
        | zero => intro k a; rfl
        | succ m ih =>
          intro k a
          rw [zf, ih, show k + 1 + m = k + (m + 1) by omega]
          rfl
      rw [z1, Nat.zero_add]
  · intro e a ha
    show xX9_candidatesOf_B12 (xX9_candidatesOf_L12 e) 78 (nI s) (nI (wN (P 1) wd)) (nI a) (nI (wN (P 1) wd)) (mkH τ) = _
    simp only [xX9_candidatesOf_B12]
    rw [if_pos ((nI_leI (by omega) (by omega)).mpr (Nat.le_refl _)), he2]
    have := kL.1
    rw [ha]
    exact this
/-- the q-th of a set in the order of the window, from place k on -/
def pkS (x : Nat) (w : Nat → Nat) : Nat → Nat → Nat → Nat
  | 0, k, _ => w k
  | f + 1, k, q => if x.testBit (w k) then (if q = 0 then w k else pkS x w f (k + 1) (q - 1)) else pkS x w f (k + 1) q
/-- how many places of the window from k on are in a set -/
def cnS (x : Nat) (w : Nat → Nat) : Nat → Nat → Nat
  | 0, _ => 0
  | f + 1, k => (if x.testBit (w k) then 1 else 0) + cnS x w f (k + 1)
theorem cnS_last (x : Nat) (w : Nat → Nat) : ∀ f k, cnS x w (f + 1) k = cnS x w f k + if x.testBit (w (k + f)) then 1 else 0 := by
  intro f
  induction f with
  | zero => intro k; simp [cnS]
  | succ f ih =>
    intro k
    rw [cnS, ih, show k + 1 + f = k + (f + 1) by omega, cnS]
    omega
theorem cnS_mono {x y : Nat} {w : Nat → Nat} (h : ∀ t, x.testBit t = true → y.testBit t = true) : ∀ f k, cnS x w f k ≤ cnS y w f k := by
  intro f
  induction f with
  | zero => intro k; exact Nat.le_refl _
  | succ f ih =>
    intro k
    rw [cnS, cnS]
    have := ih (k + 1)
    cases hx : x.testBit (w k)
    · simp; omega
    · rw [h _ hx]; omega
def inW (x : Nat) (w : Nat → Nat) (n : Nat) : Prop := ∀ t, x.testBit t = true → ∃ i, i < n ∧ w i = t
theorem cn_pc {w : Nat → Nat} : ∀ n x, x < 2 ^ 32 → inW x w n → pc 32 x ≤ cnS x w n 0 := by
  intro n
  induction n with
  | zero =>
    intro x hx h
    have : x = 0 := by
      apply Nat.eq_of_testBit_eq
      intro i
      rw [Nat.zero_testBit]
      cases hb : x.testBit i
      · rfl
      · obtain ⟨j, hj, -⟩ := h i hb
        omega
    rw [this, pc_0]
    exact Nat.zero_le _
  | succ n ih =>
    intro x hx h
    rw [cnS_last, Nat.zero_add]
    cases hb : x.testBit (w n)
    · have := ih x hx (fun t ht => by
        obtain ⟨i, hi, e⟩ := h t ht
        refine ⟨i, ?_, e⟩
        rcases Nat.lt_or_ge i n with h2 | h2
        · exact h2
        · have : i = n := by omega
          subst this
          rw [e, ht] at hb
          cases hb)
      simp
      exact this
    · have hk : w n < 32 := by
        rcases Nat.lt_or_ge (w n) 32 with h2 | h2
        · exact h2
        · rw [Nat.testBit_lt_two_pow (Nat.lt_of_lt_of_le hx (Nat.pow_le_pow_right (by decide) h2))] at hb
          cases hb
      have hy : ∀ t, (x ^^^ 2 ^ w n).testBit t = (x.testBit t && !decide (w n = t)) := by
        intro t
        rw [Nat.testBit_xor, Nat.testBit_two_pow]
        by_cases ht : w n = t
        · rw [← ht, hb]; simp
        · simp [ht]
      have e : x = (x ^^^ 2 ^ w n) ||| 2 ^ w n := by
        apply Nat.eq_of_testBit_eq
        intro t
        rw [Nat.testBit_or, hy, Nat.testBit_two_pow]
        by_cases ht : w n = t
        · rw [← ht, hb]; simp
        · simp [ht]
      have p1 := pc_set 32 (x ^^^ 2 ^ w n) (w n) hk (by rw [hy]; simp)
      rw [← e] at p1
      have p2 := ih (x ^^^ 2 ^ w n) (Nat.xor_lt_two_pow hx (pow_lt hk)) (fun t ht => by
        rw [hy] at ht
        have ht2 := Bool.and_eq_true_iff.mp ht
        obtain ⟨i, hi, e2⟩ := h t ht2.1
        refine ⟨i, ?_, e2⟩
        rcases Nat.lt_or_ge i n with h2 | h2
        · exact h2
        · have : i = n := by omega
          subst this
          have := ht2.2
          simp [e2] at this)
      have p3 := cnS_mono (w := w) (x := x ^^^ 2 ^ w n) (y := x) (fun t ht => by rw [hy] at ht; exact (Bool.and_eq_true_iff.mp ht).1) n 0
      simp
      omega
theorem cand0_in {A : Nat → Int32} {s : Nat} {w : Nat → Nat} {n : Nat} : inW (cand0 A s w n) w n := by
  refine zf_I (fun _ a => inW a w n) n ?_ n 0 0 (by omega) (fun t ht => by rw [Nat.zero_testBit] at ht; cases ht)
  intro k a hk ha
  cases frB A s (w k)
  · simpa using ha
  · intro t ht
    rw [if_pos rfl, Nat.testBit_or, Nat.testBit_two_pow] at ht
    rcases Bool.or_eq_true_iff.mp ht with h | h
    · exact ha t h
    · exact ⟨k, hk, of_decide_eq_true h⟩
theorem candL_in {A : Nat → Int32} {s : Nat} {w : Nat → Nat} {n ls : Nat} (hw2 : ∀ i, i < n → w i < 30) : ∀ f x, inW x w n → inW (candL A s w n ls f x) w n := by
  intro f
  induction f with
  | zero => intro x h; exact h
  | succ f ih =>
    intro x h
    rw [candL]
    by_cases h1 : ls ≤ pc 32 x
    · rw [if_pos h1]; exact h
    · rw [if_neg h1]
      rcases farO_in (A := A) (s := s) (w := w) (sk := fun t => (ownN A s).testBit t || x.testBit t) (n := n) with h2 | ⟨k, hk, h2, -⟩
      · rw [h2, if_pos (by decide)]; exact h
      · have := hw2 k hk
        rw [h2, if_neg (nI_pos (by omega)), tn_n (by omega)]
        apply ih
        intro t ht
        rw [Nat.testBit_or, Nat.testBit_two_pow] at ht
        rcases Bool.or_eq_true_iff.mp ht with h3 | h3
        · exact h t h3
        · exact ⟨k, hk, of_decide_eq_true h3⟩
theorem candS_in {A : Nat → Int32} {s : Nat} {w : Nat → Nat} {n ls : Nat} (hw2 : ∀ i, i < n → w i < 30) : inW (candS A s w n ls) w n := candL_in hw2 _ _ cand0_in
theorem candS_lt {A : Nat → Int32} {s : Nat} {w : Nat → Nat} {n ls : Nat} (hw2 : ∀ i, i < n → w i < 30) : candS A s w n ls < 2 ^ 30 := by
  apply Nat.lt_pow_two_of_testBit
  intro i hi
  cases hb : (candS A s w n ls).testBit i
  · rfl
  · obtain ⟨k, hk, e⟩ := candS_in hw2 i hb
    have := hw2 k hk
    omega
theorem pkS_in {x : Nat} {w : Nat → Nat} : ∀ f k q, q < cnS x w f k → ∃ i, i < k + f ∧ pkS x w f k q = w i := by
  intro f
  induction f with
  | zero => intro k q h; rw [cnS] at h; omega
  | succ f ih =>
    intro k q h
    rw [cnS] at h
    rw [pkS]
    cases hb : x.testBit (w k)
    · rw [hb] at h
      simp at h
      obtain ⟨i, hi, e⟩ := ih (k + 1) q h
      refine ⟨i, by omega, ?_⟩
      simpa using e
    · rw [hb] at h
      by_cases hq : q = 0
      · exact ⟨k, by omega, by simp [hq]⟩
      · simp at h
        obtain ⟨i, hi, e⟩ := ih (k + 1) (q - 1) (by omega)
        refine ⟨i, by omega, ?_⟩
        simpa [hq] using e
theorem seed_n {z : Nat} (hz : z < 1000) : seedS (nI z) = nI ((137 * z + 71) % 1000) := by
  unfold seedS
  rw [nl_137, nl_71, nl_1000, pk_mul, nI_add, pk_rem (by omega) (by omega) (by omega)]
/-- after a draw -/
def drA (A : Nat → Int32) : Nat → Int32 := up1 A 519 (seedS (A 519))
def chS (A : Nat → Int32) (s : Nat) (w : Nat → Nat) (n ls : Nat) : Option Nat := if candS A s w n ls = 0 then none else some (pkS (candS A s w n ls) w n 0 (tn (seedS (A 519)) % pc 32 (candS A s w n ls)))
theorem chS_in {A : Nat → Int32} {s : Nat} {w : Nat → Nat} {n ls t : Nat} (hw2 : ∀ i, i < n → w i < 30) (h : chS A s w n ls = some t) : ∃ i, i < n ∧ t = w i := by
  unfold chS at h
  by_cases h0 : candS A s w n ls = 0
  · rw [if_pos h0] at h; cases h
  · rw [if_neg h0] at h
    have hl := candS_lt (A := A) (s := s) (ls := ls) hw2
    have hp := pc_pos 32 (candS A s w n ls) (by omega) (by omega)
    have hc := cn_pc n (candS A s w n ls) (by omega) (candS_in hw2)
    obtain ⟨i, hi, e⟩ := pkS_in (x := candS A s w n ls) (w := w) n 0 (tn (seedS (A 519)) % pc 32 (candS A s w n ls)) (Nat.lt_of_lt_of_le (Nat.mod_lt _ hp) hc)
    have := Option.some.inj h
    exact ⟨i, by omega, by rw [← this, e]⟩
theorem r_choose_L {σ : ZS} {x n : Nat} {w : Nat → Nat} (hx : x < 2 ^ 30) (hn : n ≤ 30) (hw : ∀ i, i < n → sF σ 106 i = nI (w i)) (hw2 : ∀ i, i < n → w i < 30) : ∀ (f k q e : Nat), k + f = n → q < cnS x w f k → q < 2 ^ 30 → xX9_choose_L27 (e + f + 1) 78 (nI x) (nI q) (nI k) (mkH σ) = some (nI (pkS x w f k q), mkH σ) := by
  intro f
  induction f with
  | zero => intro k q e hk hq; rw [cnS] at hq; omega
  | succ f ih =>
    intro k q e hk hq hq2
    have hw3 := hw2 k (by omega)
    rw [cnS] at hq
    rw [pkS]
    show xX9_choose_B27 (xX9_choose_L27 (e + (f + 1))) 78 (nI x) (nI q) (nI k) (mkH σ) = _
    rw [show e + (f + 1) = e + f + 1 by omega]
    simp only [xX9_choose_B27, xX9_choose_B46, rR_78_44, Option.bind_some, ra_106 σ (k := k) (by omega), hw k (by omega), r_bit, bitB_n (show x < 2 ^ 31 by omega) (show w k < 32 by omega), nI_s]
    cases hb : x.testBit (w k)
    · rw [hb] at hq
      simp at hq
      have := ih (k + 1) q e (by omega) hq hq2
      simp [this]
    · rw [hb] at hq
      simp at hq
      by_cases h0 : q = 0
      · subst h0
        rw [if_neg (by decide)]
        simp
      · rw [if_pos (by rw [nl_0]; exact nI_lt (by omega) (by omega))]
        have h1 := ih (k + 1) (q - 1) e (by omega) (by omega) (by omega)
        have h2 : nI q + (-1) = nI (q - 1) := by
          have := pk_m1 (q - 1)
          rwa [show q - 1 + 1 = q by omega] at this
        simp [h0, h2, h1]
theorem r_choose {lo : Nat} {σ : ZS} {bk s slot : Nat} {P : Nat → Nat} (R : RP σ bk P) (W : PW P) (V : WF lo (P 0) (P 1) (sF σ 104)) (hs : s < 6) (hsl : slot < 30) (ht : sI σ 78 43 < 0) : ∃ τ, xX9_choose 78 (nI s) (nI slot) (mkH σ) = some ((match chS (sF σ 104) s (wP (P 1) (P 3) slot) (wN (P 1) (P 3)) (P 4) with | none => -1 | some t => nI t), mkH τ) ∧ sF τ 104 = (match chS (sF σ 104) s (wP (P 1) (P 3) slot) (wN (P 1) (P 3)) (P 4) with | none => sF σ 104 | some _ => drA (sF σ 104)) ∧ FR (fun a => a = 104 ∨ a = 106) (fun _ _ => False) σ τ := by
  obtain ⟨τ, h1, h2, h3, h4⟩ := r_cand (slot := slot) R W V hs W.2.2.2.2.1 hsl (Or.inl ⟨ht, rfl⟩)
  have hA : sF τ 104 = sF σ 104 := h3.1 104 (by decide)
  have hm : P 1 ≤ 30 := W.2.2.1
  have hm0 : 6 ≤ P 1 := W.2.1
  have hb := wN_le (m := P 1) (wd := P 3)
  have hw2 : ∀ i, i < wN (P 1) (P 3) → wP (P 1) (P 3) slot i < 30 := fun i _ => Nat.lt_of_lt_of_le (wP_lt (by omega)) hm
  obtain ⟨z, hz, ez⟩ := V.2.2.2.2
  have hF : FR (fun a => a = 104 ∨ a = 106) (fun _ _ => False) σ τ := FR_m h3 (fun a z => Or.inr z) (fun _ _ z => z)
  unfold chS
  simp only [xX9_choose, is_78, gu_t, h1, Option.bind_some]
  by_cases h0 : candS (sF σ 104) s (wP (P 1) (P 3) slot) (wN (P 1) (P 3)) (P 4) = 0
  · rw [h0, if_pos rfl, if_pos nI_0]
    exact ⟨τ, rfl, hA, hF⟩
  · rw [if_neg (nI_ne0 (by omega) (by omega)), if_neg h0]
    generalize hx : candS (sF σ 104) s (wP (P 1) (P 3) slot) (wN (P 1) (P 3)) (P 4) = x at *
    have hin : inW x (wP (P 1) (P 3) slot) (wN (P 1) (P 3)) := by rw [← hx]; exact candS_in hw2
    have hp := pc_pos 32 x (by omega) (by omega)
    have hp2 := pc_le 32 x
    have hc := cn_pc (wN (P 1) (P 3)) x (by omega) hin
    simp only [r_draw, Option.bind_some, r_bitsOf (show x < 2 ^ 31 by omega), hA, ez, seed_n hz]
    rw [if_neg (nI_ne0 hp (by omega)), pk_rem (by omega) hp (by omega), tn_n (by omega)]
    obtain ⟨e, he⟩ := zfu (wN (P 1) (P 3)) (by omega)
    have hq := Nat.mod_lt ((137 * z + 71) % 1000) hp
    have k := r_choose_L (σ := setF τ 104 519 (nI ((137 * z + 71) % 1000))) (x := x) (n := wN (P 1) (P 3)) (w := wP (P 1) (P 3) slot) h4 (by omega) (fun i hi => by rw [sF_ne (by omega)]; exact h2 i hi) hw2 (wN (P 1) (P 3)) 0 ((137 * z + 71) % 1000 % pc 32 x) e (by omega) (by omega) (by omega)
    rw [← he] at k
    refine ⟨setF τ 104 519 (nI ((137 * z + 71) % 1000)), k, ?_, FR_t hF (FR_F (Or.inl rfl))⟩
    rw [sF_up, hA]
    unfold drA
    rw [ez, seed_n hz]
