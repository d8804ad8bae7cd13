/-! the class's choice -/
def isCh (q : Nat) : Prop := q = 55 ∨ q = 58
theorem ch_is {σ : ZS} {q : Nat} (h : isCh q) : z_is (mkH σ) q 0 = true := by rcases h with rfl | rfl; exact is_55 σ; exact is_58 σ
theorem ch_I0 {σ : ZS} {q : Nat} (h : isCh q) : z_gI (mkH σ) q 0 0 = some (sI σ q 0) := by rcases h with rfl | rfl; exact rI_55_0 σ; exact rI_58_0 σ
theorem ch_I1 {σ : ZS} {q : Nat} (h : isCh q) : z_gI (mkH σ) q 0 1 = some (sI σ q 1) := by rcases h with rfl | rfl; exact rI_55_1 σ; exact rI_58_1 σ
theorem ch_I2 {σ : ZS} {q : Nat} (h : isCh q) : z_gI (mkH σ) q 0 2 = some (sI σ q 2) := by rcases h with rfl | rfl; exact rI_55_2 σ; exact rI_58_2 σ
theorem ch_I4 {σ : ZS} {q : Nat} (h : isCh q) : z_gI (mkH σ) q 0 4 = some (sI σ q 4) := by rcases h with rfl | rfl; exact rI_55_4 σ; exact rI_58_4 σ
theorem ch_R3 {σ : ZS} {q : Nat} (h : isCh q) : z_gR (mkH σ) q 0 3 = some (q + 1) := by rcases h with rfl | rfl; exact rR_55_3 σ; exact rR_58_3 σ
theorem ch_w0 {σ : ZS} {q : Nat} {v : Int32} (h : isCh q) : z_sF (mkH σ) q 0 0 (.int v) = some (mkH (setI σ q 0 v)) := by rcases h with rfl | rfl; exact wI_55_0 σ v; exact wI_58_0 σ v
theorem ch_w1 {σ : ZS} {q : Nat} {v : Int32} (h : isCh q) : z_sF (mkH σ) q 0 1 (.int v) = some (mkH (setI σ q 1 v)) := by rcases h with rfl | rfl; exact wI_55_1 σ v; exact wI_58_1 σ v
theorem ch_w2 {σ : ZS} {q : Nat} {v : Int32} (h : isCh q) : z_sF (mkH σ) q 0 2 (.int v) = some (mkH (setI σ q 2 v)) := by rcases h with rfl | rfl; exact wI_55_2 σ v; exact wI_58_2 σ v
theorem ch_w4 {σ : ZS} {q : Nat} {v : Int32} (h : isCh q) : z_sF (mkH σ) q 0 4 (.int v) = some (mkH (setI σ q 4 v)) := by rcases h with rfl | rfl; exact wI_55_4 σ v; exact wI_58_4 σ v
theorem ch_ra {σ : ZS} {q k : Nat} (h : isCh q) (hk : k < 30) : z_aI (mkH σ) (q + 1) (nI k) = some (sF σ (q + 1) k) := by rcases h with rfl | rfl; exact ra_56 σ hk; exact ra_59 σ hk
theorem ch_wa {σ : ZS} {q k : Nat} {v : Int32} (h : isCh q) (hk : k < 30) : z_uI (mkH σ) (q + 1) (nI k) v = some (mkH (setF σ (q + 1) k v)) := by rcases h with rfl | rfl; exact wa_56 σ v hk; exact wa_59 σ v hk
theorem fm_neg : ∀ d, d < 10 → 0 < d → ∀ m, m < 31 → 6 ≤ m → (¬ 0 ≤ ((-nI d) ^^^ nI m)) ∧ (if ((-nI d) - (-nI d) / nI m * nI m) = 0 then ((-nI d) - (-nI d) / nI m * nI m) else ((-nI d) - (-nI d) / nI m * nI m) + nI m) = nI ((10 * m - d) % m) := by decide +kernel
theorem ar_3 (a b c : Int32) : (a - c) + b = (a + b) - c := by
  simp only [Int32.sub_eq_add_neg]
  ac_rfl
theorem ar_4 (a d : Int32) : a - (a + d) = -d := by
  rw [Int32.sub_eq_add_neg, Int32.neg_add, Int32.sub_eq_add_neg, ← Int32.add_assoc, Int32.add_right_neg, Int32.zero_add]
theorem c_fm {slot wd i m : Nat} (hs : slot < 30) (hw : wd ≤ 9) (hi : i < 30) (hm : 6 ≤ m) (hm2 : m ≤ 30) (h : ZH) : xJ9_floorMod_7cf53 ((nI slot - nI wd) + nI i) (nI m) h = some (nI (wP m wd slot i), h) := by
  unfold xJ9_floorMod_7cf53
  rw [if_neg (nI_ne0 (by omega) (by omega)), ar_3, nI_add]
  by_cases hc : wd ≤ slot + i
  · rw [pk_sub hc, nx_xor]
    rw [if_pos (nI_pos' (Nat.lt_trans (Nat.xor_lt_two_pow (n := 6) (by omega) (by omega)) (by decide)))]
    rw [pk_rem (by omega) (by omega) (by omega)]
    unfold wP
    rw [show slot + i + 10 * m - wd = (slot + i - wd) + m * 10 by omega, Nat.add_mul_mod_self_left]
  · have e : nI (slot + i) - nI wd = -nI (wd - (slot + i)) := by
      have := ar_4 (nI (slot + i)) (nI (wd - (slot + i)))
      rw [nI_add, show slot + i + (wd - (slot + i)) = wd by omega] at this
      exact this
    obtain ⟨f1, f2⟩ := fm_neg (wd - (slot + i)) (by omega) (by omega) m (by omega) hm
    rw [e, if_neg f1]
    unfold wP
    rw [show slot + i + 10 * m - wd = 10 * m - (wd - (slot + i)) by omega, ← f2]
    by_cases hz : ((-nI (wd - (slot + i))) - (-nI (wd - (slot + i))) / nI m * nI m) = 0
    · rw [if_pos hz, if_pos hz]
    · rw [if_neg hz, if_neg hz]
theorem c_order {σ : ZS} {P : Nat → Nat} {q wd slot : Nat} (hq : isCh q) (R : CP σ P) (W : PW P) (hw : wd ≤ 9) (hs : slot < 30) : ∃ τ, xX0_setOrder q 21 (nI slot) (nI wd) (mkH σ) = some (mkH τ) ∧ sI τ q 4 = nI (wN (P 1) wd) ∧ (∀ i, i < wN (P 1) wd → sF τ (q + 1) i = nI (wP (P 1) wd slot i)) ∧ FR (fun a => a = q + 1) (fun a k => a = q ∧ k = 4) σ τ := by
  obtain ⟨p0, p1, p2, -⟩ := W
  have hb := wN_le (m := P 1) (wd := wd)
  have hq2 : q = 55 ∨ q = 58 := hq
  obtain ⟨e, he⟩ := zfu (wN (P 1) wd) (by omega)
  have key := lp (fun e i (τ : ZS) => xX0_setOrder_L33 e q 21 (nI slot) (nI wd) (nI i) (mkH τ)) (fun i τ => setF τ (q + 1) i (nI (wP (P 1) wd slot i))) (wN (P 1) wd) (fun i τ => FR (fun a => a = q + 1) (fun a k => a = q ∧ k = 4) σ τ ∧ sI τ q 4 = nI (wN (P 1) wd) ∧ ∀ j, j < i → sF τ (q + 1) j = nI (wP (P 1) wd slot j)) (fun τ => mkH τ) ?_ ?_ (wN (P 1) wd) 0 (setI (setI σ q 4 0) q 4 (nI (wN (P 1) wd))) e (by omega) ⟨FR_t (FR_I ⟨rfl, rfl⟩) (FR_I ⟨rfl, rfl⟩), sI_eq, fun j hj => absurd hj (Nat.not_lt_zero j)⟩
  · refine ⟨_, ?_, key.2.2.1, key.2.2.2, key.2.1⟩
    rw [← he] at key
    have k2 := key.1
    have r1 : sI (setI σ q 4 0) 21 0 = nI (P 1) := by rw [sI_ne (by omega)]; exact R.2.1
    have hmin : (if nI (P 1) < nI (2 * wd + 1) then nI (P 1) else nI (2 * wd + 1)) = nI (wN (P 1) wd) := by
      unfold wN
      by_cases h1 : 2 * wd + 1 < P 1
      · rw [if_pos h1, if_neg (fun z => by have := (nI_ltI (by omega) (by omega)).mp z; omega)]
      · rw [if_neg h1]
        by_cases h2 : P 1 < 2 * wd + 1
        · rw [if_pos ((nI_ltI (by omega) (by omega)).mpr h2)]
        · rw [if_neg (fun z => by have := (nI_ltI (by omega) (by omega)).mp z; omega), show 2 * wd + 1 = P 1 by omega]
    unfold xX0_setOrder
    simp only [ch_w4 hq, Option.bind_some, rI_21_0, r1]
    rw [if_pos (by rw [nl_1]; exact nI_le (by omega) (by omega))]
    rw [nl_2, pk_mul, nl_1, nI_add]
    simp only [c_min, Option.bind_some, hmin, ch_w4 hq]
    exact k2
  · rintro e k τ hk ⟨hF, h4, hW⟩
    have R' : CP τ P := CP_f hF (fun k z => by omega) R
    refine ⟨?_, FR_t hF (FR_F rfl), h4, fun j hj => ?_⟩
    · show xX0_setOrder_B33 (xX0_setOrder_L33 e) q 21 (nI slot) (nI wd) (nI k) (mkH τ) = _
      simp only [xX0_setOrder_B33, ch_I4 hq, Option.bind_some, h4]
      rw [if_neg (fun z => by have := (nI_leI (by omega) (by omega)).mp z; omega)]
      simp only [ch_R3 hq, Option.bind_some, rI_21_0, R'.2.1, c_fm hs hw (show k < 30 by omega) p1 p2, ch_wa hq (show k < 30 by omega), nI_s]
    · by_cases hjk : j = k
      · subst hjk
        exact sF_eq
      · rw [sF_ne (by omega)]
        exact hW j (by omega)
  · rintro e τ ⟨hF, h4, -⟩
    show xX0_setOrder_B33 (xX0_setOrder_L33 e) q 21 (nI slot) (nI wd) (nI (wN (P 1) wd)) (mkH τ) = _
    simp only [xX0_setOrder_B33, ch_I4 hq, Option.bind_some, h4]
    rw [if_pos ((nI_leI (by omega) (by omega)).mpr (Nat.le_refl _))]
theorem c_far {lo : Nat} {σ : ZS} {p q s n y nsh m : Nat} {A : Nat → Int32} {w : Nat → Nat} (hp : isSt (sK σ) p) (hq : isCh q) (L : LV nsh (cV σ p) A) (V : WF lo nsh m A) (hns : nsh ≤ 6) (hs : s < nsh) (hn : n ≤ 30) (hy : y < 2 ^ 30) (h4 : sI σ q 4 = nI n) (hw : ∀ i, i < n → sF σ (q + 1) i = nI (w i)) (hw2 : ∀ i, i < n → w i < 30) : xX0_farthestHeld q p (nI s) (nI y) (mkH σ) = some (farO A s w (fun t => y.testBit t) n, mkH σ) := by
  obtain ⟨e, he⟩ := zfu n (by omega)
  have key := lp (fun e k (b : Int32 × Int32) => xX0_farthestHeld_L9 e q p (nI s) (nI y) b.2 b.1 (nI k) (mkH σ)) (stF A s w (fun t => y.testBit t)) n (fun _ _ => True) (fun b => (b.1, mkH σ)) ?_ ?_ n 0 (-1, -1) e (by omega) trivial
  · unfold xX0_farthestHeld
    rw [he]
    exact key.1
  · intro e k b hk _
    refine ⟨?_, trivial⟩
    have hk2 := hw2 k hk
    show xX0_farthestHeld_B9 (xX0_farthestHeld_L9 e) q p (nI s) (nI y) b.2 b.1 (nI k) (mkH σ) = _
    simp only [xX0_farthestHeld_B9, ch_I4 hq, Option.bind_some, h4]
    rw [if_neg (fun z => by have := (nI_leI (by omega) (by omega)).mp z; omega)]
    simp only [ch_R3 hq, Option.bind_some, ch_ra hq (show k < 30 by omega), hw k hk, is_S hp, gu_t, c_holder hp (show s < 6 by omega) hk2, nI_s, L.2.2.2 (84 + 30 * s + w k) (by omega) (by omega)]
    unfold stF
    rcases V.2.2.1 s (w k) (by omega) hk2 with h | ⟨o, v, h2, h3, -, -, h5, -⟩
    · rw [h.1, if_pos rfl, if_pos (by decide)]
    · rw [h5, tn_n (by omega)]
      rw [if_neg (show ¬ nI o = -1 from fun z => by have := nI_pos (n := o) (by omega); rw [z] at this; exact this (by decide))]
      rw [if_neg (show ¬ nI o = nI s from fun z => h3 ((nI_eq (by omega) (by omega)).mp z))]
      rw [if_neg (nI_pos (by omega))]
      have hb := bitB_n (show y < 2 ^ 31 by omega) (show w k < 32 by omega)
      unfold bitB at hb
      cases hyb : y.testBit (w k)
      · rw [hyb] at hb
        rw [if_neg (of_decide_eq_false hb)]
        have a1 : sF σ (p + 11) (s * 6 + o) = A (444 + 6 * s + o) := by
          rw [← L.2.2.2 (444 + 6 * s + o) (by omega) (by omega), show 444 + 6 * s + o = 444 + (s * 6 + o) by omega, cV_11 σ p (by omega)]
        have a2 : sF σ (p + 12) (s * 6 + o) = A (480 + 6 * s + o) := by
          rw [← L.2.2.2 (480 + 6 * s + o) (by omega) (by omega), show 480 + 6 * s + o = 480 + (s * 6 + o) by omega, cV_12 σ p (by omega)]
        have a3 : sF σ (p + 1) s = A s := by
          rw [← (L.1 s hs).1]
          have := cV_1 σ p (i := s) (by omega)
          rw [Nat.zero_add] at this
          exact this.symm
        have a4 : sF σ (p + 2) s = A (6 + s) := by
          rw [← (L.1 s hs).2.1]
          exact (cV_2 σ p (i := s) (by omega)).symm
        simp only [rR_S11 hp, rR_S12 hp, rR_S1 hp, rR_S2 hp, Option.bind_some, nl_6, pk_mul, nI_add, ra_S11 hp (show s * 6 + o < 36 by omega), ra_S12 hp (show s * 6 + o < 36 by omega), ra_S1 hp (show s < 6 by omega), ra_S2 hp (show s < 6 by omega), c_abs, a1, a2, a3, a4]
        show (if awayS A s o ≤ b.2 then _ else _) = _
        by_cases h6 : awayS A s o ≤ b.2
        · rw [if_pos h6]
          simp [hyb, Int32.not_lt.mpr h6]
        · rw [if_neg h6]
          simp only [hyb, Int32.not_le.mp h6, Bool.false_eq_true, if_false, if_true]
          rfl
      · rw [hyb] at hb
        rw [if_pos (of_decide_eq_true hb)]
        simp [hyb]
  · intro e b _
    show xX0_farthestHeld_B9 (xX0_farthestHeld_L9 e) q p (nI s) (nI y) b.2 b.1 (nI n) (mkH σ) = _
    simp only [xX0_farthestHeld_B9, ch_I4 hq, Option.bind_some, h4]
    rw [if_pos ((nI_leI (by omega) (by omega)).mpr (Nat.le_refl n))]
theorem setI2 {σ : ZS} {a k : Nat} {u v : Int32} : setI (setI σ a k u) a k v = setI σ a k v := by
  unfold setI
  refine Prod.ext ?_ rfl
  funext b j
  show up2 (up2 (sI σ) a k u) a k v b j = up2 (sI σ) a k v b j
  unfold up2
  by_cases h : b = a ∧ j = k
  · rw [if_pos h, if_pos h]
  · rw [if_neg h, if_neg h, if_neg h]
theorem ch_st {n p q : Nat} (hp : isSt n p) (hq : isCh q) : q < p ∨ p + 12 < q := by
  have h1 := st_in hp
  have h2 : q = 55 ∨ q = 58 := hq
  omega
theorem cV_ch {σ : ZS} {p q k : Nat} {v : Int32} (hp : isSt (sK σ) p) (hq : isCh q) : cV (setI σ q k v) p = cV σ p := by
  have := ch_st hp hq
  exact cV_o (S := fun _ => False) (T := fun a _ => a = q) (FR_I rfl) (fun _ _ _ z => z) (fun k z => by omega)
theorem c_lookL {lo : Nat} {σ : ZS} {p q s n nsh m : Nat} {P : Nat → Nat} {A : Nat → Int32} {w : Nat → Nat} (hp : isSt (sK σ) p) (hq : isCh q) (R : CP σ P) (W : PW P) (L : LV nsh (cV σ p) A) (V : WF lo nsh m A) (hm : m ≤ 30) (hns : nsh ≤ 6) (hs : s < nsh) (hn : n ≤ 30) (h4 : sI σ q 4 = nI n) (hw : ∀ i, i < n → sF σ (q + 1) i = nI (w i)) (hw2 : ∀ i, i < n → w i < 30) : ∀ (f x c e : Nat), x < 2 ^ 30 → pc 32 x = c → P 4 ≤ c + f → xX0_look_L93 (e + f + 1) q p (nI s) (nI (ownN A s)) (nI c) (mkH (setI σ q 0 (nI x))) = some (mkH (setI σ q 0 (nI (candL A s w n (P 4) f x)))) := by
  have hl : P 4 ≤ 4 := W.2.2.2.2.2.2.1
  have hq2 : q = 55 ∨ q = 58 := hq
  have ow := own_n V hm (show s < 6 by omega)
  intro f
  induction f with
  | zero =>
    intro x c e hx hc hf
    have hcl := pc_le 32 x
    show xX0_look_B93 (xX0_look_L93 (e + 0)) q p (nI s) (nI (ownN A s)) (nI c) (mkH (setI σ q 0 (nI x))) = _
    have r1 : sI (setI σ q 0 (nI x)) 21 3 = nI (P 4) := by rw [sI_ne (by omega)]; exact R.2.2.2.2.1
    simp only [xX0_look_B93, rR_S0 (σ := setI σ q 0 (nI x)) hp, Option.bind_some, rI_21_3, r1]
    rw [if_pos ((nI_leI (by omega) (by omega)).mpr (by omega))]
    rfl
  | succ f ih =>
    intro x c e hx hc hf
    have hcl := pc_le 32 x
    show xX0_look_B93 (xX0_look_L93 (e + (f + 1))) q p (nI s) (nI (ownN A s)) (nI c) (mkH (setI σ q 0 (nI x))) = _
    have r1 : sI (setI σ q 0 (nI x)) 21 3 = nI (P 4) := by rw [sI_ne (by omega)]; exact R.2.2.2.2.1
    have r2 : sI (setI σ q 0 (nI x)) q 0 = nI x := sI_eq
    simp only [xX0_look_B93, rR_S0 (σ := setI σ q 0 (nI x)) hp, Option.bind_some, rI_21_3, r1, candL]
    by_cases h1 : P 4 ≤ c
    · rw [if_pos ((nI_leI (by omega) (by omega)).mpr h1), if_pos (by omega)]
    · rw [if_neg (fun z => h1 ((nI_leI (by omega) (by omega)).mp z)), if_neg (by omega)]
      have r3 : sI (setI σ q 0 (nI x)) q 4 = nI n := by rw [sI_ne (by omega)]; exact h4
      have cf := c_far (σ := setI σ q 0 (nI x)) (y := ownN A s ||| x) (w := w) hp hq (by rw [cV_ch hp hq]; exact L) V hns hs hn (or_lt ow.2 hx) r3 hw hw2
      have esk : (fun t => (ownN A s ||| x).testBit t) = fun t => (ownN A s).testBit t || x.testBit t := by
        funext t
        rw [Nat.testBit_or]
      rw [esk] at cf
      simp only [ch_I0 hq, Option.bind_some, r2, ch_is hq, gu_t, nx_or, cf]
      rcases farO_in (A := A) (s := s) (w := w) (sk := fun t => (ownN A s).testBit t || x.testBit t) (n := n) with h | ⟨k, hk, h, h2⟩
      · rw [h, if_pos rfl, if_pos (by decide)]
      · have hk2 := hw2 k hk
        rw [h, if_neg (show ¬ nI (w k) = -1 from fun z => by have := nI_pos (n := w k) (by omega); rw [z] at this; exact this (by decide)), if_neg (nI_pos (by omega)), tn_n (by omega), one_shl (by omega), nx_or]
        simp only [ch_w0 hq, Option.bind_some, setI2, nI_s]
        have hb : x.testBit (w k) = false := (Bool.or_eq_false_iff.mp h2).2
        have hpc := pc_set 32 x (w k) (by omega) hb
        rw [show e + (f + 1) = e + f + 1 by omega]
        exact ih (x ||| 2 ^ w k) (c + 1) e (or_lt hx (pow_lt hk2)) (by omega) (by omega)
theorem zf_l {S : Type} (f : Nat → S → S) : ∀ m k a, zf f k (m + 1) a = f (k + m) (zf f k m a) := by
  intro m
  induction m with
  | zero => intro k a; rfl
  | succ m ih =>
    intro k a
    rw [zf, ih, show k + 1 + m = k + (m + 1) by omega]
    rfl
theorem c_look {lo : Nat} {σ : ZS} {p q s wd slot : Nat} {P : Nat → Nat} {A : Nat → Int32} (hp : isSt (sK σ) p) (hq : isCh q) (R : CP σ P) (W : PW P) (L : LV (P 0) (cV σ p) A) (V : WF lo (P 0) (P 1) A) (hs : s < P 0) (hwd : wd ≤ 9) (hsl : slot < 30) : ∃ τ, xX0_look q p (nI s) (nI slot) (nI wd) (mkH σ) = some (mkH τ) ∧ sI τ q 0 = nI (candS A s (wP (P 1) wd slot) (wN (P 1) wd) (P 4)) ∧ sI τ q 4 = nI (wN (P 1) wd) ∧ (∀ i, i < wN (P 1) wd → sF τ (q + 1) i = nI (wP (P 1) wd slot i)) ∧ FR (fun a => a = q + 1) (fun a _ => a = q) σ τ := by
  have hq2 : q = 55 ∨ q = 58 := hq
  have hps := ch_st hp hq
  have hp3 := st_in hp
  obtain ⟨τ, h1, h2, h3, h5⟩ := c_order (slot := slot) hq R W hwd hsl
  have hpt : isSt (sK τ) p := by rw [FR_K h5]; exact hp
  have hV : cV τ p = cV σ p := cV_o h5 (fun a _ _ z => by omega) (fun k z => by omega)
  have R' : CP τ P := CP_f h5 (fun k z => by omega) R
  have L' : LV (P 0) (cV τ p) A := by rw [hV]; exact L
  have hm : P 1 ≤ 30 := W.2.2.1
  have hb := wN_le (m := P 1) (wd := wd)
  have hm0 : 6 ≤ P 1 := W.2.1
  have hn0 := W.1
  have hw2 : ∀ i, i < wN (P 1) wd → wP (P 1) wd slot i < 30 := fun i _ => Nat.lt_of_lt_of_le (wP_lt (by omega)) hm
  have oc := WF_own V (show s < 6 by omega)
  have ow := own_n V hm (show s < 6 by omega)
  have oe : cV τ p (24 + s) = nI (tn (A (24 + s))) := by rw [L'.2.1 s (by omega)]; exact oc.1
  have oS : ownS (cV τ p) s (tn (A (24 + s))) = nI (ownN A s) := by
    rw [← ow.1]
    unfold ownS
    exact zf_c (tn (A (24 + s))) (fun k a hk => by rw [(L'.2.2.1 s k (by omega) (by omega) hk).1]) _ 0 0 (by omega)
  obtain ⟨e, he⟩ := zfu (wN (P 1) wd) (by omega)
  obtain ⟨e2, he2⟩ := zfu (P 4) (by have := W.2.2.2.2.2.2.1; omega)
  have c0 := cand0_lt (A := A) (s := s) (w := wP (P 1) wd slot) (n := wN (P 1) wd) hw2
  have kL := c_lookL hpt hq R' W L' V hm W.1 hs (show wN (P 1) wd ≤ 30 by omega) h2 h3 hw2 (P 4) (cand0 A s (wP (P 1) wd slot) (wN (P 1) wd)) _ e2 c0 rfl (by omega)
  have key := lp (fun e k (a : Nat) => xX0_look_L26 e q p (nI s) (nI (ownN A s)) (nI k) (mkH (setI τ q 0 (nI a)))) (fun k a => if frB A s (wP (P 1) wd slot k) then a ||| 2 ^ wP (P 1) wd slot k else a) (wN (P 1) wd) (fun k a => a = zf (fun k a => if frB A s (wP (P 1) wd slot k) then a ||| 2 ^ wP (P 1) wd slot k else a) 0 k 0) (fun _ => mkH (setI τ q 0 (nI (candS A s (wP (P 1) wd slot) (wN (P 1) wd) (P 4))))) ?_ ?_ (wN (P 1) wd) 0 0 e (by omega) rfl
  · refine ⟨setI τ q 0 (nI (candS A s (wP (P 1) wd slot) (wN (P 1) wd) (P 4))), ?_, sI_eq, ?_, h3, FR_t (FR_m h5 (fun _ z => z) (fun _ _ z => z.1)) (FR_I rfl)⟩
    · unfold xX0_look
      simp only [rR_S0 hp, Option.bind_some, ch_is hq, gu_t, h1, is_S hpt, c_own hpt (show s < 6 by omega) oc.2 oe, oS, ch_w0 hq]
      rw [he]
      exact key.1
    · rw [sI_ne (by omega)]; exact h2
  · intro e k a hk ha
    constructor
    · show xX0_look_B26 (xX0_look_L26 e) q p (nI s) (nI (ownN A s)) (nI k) (mkH (setI τ q 0 (nI a))) = _
      have r3 : sI (setI τ q 0 (nI a)) q 4 = nI (wN (P 1) wd) := by rw [sI_ne (by omega)]; exact h2
      have r2 : sI (setI τ q 0 (nI a)) q 0 = nI a := sI_eq
      have hk2 := hw2 k hk
      have r4 : sF (setI τ q 0 (nI a)) (q + 1) k = nI (wP (P 1) wd slot k) := h3 k hk
      have r5 : cV (setI τ q 0 (nI a)) p (84 + 30 * s + wP (P 1) wd slot k) = A (84 + 30 * s + wP (P 1) wd slot k) := by rw [cV_ch hpt hq]; exact L'.2.2.2 _ (by omega) (by omega)
      simp only [xX0_look_B26, ch_I4 hq, Option.bind_some, r3]
      rw [if_neg (fun z => by have := (nI_leI (by omega) (by omega)).mp z; omega)]
      simp only [ch_R3 hq, ch_ra hq (show k < 30 by omega), r4, Option.bind_some, is_S (σ := setI τ q 0 (nI a)) hpt, gu_t, c_holder (σ := setI τ q 0 (nI a)) hpt (show s < 6 by omega) hk2, r5, ch_I0 hq, r2, one_shl (show wP (P 1) wd slot k < 32 by omega), nx_or, ch_w0 hq, setI2, nI_s]
      unfold frB
      have hbb := bitB_n (show ownN A s < 2 ^ 31 by have := ow.2; omega) (show wP (P 1) wd slot k < 32 by omega)
      unfold bitB at hbb
      rcases V.2.2.1 s (wP (P 1) wd slot k) (by omega) hk2 with h | ⟨o, v, h6, -, -, -, h7, -⟩
      · rw [h.1, if_pos rfl, show decide ((-1 : Int32) < 0) = true from rfl, Bool.true_and]
        cases hyb : (ownN A s).testBit (wP (P 1) wd slot k)
        · rw [hyb] at hbb
          rw [if_pos (and1n.mpr (of_decide_eq_false hbb))]
          simp
        · rw [hyb] at hbb
          rw [if_neg (fun z => and1n.mp z (of_decide_eq_true hbb))]
          simp
      · rw [h7, if_neg (show ¬ nI o = -1 from fun z => by have := nI_pos (n := o) (by omega); rw [z] at this; exact this (by decide))]
        rw [show decide (nI o < 0) = false from decide_eq_false (nI_pos (by omega)), Bool.false_and]
        simp
    · rw [ha, zf_l, Nat.zero_add]
  · intro e a ha
    show xX0_look_B26 (xX0_look_L26 e) q p (nI s) (nI (ownN A s)) (nI (wN (P 1) wd)) (mkH (setI τ q 0 (nI a))) = _
    have r3 : sI (setI τ q 0 (nI a)) q 4 = nI (wN (P 1) wd) := by rw [sI_ne (by omega)]; exact h2
    have r2 : sI (setI τ q 0 (nI a)) q 0 = nI a := sI_eq
    simp only [xX0_look_B26, xX0_look_B84, ch_I4 hq, Option.bind_some, r3]
    rw [if_pos ((nI_leI (by omega) (by omega)).mpr (Nat.le_refl _))]
    have ha2 : a = cand0 A s (wP (P 1) wd slot) (wN (P 1) wd) := ha
    simp only [ch_I0 hq, Option.bind_some, r2, c_bitCount (show a < 2 ^ 32 by omega)]
    rw [he2, ha2]
    exact kL
