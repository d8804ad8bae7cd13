/-! the class's advance: a token read -/
def TC (σ : ZS) (u : Nat → Nat) (n : Nat) : Prop := sTx σ = .ref 9 ∧ sI σ 10 4 = nI n ∧ n ≤ 1600 ∧ ∀ i, i < n → u i < 256 ∧ sF σ 9 i = sgn (u i)
theorem TC_f {S : Nat → Prop} {T : Nat → Nat → Prop} {σ τ : ZS} {u : Nat → Nat} {n : Nat} (h : FR S T σ τ) (hS : ¬ S 9) (hT : ¬ T 10 4) (t : TC σ u n) : TC τ u n := by
  obtain ⟨t1, t2, t3, t4⟩ := t
  refine ⟨?_, by rw [h.2.1 10 4 hT]; exact t2, t3, fun i hi => by rw [h.1 9 hS]; exact t4 i hi⟩
  show τ.2.2.2.2.2.1 = _
  rw [h.2.2]
  exact t1
theorem gu_i {u : Nat → Nat} {n i : Nat} (h : i < n) : gu0 u n i = u i := if_pos h
def lA (v : Nat → Nat) (n p : Nat) : Nat := run (fun k => isB (v k)) (n - p) p
def lE (v : Nat → Nat) (n a : Nat) : Nat := if n ≤ a then a else if isL (v a) then run (fun k => isL (v k)) (n - a) a else if isD (v a) then run (fun k => isD (v k)) (n - a) a else a + 1
def lK (v : Nat → Nat) (n a e : Nat) : Nat := if n ≤ a then 0 else if isL (v a) then (if e - a ≤ 8 then 1 else 4) else if isD (v a) then (if e - a ≤ 4 ∧ isL (v e) = false then 2 else 4) else if isG (v a) then 3 else 4
def nmV (v : Nat → Nat) (a m : Nat) : Nat := zf (fun k x => x * 10 + (v (a + k) - 48)) 0 m 0
def lV (v : Nat → Nat) (n a e : Nat) : Nat := if isL (v a) then wIx v a (e - a) else if isD (v a) then nmV v a (e - a) else v a
/-- a token: where, behind it, its kind, its value -/
abbrev ZT : Type := Nat × Nat × Nat × Nat
def lex (v : Nat → Nat) (n p : Nat) : ZT := (lA v n p, lE v n (lA v n p), lK v n (lA v n p) (lE v n (lA v n p)), lV v n (lA v n p) (lE v n (lA v n p)))
def CT (σ : ZS) (t : ZT) : Prop := sI σ 10 5 = nI t.1 ∧ sI σ 10 6 = nI t.2.1 ∧ sI σ 10 7 = nI t.2.2.1 ∧ (t.2.2.1 = 1 ∨ t.2.2.1 = 2 ∨ t.2.2.1 = 3 → sI σ 10 8 = nI t.2.2.2)
theorem lA_le {v : Nat → Nat} {n p : Nat} (hp : p ≤ n) : p ≤ lA v n p ∧ lA v n p ≤ n := by
  have := run_ge (t := fun k => isB (v k)) (n - p) p
  unfold lA
  omega
theorem lE_le {v : Nat → Nat} {n a : Nat} (ha : a ≤ n) : a ≤ lE v n a ∧ lE v n a ≤ n := by
  have h1 := run_ge (t := fun k => isL (v k)) (n - a) a
  have h2 := run_ge (t := fun k => isD (v k)) (n - a) a
  unfold lE
  split
  · omega
  · split
    · omega
    · split
      · omega
      · omega
theorem sg_neg : ∀ u, u < 256 → 128 ≤ u → sgn u < 0 := by decide +kernel
theorem sgn_eq {u z : Nat} (hu : u < 256) (hz : z < 128) : (sgn u = nI z) ↔ u = z := by
  rcases Nat.lt_or_ge u 128 with h | h
  · rw [sg_0 u hu h, nI_eq (by omega) (by omega)]
  · constructor
    · intro e
      have := sg_neg u hu h
      rw [e] at this
      exact absurd this (nI_pos (by omega))
    · intro e; omega
def dT (a k : Nat) : Prop := a = 10 ∧ 5 ≤ k ∧ k ≤ 8
theorem c_skip {u : Nat → Nat} {n : Nat} : ∀ (m q : Nat) (τ : ZS) (e : Nat), q + m = n → TC τ u n → sI τ 10 5 = nI q → ∃ τ', xX3_advance_L8 (e + m + 1) 10 (mkH τ) = xX3_advance_B47 10 (mkH τ') ∧ sI τ' 10 5 = nI (run (fun k => isB (gu0 u n k)) m q) ∧ FR (fun _ => False) (fun a k => a = 10 ∧ k = 5) τ τ' := by
  intro m
  induction m with
  | zero =>
    intro q τ e hq T h5
    have hqn : q = n := by omega
    refine ⟨τ, ?_, h5, FR_r⟩
    show xX3_advance_B8 (xX3_advance_L8 (e + 0)) 10 (mkH τ) = _
    unfold xX3_advance_B8
    rw [rI_10_5, Option.bind_some, rI_10_4, Option.bind_some, h5, T.2.1, if_pos (nI_le (by omega) (by have := T.2.2.1; omega))]
  | succ m ih =>
    intro q τ e hq T h5
    have hn := T.2.2.1
    obtain ⟨u1, u2⟩ := T.2.2.2 q (by omega)
    have hB : xX3_advance_L8 (e + (m + 1) + 1) 10 (mkH τ) = if isB (u q) = true then xX3_advance_L8 (e + m + 1) 10 (mkH (setI τ 10 5 (nI (q + 1)))) else xX3_advance_B47 10 (mkH τ) := by
      show xX3_advance_B8 (xX3_advance_L8 (e + (m + 1))) 10 (mkH τ) = _
      rw [show e + (m + 1) = e + m + 1 by omega]
      generalize xX3_advance_L8 (e + m + 1) = nl
      unfold xX3_advance_B8
      rw [rI_10_5, Option.bind_some, rI_10_4, Option.bind_some, h5, T.2.1, if_neg (fun z => by have := (nI_leI (by omega) (by omega)).mp z; omega), rTx τ T.1, Option.bind_some, Option.bind_some, ra_9 τ (show q < 1600 by omega), Option.bind_some, u2, c_isBl u1, Option.bind_some]
      by_cases hb : isB (u q) = true
      · rw [if_pos hb, if_pos hb, if_neg (show ¬ (1 : Int32) = 0 by decide), rI_10_5, Option.bind_some, h5, nI_s, wI_10_5, Option.bind_some]
      · rw [if_neg hb, if_neg hb, if_pos rfl]
    have hr : run (fun k => isB (gu0 u n k)) (m + 1) q = if isB (u q) = true then run (fun k => isB (gu0 u n k)) m (q + 1) else q := by
      show (if isB (gu0 u n q) = true then _ else _) = _
      rw [gu_i (by omega)]
    rw [hB, hr]
    by_cases hb : isB (u q) = true
    · rw [if_pos hb, if_pos hb]
      have hF : FR (fun _ => False) (fun a k => a = 10 ∧ k = 5) τ (setI τ 10 5 (nI (q + 1))) := FR_I ⟨rfl, rfl⟩
      obtain ⟨τ', t1, t2, t3⟩ := ih (q + 1) (setI τ 10 5 (nI (q + 1))) e (by omega) (TC_f hF (fun z => z) (by omega) T) sI_eq
      exact ⟨τ', t1, t2, FR_t hF t3⟩
    · rw [if_neg hb, if_neg hb]
      exact ⟨τ, rfl, h5, FR_r⟩
theorem c_lets {u : Nat → Nat} {n : Nat} : ∀ (m q : Nat) (τ : ZS) (e : Nat), q + m = n → TC τ u n → sI τ 10 6 = nI q → ∃ τ', xX3_scanWord_L0 (e + m + 1) 10 (mkH τ) = xX3_scanWord_B39 10 (mkH τ') ∧ sI τ' 10 6 = nI (run (fun k => isL (gu0 u n k)) m q) ∧ FR (fun _ => False) (fun a k => a = 10 ∧ k = 6) τ τ' := by
  intro m
  induction m with
  | zero =>
    intro q τ e hq T h5
    have hqn : q = n := by omega
    refine ⟨τ, ?_, h5, FR_r⟩
    show xX3_scanWord_B0 (xX3_scanWord_L0 (e + 0)) 10 (mkH τ) = _
    unfold xX3_scanWord_B0
    rw [rI_10_6, Option.bind_some, rI_10_4, Option.bind_some, h5, T.2.1, if_pos (nI_le (by omega) (by have := T.2.2.1; omega))]
  | succ m ih =>
    intro q τ e hq T h5
    have hn := T.2.2.1
    obtain ⟨u1, u2⟩ := T.2.2.2 q (by omega)
    have hB : xX3_scanWord_L0 (e + (m + 1) + 1) 10 (mkH τ) = if isL (u q) = true then xX3_scanWord_L0 (e + m + 1) 10 (mkH (setI τ 10 6 (nI (q + 1)))) else xX3_scanWord_B39 10 (mkH τ) := by
      show xX3_scanWord_B0 (xX3_scanWord_L0 (e + (m + 1))) 10 (mkH τ) = _
      rw [show e + (m + 1) = e + m + 1 by omega]
      generalize xX3_scanWord_L0 (e + m + 1) = nl
      unfold xX3_scanWord_B0
      rw [rI_10_6, Option.bind_some, rI_10_4, Option.bind_some, h5, T.2.1, if_neg (fun z => by have := (nI_leI (by omega) (by omega)).mp z; omega), rTx τ T.1, Option.bind_some, Option.bind_some, ra_9 τ (show q < 1600 by omega), Option.bind_some, u2, c_isL u1, Option.bind_some]
      by_cases hb : isL (u q) = true
      · rw [if_pos hb, if_pos hb, if_neg (show ¬ (1 : Int32) = 0 by decide), rI_10_6, Option.bind_some, h5, nI_s, wI_10_6, Option.bind_some]
      · rw [if_neg hb, if_neg hb, if_pos rfl]
    have hr : run (fun k => isL (gu0 u n k)) (m + 1) q = if isL (u q) = true then run (fun k => isL (gu0 u n k)) m (q + 1) else q := by
      show (if isL (gu0 u n q) = true then _ else _) = _
      rw [gu_i (by omega)]
    rw [hB, hr]
    by_cases hb : isL (u q) = true
    · rw [if_pos hb, if_pos hb]
      have hF : FR (fun _ => False) (fun a k => a = 10 ∧ k = 6) τ (setI τ 10 6 (nI (q + 1))) := FR_I ⟨rfl, rfl⟩
      obtain ⟨τ', t1, t2, t3⟩ := ih (q + 1) (setI τ 10 6 (nI (q + 1))) e (by omega) (TC_f hF (fun z => z) (by omega) T) sI_eq
      exact ⟨τ', t1, t2, FR_t hF t3⟩
    · rw [if_neg hb, if_neg hb]
      exact ⟨τ, rfl, h5, FR_r⟩
theorem c_digs {u : Nat → Nat} {n : Nat} : ∀ (m q : Nat) (τ : ZS) (e : Nat), q + m = n → TC τ u n → sI τ 10 6 = nI q → ∃ τ', xX3_scanNumeral_L0 (e + m + 1) 10 (mkH τ) = xX3_scanNumeral_B39 10 (mkH τ') ∧ sI τ' 10 6 = nI (run (fun k => isD (gu0 u n k)) m q) ∧ FR (fun _ => False) (fun a k => a = 10 ∧ k = 6) τ τ' := by
  intro m
  induction m with
  | zero =>
    intro q τ e hq T h5
    have hqn : q = n := by omega
    refine ⟨τ, ?_, h5, FR_r⟩
    show xX3_scanNumeral_B0 (xX3_scanNumeral_L0 (e + 0)) 10 (mkH τ) = _
    unfold xX3_scanNumeral_B0
    rw [rI_10_6, Option.bind_some, rI_10_4, Option.bind_some, h5, T.2.1, if_pos (nI_le (by omega) (by have := T.2.2.1; omega))]
  | succ m ih =>
    intro q τ e hq T h5
    have hn := T.2.2.1
    obtain ⟨u1, u2⟩ := T.2.2.2 q (by omega)
    have hB : xX3_scanNumeral_L0 (e + (m + 1) + 1) 10 (mkH τ) = if isD (u q) = true then xX3_scanNumeral_L0 (e + m + 1) 10 (mkH (setI τ 10 6 (nI (q + 1)))) else xX3_scanNumeral_B39 10 (mkH τ) := by
      show xX3_scanNumeral_B0 (xX3_scanNumeral_L0 (e + (m + 1))) 10 (mkH τ) = _
      rw [show e + (m + 1) = e + m + 1 by omega]
      generalize xX3_scanNumeral_L0 (e + m + 1) = nl
      unfold xX3_scanNumeral_B0
      rw [rI_10_6, Option.bind_some, rI_10_4, Option.bind_some, h5, T.2.1, if_neg (fun z => by have := (nI_leI (by omega) (by omega)).mp z; omega), rTx τ T.1, Option.bind_some, Option.bind_some, ra_9 τ (show q < 1600 by omega), Option.bind_some, u2, c_isD u1, Option.bind_some]
      by_cases hb : isD (u q) = true
      · rw [if_pos hb, if_pos hb, if_neg (show ¬ (1 : Int32) = 0 by decide), rI_10_6, Option.bind_some, h5, nI_s, wI_10_6, Option.bind_some]
      · rw [if_neg hb, if_neg hb, if_pos rfl]
    have hr : run (fun k => isD (gu0 u n k)) (m + 1) q = if isD (u q) = true then run (fun k => isD (gu0 u n k)) m (q + 1) else q := by
      show (if isD (gu0 u n q) = true then _ else _) = _
      rw [gu_i (by omega)]
    rw [hB, hr]
    by_cases hb : isD (u q) = true
    · rw [if_pos hb, if_pos hb]
      have hF : FR (fun _ => False) (fun a k => a = 10 ∧ k = 6) τ (setI τ 10 6 (nI (q + 1))) := FR_I ⟨rfl, rfl⟩
      obtain ⟨τ', t1, t2, t3⟩ := ih (q + 1) (setI τ 10 6 (nI (q + 1))) e (by omega) (TC_f hF (fun z => z) (by omega) T) sI_eq
      exact ⟨τ', t1, t2, FR_t hF t3⟩
    · rw [if_neg hb, if_neg hb]
      exact ⟨τ, rfl, h5, FR_r⟩
/-- the first k letters of word j stand at a -/
def pmB (v : Nat → Nat) (a len j k : Nat) : Bool := decide (∀ t, t < k → t < len ∧ v (a + t) = zb (wO j + t))
def mtI (v : Nat → Nat) (a len j k : Nat) : Int32 := if pmB v a len j k then nI k else -1
theorem c_word {τ : ZS} {u : Nat → Nat} {n a len j : Nat} (T : TC τ u n) (h5 : sI τ 10 5 = nI a) (hal : a + len ≤ n) (hj : j < 19) (e : Nat) : xX3_scanWord_L73 (e + (wL j + 1)) 10 (nI len) 0 (nI (wO j)) (mkH (setI τ 10 8 (nI j))) = if eqW (gu0 u n) a len j then some (mkH (setI τ 10 8 (nI j))) else xX3_scanWord_L73 e 10 (nI len) 0 (nI (wO j + wL j + 1)) (mkH (setI τ 10 8 (nI (j + 1)))) := by
  obtain ⟨w1, w2, w3, -, w5, -⟩ := wO_s j hj
  have hn := T.2.2.1
  have T2 : TC (setI τ 10 8 (nI j)) u n := TC_f (FR_I (S := fun _ => False) (T := fun a k => a = 10 ∧ k = 8) ⟨rfl, rfl⟩) (fun z => z) (by omega) T
  have h5' : sI (setI τ 10 8 (nI j)) 10 5 = nI a := by rw [sI_ne (by omega)]; exact h5
  have key : ∀ m k, k + m = wL j → ∀ e, xX3_scanWord_L73 (e + m) 10 (nI len) (mtI (gu0 u n) a len j k) (nI (wO j + k)) (mkH (setI τ 10 8 (nI j))) = xX3_scanWord_L73 e 10 (nI len) (mtI (gu0 u n) a len j (wL j)) (nI (wO j + wL j)) (mkH (setI τ 10 8 (nI j))) := by
    intro m
    induction m with
    | zero =>
      intro k hk e
      rw [show k = wL j by omega]
      rfl
    | succ m ih =>
      intro k hk e
      obtain ⟨x1, x2⟩ := w1 k (by omega)
      have hz := (zb_i (wO j + k) x2).2
      have hstep : xX3_scanWord_L73 (e + (m + 1)) 10 (nI len) (mtI (gu0 u n) a len j k) (nI (wO j + k)) (mkH (setI τ 10 8 (nI j))) = xX3_scanWord_L73 (e + m) 10 (nI len) (mtI (gu0 u n) a len j (k + 1)) (nI (wO j + (k + 1))) (mkH (setI τ 10 8 (nI j))) := by
        show xX3_scanWord_B73 (xX3_scanWord_L73 (e + m)) 10 (nI len) (mtI (gu0 u n) a len j k) (nI (wO j + k)) (mkH (setI τ 10 8 (nI j))) = _
        generalize xX3_scanWord_L73 (e + m) = nl
        unfold xX3_scanWord_B73
        rw [s3_is, gu_t, c_len, Option.bind_some, if_neg (fun z => by have := (nI_leI (by omega) (by omega)).mp z; omega), s3_is, gu_t, c_chr x2, Option.bind_some, if_neg (show ¬ nI (zb (wO j + k)) = (32 : Int32) from fun z => by rw [nl_32] at z; exact x1 ((nI_eq (by omega) (by omega)).mp z))]
        have hno : pmB (gu0 u n) a len j (k + 1) = false → xX3_scanWord_B147 nl 10 (nI len) (mtI (gu0 u n) a len j k) (nI (wO j + k)) (mkH (setI τ 10 8 (nI j))) = nl 10 (nI len) (mtI (gu0 u n) a len j (k + 1)) (nI (wO j + (k + 1))) (mkH (setI τ 10 8 (nI j))) := by
          intro hf
          unfold xX3_scanWord_B147 xX3_scanWord_B148
          rw [if_pos rfl, nI_s]
          unfold mtI
          rw [hf]
          rfl
        by_cases hpm : pmB (gu0 u n) a len j k = true
        · have hm : mtI (gu0 u n) a len j k = nI k := by unfold mtI; rw [if_pos hpm]
          have hall := of_decide_eq_true hpm
          rw [hm] at hno ⊢
          rw [if_neg (nI_pos (by omega))]
          by_cases hlk : len ≤ k
          · rw [if_pos (nI_le hlk (by omega))]
            exact hno (decide_eq_false (fun z => by have := (z k (by omega)).1; omega))
          · rw [if_neg (fun z => hlk ((nI_leI (by omega) (by omega)).mp z))]
            obtain ⟨u1, u2⟩ := T2.2.2.2 (a + k) (by omega)
            show ((z_gR (mkH (setI τ 10 8 (nI j))) 10 3 3).bind fun x128 => ((z_gI (mkH (setI τ 10 8 (nI j))) 10 3 5).bind fun x132 => ((z_aB (mkH (setI τ 10 8 (nI j))) x128 (x132 + nI k)).bind fun x137 => (if x137 = nI (zb (wO j + k)) then xX3_scanWord_B148 nl 10 (nI len) (nI k) (nI (wO j + k)) (1 : Int32) (mkH (setI τ 10 8 (nI j))) else xX3_scanWord_B147 nl 10 (nI len) (nI k) (nI (wO j + k)) (mkH (setI τ 10 8 (nI j))))))) = _
            rw [rTx _ T2.1, Option.bind_some, rI_10_5, Option.bind_some, h5', nI_add, ra_9 _ (show a + k < 1600 by omega), Option.bind_some, u2]
            by_cases hc : u (a + k) = zb (wO j + k)
            · rw [if_pos ((sgn_eq u1 hz).mpr hc)]
              unfold xX3_scanWord_B148
              rw [if_neg (show ¬ (1 : Int32) = 0 by decide), nI_s, nI_s]
              have : pmB (gu0 u n) a len j (k + 1) = true := decide_eq_true (fun t ht => by
                by_cases htk : t = k
                · rw [htk, gu_i (by omega)]; exact ⟨by omega, hc⟩
                · exact hall t (by omega))
              unfold mtI
              rw [this]
              rfl
            · rw [if_neg (fun z => hc ((sgn_eq u1 hz).mp z))]
              exact hno (decide_eq_false (fun z => by
                have := (z k (by omega)).2
                rw [gu_i (by omega)] at this
                exact hc this))
        · have hm : mtI (gu0 u n) a len j k = -1 := by unfold mtI; rw [if_neg hpm]
          rw [hm] at hno ⊢
          rw [if_pos (show (-1 : Int32) < 0 by decide)]
          exact hno (decide_eq_false (fun z => hpm (decide_eq_true (fun t ht => z t (by omega)))))
      rw [hstep]
      exact ih (k + 1) (by omega) e
  have h0 : mtI (gu0 u n) a len j 0 = 0 := by
    unfold mtI
    rw [if_pos (show pmB (gu0 u n) a len j 0 = true from decide_eq_true (fun t ht => absurd ht (Nat.not_lt_zero _)))]
    rfl
  have k1 := key (wL j) 0 (by omega) (e + 1)
  rw [h0, show wO j + 0 = wO j from rfl] at k1
  rw [show e + (wL j + 1) = e + 1 + wL j by omega, k1]
  show xX3_scanWord_B73 (xX3_scanWord_L73 e) 10 (nI len) (mtI (gu0 u n) a len j (wL j)) (nI (wO j + wL j)) (mkH (setI τ 10 8 (nI j))) = _
  generalize xX3_scanWord_L73 e = nl
  unfold xX3_scanWord_B73
  rw [s3_is, gu_t, c_len, Option.bind_some, if_neg (fun z => by have := (nI_leI (by omega) (by omega)).mp z; omega), s3_is, gu_t, c_chr w3, Option.bind_some, w2, if_pos (show nI 32 = (32 : Int32) from rfl)]
  have hiff : (mtI (gu0 u n) a len j (wL j) = nI len) ↔ eqW (gu0 u n) a len j = true := by
    unfold mtI
    by_cases hpm : pmB (gu0 u n) a len j (wL j) = true
    · have hall := of_decide_eq_true hpm
      rw [if_pos hpm, nI_eq (by omega) (by omega)]
      constructor
      · intro z
        exact decide_eq_true ⟨z.symm, fun k hk => (hall k hk).2⟩
      · intro z
        exact (of_decide_eq_true z).1.symm
    · rw [if_neg hpm]
      constructor
      · intro z
        exact absurd z.symm (nI_m1 (by omega))
      · intro z
        have := of_decide_eq_true z
        exact absurd (decide_eq_true (fun t ht => ⟨by omega, this.2 t ht⟩)) hpm
  by_cases hq : eqW (gu0 u n) a len j = true
  · rw [if_pos (hiff.mpr hq), if_pos hq]
  · rw [if_neg (fun z => hq (hiff.mp z)), if_neg hq]
    show ((z_gI (mkH (setI τ 10 8 (nI j))) 10 3 8).bind fun x105 => ((z_sF (mkH (setI τ 10 8 (nI j))) 10 3 8 (.int (x105 + (1 : Int32)))).bind fun h110 => nl 10 (nI len) (0 : Int32) (nI (wO j + wL j) + 1) h110)) = _
    rw [rI_10_8, Option.bind_some, sI_eq, nI_s, wI_10_8, Option.bind_some, setI2, nI_s]
theorem c_wix {τ : ZS} {u : Nat → Nat} {n a len : Nat} (T : TC τ u n) (h5 : sI τ 10 5 = nI a) (hal : a + len ≤ n) : ∀ m j e, j + m = 19 → xX3_scanWord_L73 (e + ((if j = 19 then 0 else 101 - wO j) + 1)) 10 (nI len) 0 (nI (if j = 19 then 101 else wO j)) (mkH (setI τ 10 8 (nI j))) = some (mkH (setI τ 10 8 (nI (run (fun j => !eqW (gu0 u n) a len j) m j)))) := by
  intro m
  induction m with
  | zero =>
    intro j e hj
    rw [if_pos (show j = 19 by omega), if_pos (show j = 19 by omega)]
    show xX3_scanWord_B73 (xX3_scanWord_L73 (e + 0)) 10 (nI len) 0 (nI 101) (mkH (setI τ 10 8 (nI j))) = _
    unfold xX3_scanWord_B73
    rw [s3_is, gu_t, c_len, Option.bind_some, if_pos (Int32.le_refl _)]
    rfl
  | succ m ih =>
    intro j e hj
    have j19 : j < 19 := by omega
    obtain ⟨-, -, w3, w4, -, -⟩ := wO_s j j19
    rw [if_neg (show ¬ j = 19 by omega), if_neg (show ¬ j = 19 by omega)]
    have hih := ih (j + 1) e (by omega)
    have e1 : (if j + 1 = 19 then 101 else wO (j + 1)) = wO j + wL j + 1 := by
      by_cases h : j = 18
      · subst h; decide
      · rw [if_neg (by omega), w4, if_neg h]
    have e2 : e + (101 - wO j + 1) = (e + ((if j + 1 = 19 then 0 else 101 - wO (j + 1)) + 1)) + (wL j + 1) := by
      by_cases h : j = 18
      · subst h
        rw [if_pos rfl, show wO 18 = 95 from rfl, show wL 18 = 5 from rfl]
      · rw [if_neg (by omega)]
        have : wO (j + 1) = wO j + wL j + 1 := by rw [w4, if_neg h]
        omega
    rw [e2, c_word T h5 hal j19]
    have hr : run (fun j => !eqW (gu0 u n) a len j) (m + 1) j = if eqW (gu0 u n) a len j = true then j else run (fun j => !eqW (gu0 u n) a len j) m (j + 1) := by
      show (if (!eqW (gu0 u n) a len j) = true then _ else _) = _
      cases eqW (gu0 u n) a len j <;> rfl
    rw [hr]
    by_cases hq : eqW (gu0 u n) a len j = true
    · rw [if_pos hq, if_pos hq]
    · rw [if_neg hq, if_neg hq, ← e1]
      exact hih
theorem c_scanW {τ : ZS} {u : Nat → Nat} {n a : Nat} (T : TC τ u n) (ha : a < n) (h5 : sI τ 10 5 = nI a) (h6 : sI τ 10 6 = nI a) (hl : isL (gu0 u n a) = true) : ∃ υ, xX3_scanWord 10 (mkH τ) = some (mkH υ) ∧ CT υ (a, lE (gu0 u n) n a, lK (gu0 u n) n a (lE (gu0 u n) n a), lV (gu0 u n) n a (lE (gu0 u n) n a)) ∧ FR (fun _ => False) dT τ υ := by
  have hn := T.2.2.1
  obtain ⟨e, he⟩ := zfu (n - a) (by omega)
  obtain ⟨τ1, t1, t2, t3⟩ := c_lets (u := u) (n := n) (n - a) a τ e (by omega) T h6
  have hE : lE (gu0 u n) n a = run (fun k => isL (gu0 u n k)) (n - a) a := by
    unfold lE
    rw [if_neg (by omega), if_pos hl]
  rw [← hE] at t2
  have hle := lE_le (v := gu0 u n) (show a ≤ n by omega)
  have T1 : TC τ1 u n := TC_f t3 (fun z => z) (by omega) T
  have g5 : sI τ1 10 5 = nI a := by rw [t3.2.1 10 5 (by omega)]; exact h5
  have hV : lV (gu0 u n) n a (lE (gu0 u n) n a) = wIx (gu0 u n) a (lE (gu0 u n) n a - a) := by
    unfold lV
    rw [if_pos hl]
  have hK : lK (gu0 u n) n a (lE (gu0 u n) n a) = if lE (gu0 u n) n a - a ≤ 8 then 1 else 4 := by
    unfold lK
    rw [if_neg (by omega), if_pos hl]
  generalize lE (gu0 u n) n a = ee at *
  have hfin : ∀ kd : Nat, ∃ υ, xX3_scanWord_L73 zFU 10 (nI (ee - a)) 0 0 (mkH (setI (setI τ1 10 7 (nI kd)) 10 8 0)) = some (mkH υ) ∧ sI υ 10 5 = nI a ∧ sI υ 10 6 = nI ee ∧ sI υ 10 7 = nI kd ∧ sI υ 10 8 = nI (wIx (gu0 u n) a (ee - a)) ∧ FR (fun _ => False) dT τ υ := by
    intro kd
    have hF2 : FR (fun _ => False) dT τ1 (setI τ1 10 7 (nI kd)) := FR_I ⟨rfl, by omega, by omega⟩
    obtain ⟨f, hf⟩ := zfu 101 (by omega)
    have hw := c_wix (τ := setI τ1 10 7 (nI kd)) (u := u) (n := n) (a := a) (len := ee - a) (TC_f hF2 (fun z => z) (by unfold dT; omega) T1) (by rw [sI_ne (by omega)]; exact g5) (by omega) 19 0 f (by omega)
    rw [if_neg (show ¬ 0 = 19 by omega), if_neg (show ¬ 0 = 19 by omega), show wO 0 = 0 from rfl, show f + (101 - 0 + 1) = f + 101 + 1 by omega, ← hf, nI_0] at hw
    refine ⟨_, hw, ?_, ?_, ?_, sI_eq, FR_t (FR_m t3 (fun _ z => z) (fun a k z => by unfold dT; omega)) (FR_t hF2 (FR_I ⟨rfl, by omega, by omega⟩))⟩
    · rw [sI_ne (by omega), sI_ne (by omega)]; exact g5
    · rw [sI_ne (by omega), sI_ne (by omega)]; exact t2
    · rw [sI_ne (by omega), sI_eq]
  have hpre : xX3_scanWord 10 (mkH τ) = xX3_scanWord_L73 zFU 10 (nI (ee - a)) 0 0 (mkH (setI (setI τ1 10 7 (nI (if ee - a ≤ 8 then 1 else 4))) 10 8 0)) := by
    have hq : xX3_scanWord_L0 zFU 10 (mkH τ) = xX3_scanWord_B39 10 (mkH τ1) := by rw [he]; exact t1
    unfold xX3_scanWord
    rw [hq]
    unfold xX3_scanWord_B39
    generalize xX3_scanWord_L73 zFU = nl
    rw [rI_10_6, Option.bind_some, t2, rI_10_5, Option.bind_some, g5, pk_sub (by omega)]
    by_cases h8 : ee - a ≤ 8
    · rw [if_pos (show nI (ee - a) ≤ (8 : Int32) from by rw [nl_8]; exact nI_le h8 (by omega)), if_pos h8, nl_1, wI_10_7, Option.bind_some, wI_10_8, Option.bind_some]
    · rw [if_neg (show ¬ nI (ee - a) ≤ (8 : Int32) from fun z => by rw [nl_8] at z; exact h8 ((nI_leI (by omega) (by omega)).mp z)), if_neg h8, nl_4, wI_10_7, Option.bind_some, wI_10_8, Option.bind_some]
  obtain ⟨υ, v1, v2, v3, v4, v5, v6⟩ := hfin (if ee - a ≤ 8 then 1 else 4)
  refine ⟨υ, hpre.trans v1, ⟨v2, v3, ?_, fun _ => ?_⟩, v6⟩
  · rw [v4, hK]
  · rw [v5, hV]
theorem nm_s {v : Nat → Nat} {a m : Nat} : nmV v a (m + 1) = nmV v a m * 10 + (v (a + m) - 48) := by
  unfold nmV
  rw [zf_l, Nat.zero_add]
theorem c_scanN {τ : ZS} {u : Nat → Nat} {n a : Nat} (T : TC τ u n) (ha : a < n) (h5 : sI τ 10 5 = nI a) (h6 : sI τ 10 6 = nI a) (h8 : sI τ 10 8 = 0) (hl : isL (gu0 u n a) = false) (hd : isD (gu0 u n a) = true) : ∃ υ, xX3_scanNumeral 10 (mkH τ) = some (mkH υ) ∧ CT υ (a, lE (gu0 u n) n a, lK (gu0 u n) n a (lE (gu0 u n) n a), lV (gu0 u n) n a (lE (gu0 u n) n a)) ∧ FR (fun _ => False) dT τ υ := by
  have hn := T.2.2.1
  obtain ⟨e, he⟩ := zfu (n - a) (by omega)
  obtain ⟨τ1, t1, t2, t3⟩ := c_digs (u := u) (n := n) (n - a) a τ e (by omega) T h6
  have hE : lE (gu0 u n) n a = run (fun k => isD (gu0 u n k)) (n - a) a := by
    unfold lE
    rw [if_neg (by omega), if_neg (by rw [hl]; decide), if_pos hd]
  have hdig : ∀ j, a ≤ j → j < lE (gu0 u n) n a → isD (gu0 u n j) = true := fun j h1 h2 => run_in (t := fun k => isD (gu0 u n k)) (n - a) a j h1 (by rw [← hE]; exact h2)
  rw [← hE] at t2
  have hle := lE_le (v := gu0 u n) (show a ≤ n by omega)
  have T1 : TC τ1 u n := TC_f t3 (fun z => z) (by omega) T
  have g5 : sI τ1 10 5 = nI a := by rw [t3.2.1 10 5 (by omega)]; exact h5
  have g8 : sI τ1 10 8 = 0 := by rw [t3.2.1 10 8 (by omega)]; exact h8
  have hV : lV (gu0 u n) n a (lE (gu0 u n) n a) = nmV (gu0 u n) a (lE (gu0 u n) n a - a) := by
    unfold lV
    rw [if_neg (by rw [hl]; decide), if_pos hd]
  have hK : lK (gu0 u n) n a (lE (gu0 u n) n a) = if lE (gu0 u n) n a - a ≤ 4 ∧ isL (gu0 u n (lE (gu0 u n) n a)) = false then 2 else 4 := by
    unfold lK
    rw [if_neg (by omega), if_neg (by rw [hl]; decide), if_pos hd]
  generalize lE (gu0 u n) n a = ee at *
  have hB94 : ∀ kd : Nat, kd = 2 ∨ kd = 4 → ∃ υ, xX3_scanNumeral_B94 10 (nI kd) 10 (mkH τ1) = some (mkH υ) ∧ sI υ 10 5 = nI a ∧ sI υ 10 6 = nI ee ∧ sI υ 10 7 = nI kd ∧ (kd = 2 → sI υ 10 8 = nI (nmV (gu0 u n) a (ee - a))) ∧ FR (fun _ => False) dT τ υ := by
    intro kd hkd
    have hF2 : FR (fun _ => False) dT τ1 (setI τ1 10 7 (nI kd)) := FR_I ⟨rfl, by omega, by omega⟩
    have hF1 : FR (fun _ => False) dT τ τ1 := FR_m t3 (fun _ z => z) (fun a k z => by unfold dT; omega)
    have q5 : sI (setI τ1 10 7 (nI kd)) 10 5 = nI a := by rw [sI_ne (by omega)]; exact g5
    have q6 : sI (setI τ1 10 7 (nI kd)) 10 6 = nI ee := by rw [sI_ne (by omega)]; exact t2
    have q8 : sI (setI τ1 10 7 (nI kd)) 10 8 = 0 := by rw [sI_ne (by omega)]; exact g8
    rcases hkd with rfl | rfl
    · have T2 : TC (setI τ1 10 7 (nI 2)) u n := TC_f hF2 (fun z => z) (by unfold dT; omega) T1
      obtain ⟨f, hf⟩ := zfu (ee - a) (by omega)
      have key := lpI (fun e k (υ : ZS) => xX3_scanNumeral_L111 e 10 (nI (a + k)) (mkH υ)) (ee - a) (fun k υ => FR (fun _ => False) (fun a k => a = 10 ∧ k = 8) (setI τ1 10 7 (nI 2)) υ ∧ sI υ 10 8 = nI (nmV (gu0 u n) a k)) (fun r => ∃ υ, r = mkH υ ∧ FR (fun _ => False) (fun a k => a = 10 ∧ k = 8) (setI τ1 10 7 (nI 2)) υ ∧ sI υ 10 8 = nI (nmV (gu0 u n) a (ee - a))) ?_ ?_ (ee - a) 0 (setI τ1 10 7 (nI 2)) f (by omega) ⟨FR_r, by rw [q8]; rfl⟩
      · obtain ⟨r, hr, υ, rfl, v1, v2⟩ := key
        rw [← hf, Nat.add_zero] at hr
        refine ⟨υ, ?_, by rw [v1.2.1 10 5 (by omega)]; exact q5, by rw [v1.2.1 10 6 (by omega)]; exact q6, by rw [v1.2.1 10 7 (by omega), sI_eq], fun _ => v2, FR_t hF1 (FR_t hF2 (FR_m v1 (fun _ z => z) (fun a k z => by unfold dT; omega)))⟩
        unfold xX3_scanNumeral_B94
        generalize xX3_scanNumeral_L111 zFU = nl at *
        rw [wI_10_7, Option.bind_some, rI_10_7, Option.bind_some, sI_eq, if_neg (show ¬ nI 2 = (4 : Int32) by decide), rI_10_5, Option.bind_some, q5]
        exact hr
      · rintro e k υ hk ⟨v1, v2⟩
        right
        have q6' : sI υ 10 6 = nI ee := by rw [v1.2.1 10 6 (by omega)]; exact q6
        have T3 : TC υ u n := TC_f v1 (fun z => z) (by omega) T2
        obtain ⟨u1, u2⟩ := T3.2.2.2 (a + k) (by omega)
        have hdk := hdig (a + k) (by omega) (by omega)
        rw [gu_i (by omega)] at hdk
        have hd2 := of_decide_eq_true hdk
        refine ⟨setI υ 10 8 (nI (nmV (gu0 u n) a (k + 1))), ?_, FR_t v1 (FR_I ⟨rfl, rfl⟩), sI_eq⟩
        show xX3_scanNumeral_B111 (xX3_scanNumeral_L111 e) 10 (nI (a + k)) (mkH υ) = xX3_scanNumeral_L111 e 10 (nI (a + (k + 1))) _
        generalize xX3_scanNumeral_L111 e = nl
        unfold xX3_scanNumeral_B111
        rw [rI_10_6, Option.bind_some, q6', if_neg (fun z => by have := (nI_leI (by omega) (by omega)).mp z; omega), rI_10_8, Option.bind_some, v2, rTx υ T3.1, Option.bind_some, ra_9 υ (show a + k < 1600 by omega), Option.bind_some, u2, sg_0 _ u1 (by omega), show (48 : Int32) = nI 48 from rfl, pk_sub (by omega), nl_10, pk_mul, nI_add, wI_10_8, Option.bind_some, nI_s, nm_s, gu_i (by omega)]
        rfl
      · rintro e υ ⟨v1, v2⟩
        refine ⟨mkH υ, ?_, υ, rfl, v1, v2⟩
        have q6' : sI υ 10 6 = nI ee := by rw [v1.2.1 10 6 (by omega)]; exact q6
        show xX3_scanNumeral_B111 (xX3_scanNumeral_L111 e) 10 (nI (a + (ee - a))) (mkH υ) = _
        unfold xX3_scanNumeral_B111
        rw [rI_10_6, Option.bind_some, q6', if_pos (nI_le (by omega) (by omega))]
    · refine ⟨setI τ1 10 7 (nI 4), ?_, q5, q6, sI_eq, fun z => by omega, FR_t hF1 hF2⟩
      unfold xX3_scanNumeral_B94
      rw [wI_10_7, Option.bind_some, rI_10_7, Option.bind_some, sI_eq, if_pos (show nI 4 = (4 : Int32) from rfl)]
  have hpre : xX3_scanNumeral 10 (mkH τ) = xX3_scanNumeral_B94 10 (nI (if ee - a ≤ 4 ∧ isL (gu0 u n ee) = false then 2 else 4)) 10 (mkH τ1) := by
    have hq : xX3_scanNumeral_L0 zFU 10 (mkH τ) = xX3_scanNumeral_B39 10 (mkH τ1) := by rw [he]; exact t1
    unfold xX3_scanNumeral
    rw [hq]
    have h70 : xX3_scanNumeral_B70 10 (0 : Int32) (mkH τ1) = xX3_scanNumeral_B94 10 (nI (if ee - a ≤ 4 then 2 else 4)) 10 (mkH τ1) := by
      unfold xX3_scanNumeral_B70 xX3_scanNumeral_B89
      rw [if_pos rfl, rI_10_6, Option.bind_some, t2, rI_10_5, Option.bind_some, g5, pk_sub (by omega)]
      by_cases h4 : ee - a ≤ 4
      · rw [if_pos (show nI (ee - a) ≤ (4 : Int32) from by rw [nl_4]; exact nI_le h4 (by omega)), if_pos h4]
        rfl
      · rw [if_neg (show ¬ nI (ee - a) ≤ (4 : Int32) from fun z => by rw [nl_4] at z; exact h4 ((nI_leI (by omega) (by omega)).mp z)), if_neg h4]
        rfl
    unfold xX3_scanNumeral_B39 xX3_scanNumeral_B69
    rw [rI_10_6, Option.bind_some, t2, rI_10_4, Option.bind_some, T1.2.1]
    by_cases hen : n ≤ ee
    · rw [if_pos (nI_le hen (by omega)), h70]
      have hz : isL (gu0 u n ee) = false := by rw [gu_o hen]; decide
      congr 2
      by_cases h4 : ee - a ≤ 4
      · rw [if_pos h4, if_pos ⟨h4, hz⟩]
      · rw [if_neg h4, if_neg (fun z => h4 z.1)]
    · obtain ⟨u1, u2⟩ := T1.2.2.2 ee (by omega)
      rw [if_neg (fun z => hen ((nI_leI (by omega) (by omega)).mp z)), rTx τ1 T1.1, Option.bind_some, Option.bind_some, ra_9 τ1 (show ee < 1600 by omega), Option.bind_some, u2, c_isL u1, Option.bind_some, gu_i (by omega)]
      by_cases hb : isL (u ee) = true
      · rw [if_pos hb, if_neg (show ¬ (1 : Int32) = 0 by decide), if_neg (fun z => by rw [hb] at z; cases z.2)]
        unfold xX3_scanNumeral_B70 xX3_scanNumeral_B89
        rw [if_neg (show ¬ (1 : Int32) = 0 by decide)]
        rfl
      · have hb2 : isL (u ee) = false := by simpa using hb
        rw [if_neg hb, if_pos rfl]
        refine h70.trans ?_
        congr 2
        by_cases h4 : ee - a ≤ 4
        · rw [if_pos h4, if_pos ⟨h4, hb2⟩]
        · rw [if_neg h4, if_neg (fun z => h4 z.1)]
  obtain ⟨υ, v1, v2, v3, v4, v5, v6⟩ := hB94 (if ee - a ≤ 4 ∧ isL (gu0 u n ee) = false then 2 else 4) (by split <;> simp)
  refine ⟨υ, hpre.trans v1, ⟨v2, v3, by rw [v4, hK], fun hk => ?_⟩, v6⟩
  show sI υ 10 8 = nI (lV (gu0 u n) n a ee)
  rw [hV]
  refine v5 ?_
  have hk' : lK (gu0 u n) n a ee = 1 ∨ lK (gu0 u n) n a ee = 2 ∨ lK (gu0 u n) n a ee = 3 := hk
  rw [hK] at hk'
  by_cases hc : ee - a ≤ 4 ∧ isL (gu0 u n ee) = false
  · rw [if_pos hc]
  · rw [if_neg hc] at hk'
    omega
theorem c_adv {σ : ZS} {u : Nat → Nat} {n p : Nat} (T : TC σ u n) (hp : p ≤ n) (h6 : sI σ 10 6 = nI p) : ∃ τ, xX3_advance 10 (mkH σ) = some (mkH τ) ∧ CT τ (lex (gu0 u n) n p) ∧ FR (fun _ => False) dT σ τ := by
  have hn := T.2.2.1
  have hF0 : FR (fun _ => False) dT σ (setI σ 10 5 (nI p)) := FR_I ⟨rfl, by omega, by omega⟩
  obtain ⟨e, he⟩ := zfu (n - p) (by omega)
  obtain ⟨τ1, t1, t2, t3⟩ := c_skip (u := u) (n := n) (n - p) p (setI σ 10 5 (nI p)) e (by omega) (TC_f hF0 (fun z => z) (by unfold dT; omega) T) sI_eq
  have hA : run (fun k => isB (gu0 u n k)) (n - p) p = lA (gu0 u n) n p := rfl
  rw [hA] at t2
  have hle := lA_le (v := gu0 u n) hp
  unfold lex
  generalize lA (gu0 u n) n p = a at *
  have hF1 : FR (fun _ => False) dT σ τ1 := FR_t hF0 (FR_m t3 (fun _ z => z) (fun a k z => by unfold dT; omega))
  have hF2 : FR (fun _ => False) dT σ (setI (setI τ1 10 6 (nI a)) 10 8 0) := FR_t hF1 (FR_t (FR_I ⟨rfl, by omega, by omega⟩) (FR_I ⟨rfl, by omega, by omega⟩))
  have T2 : TC (setI (setI τ1 10 6 (nI a)) 10 8 0) u n := TC_f hF2 (fun z => z) (by unfold dT; omega) T
  have q5 : sI (setI (setI τ1 10 6 (nI a)) 10 8 0) 10 5 = nI a := by rw [sI_ne (by omega), sI_ne (by omega)]; exact t2
  have q6 : sI (setI (setI τ1 10 6 (nI a)) 10 8 0) 10 6 = nI a := by rw [sI_ne (by omega), sI_eq]
  have q8 : sI (setI (setI τ1 10 6 (nI a)) 10 8 0) 10 8 = 0 := sI_eq
  have hpre : xX3_advance 10 (mkH σ) = xX3_advance_B47 10 (mkH τ1) := by
    unfold xX3_advance
    rw [rI_10_6, Option.bind_some, h6, wI_10_5, Option.bind_some, he]
    exact t1
  rw [hpre]
  unfold xX3_advance_B47
  rw [rI_10_5, Option.bind_some, t2, wI_10_6, Option.bind_some, wI_10_8, Option.bind_some]
  generalize setI (setI τ1 10 6 (nI a)) 10 8 0 = τ2 at *
  rw [rI_10_5, Option.bind_some, q5, rI_10_4, Option.bind_some, T2.2.1]
  by_cases han : a < n
  · rw [if_pos (nI_lt han (by omega))]
    obtain ⟨u1, u2⟩ := T2.2.2.2 a han
    rw [rTx τ2 T2.1, Option.bind_some, Option.bind_some, ra_9 τ2 (show a < 1600 by omega), Option.bind_some, u2, c_isL u1, Option.bind_some]
    by_cases hL : isL (u a) = true
    · obtain ⟨υ, v1, v2, v3⟩ := c_scanW T2 han q5 q6 (by rw [gu_i han]; exact hL)
      refine ⟨υ, ?_, v2, FR_t hF2 v3⟩
      rw [if_pos hL, if_neg (show ¬ (1 : Int32) = 0 by decide)]
      show z_gu (z_is (mkH τ2) 10 3) ((xX3_scanWord 10 (mkH τ2)).bind fun h95 => some h95) = _
      rw [is_10, gu_t, v1, Option.bind_some]
    · have hL2 : isL (u a) = false := by simpa using hL
      rw [if_neg hL, if_pos rfl]
      show ∃ τ : ZS, ((z_gR (mkH τ2) 10 3 3).bind fun x102 => ((z_gI (mkH τ2) 10 3 5).bind fun x106 => ((z_aB (mkH τ2) x102 x106).bind fun x109 => ((xX3_isDigit x109 (mkH τ2)).bind fun r110 => (if r110.1 = 0 then ((z_gR r110.2 10 3 3).bind fun x127 => ((z_gI r110.2 10 3 5).bind fun x131 => ((z_aB r110.2 x127 x131).bind fun x134 => (z_gu (z_is r110.2 4 50) ((xJ0_indexOf_0f7a4 4 (((x134 &&& (255 : Int32)).toUInt32 % 65536).toInt32) r110.2).bind fun r140 => (if r140.1 < 0 then xX3_advance_B151 10 (4 : Int32) 10 r140.2 else xX3_advance_B151 10 (3 : Int32) 10 r140.2)))))) else (z_gu (z_is r110.2 10 3) ((xX3_scanNumeral 10 r110.2).bind fun h117 => some h117))))))) = some (mkH τ) ∧ _
      rw [rTx τ2 T2.1, Option.bind_some, rI_10_5, Option.bind_some, q5, ra_9 τ2 (show a < 1600 by omega), Option.bind_some, u2, c_isD u1, Option.bind_some]
      by_cases hD : isD (u a) = true
      · obtain ⟨υ, v1, v2, v3⟩ := c_scanN T2 han q5 q6 q8 (by rw [gu_i han]; exact hL2) (by rw [gu_i han]; exact hD)
        refine ⟨υ, ?_, v2, FR_t hF2 v3⟩
        rw [if_pos hD, if_neg (show ¬ (1 : Int32) = 0 by decide)]
        show z_gu (z_is (mkH τ2) 10 3) ((xX3_scanNumeral 10 (mkH τ2)).bind fun h117 => some h117) = _
        rw [is_10, gu_t, v1, Option.bind_some]
      · have hD2 : isD (u a) = false := by simpa using hD
        obtain ⟨w, w1, w2⟩ := c_idx (σ := τ2) u1
        have h151 : ∀ kd : Nat, ∃ υ, xX3_advance_B151 10 (nI kd) 10 (mkH τ2) = some (mkH υ) ∧ sI υ 10 5 = nI a ∧ sI υ 10 6 = nI (a + 1) ∧ sI υ 10 7 = nI kd ∧ sI υ 10 8 = sgn (u a) ∧ FR (fun _ => False) dT τ2 υ := by
          intro kd
          have hG : FR (fun _ => False) dT τ2 (setI τ2 10 7 (nI kd)) := FR_I ⟨rfl, by omega, by omega⟩
          have T3 : TC (setI τ2 10 7 (nI kd)) u n := TC_f hG (fun z => z) (by unfold dT; omega) T2
          have p5 : sI (setI τ2 10 7 (nI kd)) 10 5 = nI a := by rw [sI_ne (by omega)]; exact q5
          have p5' : sI (setI (setI τ2 10 7 (nI kd)) 10 8 (sgn (u a))) 10 5 = nI a := by rw [sI_ne (by omega)]; exact p5
          have u2' : sF (setI τ2 10 7 (nI kd)) 9 a = sgn (u a) := u2
          refine ⟨setI (setI (setI τ2 10 7 (nI kd)) 10 8 (sgn (u a))) 10 6 (nI (a + 1)), ?_, by rw [sI_ne (by omega)]; exact p5', sI_eq, by rw [sI_ne (by omega), sI_ne (by omega), sI_eq], by rw [sI_ne (by omega), sI_eq], FR_t hG (FR_t (FR_I ⟨rfl, by omega, by omega⟩) (FR_I ⟨rfl, by omega, by omega⟩))⟩
          unfold xX3_advance_B151
          rw [wI_10_7, Option.bind_some, rTx _ T3.1, Option.bind_some, rI_10_5, Option.bind_some, p5, ra_9 _ (show a < 1600 by omega), Option.bind_some, u2', wI_10_8, Option.bind_some, rI_10_5, Option.bind_some, p5', nI_s, wI_10_6, Option.bind_some]
        have hEe : lE (gu0 u n) n a = a + 1 := by
          unfold lE
          rw [if_neg (by omega), gu_i han, if_neg hL, if_neg hD]
        have hKk : lK (gu0 u n) n a (lE (gu0 u n) n a) = if isG (u a) = true then 3 else 4 := by
          unfold lK
          rw [if_neg (by omega), gu_i han, if_neg hL, if_neg hD]
        have hVv : lV (gu0 u n) n a (lE (gu0 u n) n a) = u a := by
          unfold lV
          rw [gu_i han, if_neg hL, if_neg hD]
        rw [hEe] at hKk hVv ⊢
        rw [hKk, hVv]
        obtain ⟨υ, v1, v2, v3, v4, v5, v6⟩ := h151 (if isG (u a) = true then 3 else 4)
        refine ⟨υ, ?_, ⟨v2, v3, v4, fun hk => ?_⟩, FR_t hF2 v6⟩
        · rw [if_neg hD, if_pos rfl]
          show ((z_gR (mkH τ2) 10 3 3).bind fun x127 => ((z_gI (mkH τ2) 10 3 5).bind fun x131 => ((z_aB (mkH τ2) x127 x131).bind fun x134 => (z_gu (z_is (mkH τ2) 4 50) ((xJ0_indexOf_0f7a4 4 (((x134 &&& (255 : Int32)).toUInt32 % 65536).toInt32) (mkH τ2)).bind fun r140 => (if r140.1 < 0 then xX3_advance_B151 10 (4 : Int32) 10 r140.2 else xX3_advance_B151 10 (3 : Int32) 10 r140.2)))))) = _
          rw [rTx τ2 T2.1, Option.bind_some, rI_10_5, Option.bind_some, q5, ra_9 τ2 (show a < 1600 by omega), Option.bind_some, u2, s4_is, gu_t, w1, Option.bind_some]
          by_cases hg : isG (u a) = true
          · rw [if_neg (show ¬ w < 0 from fun z => by rw [w2.mp z] at hg; cases hg)]
            rw [if_pos hg] at v1
            exact v1
          · rw [if_pos (show w < 0 from w2.mpr (by simpa using hg))]
            rw [if_neg hg] at v1
            exact v1
        · have hk' : (if isG (u a) = true then 3 else 4) = 1 ∨ (if isG (u a) = true then 3 else 4) = 2 ∨ (if isG (u a) = true then 3 else 4) = 3 := hk
          show sI υ 10 8 = nI (u a)
          rw [v5]
          by_cases hg : isG (u a) = true
          · refine sg_0 _ u1 ?_
            have := of_decide_eq_true hg
            omega
          · rw [if_neg hg] at hk'
            omega
  · rw [if_neg (fun z => han ((nI_ltI (by omega) (by omega)).mp z))]
    have han2 : n ≤ a := by omega
    have hEe : lE (gu0 u n) n a = a := by unfold lE; rw [if_pos han2]
    have hKk : lK (gu0 u n) n a a = 0 := by unfold lK; rw [if_pos han2]
    refine ⟨setI τ2 10 7 0, ?_, ⟨?_, ?_, ?_, fun hk => ?_⟩, FR_t hF2 (FR_I ⟨rfl, by omega, by omega⟩)⟩
    · rw [wI_10_7, Option.bind_some]
    · rw [sI_ne (by omega)]; exact q5
    · show sI (setI τ2 10 7 0) 10 6 = nI (lE (gu0 u n) n a)
      rw [hEe, sI_ne (by omega)]; exact q6
    · show sI (setI τ2 10 7 0) 10 7 = nI (lK (gu0 u n) n a (lE (gu0 u n) n a))
      rw [hEe, hKk, sI_eq]
      rfl
    · have hk' : lK (gu0 u n) n a (lE (gu0 u n) n a) = 1 ∨ lK (gu0 u n) n a (lE (gu0 u n) n a) = 2 ∨ lK (gu0 u n) n a (lE (gu0 u n) n a) = 3 := hk
      rw [hEe, hKk] at hk'
      omega
