/-! the class's choice: the one chosen -/
theorem LV_up {n : Nat} {B A : Nat → Int32} {k : Nat} {v : Int32} (hk : 84 ≤ k) (L : LV n B A) (hn : n ≤ 6) : LV n (up1 B k v) (up1 A k v) := by
  obtain ⟨l1, l2, l3, l4⟩ := L
  refine ⟨fun s hs => ?_, fun s hs => ?_, fun s i hs hi ho => ?_, fun j h1 h2 => ?_⟩
  · rw [up1_n (show s ≠ k by omega), up1_n (show s ≠ k by omega), up1_n (show 6 + s ≠ k by omega), up1_n (show 6 + s ≠ k by omega), up1_n (show 12 + s ≠ k by omega), up1_n (show 12 + s ≠ k by omega), up1_n (show 18 + s ≠ k by omega), up1_n (show 18 + s ≠ k by omega)]
    exact l1 s hs
  · rw [up1_n (show 24 + s ≠ k by omega), up1_n (show 24 + s ≠ k by omega)]
    exact l2 s hs
  · rw [up1_n (show 24 + s ≠ k by omega)] at ho
    rw [up1_n (show 30 + 3 * s + i ≠ k by omega), up1_n (show 30 + 3 * s + i ≠ k by omega), up1_n (show 48 + 3 * s + i ≠ k by omega), up1_n (show 48 + 3 * s + i ≠ k by omega), up1_n (show 66 + 3 * s + i ≠ k by omega), up1_n (show 66 + 3 * s + i ≠ k by omega)]
    exact l3 s i hs hi ho
  · by_cases hj : j = k
    · subst hj; rw [up1_e, up1_e]
    · rw [up1_n hj, up1_n hj]; exact l4 j h1 h2
theorem LV_dr {n : Nat} {B A : Nat → Int32} (L : LV n B A) (hn : n ≤ 6) : LV n (drA B) (drA A) := by
  unfold drA
  rw [L.2.2.2 519 (by omega) (by omega)]
  exact LV_up (by omega) L hn
/-- a change from 516 on but for slot and seed leaves a state well-formed -/
theorem WF_up {lo : Nat} {n m : Nat} {A : Nat → Int32} {k : Nat} {v : Int32} (hk : 516 ≤ k) (h1 : k = 518 → ∃ t, t < m ∧ v = nI t) (h2 : k = 519 → ∃ z, z < 1000 ∧ v = nI z) (V : WF lo n m A) : WF lo n m (up1 A k v) := by
  obtain ⟨v1, v2, v3, v4, v5⟩ := V
  refine ⟨fun s hs => ?_, fun s i hs hi ho => ?_, fun s j hs hj => ?_, ?_, ?_⟩
  · rw [up1_n (show 24 + s ≠ k by omega)]; exact v1 s hs
  · rw [up1_n (show 24 + s ≠ k by omega)] at ho
    rw [up1_n (show 30 + 3 * s + i ≠ k by omega), up1_n (show 48 + 3 * s + i ≠ k by omega)]
    exact v2 s i hs hi ho
  · rw [up1_n (show 84 + 30 * s + j ≠ k by omega), up1_n (show 264 + 30 * s + j ≠ k by omega)]
    exact v3 s j hs hj
  · by_cases h : k = 518
    · subst h; rw [up1_e]; exact h1 rfl
    · rw [up1_n (Ne.symm h)]; exact v4
  · by_cases h : k = 519
    · subst h; rw [up1_e]; exact h2 rfl
    · rw [up1_n (Ne.symm h)]; exact v5
theorem WF_dr {lo : Nat} {n m : Nat} {A : Nat → Int32} (V : WF lo n m A) : WF lo n m (drA A) := by
  obtain ⟨z, hz, e⟩ := V.2.2.2.2
  refine WF_up (by omega) (fun h => by omega) (fun _ => ?_) V
  rw [e, seed_n hz]
  exact ⟨_, Nat.mod_lt _ (by omega), rfl⟩
/-- what is LEFT by a draw -/
def lfS (A : Nat → Int32) (kp : Nat) : Nat := 1 + tn (seedS (A 519)) % kp
theorem lfS_le {A : Nat → Int32} {kp : Nat} (h : 1 ≤ kp) (h2 : kp ≤ 7) : 1 ≤ lfS A kp ∧ lfS A kp ≤ 7 := by
  unfold lfS
  have := Nat.mod_lt (tn (seedS (A 519))) (show 0 < kp by omega)
  omega
theorem cV_dr {σ : ZS} {p : Nat} : cV (setI σ p 17 (seedS (cV σ p 519))) p = drA (cV σ p) := cV_I (Or.inr (Or.inr (Or.inr (Or.inl ⟨rfl, rfl⟩))))
theorem c_drawLeft {σ : ZS} {p : Nat} {P : Nat → Nat} (hp : isSt (sK σ) p) (R : CP σ P) (W : PW P) (hz : ∃ z, z < 1000 ∧ cV σ p 519 = nI z) : xX5_drawLeft p (mkH σ) = some (nI (lfS (cV σ p) (P 5)), mkH (setI σ p 17 (seedS (cV σ p 519)))) := by
  obtain ⟨z, hz, ez⟩ := hz
  have hp3 := st_in hp
  obtain ⟨-, -, -, -, -, -, -, w7, w8, -⟩ := W
  have r1 : sI (setI σ p 17 (seedS (cV σ p 519))) 21 4 = nI (P 5) := by rw [sI_ne (by omega)]; exact R.2.2.2.2.2.1
  simp only [xX5_drawLeft, is_S hp, gu_t, c_draw hp, Option.bind_some, rR_S0 (σ := setI σ p 17 (seedS (cV σ p 519))) hp, rI_21_4, r1]
  rw [if_pos (by rw [nl_1]; exact nI_le (by omega) (by omega)), if_neg (nI_ne0 (by omega) (by omega))]
  unfold lfS
  rw [ez, seed_n hz, pk_rem (by omega) (by omega) (by omega), nl_1, nI_add, tn_n (by omega)]
theorem r_left {σ : ZS} {bk : Nat} {P : Nat → Nat} (R : RP σ bk P) (W : PW P) (hz : ∃ z, z < 1000 ∧ sF σ 104 519 = nI z) : xX9_newLeft 78 (mkH σ) = some (nI (lfS (sF σ 104) (P 5)), mkH (setF σ 104 519 (seedS (sF σ 104 519)))) := by
  obtain ⟨z, hz, ez⟩ := hz
  have B := RP_B R W
  obtain ⟨-, -, -, -, -, -, -, w7, w8, -⟩ := W
  have r1 : sF σ 86 bk = nI (P 5) := R.2.2.2.2.2.2.2.1
  rw [r_newLeft B (by rw [r1]; exact nI_ne0 (by omega) (by omega)), r1]
  unfold lfS
  rw [ez, seed_n hz, pk_rem (by omega) (by omega) (by omega), nl_1, nI_add, tn_n (by omega)]
theorem sF_dr {σ : ZS} : sF (setF σ 104 519 (seedS (sF σ 104 519))) 104 = drA (sF σ 104) := sF_up
theorem c_choose_L {σ : ZS} {p q x n : Nat} {w : Nat → Nat} (hq : isCh q) (hx : x < 2 ^ 30) (hn : n ≤ 30) (h0 : sI σ q 0 = nI x) (h4 : sI σ q 4 = nI n) (hw : ∀ i, i < n → sF σ (q + 1) i = nI (w i)) (hw2 : ∀ i, i < n → w i < 30) : ∀ (f k d e : Nat), k + f = n → d < cnS x w f k → d < 2 ^ 30 → xX0_choose_L42 (e + f + 1) q p (nI d) (nI k) (mkH σ) = xX0_choose_B97 q p (mkH (setI σ q 1 (nI (pkS x w f k d)))) := by
  intro f
  induction f with
  | zero => intro k d e hk hd; rw [cnS] at hd; omega
  | succ f ih =>
    intro k d e hk hd hd2
    have hw3 := hw2 k (by omega)
    rw [cnS] at hd
    rw [pkS]
    show xX0_choose_B42 (xX0_choose_L42 (e + (f + 1))) q p (nI d) (nI k) (mkH σ) = _
    rw [show e + (f + 1) = e + f + 1 by omega]
    simp only [xX0_choose_B42, xX0_choose_B74, ch_I4 hq, ch_I0 hq, ch_R3 hq, Option.bind_some, h4, h0, ch_ra hq (show k < 30 by omega), hw k (by omega), nI_s, ch_w1 hq]
    rw [if_neg (fun z => by have := (nI_leI (by omega) (by omega)).mp z; omega)]
    have hb := bitB_n (show x < 2 ^ 31 by omega) (show w k < 32 by omega)
    unfold bitB at hb
    cases hb2 : x.testBit (w k)
    · rw [hb2] at hb hd
      simp at hd
      rw [if_neg (of_decide_eq_false hb)]
      simp only [Bool.false_eq_true, if_false]
      exact ih (k + 1) d e (by omega) hd hd2
    · rw [hb2] at hb hd
      simp at hd
      rw [if_pos (of_decide_eq_true hb)]
      simp only [if_true]
      by_cases hz : d = 0
      · subst hz
        rw [if_pos nI_0, if_pos rfl]
      · rw [if_neg (nI_ne0 (by omega) (by omega)), if_neg hz]
        have h2 : nI d + (-1) = nI (d - 1) := by
          have := pk_m1 (d - 1)
          rwa [show d - 1 + 1 = d by omega] at this
        rw [h2]
        exact ih (k + 1) (d - 1) e (by omega) (by omega) (by omega)
theorem c_choose {lo : Nat} {σ : ZS} {p q s slot : Nat} {P : Nat → Nat} {A : Nat → Int32} (hp : isSt (sK σ) p) (hq : isCh q) (R : CP σ P) (W : PW P) (L : LV (P 0) (cV σ p) A) (V : WF lo (P 0) (P 1) A) (hs : s < P 0) (hsl : slot < 30) : ∃ τ, (∀ t, chS A s (wP (P 1) (P 3) slot) (wN (P 1) (P 3)) (P 4) = some t → xX0_choose q p (nI s) (nI slot) (mkH σ) = some (1, mkH τ) ∧ sI τ q 1 = nI t ∧ sI τ q 2 = nI (lfS (drA A) (P 5)) ∧ cV τ p = drA (drA (cV σ p))) ∧ (chS A s (wP (P 1) (P 3) slot) (wN (P 1) (P 3)) (P 4) = none → xX0_choose q p (nI s) (nI slot) (mkH σ) = some (0, mkH τ) ∧ cV τ p = cV σ p) ∧ FR (fun a => a = q + 1) (fun a k => a = q ∨ (a = p ∧ k = 17)) σ τ := by
  have hq2 : q = 55 ∨ q = 58 := hq
  have hps := ch_st hp hq
  have hp3 := st_in hp
  obtain ⟨τ, h1, h2, h3, h5, h6⟩ := c_look (slot := slot) hp hq R W L V hs W.2.2.2.2.1 hsl
  have hpt : isSt (sK τ) p := by rw [FR_K h6]; exact hp
  have hV : cV τ p = cV σ p := cV_o h6 (fun a _ _ z => by omega) (fun k z => by omega)
  have R' : CP τ P := CP_f h6 (fun k z => by omega) R
  have hm : P 1 ≤ 30 := W.2.2.1
  have hm0 : 6 ≤ P 1 := W.2.1
  have hb := wN_le (m := P 1) (wd := P 3)
  have hw2 : ∀ i, i < wN (P 1) (P 3) → wP (P 1) (P 3) slot i < 30 := fun i _ => Nat.lt_of_lt_of_le (wP_lt (by omega)) hm
  obtain ⟨z, hz, ez⟩ := V.2.2.2.2
  have eb : cV τ p 519 = nI z := by rw [hV, L.2.2.2 519 (by omega) (by omega), ez]
  have hF : FR (fun a => a = q + 1) (fun a k => a = q ∨ (a = p ∧ k = 17)) σ τ := FR_m h6 (fun _ z => z) (fun _ _ z => Or.inl z)
  have hlt := candS_lt (A := A) (s := s) (ls := P 4) hw2
  have hin := candS_in (A := A) (s := s) (ls := P 4) hw2
  have hx0 : chS A s (wP (P 1) (P 3) slot) (wN (P 1) (P 3)) (P 4) = if candS A s (wP (P 1) (P 3) slot) (wN (P 1) (P 3)) (P 4) = 0 then none else some (pkS (candS A s (wP (P 1) (P 3) slot) (wN (P 1) (P 3)) (P 4)) (wP (P 1) (P 3) slot) (wN (P 1) (P 3)) 0 (tn (seedS (A 519)) % pc 32 (candS A s (wP (P 1) (P 3) slot) (wN (P 1) (P 3)) (P 4)))) := rfl
  generalize candS A s (wP (P 1) (P 3) slot) (wN (P 1) (P 3)) (P 4) = x at *
  have r1 : sI σ 21 2 = nI (P 3) := R.2.2.2.1
  by_cases h0 : x = 0
  · subst h0
    rw [if_pos rfl] at hx0
    refine ⟨τ, fun t ht => ?_, fun _ => ⟨?_, hV⟩, hF⟩
    · rw [hx0] at ht; cases ht
    · simp only [xX0_choose, rR_S0 hp, Option.bind_some, rI_21_2, r1, ch_is hq, gu_t, h1, ch_I0 hq, h2, c_bitCount (show 0 < 2 ^ 32 by decide), pc_0]
      rw [if_pos nI_0]
  · rw [if_neg h0] at hx0
    have hp0 := pc_pos 32 x (by omega) (by omega)
    have hp2 := pc_le 32 x
    have hc := cn_pc (wN (P 1) (P 3)) x (by omega) hin
    have hd := Nat.mod_lt ((137 * z + 71) % 1000) hp0
    obtain ⟨e, he⟩ := zfu (wN (P 1) (P 3)) (by omega)
    have eT : tn (seedS (A 519)) = (137 * z + 71) % 1000 := by rw [ez, seed_n hz, tn_n (by omega)]
    have hu : cV (setI τ p 17 (nI ((137 * z + 71) % 1000))) p = drA (cV σ p) := by
      rw [← hV]
      have := cV_dr (σ := τ) (p := p)
      rw [eb, seed_n hz] at this
      exact this
    have kk := c_choose_L (σ := setI τ p 17 (nI ((137 * z + 71) % 1000))) (p := p) (x := x) (n := wN (P 1) (P 3)) (w := wP (P 1) (P 3) slot) hq hlt (by omega) (by rw [sI_ne (by omega)]; exact h2) (by rw [sI_ne (by omega)]; exact h3) h5 hw2 (wN (P 1) (P 3)) 0 ((137 * z + 71) % 1000 % pc 32 x) e (by omega) (by omega) (by omega)
    have R2 : CP (setI (setI τ p 17 (nI ((137 * z + 71) % 1000))) q 1 (nI (pkS x (wP (P 1) (P 3) slot) (wN (P 1) (P 3)) 0 ((137 * z + 71) % 1000 % pc 32 x)))) P := CP_f (S := fun _ => False) (T := fun a _ => a = p ∨ a = q) (FR_t (FR_I (Or.inl rfl)) (FR_I (Or.inr rfl))) (fun k z => by omega) R'
    have hv2 : cV (setI (setI τ p 17 (nI ((137 * z + 71) % 1000))) q 1 (nI (pkS x (wP (P 1) (P 3) slot) (wN (P 1) (P 3)) 0 ((137 * z + 71) % 1000 % pc 32 x)))) p = drA (cV σ p) := by rw [cV_ch (σ := setI τ p 17 (nI ((137 * z + 71) % 1000))) hpt hq, hu]
    have es : drA (cV σ p) 519 = nI ((137 * z + 71) % 1000) := by
      unfold drA
      rw [up1_e, ← hV, eb, seed_n hz]
    have dl := c_drawLeft (σ := setI (setI τ p 17 (nI ((137 * z + 71) % 1000))) q 1 (nI (pkS x (wP (P 1) (P 3) slot) (wN (P 1) (P 3)) 0 ((137 * z + 71) % 1000 % pc 32 x)))) (p := p) hpt R2 W ⟨_, Nat.mod_lt _ (by omega), by rw [hv2]; exact es⟩
    have eL : lfS (drA (cV σ p)) (P 5) = lfS (drA A) (P 5) := by
      unfold lfS
      rw [es]
      unfold drA
      rw [up1_e, ez, seed_n hz]
    refine ⟨setI (setI (setI (setI τ p 17 (nI ((137 * z + 71) % 1000))) q 1 (nI (pkS x (wP (P 1) (P 3) slot) (wN (P 1) (P 3)) 0 ((137 * z + 71) % 1000 % pc 32 x)))) p 17 (seedS (drA (cV σ p) 519))) q 2 (nI (lfS (drA A) (P 5))), fun t ht => ⟨?_, ?_, sI_eq, ?_⟩, fun ht => ?_, ?_⟩
    · simp only [xX0_choose, rR_S0 hp, Option.bind_some, rI_21_2, r1, ch_is hq, gu_t, h1, ch_I0 hq, h2, c_bitCount (show x < 2 ^ 32 by omega), is_S hpt, c_draw hpt, eb, seed_n hz]
      rw [if_neg (nI_ne0 hp0 (by omega)), if_neg (nI_ne0 hp0 (by omega)), pk_rem (by omega) hp0 (by omega), he]
      refine kk.trans ?_
      simp only [xX0_choose_B97, is_S (σ := setI (setI τ p 17 (nI ((137 * z + 71) % 1000))) q 1 (nI (pkS x (wP (P 1) (P 3) slot) (wN (P 1) (P 3)) 0 ((137 * z + 71) % 1000 % pc 32 x)))) hpt, gu_t, dl, Option.bind_some, ch_w2 hq, hv2, eL]
    · rw [sI_ne (by omega), sI_ne (by omega), sI_eq]
      rw [hx0, eT] at ht
      exact congrArg nI (Option.some.inj ht)
    · rw [cV_ch (σ := setI (setI (setI τ p 17 (nI ((137 * z + 71) % 1000))) q 1 (nI (pkS x (wP (P 1) (P 3) slot) (wN (P 1) (P 3)) 0 ((137 * z + 71) % 1000 % pc 32 x)))) p 17 (seedS (drA (cV σ p) 519))) hpt hq]
      have := cV_dr (σ := setI (setI τ p 17 (nI ((137 * z + 71) % 1000))) q 1 (nI (pkS x (wP (P 1) (P 3) slot) (wN (P 1) (P 3)) 0 ((137 * z + 71) % 1000 % pc 32 x)))) (p := p)
      rw [hv2] at this
      exact this
    · rw [hx0] at ht; cases ht
    · exact FR_t hF (FR_t (FR_t (FR_t (FR_I (Or.inr ⟨rfl, rfl⟩)) (FR_I (Or.inl rfl))) (FR_I (Or.inr ⟨rfl, rfl⟩))) (FR_I (Or.inl rfl)))
