/-! a new state of the class -/
/-- one state more: all its numbers are 0 -/
def growS (σ : ZS) : ZS := ((fun a k => if a = 118 + 13 * sK σ then 0 else sI σ a k), (fun a k => if 118 + 13 * sK σ < a ∧ a ≤ 118 + 13 * sK σ + 12 then 0 else sF σ a k), sN σ, sJ σ, sNow σ, sTx σ, sQ σ, sK σ + 1, sX σ)
/-- the heap while a new state is laid out -/
def gH (h : ZH) (B : Nat) (fs : List Value) (k : Nat) : ZH := (fun j => if j = B then .inl (5, fs) else if B < j ∧ j ≤ B + k then .inr (.inl (0, List.replicate (vO (j - B)).2 0)) else h.1 j, B + k + 1)
theorem gH_0 {h : ZH} {fs : List Value} : z_push h (.inl (5, fs)) = gH h h.2 fs 0 := by
  unfold z_push gH
  refine Prod.ext (funext fun j => ?_) rfl
  show (if j = h.2 then _ else h.1 j) = (if j = h.2 then _ else if h.2 < j ∧ j ≤ h.2 + 0 then _ else h.1 j)
  by_cases hj : j = h.2
  · rw [if_pos hj, if_pos hj]
  · rw [if_neg hj, if_neg hj, if_neg (by omega)]
theorem gH_s {h : ZH} {B k i : Nat} {fs : List Value} {v : Value} (hi : i < fs.length) : z_sF (gH h B fs k) B 5 i v = some (gH h B (fs.set i v) k) := by
  unfold z_sF
  have e : (gH h B fs k).1 B = .inl (5, fs) := by
    show (if B = B then _ else _) = _
    rw [if_pos rfl]
  rw [e]
  show (if 5 = 5 ∧ i < fs.length then some (z_up (gH h B fs k) B (.inl (5, fs.set i v))) else none) = _
  rw [if_pos ⟨rfl, hi⟩]
  congr 1
  unfold z_up gH
  refine Prod.ext (funext fun j => ?_) rfl
  show (if j = B then _ else if j = B then _ else _) = (if j = B then _ else _)
  by_cases hj : j = B
  · rw [if_pos hj, if_pos hj]
  · rw [if_neg hj, if_neg hj, if_neg hj]
theorem gH_n {h : ZH} {B k n : Nat} {fs : List Value} (hn : n = (vO (k + 1)).2) : z_push (gH h B fs k) (.inr (.inl (0, List.replicate n 0))) = gH h B fs (k + 1) := by
  unfold z_push gH
  refine Prod.ext (funext fun j => ?_) rfl
  show (if j = B + k + 1 then _ else if j = B then _ else if B < j ∧ j ≤ B + k then _ else h.1 j) = (if j = B then _ else if B < j ∧ j ≤ B + (k + 1) then _ else h.1 j)
  by_cases hj : j = B + k + 1
  · rw [if_pos hj, if_neg (show ¬ j = B by omega), if_pos (show B < j ∧ j ≤ B + (k + 1) by omega), hj, show B + k + 1 - B = k + 1 by omega, hn]
  · rw [if_neg hj]
    by_cases hb : j = B
    · rw [if_pos hb, if_pos hb]
    · rw [if_neg hb, if_neg hb]
      by_cases hr : B < j ∧ j ≤ B + k
      · rw [if_pos hr, if_pos (show B < j ∧ j ≤ B + (k + 1) by omega)]
      · rw [if_neg hr, if_neg (show ¬ (B < j ∧ j ≤ B + (k + 1)) by omega)]
theorem gH_b {R : Type} {h : ZH} {B k n i : Nat} {fs : List Value} {F : ZH → Option R} (hk : i = k + 1) (hn : n = (vO i).2) (hi : i < fs.length) : ((z_nw (gH h B fs k) (.inr (.inl (0, List.replicate n 0)))).bind fun q => (z_sF q.2 B 5 i (.ref q.1)).bind F) = F (gH h B (fs.set i (.ref (B + i))) i) := by
  subst hk
  unfold z_nw
  rw [Option.bind_some]
  show (z_sF (z_push (gH h B fs k) (.inr (.inl (0, List.replicate n 0)))) B 5 (k + 1) (.ref (B + k + 1))).bind F = _
  rw [gH_n hn, gH_s hi]
  rfl
theorem fv_0 {σ : ZS} {a k : Nat} : fv σ a k none = .int (sI σ a k) := rfl
theorem fv_1 {σ : ZS} {a k r : Nat} (h : r < 1000000) : fv σ a k (some r) = .ref r := by
  show (if r < 1000000 then _ else _) = _
  rw [if_pos h]
theorem fv_2 {σ : ZS} {a k r : Nat} : fv σ a k (some (2000000 + r)) = .ref (a + r) := by
  show (if 2000000 + r < 1000000 then _ else if 2000000 + r = 1000001 then _ else if 2000000 + r = 1000002 then _ else if 2000000 + r = 1000003 then _ else Value.ref (a + (2000000 + r - 2000000))) = _
  rw [if_neg (by omega), if_neg (by omega), if_neg (by omega), if_neg (by omega), show 2000000 + r - 2000000 = r by omega]
theorem gr_I {σ : ZS} {a k : Nat} (h : a ≠ 118 + 13 * sK σ) : sI (growS σ) a k = sI σ a k := if_neg h
theorem gr_F {σ : ZS} {a k : Nat} (h : ¬ (118 + 13 * sK σ < a ∧ a ≤ 118 + 13 * sK σ + 12)) : sF (growS σ) a k = sF σ a k := if_neg h
theorem gr_bld {σ : ZS} {a : Nat} (h1 : a ≠ 118 + 13 * sK σ) (h2 : ¬ (118 + 13 * sK σ < a ∧ a ≤ 118 + 13 * sK σ + 12)) (L : ZL) : bld (growS σ) a L = bld σ a L := by
  have e1 : sI (growS σ) a = sI σ a := funext fun k => gr_I h1
  have e2 : sF (growS σ) a = sF σ a := funext fun k => gr_F h2
  cases L with
  | inr q =>
    unfold bld
    rw [e2]
    rfl
  | inl q =>
    have e : (fun k f => fv (growS σ) a k f) = fun k f => fv σ a k f := by
      funext k f
      cases f with
      | none => rw [fv_0, fv_0, e1]
      | some x => rfl
    show Sum.inl (q.1, q.2.mapIdx (fun k f => fv (growS σ) a k f)) = Sum.inl (q.1, q.2.mapIdx (fun k f => fv σ a k f))
    rw [e]
def fsN (B : Nat) : List Value := [.ref 21, .ref (B + 1), .ref (B + 2), .ref (B + 3), .ref (B + 4), .ref (B + 5), .ref (B + 6), .ref (B + 7), .ref (B + 8), .ref (B + 9), .ref (B + 10), .ref (B + 11), .ref (B + 12), .int 0, .int 0, .int 0, .int 0, .int 0]
theorem lay_T {n r : Nat} (hr : r < 13) : layA (n + 1) (118 + 13 * n + r) = layT.getD r layJ := by
  unfold layA
  rw [if_neg (by omega), if_pos (by omega), show (118 + 13 * n + r - 118) % 13 = r by omega]
theorem lay_o {n a : Nat} (h : ¬ (118 + 13 * n ≤ a ∧ a ≤ 118 + 13 * n + 12)) : layA (n + 1) a = layA n a := by
  unfold layA
  by_cases h1 : a < 118
  · rw [if_pos h1, if_pos h1]
  · rw [if_neg h1, if_neg h1]
    by_cases h2 : a < 118 + 13 * n
    · rw [if_pos h2, if_pos (by omega)]
    · rw [if_neg h2, if_neg (by omega)]
theorem new_fin (σ : ZS) : gH (mkH σ) (118 + 13 * sK σ) (fsN (118 + 13 * sK σ)) 12 = mkH (growS σ) := by
  refine Prod.ext (funext fun j => ?_) (by show 118 + 13 * sK σ + 12 + 1 = 118 + 13 * (sK σ + 1); omega)
  show (if j = 118 + 13 * sK σ then _ else if 118 + 13 * sK σ < j ∧ j ≤ 118 + 13 * sK σ + 12 then _ else cellOf σ j) = cellOf (growS σ) j
  by_cases hj : j = 118 + 13 * sK σ
  · rw [if_pos hj]
    unfold cellOf
    rw [if_neg (by omega)]
    show _ = bld (growS σ) j (layA (sK σ + 1) j)
    rw [hj]
    have e : layA (sK σ + 1) (118 + 13 * sK σ) = layT.getD 0 layJ := lay_T (n := sK σ) (r := 0) (by decide)
    rw [e]
    show _ = Sum.inl (5, [some 21, some 2000001, some 2000002, some 2000003, some 2000004, some 2000005, some 2000006, some 2000007, some 2000008, some 2000009, some 2000010, some 2000011, some 2000012, none, none, none, none, none].mapIdx (fun k f => fv (growS σ) (118 + 13 * sK σ) k f))
    have i0 : ∀ k, sI (growS σ) (118 + 13 * sK σ) k = 0 := fun k => if_pos rfl
    simp only [List.mapIdx_cons, List.mapIdx_nil, fv_0, i0, fv_1 (show 21 < 1000000 by decide), fv_2 (r := 1), fv_2 (r := 2), fv_2 (r := 3), fv_2 (r := 4), fv_2 (r := 5), fv_2 (r := 6), fv_2 (r := 7), fv_2 (r := 8), fv_2 (r := 9), fv_2 (r := 10), fv_2 (r := 11), fv_2 (r := 12)]
    rfl
  · rw [if_neg hj]
    by_cases hr : 118 + 13 * sK σ < j ∧ j ≤ 118 + 13 * sK σ + 12
    · rw [if_pos hr]
      unfold cellOf
      rw [if_neg (by omega)]
      show _ = bld (growS σ) j (layA (sK σ + 1) j)
      have f0 : ∀ n, (List.range n).map (sF (growS σ) j) = List.replicate n 0 := by
        intro n
        rw [show sF (growS σ) j = fun _ => 0 from funext fun k => if_pos hr]
        rw [List.map_const', List.length_range]
      obtain ⟨r, hr1, hr2, rfl⟩ : ∃ r, 1 ≤ r ∧ r ≤ 12 ∧ j = 118 + 13 * sK σ + r := ⟨j - (118 + 13 * sK σ), by omega, by omega, by omega⟩
      rw [lay_T (by omega), show 118 + 13 * sK σ + r - (118 + 13 * sK σ) = r by omega]
      rcases (show r = 1 ∨ r = 2 ∨ r = 3 ∨ r = 4 ∨ r = 5 ∨ r = 6 ∨ r = 7 ∨ r = 8 ∨ r = 9 ∨ r = 10 ∨ r = 11 ∨ r = 12 by omega) with rfl | rfl | rfl | rfl | rfl | rfl | rfl | rfl | rfl | rfl | rfl | rfl
      all_goals
        show _ = Sum.inr (Sum.inl (0, (List.range _).map (sF (growS σ) _)))
        rw [f0]
        rfl
    · rw [if_neg hr]
      unfold cellOf
      by_cases h8 : j < 8
      · rw [if_pos h8, if_pos h8]
        rfl
      · rw [if_neg h8, if_neg h8]
        show _ = bld (growS σ) j (layA (sK σ + 1) j)
        rw [lay_o (by omega), gr_bld hj hr]
theorem new_init (σ : ZS) : xX5_init (118 + 13 * sK σ) 21 (z_push (mkH σ) (.inl (5, [.null, .null, .null, .null, .null, .null, .null, .null, .null, .null, .null, .null, .null, .int 0, .int 0, .int 0, .int 0, .int 0]))) = some (mkH (growS σ)) := by
  rw [gH_0, show (mkH σ).2 = 118 + 13 * sK σ from rfl]
  unfold xX5_init
  rw [gH_b (k := 0) (i := 1) (n := 6) rfl rfl (by simp), gH_b (k := 1) (i := 2) (n := 6) rfl rfl (by simp), gH_b (k := 2) (i := 3) (n := 6) rfl rfl (by simp), gH_b (k := 3) (i := 4) (n := 6) rfl rfl (by simp), gH_b (k := 4) (i := 5) (n := 6) rfl rfl (by simp), gH_b (k := 5) (i := 6) (n := 18) rfl rfl (by simp), gH_b (k := 6) (i := 7) (n := 18) rfl rfl (by simp), gH_b (k := 7) (i := 8) (n := 18) rfl rfl (by simp), gH_b (k := 8) (i := 9) (n := 180) rfl rfl (by simp), gH_b (k := 9) (i := 10) (n := 180) rfl rfl (by simp), gH_b (k := 10) (i := 11) (n := 36) rfl rfl (by simp), gH_b (k := 11) (i := 12) (n := 36) rfl rfl (by simp), gH_s (by simp), ← new_fin]
  rfl
/-- what was there is there, while the new state is laid out -/
theorem gH_R {σ : ZS} {a ci k : Nat} {c : ZC} (h : a ≠ 118 + 13 * sK σ) : z_gR (z_push (mkH σ) c) a ci k = z_gR (mkH σ) a ci k := by
  unfold z_gR z_gF
  have e : (z_push (mkH σ) c).1 a = (mkH σ).1 a := by
    show (if a = 118 + 13 * sK σ then _ else _) = _
    rw [if_neg h]
  rw [e]
theorem gr_st {σ : ZS} : isSt (sK (growS σ)) (118 + 13 * sK σ) := Or.inr (Or.inr ⟨sK σ, Nat.lt_succ_self _, rfl⟩)
theorem gr_mono {σ : ZS} {p : Nat} (h : isSt (sK σ) p) : isSt (sK (growS σ)) p := by
  rcases h with h | h | ⟨j, hj, h⟩
  · exact Or.inl h
  · exact Or.inr (Or.inl h)
  · exact Or.inr (Or.inr ⟨j, Nat.lt_succ_of_lt hj, h⟩)
theorem st_lt {n p : Nat} (h : isSt n p) : p + 12 < 118 + 13 * n := by
  rcases h with h | h | ⟨j, hj, h⟩ <;> omega
theorem gr_cV {σ : ZS} {p : Nat} (h : isSt (sK σ) p) : cV (growS σ) p = cV σ p := by
  have hl := st_lt h
  funext j
  by_cases hj : j < 516
  · obtain ⟨s, hs, hs2, -, -, he⟩ := cV_row σ p j hj
    rw [he, he]
    exact gr_F (by omega)
  · rw [cV_sc _ _ _ hj, cV_sc _ _ _ hj, gr_I (by omega), gr_I (by omega), gr_I (by omega), gr_I (by omega), gr_I (by omega)]
/-- the pointers of rows of states: two different states lie apart -/
theorem st_ap {n p q : Nat} (hp : isSt n p) (hq : isSt n q) (h : p ≠ q) : p + 12 < q ∨ q + 12 < p := by
  rcases hp with hp | hp | ⟨j, hj, hp⟩ <;> rcases hq with hq | hq | ⟨i, hi, hq⟩ <;> omega
