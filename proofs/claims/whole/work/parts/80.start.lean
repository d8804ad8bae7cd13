/-! a fleet begun anew -/
def fgU (k : Nat) (A : Nat → Int32) : Nat → Int32 := fun j => if 24 ≤ j ∧ j < 24 + k then 0 else if 84 ≤ j ∧ j < 84 + 30 * k then -1 else if 264 ≤ j ∧ j < 264 + 30 * k then 0 else if 444 ≤ j ∧ j < 444 + 6 * k then -1 else if 480 ≤ j ∧ j < 480 + 6 * k then -1 else A j
theorem fg_pt {s j : Nat} {A : Nat → Int32} (hs : s < 6) : fgA s A j = if j = 24 + s then 0 else if 84 + 30 * s ≤ j ∧ j < 114 + 30 * s then -1 else if 264 + 30 * s ≤ j ∧ j < 294 + 30 * s then 0 else if 444 + 6 * s ≤ j ∧ j < 450 + 6 * s then -1 else if 480 + 6 * s ≤ j ∧ j < 486 + 6 * s then -1 else A j := by
  unfold fgA fgK fgH
  by_cases c0 : j = 24 + s
  · rw [if_pos c0, if_neg (by omega), if_neg (by omega), if_neg (by omega), if_neg (by omega), c0, up1_e]
  · rw [if_neg c0]
    by_cases c1 : 84 + 30 * s ≤ j ∧ j < 114 + 30 * s
    · rw [if_pos c1, if_neg (by omega), if_neg (by omega), if_pos (by omega)]
    · rw [if_neg c1]
      by_cases c2 : 264 + 30 * s ≤ j ∧ j < 294 + 30 * s
      · rw [if_pos c2, if_neg (by omega), if_neg (by omega), if_neg (by omega), if_pos (by omega)]
      · rw [if_neg c2]
        by_cases c3 : 444 + 6 * s ≤ j ∧ j < 450 + 6 * s
        · rw [if_pos c3, if_pos (by omega)]
        · rw [if_neg c3]
          by_cases c4 : 480 + 6 * s ≤ j ∧ j < 486 + 6 * s
          · rw [if_pos c4, if_neg (by omega), if_pos (by omega)]
          · rw [if_neg c4, if_neg (by omega), if_neg (by omega), if_neg (by omega), if_neg (by omega), up1_n c0]
theorem fgU_s {k : Nat} {A : Nat → Int32} (hk : k < 6) : fgA k (fgU k A) = fgU (k + 1) A := by
  funext j
  rw [fg_pt hk]
  unfold fgU
  by_cases c0 : 24 ≤ j ∧ j < 24 + (k + 1)
  · rw [if_pos c0]
    by_cases d : j = 24 + k
    · rw [if_pos d]
    · rw [if_neg d, if_neg (by omega), if_neg (by omega), if_neg (by omega), if_neg (by omega), if_pos (by omega)]
  · rw [if_neg c0, if_neg (show ¬ j = 24 + k by omega)]
    by_cases c1 : 84 ≤ j ∧ j < 84 + 30 * (k + 1)
    · rw [if_pos c1]
      by_cases d : 84 + 30 * k ≤ j ∧ j < 114 + 30 * k
      · rw [if_pos d]
      · rw [if_neg d, if_neg (by omega), if_neg (by omega), if_neg (by omega), if_neg (by omega), if_pos (by omega)]
    · rw [if_neg c1, if_neg (show ¬ (84 + 30 * k ≤ j ∧ j < 114 + 30 * k) by omega)]
      by_cases c2 : 264 ≤ j ∧ j < 264 + 30 * (k + 1)
      · rw [if_pos c2]
        by_cases d : 264 + 30 * k ≤ j ∧ j < 294 + 30 * k
        · rw [if_pos d]
        · rw [if_neg d, if_neg (by omega), if_neg (by omega), if_neg (by omega), if_neg (by omega), if_pos (by omega)]
      · rw [if_neg c2, if_neg (show ¬ (264 + 30 * k ≤ j ∧ j < 294 + 30 * k) by omega)]
        by_cases c3 : 444 ≤ j ∧ j < 444 + 6 * (k + 1)
        · rw [if_pos c3]
          by_cases d : 444 + 6 * k ≤ j ∧ j < 450 + 6 * k
          · rw [if_pos d]
          · rw [if_neg d, if_neg (by omega), if_neg (by omega), if_neg (by omega), if_neg (by omega), if_pos (by omega)]
        · rw [if_neg c3, if_neg (show ¬ (444 + 6 * k ≤ j ∧ j < 450 + 6 * k) by omega)]
          by_cases c4 : 480 ≤ j ∧ j < 480 + 6 * (k + 1)
          · rw [if_pos c4]
            by_cases d : 480 + 6 * k ≤ j ∧ j < 486 + 6 * k
            · rw [if_pos d]
            · rw [if_neg d, if_neg (by omega), if_neg (by omega), if_neg (by omega), if_neg (by omega), if_pos (by omega)]
          · rw [if_neg c4, if_neg (show ¬ (480 + 6 * k ≤ j ∧ j < 486 + 6 * k) by omega), if_neg (by omega), if_neg (by omega), if_neg (by omega), if_neg (by omega), if_neg (by omega)]
theorem fgU_0 {A : Nat → Int32} : fgU 0 A = A := by
  funext j
  unfold fgU
  rw [if_neg (by omega), if_neg (by omega), if_neg (by omega), if_neg (by omega), if_neg (by omega)]
/-- the reference, k ships laid as told (X: across, up, goes, climbs) -/
def tlA (n : Nat) (X : Nat → Nat → Int32) (s : Nat) (A : Nat → Int32) : Nat → Int32 := fgA s (if s < n then up1 (up1 (up1 (up1 A s (X 0 s)) (6 + s) (X 1 s)) (12 + s) (X 2 s)) (18 + s) (X 3 s) else A)
def tlU (n : Nat) (X : Nat → Nat → Int32) (k : Nat) (Z : Nat → Int32) : Nat → Int32 := fun j => if j < 24 then (if j % 6 < k ∧ j % 6 < n then X (j / 6) (j % 6) else Z j) else fgU k Z j
theorem tlU_0 {n : Nat} {X : Nat → Nat → Int32} {Z : Nat → Int32} : tlU n X 0 Z = Z := by
  funext j
  unfold tlU
  by_cases h : j < 24
  · rw [if_pos h, if_neg (by omega)]
  · rw [if_neg h, fgU_0]
theorem tlU_s {n k : Nat} {X : Nat → Nat → Int32} {Z : Nat → Int32} (hk : k < 6) : tlA n X k (tlU n X k Z) = tlU n X (k + 1) Z := by
  funext j
  unfold tlA
  by_cases hj : j < 24
  · rw [fg_pt hk, if_neg (by omega), if_neg (by omega), if_neg (by omega), if_neg (by omega), if_neg (by omega)]
    have e1 : tlU n X (k + 1) Z j = if j % 6 < k + 1 ∧ j % 6 < n then X (j / 6) (j % 6) else Z j := by unfold tlU; rw [if_pos hj]
    have e0 : tlU n X k Z j = if j % 6 < k ∧ j % 6 < n then X (j / 6) (j % 6) else Z j := by unfold tlU; rw [if_pos hj]
    rw [e1]
    by_cases hkn : k < n
    · rw [if_pos hkn]
      by_cases h : j % 6 = k
      · rw [if_pos (by omega), h]
        rcases (show j = k ∨ j = 6 + k ∨ j = 12 + k ∨ j = 18 + k by omega) with h | h | h | h
        · rw [up1_n (by omega), up1_n (by omega), up1_n (by omega), h, up1_e, show k / 6 = 0 by omega]
        · rw [up1_n (by omega), up1_n (by omega), h, up1_e, show (6 + k) / 6 = 1 by omega]
        · rw [up1_n (by omega), h, up1_e, show (12 + k) / 6 = 2 by omega]
        · rw [h, up1_e, show (18 + k) / 6 = 3 by omega]
      · rw [up1_n (by omega), up1_n (by omega), up1_n (by omega), up1_n (by omega), e0]
        by_cases h2 : j % 6 < k ∧ j % 6 < n
        · rw [if_pos h2, if_pos (by omega)]
        · rw [if_neg h2, if_neg (by omega)]
    · rw [if_neg hkn, e0]
      by_cases h2 : j % 6 < k ∧ j % 6 < n
      · rw [if_pos h2, if_pos (by omega)]
      · rw [if_neg h2, if_neg (by omega)]
  · have e1 : tlU n X (k + 1) Z j = fgU (k + 1) Z j := by unfold tlU; rw [if_neg hj]
    have e0 : ∀ i, ¬ i < 24 → tlU n X k Z i = fgU k Z i := fun i hi => by unfold tlU; rw [if_neg hi]
    have e2 : (if k < n then up1 (up1 (up1 (up1 (tlU n X k Z) k (X 0 k)) (6 + k) (X 1 k)) (12 + k) (X 2 k)) (18 + k) (X 3 k) else tlU n X k Z) j = fgU k Z j := by
      by_cases hkn : k < n
      · rw [if_pos hkn, up1_n (by omega), up1_n (by omega), up1_n (by omega), up1_n (by omega), e0 j hj]
      · rw [if_neg hkn, e0 j hj]
    rw [e1, ← fgU_s hk, fg_pt hk, fg_pt hk, e2]
/-- the state at the start -/
def stA (n : Nat) (X : Nat → Nat → Int32) (dr : Int32) (Z : Nat → Int32) : Nat → Int32 := up1 (tlU n X 6 Z) 519 dr
theorem WF_st {n m : Nat} {X : Nat → Nat → Int32} {dr : Nat} {Z : Nat → Int32} (hm : 0 < m) (hd : dr < 1000) (hZ : ∀ j, j < 521 → Z j = 0) : WF 1 n m (stA n X (nI dr) Z) := by
  have g : ∀ j, 24 ≤ j → j ≠ 519 → stA n X (nI dr) Z j = fgU 6 Z j := fun j h1 h2 => by
    unfold stA
    rw [up1_n h2]
    unfold tlU
    rw [if_neg (by omega)]
  have o : ∀ s, s < 6 → stA n X (nI dr) Z (24 + s) = nI 0 := fun s hs => by
    rw [g _ (by omega) (by omega)]
    unfold fgU
    rw [if_pos (by omega)]
    rfl
  refine ⟨fun s hs => ⟨0, by omega, o s hs⟩, fun s i hs hi ho => ?_, fun s k hs hk => Or.inl ⟨?_, ?_⟩, ⟨0, hm, ?_⟩, ⟨dr, hd, ?_⟩⟩
  · rw [o s hs, tn_n (by omega)] at ho
    omega
  · rw [g _ (by omega) (by omega)]
    unfold fgU
    rw [if_neg (by omega), if_pos (by omega)]
  · rw [g _ (by omega) (by omega)]
    unfold fgU
    rw [if_neg (by omega), if_neg (by omega), if_pos (by omega)]
  · rw [g _ (by omega) (by omega)]
    unfold fgU
    rw [if_neg (by omega), if_neg (by omega), if_neg (by omega), if_neg (by omega), if_neg (by omega), hZ _ (by omega)]
    rfl
  · unfold stA
    rw [up1_e]
/-- the class's start -/
def ctA (X : Nat → Nat → Int32) (dr : Int32) (B : Nat → Int32) : Nat → Int32 := up1 (up1 (up1 (up1 (up1 (fgU 6 (fun j => if j < 24 then X (j / 6) (j % 6) else B j)) 516 0) 520 0) 517 0) 518 0) 519 dr
theorem LV_st {n : Nat} {X Y : Nat → Nat → Int32} {dr : Int32} {Z B : Nat → Int32} (hn : n ≤ 6) (hZ : ∀ j, j < 521 → Z j = 0) (hX : ∀ r s, r < 4 → s < n → Y r s = X r s) : LV n (ctA Y dr B) (stA n X dr Z) := by
  have gA : ∀ j, 24 ≤ j → j ≠ 519 → stA n X dr Z j = fgU 6 Z j := fun j h1 h2 => by
    unfold stA
    rw [up1_n h2]
    unfold tlU
    rw [if_neg (by omega)]
  have gB : ∀ j, j < 516 → ctA Y dr B j = fgU 6 (fun j => if j < 24 then Y (j / 6) (j % 6) else B j) j := fun j h => by
    unfold ctA
    rw [up1_n (by omega), up1_n (by omega), up1_n (by omega), up1_n (by omega), up1_n (by omega)]
  have gl : ∀ j, j < 24 → j % 6 < n → ctA Y dr B j = stA n X dr Z j := fun j h1 h2 => by
    rw [gB j (by omega)]
    unfold stA fgU
    rw [if_neg (by omega), if_neg (by omega), if_neg (by omega), if_neg (by omega), if_neg (by omega)]
    show (if j < 24 then _ else _) = _
    rw [if_pos h1, up1_n (by omega)]
    unfold tlU
    rw [if_pos h1, if_pos (by omega), hX _ _ (by omega) h2]
  have o : ∀ s, s < 6 → stA n X dr Z (24 + s) = 0 := fun s hs => by
    rw [gA _ (by omega) (by omega)]
    unfold fgU
    rw [if_pos (by omega)]
  refine ⟨fun s hs => ⟨gl _ (by omega) (by omega), gl _ (by omega) (by omega), gl _ (by omega) (by omega), gl _ (by omega) (by omega)⟩, fun s hs => ?_, fun s i hs hi ho => ?_, fun j h1 h2 => ?_⟩
  · rw [o s hs, gB _ (by omega)]
    unfold fgU
    rw [if_pos (by omega)]
  · rw [o s hs] at ho
    exact absurd ho (Nat.not_lt_zero i)
  · by_cases h3 : j < 516
    · rw [gB j h3, gA j (by omega) (by omega)]
      unfold fgU
      rcases (show (84 ≤ j ∧ j < 264) ∨ (264 ≤ j ∧ j < 444) ∨ (444 ≤ j ∧ j < 480) ∨ (480 ≤ j ∧ j < 516) by omega) with c | c | c | c
      · rw [if_neg (by omega), if_pos (show 84 ≤ j ∧ j < 84 + 30 * 6 by omega), if_neg (by omega), if_pos (show 84 ≤ j ∧ j < 84 + 30 * 6 by omega)]
      · rw [if_neg (by omega), if_neg (by omega), if_pos (show 264 ≤ j ∧ j < 264 + 30 * 6 by omega), if_neg (by omega), if_neg (by omega), if_pos (show 264 ≤ j ∧ j < 264 + 30 * 6 by omega)]
      · rw [if_neg (by omega), if_neg (by omega), if_neg (by omega), if_pos (show 444 ≤ j ∧ j < 444 + 6 * 6 by omega), if_neg (by omega), if_neg (by omega), if_neg (by omega), if_pos (show 444 ≤ j ∧ j < 444 + 6 * 6 by omega)]
      · rw [if_neg (by omega), if_neg (by omega), if_neg (by omega), if_neg (by omega), if_pos (show 480 ≤ j ∧ j < 480 + 6 * 6 by omega), if_neg (by omega), if_neg (by omega), if_neg (by omega), if_neg (by omega), if_pos (show 480 ≤ j ∧ j < 480 + 6 * 6 by omega)]
    · have hz : ∀ i, 516 ≤ i → i < 521 → i ≠ 519 → stA n X dr Z i = 0 := fun i a1 a2 a3 => by
        rw [gA _ (by omega) a3]
        unfold fgU
        rw [if_neg (by omega), if_neg (by omega), if_neg (by omega), if_neg (by omega), if_neg (by omega), hZ _ a2]
      rcases (show j = 516 ∨ j = 517 ∨ j = 518 ∨ j = 519 ∨ j = 520 by omega) with rfl | rfl | rfl | rfl | rfl
      · rw [hz _ (by omega) (by omega) (by omega)]
        unfold ctA
        rw [up1_n (by omega), up1_n (by omega), up1_n (by omega), up1_n (by omega), up1_e]
      · rw [hz _ (by omega) (by omega) (by omega)]
        unfold ctA
        rw [up1_n (by omega), up1_n (by omega), up1_e]
      · rw [hz _ (by omega) (by omega) (by omega)]
        unfold ctA
        rw [up1_n (by omega), up1_e]
      · unfold ctA stA
        rw [up1_e, up1_e]
      · rw [hz _ (by omega) (by omega) (by omega)]
        unfold ctA
        rw [up1_n (by omega), up1_n (by omega), up1_n (by omega), up1_e]
/-- a ship forgets: the state stays well-formed, and alike -/
theorem WF_fg {lo n m s : Nat} {A : Nat → Int32} (hs : s < 6) (V : WF lo n m A) : WF lo n m (fgA s A) := by
  obtain ⟨v1, v2, v3, v4, v5⟩ := V
  have gn : ∀ j, (j < 84 ∨ 516 ≤ j) → j ≠ 24 + s → fgA s A j = A j := fun j h1 h2 => by
    rw [fg_pt hs, if_neg h2, if_neg (by omega), if_neg (by omega), if_neg (by omega), if_neg (by omega)]
  refine ⟨fun s' hs' => ?_, fun s' i hs' hi ho => ?_, fun s' k hs' hk => ?_, ?_, ?_⟩
  · by_cases h : s' = s
    · subst h
      rw [fg_pt hs, if_pos rfl]
      exact ⟨0, by omega, rfl⟩
    · rw [gn _ (by omega) (by omega)]; exact v1 s' hs'
  · by_cases h : s' = s
    · subst h
      rw [fg_pt hs, if_pos rfl] at ho
      exact absurd ho (Nat.not_lt_zero i)
    · rw [gn _ (by omega) (by omega)] at ho
      rw [gn _ (by omega) (by omega), gn _ (by omega) (by omega)]
      exact v2 s' i hs' hi ho
  · by_cases h : s' = s
    · subst h
      left
      rw [fg_pt hs, fg_pt hs, if_neg (by omega), if_pos (by omega), if_neg (by omega), if_neg (by omega), if_pos (by omega)]
      exact ⟨rfl, rfl⟩
    · have e1 : fgA s A (84 + 30 * s' + k) = A (84 + 30 * s' + k) := by rw [fg_pt hs, if_neg (by omega), if_neg (by omega), if_neg (by omega), if_neg (by omega), if_neg (by omega)]
      have e2 : fgA s A (264 + 30 * s' + k) = A (264 + 30 * s' + k) := by rw [fg_pt hs, if_neg (by omega), if_neg (by omega), if_neg (by omega), if_neg (by omega), if_neg (by omega)]
      rw [e1, e2]
      exact v3 s' k hs' hk
  · rw [gn _ (by omega) (by omega)]; exact v4
  · rw [gn _ (by omega) (by omega)]; exact v5
theorem LV_fg {n s : Nat} {B A : Nat → Int32} (hs : s < 6) (hn : n ≤ 6) (L : LV n B A) : LV n (fgA s B) (fgA s A) := by
  obtain ⟨l1, l2, l3, l4⟩ := L
  have g : ∀ j, B j = A j → fgA s B j = fgA s A j := fun j h => by rw [fg_pt hs, fg_pt hs, h]
  refine ⟨fun s' hs' => ?_, fun s' hs' => g _ (l2 s' hs'), fun s' i hs' hi ho => ?_, fun j h1 h2 => g _ (l4 j h1 h2)⟩
  · obtain ⟨a1, a2, a3, a4⟩ := l1 s' hs'
    exact ⟨g _ a1, g _ a2, g _ a3, g _ a4⟩
  · have ho2 : i < tn (A (24 + s')) := by
      by_cases h : s' = s
      · subst h
        rw [fg_pt hs, if_pos rfl] at ho
        exact absurd ho (Nat.not_lt_zero i)
      · rw [fg_pt hs, if_neg (by omega), if_neg (by omega), if_neg (by omega), if_neg (by omega), if_neg (by omega)] at ho
        exact ho
    obtain ⟨a1, a2, a3⟩ := l3 s' i hs' hi ho2
    exact ⟨g _ a1, g _ a2, g _ a3⟩
