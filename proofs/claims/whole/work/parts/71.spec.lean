/-! a step, as a function of the 521 ints -/
def m100 (x : Int32) : Int32 := x - x / 100 * 100
/-- the first k ships moved on -/
def mvA (k : Nat) (A : Nat → Int32) : Nat → Int32 := fun j => if j < k ∨ (6 ≤ j ∧ j < 6 + k) then m100 (A j + A (12 + j)) else A j
/-- the first k entries of maps aged -/
def agA (k : Nat) (A : Nat → Int32) : Nat → Int32 := fun j => if 84 ≤ j ∧ j < 84 + k then (if A (180 + j) = 1 then -1 else A j) else if 264 ≤ j ∧ j < 264 + k then (if A j = 0 then 0 else A j - 1) else A j
def owA (A : Nat → Int32) (s i : Nat) (t l f : Int32) : Nat → Int32 := up1 (up1 (up1 A (30 + 3 * s + i) t) (48 + 3 * s + i) l) (66 + 3 * s + i) f
section SP
variable (P : Nat → Nat) (on fo : Nat → Int32) (len : Nat)
/-- a choice round a slot -/
def ckA (A : Nat → Int32) (s slot : Nat) : Option Nat := chS A s (wP (P 1) (P 3) slot) (wN (P 1) (P 3)) (P 4)
/-- more slots as long as there are fewer than rt -/
def flA (s rt : Nat) : Nat → (Nat → Int32) → Nat → Int32
  | 0, A => A
  | f + 1, A => if rt ≤ tn (A (24 + s)) then A else
      match ckA P (if tn (A (24 + s)) = 0 then drA A else A) s (if tn (A (24 + s)) = 0 then tn (seedS (A 519)) % P 1 else (tn (A (30 + 3 * s)) + tn (A (24 + s)) * (P 1 / rt)) % P 1) with
      | none => if tn (A (24 + s)) = 0 then drA A else A
      | some t => flA s rt f (up1 (owA (drA (drA (if tn (A (24 + s)) = 0 then drA A else A))) s (tn (A (24 + s))) (nI t) (nI (lfS (drA (if tn (A (24 + s)) = 0 then drA A else A)) (P 5))) (A 517)) (24 + s) (nI (tn (A (24 + s)) + 1)))
def skA (s : Nat) (A : Nat → Int32) : Nat → Int32 := flA P s (rtS A s (P 1) fo len) 3 (if rtS A s (P 1) fo len < tn (A (24 + s)) then up1 A (24 + s) (nI (rtS A s (P 1) fo len)) else A)
def bgA (A : Nat → Int32) : Nat → Int32 := zf (fun s A => if onA A on s ∧ on s < A 517 then skA P fo len s A else A) 0 (P 0) (if 0 < A 517 then agA 180 (mvA (P 0) A) else A)
/-- which of its own is due -/
def duA (A : Nat → Int32) (s : Nat) : Nat → Nat → Option Nat
  | 0, _ => none
  | f + 1, i => if A (30 + 3 * s + i) = A 518 ∧ A (66 + 3 * s + i) ≤ A 517 then some i else duA A s f (i + 1)
/-- the state behind a report but for the last draw -/
def rpA (s i : Nat) (A : Nat → Int32) : Nat → Int32 :=
  if A (48 + 3 * s + i) - 1 = 0 then
    match ckA P (up1 A (48 + 3 * s + i) (A (48 + 3 * s + i) - 1)) s (tn (A 518)) with
    | none => up1 (drA A) (48 + 3 * s + i) (nI (lfS A (P 5)))
    | some t => owA (drA (drA A)) s i (nI t) (nI (lfS (drA A) (P 5))) (A 517 + 1)
  else up1 A (48 + 3 * s + i) (A (48 + 3 * s + i) - 1)
/-- state, who reports, who fades, slots and lefts told -/
abbrev ZR : Type := (Nat → Int32) × Nat × Nat × (Nat → Int32) × (Nat → Int32)
def raA (s : Nat) (r : ZR) : ZR :=
  if onA r.1 on s then
    match duA r.1 s (tn (r.1 (24 + s))) 0 with
    | none => r
    | some i => (drA (rpA P s i r.1), r.2.1 ||| 2 ^ s, (if m100 (seedS (rpA P s i r.1 519)) < nI (P 6) then r.2.2.1 ||| 2 ^ s else r.2.2.1), up1 r.2.2.2.1 s (rpA P s i r.1 (30 + 3 * s + i)), up1 r.2.2.2.2 s (rpA P s i r.1 (48 + 3 * s + i)))
  else r
/-- how many of those who report are heard, and the last of them -/
def hdA (A : Nat → Int32) (s rep : Nat) : Nat × Nat := zf (fun o r => if rep.testBit o ∧ farS A s o ≤ nI (P 2) then (r.1 + 1, o) else r) 0 (P 0) (0, 0)
def hrA (s o : Nat) (sl le : Int32) (A : Nat → Int32) : Nat → Int32 := up1 (up1 (up1 (up1 (up1 (up1 A (84 + 30 * s + tn (A 518)) (-1)) (264 + 30 * s + tn (A 518)) 0) (84 + 30 * s + tn sl) (nI o)) (264 + 30 * s + tn sl) (le + 1)) (444 + 6 * s + o) (A o)) (480 + 6 * s + o) (A (6 + o))
def liA (rep fad : Nat) (ns le : Nat → Int32) (s : Nat) (A : Nat → Int32) : Nat → Int32 :=
  if onA A on s ∧ rep.testBit s = false then
    (if 1 < (hdA P A s rep).1 then up1 A 520 (A 520 + 1) else if (hdA P A s rep).1 = 1 ∧ fad.testBit (hdA P A s rep).2 = false then hrA s (hdA P A s rep).2 (ns (hdA P A s rep).2) (le (hdA P A s rep).2) A else A)
  else A
def noA (A : Nat → Int32) : Nat → Int32 := if tn (A 518) + 1 = P 1 then up1 (up1 A 518 0) 517 (A 517 + 1) else up1 A 518 (nI (tn (A 518) + 1))
def rsA (A : Nat → Int32) : ZR := zf (raA P on) 0 (P 0) ((if A 518 = 0 then bgA P on fo len A else A), 0, 0, (fun _ => 0), (fun _ => 0))
def goA (A : Nat → Int32) : (Nat → Int32) × Nat := (noA P (zf (liA P on (rsA P on fo len A).2.1 (rsA P on fo len A).2.2.1 (rsA P on fo len A).2.2.2.1 (rsA P on fo len A).2.2.2.2) 0 (P 0) (rsA P on fo len A).1), (rsA P on fo len A).2.1)
end SP
/-! they keep a state well-formed -/
theorem WF_lo {lo : Nat} {n m : Nat} {A A' : Nat → Int32} (h : ∀ k, 24 ≤ k → k < 520 → A' k = A k) (V : WF lo n m A) : WF lo n m A' := by
  obtain ⟨v1, v2, v3, v4, v5⟩ := V
  refine ⟨fun s hs => ?_, fun s i hs hi ho => ?_, fun s j hs hj => ?_, ?_, ?_⟩
  · rw [h _ (by omega) (by omega)]; exact v1 s hs
  · rw [h _ (by omega) (by omega)] at ho
    rw [h _ (by omega) (by omega), h _ (by omega) (by omega)]
    exact v2 s i hs hi ho
  · rw [h _ (by omega) (by omega), h _ (by omega) (by omega)]
    exact v3 s j hs hj
  · rw [h _ (by omega) (by omega)]; exact v4
  · rw [h _ (by omega) (by omega)]; exact v5
theorem nI_n1 {y : Nat} (h : y ≠ 1) (hy : y < 2 ^ 31) : ¬ nI y = 1 := fun z => h ((nI_eq hy (show 1 < 2 ^ 31 by decide)).mp z)
theorem WF_mv {lo : Nat} {n m k : Nat} {A : Nat → Int32} (hk : k ≤ 6) (V : WF lo n m A) : WF lo n m (mvA k A) := WF_lo (fun j h1 h2 => by unfold mvA; rw [if_neg (by omega)]) V
theorem WF_ag {lo : Nat} {n m : Nat} {A : Nat → Int32} (V : WF lo n m A) (hn : n ≤ 6) : WF lo n m (agA 180 A) := by
  obtain ⟨v1, v2, v3, v4, v5⟩ := V
  have hlo : ∀ j, ¬ (84 ≤ j ∧ j < 444) → agA 180 A j = A j := fun j hj => by unfold agA; rw [if_neg (by omega), if_neg (by omega)]
  refine ⟨fun s hs => ?_, fun s i hs hi ho => ?_, fun s j hs hj => ?_, ?_, ?_⟩
  · rw [hlo _ (by omega)]; exact v1 s hs
  · rw [hlo _ (by omega)] at ho
    rw [hlo _ (by omega), hlo _ (by omega)]
    exact v2 s i hs hi ho
  · have e1 : agA 180 A (84 + 30 * s + j) = if A (264 + 30 * s + j) = 1 then -1 else A (84 + 30 * s + j) := by
      unfold agA
      rw [if_pos (by omega), show 180 + (84 + 30 * s + j) = 264 + 30 * s + j by omega]
    have e2 : agA 180 A (264 + 30 * s + j) = if A (264 + 30 * s + j) = 0 then 0 else A (264 + 30 * s + j) - 1 := by
      unfold agA
      rw [if_neg (by omega), if_pos (by omega)]
    rw [e1, e2]
    rcases v3 s j hs hj with ⟨h1, h2⟩ | ⟨o, y, h1, h2, h3, h4, h5, h6⟩
    · left
      rw [h1, h2, if_neg (by decide), if_pos rfl]
      exact ⟨rfl, rfl⟩
    · rw [h5, h6, if_neg (nI_ne0 (by omega) (by omega))]
      by_cases hy : y = 1
      · left
        subst hy
        exact ⟨if_pos (show nI 1 = 1 from rfl), rfl⟩
      · right
        rw [if_neg (nI_n1 hy (by omega))]
        exact ⟨o, y - 1, h1, h2, by omega, by omega, rfl, by rw [nl_1, pk_sub (by omega)]⟩
  · rw [hlo _ (by omega)]; exact v4
  · rw [hlo _ (by omega)]; exact v5
/-- fewer are owned -/
theorem WF_cut {lo : Nat} {n m : Nat} {A : Nat → Int32} (V : WF lo n m A) {s r : Nat} (hs : s < 6) (hr : r ≤ tn (A (24 + s))) : WF lo n m (up1 A (24 + s) (nI r)) := by
  have h3 := WF_own V hs
  obtain ⟨v1, v2, v3, v4, v5⟩ := V
  refine ⟨fun s' hs' => ?_, fun s' i hs' hi ho => ?_, fun s' j hs' hj => ?_, ?_, ?_⟩
  · by_cases h : s' = s
    · subst h; rw [up1_e]; exact ⟨r, by omega, rfl⟩
    · rw [up1_n (by omega)]; exact v1 s' hs'
  · rw [up1_n (show 30 + 3 * s' + i ≠ 24 + s by omega), up1_n (show 48 + 3 * s' + i ≠ 24 + s by omega)]
    by_cases h : s' = s
    · subst h
      rw [up1_e, tn_n (by omega)] at ho
      exact v2 s' i hs' hi (by omega)
    · rw [up1_n (by omega)] at ho
      exact v2 s' i hs' hi ho
  · rw [up1_n (show 84 + 30 * s' + j ≠ 24 + s by omega), up1_n (show 264 + 30 * s' + j ≠ 24 + s by omega)]
    exact v3 s' j hs' hj
  · rw [up1_n (by omega)]; exact v4
  · rw [up1_n (by omega)]; exact v5
theorem owA_n {A : Nat → Int32} {s i : Nat} {t l f : Int32} {j : Nat} (h1 : j ≠ 30 + 3 * s + i) (h2 : j ≠ 48 + 3 * s + i) (h3 : j ≠ 66 + 3 * s + i) : owA A s i t l f j = A j := by
  unfold owA
  rw [up1_n h3, up1_n h2, up1_n h1]
theorem owA_1 {A : Nat → Int32} {s i : Nat} {t l f : Int32} (hs : s < 6) (hi : i < 3) : owA A s i t l f (30 + 3 * s + i) = t := by
  unfold owA
  rw [up1_n (by omega), up1_n (by omega), up1_e]
theorem owA_2 {A : Nat → Int32} {s i : Nat} {t l f : Int32} (hs : s < 6) (hi : i < 3) : owA A s i t l f (48 + 3 * s + i) = l := by
  unfold owA
  rw [up1_n (by omega), up1_e]
theorem owA_3 {A : Nat → Int32} {s i : Nat} {t l f : Int32} : owA A s i t l f (66 + 3 * s + i) = f := by
  unfold owA
  rw [up1_e]
/-- one of its own anew -/
theorem WF_ow {lo : Nat} {n m : Nat} {A : Nat → Int32} (V : WF lo n m A) {s i t l : Nat} {f : Int32} (hs : s < 6) (hi : i < 3) (ht : t < m) (hl : lo ≤ l ∧ l ≤ 7) : WF lo n m (owA A s i (nI t) (nI l) f) := by
  obtain ⟨v1, v2, v3, v4, v5⟩ := V
  refine ⟨fun s' hs' => ?_, fun s' i' hs' hi' ho => ?_, fun s' j hs' hj => ?_, ?_, ?_⟩
  · rw [owA_n (by omega) (by omega) (by omega)]; exact v1 s' hs'
  · rw [owA_n (by omega) (by omega) (by omega)] at ho
    by_cases h : s' = s ∧ i' = i
    · obtain ⟨rfl, rfl⟩ := h
      rw [owA_1 hs hi, owA_2 hs hi]
      exact ⟨⟨t, ht, rfl⟩, l, hl.1, hl.2, rfl⟩
    · rw [owA_n (by omega) (by omega) (by omega), owA_n (by omega) (by omega) (by omega)]
      exact v2 s' i' hs' hi' ho
  · rw [owA_n (by omega) (by omega) (by omega), owA_n (by omega) (by omega) (by omega)]
    exact v3 s' j hs' hj
  · rw [owA_n (by omega) (by omega) (by omega)]; exact v4
  · rw [owA_n (by omega) (by omega) (by omega)]; exact v5
theorem WF_add {lo : Nat} {n m : Nat} {A : Nat → Int32} (V : WF lo n m A) {s t l : Nat} {f : Int32} (hs : s < 6) (hi : tn (A (24 + s)) < 3) (ht : t < m) (hl : lo ≤ l ∧ l ≤ 7) : WF lo n m (up1 (owA A s (tn (A (24 + s))) (nI t) (nI l) f) (24 + s) (nI (tn (A (24 + s)) + 1))) := by
  have V2 := WF_ow (f := f) V hs hi ht hl
  obtain ⟨v1, v2, v3, v4, v5⟩ := V2
  refine ⟨fun s' hs' => ?_, fun s' i hs' hi' ho => ?_, fun s' j hs' hj => ?_, ?_, ?_⟩
  · by_cases h : s' = s
    · subst h; rw [up1_e]; exact ⟨_, by omega, rfl⟩
    · rw [up1_n (by omega)]; exact v1 s' hs'
  · rw [up1_n (show 30 + 3 * s' + i ≠ 24 + s by omega), up1_n (show 48 + 3 * s' + i ≠ 24 + s by omega)]
    by_cases h : s' = s
    · subst h
      rw [up1_e, tn_n (by omega)] at ho
      by_cases h2 : i = tn (A (24 + s'))
      · subst h2
        rw [owA_1 hs hi, owA_2 hs hi]
        exact ⟨⟨t, ht, rfl⟩, l, hl.1, hl.2, rfl⟩
      · refine v2 s' i hs' hi' ?_
        rw [owA_n (by omega) (by omega) (by omega)]
        omega
    · rw [up1_n (by omega)] at ho
      exact v2 s' i hs' hi' ho
  · rw [up1_n (show 84 + 30 * s' + j ≠ 24 + s by omega), up1_n (show 264 + 30 * s' + j ≠ 24 + s by omega)]
    exact v3 s' j hs' hj
  · rw [up1_n (by omega)]; exact v4
  · rw [up1_n (by omega)]; exact v5
theorem ck_lt {P : Nat → Nat} (W : PW P) {A : Nat → Int32} {s slot t : Nat} (h : ckA P A s slot = some t) : t < P 1 := by
  have hm := W.2.1
  have hm2 := W.2.2.1
  obtain ⟨i, -, e⟩ := chS_in (fun i _ => Nat.lt_of_lt_of_le (wP_lt (m := P 1) (wd := P 3) (slot := slot) (i := i) (by omega)) hm2) h
  rw [e]
  exact wP_lt (by omega)
theorem drA_n {A : Nat → Int32} {j : Nat} (h : j ≠ 519) : drA A j = A j := up1_n h
theorem WF_fl {P : Nat → Nat} (W : PW P) {s rt : Nat} (hs : s < 6) (hr : rt ≤ 3) : ∀ f A, WF 1 (P 0) (P 1) A → WF 1 (P 0) (P 1) (flA P s rt f A) := by
  have w5 : 1 ≤ P 5 ∧ P 5 ≤ 7 := ⟨W.2.2.2.2.2.2.2.1, W.2.2.2.2.2.2.2.2.1⟩
  intro f
  induction f with
  | zero => intro A V; exact V
  | succ f ih =>
    intro A V
    rw [flA]
    by_cases h1 : rt ≤ tn (A (24 + s))
    · rw [if_pos h1]; exact V
    · rw [if_neg h1]
      have V1 : WF 1 (P 0) (P 1) (if tn (A (24 + s)) = 0 then drA A else A) := by
        by_cases h0 : tn (A (24 + s)) = 0
        · rw [if_pos h0]; exact WF_dr V
        · rw [if_neg h0]; exact V
      have e0 : (if tn (A (24 + s)) = 0 then drA A else A) (24 + s) = A (24 + s) := by
        by_cases h0 : tn (A (24 + s)) = 0
        · rw [if_pos h0, drA_n (by omega)]
        · rw [if_neg h0]
      generalize (if tn (A (24 + s)) = 0 then drA A else A) = A1 at *
      generalize (if tn (A (24 + s)) = 0 then tn (seedS (A 519)) % P 1 else (tn (A (30 + 3 * s)) + tn (A (24 + s)) * (P 1 / rt)) % P 1) = base at *
      cases hc : ckA P A1 s base with
      | none => exact V1
      | some t =>
        apply ih
        have ht := ck_lt W hc
        have V2 := WF_dr (WF_dr V1)
        have e1 : drA (drA A1) (24 + s) = A (24 + s) := by rw [drA_n (by omega), drA_n (by omega), e0]
        have := WF_add (t := t) (l := lfS (drA A1) (P 5)) (f := A 517) V2 hs (by rw [e1]; omega) ht (lfS_le w5.1 w5.2)
        rw [e1] at this
        exact this
theorem rtS_le {A : Nat → Int32} {s m len : Nat} {fo : Nat → Int32} : 1 ≤ rtS A s m fo len ∧ rtS A s m fo len ≤ 3 := (rt_n _).2
theorem WF_sk {P : Nat → Nat} {fo : Nat → Int32} {len : Nat} (W : PW P) {s : Nat} (hs : s < 6) {A : Nat → Int32} (V : WF 1 (P 0) (P 1) A) : WF 1 (P 0) (P 1) (skA P fo len s A) := by
  unfold skA
  apply WF_fl W hs rtS_le.2
  by_cases h : rtS A s (P 1) fo len < tn (A (24 + s))
  · rw [if_pos h]; exact WF_cut V hs (by omega)
  · rw [if_neg h]; exact V
theorem WF_bg0 {P : Nat → Nat} (W : PW P) {A : Nat → Int32} (V : WF 1 (P 0) (P 1) A) : WF 1 (P 0) (P 1) (if 0 < A 517 then agA 180 (mvA (P 0) A) else A) := by
  by_cases h : 0 < A 517
  · rw [if_pos h]; exact WF_ag (WF_mv W.1 V) W.1
  · rw [if_neg h]; exact V
theorem WF_bgk {P : Nat → Nat} {on fo : Nat → Int32} {len : Nat} (W : PW P) : ∀ m k A, k + m ≤ 6 → WF 1 (P 0) (P 1) A → WF 1 (P 0) (P 1) (zf (fun s A => if onA A on s ∧ on s < A 517 then skA P fo len s A else A) k m A) := by
  intro m
  induction m with
  | zero => intro k A _ V; exact V
  | succ m ih =>
    intro k A hk V
    rw [zf]
    apply ih (k + 1) _ (by omega)
    by_cases h : onA A on k = true ∧ on k < A 517
    · rw [if_pos h]; exact WF_sk W (by omega) V
    · rw [if_neg h]; exact V
theorem WF_bg {P : Nat → Nat} {on fo : Nat → Int32} {len : Nat} (W : PW P) {A : Nat → Int32} (V : WF 1 (P 0) (P 1) A) : WF 1 (P 0) (P 1) (bgA P on fo len A) := WF_bgk W (P 0) 0 _ (by have := W.1; omega) (WF_bg0 W V)
theorem du_in {A : Nat → Int32} {s : Nat} : ∀ f i k, duA A s f i = some k → i ≤ k ∧ k < i + f ∧ A (30 + 3 * s + k) = A 518 ∧ A (66 + 3 * s + k) ≤ A 517 := by
  intro f
  induction f with
  | zero => intro i k h; cases h
  | succ f ih =>
    intro i k h
    rw [duA] at h
    by_cases hc : A (30 + 3 * s + i) = A 518 ∧ A (66 + 3 * s + i) ≤ A 517
    · rw [if_pos hc] at h
      have := Option.some.inj h
      subst this
      exact ⟨Nat.le_refl _, by omega, hc⟩
    · rw [if_neg hc] at h
      obtain ⟨h1, h2, h3⟩ := ih (i + 1) k h
      exact ⟨by omega, by omega, h3⟩
theorem WF_le {lo : Nat} {n m : Nat} {A : Nat → Int32} (V : WF lo n m A) {s i l : Nat} (hs : s < 6) (hi : i < 3) (hl : lo ≤ l ∧ l ≤ 7) : WF lo n m (up1 A (48 + 3 * s + i) (nI l)) := by
  obtain ⟨v1, v2, v3, v4, v5⟩ := V
  refine ⟨fun s' hs' => ?_, fun s' i' hs' hi' ho => ?_, fun s' j hs' hj => ?_, ?_, ?_⟩
  · rw [up1_n (by omega)]; exact v1 s' hs'
  · rw [up1_n (by omega)] at ho
    rw [up1_n (show 30 + 3 * s' + i' ≠ 48 + 3 * s + i by omega)]
    refine ⟨(v2 s' i' hs' hi' ho).1, ?_⟩
    by_cases h : 48 + 3 * s' + i' = 48 + 3 * s + i
    · rw [h, up1_e]; exact ⟨l, hl.1, hl.2, rfl⟩
    · rw [up1_n h]; exact (v2 s' i' hs' hi' ho).2
  · rw [up1_n (by omega), up1_n (by omega)]; exact v3 s' j hs' hj
  · rw [up1_n (by omega)]; exact v4
  · rw [up1_n (by omega)]; exact v5
theorem WF_01 {n m : Nat} {A : Nat → Int32} (V : WF 1 n m A) : WF 0 n m A := ⟨V.1, fun s i hs hi ho => ⟨(V.2.1 s i hs hi ho).1, by obtain ⟨l, -, h2, h3⟩ := (V.2.1 s i hs hi ho).2; exact ⟨l, Nat.zero_le _, h2, h3⟩⟩, V.2.2⟩
theorem WF_rp {P : Nat → Nat} (W : PW P) {A : Nat → Int32} (V : WF 1 (P 0) (P 1) A) {s i : Nat} (hs : s < 6) (hi : i < tn (A (24 + s))) : WF 1 (P 0) (P 1) (rpA P s i A) := by
  have w5 : 1 ≤ P 5 ∧ P 5 ≤ 7 := ⟨W.2.2.2.2.2.2.2.1, W.2.2.2.2.2.2.2.2.1⟩
  have h3 := (WF_own V hs).2
  obtain ⟨-, l, l1, l2, l3⟩ := V.2.1 s i hs (by omega) hi
  have el : A (48 + 3 * s + i) - 1 = nI (l - 1) := by rw [l3, nl_1, pk_sub l1]
  unfold rpA
  by_cases h0 : A (48 + 3 * s + i) - 1 = 0
  · rw [if_pos h0]
    cases hc : ckA P (up1 A (48 + 3 * s + i) (A (48 + 3 * s + i) - 1)) s (tn (A 518)) with
    | none => exact WF_le (WF_dr V) hs (by omega) (lfS_le w5.1 w5.2)
    | some t => exact WF_ow (WF_dr (WF_dr V)) hs (by omega) (ck_lt W hc) (lfS_le w5.1 w5.2)
  · rw [if_neg h0, el]
    have : l ≠ 1 := fun z => by rw [el, z] at h0; exact h0 rfl
    exact WF_le V hs (by omega) ⟨by omega, by omega⟩
theorem rp_n {P : Nat → Nat} {A : Nat → Int32} {s i j : Nat} (h1 : j ≠ 30 + 3 * s + i) (h2 : j ≠ 48 + 3 * s + i) (h3 : j ≠ 66 + 3 * s + i) (h4 : j ≠ 519) : rpA P s i A j = A j := by
  unfold rpA
  by_cases h0 : A (48 + 3 * s + i) - 1 = 0
  · rw [if_pos h0]
    cases ckA P (up1 A (48 + 3 * s + i) (A (48 + 3 * s + i) - 1)) s (tn (A 518)) with
    | none => show up1 (drA A) _ _ j = _; rw [up1_n h2, drA_n h4]
    | some t => show owA _ _ _ _ _ _ j = _; rw [owA_n h1 h2 h3, drA_n h4, drA_n h4]
  · rw [if_neg h0, up1_n h2]
/-- what holds while ships report -/
def RI (P : Nat → Nat) (k : Nat) (r : ZR) : Prop := WF 1 (P 0) (P 1) r.1 ∧ r.2.1 < 2 ^ k ∧ r.2.2.1 < 2 ^ k ∧ ∀ s, r.2.1.testBit s = true → (∃ t, t < P 1 ∧ r.2.2.2.1 s = nI t) ∧ ∃ l, 1 ≤ l ∧ l ≤ 7 ∧ r.2.2.2.2 s = nI l
theorem RI_s {P : Nat → Nat} {on : Nat → Int32} (W : PW P) {k : Nat} {r : ZR} (hk : k < 6) (h : RI P k r) : RI P (k + 1) (raA P on k r) := by
  obtain ⟨V, h1, h2, h3⟩ := h
  have hp : (2 : Nat) ^ k ≤ 2 ^ (k + 1) := Nat.pow_le_pow_right (by decide) (by omega)
  have hpk : (2 : Nat) ^ k < 2 ^ (k + 1) := pow_lt (by omega)
  unfold raA
  by_cases ho : onA r.1 on k = true
  · rw [if_pos ho]
    cases hd : duA r.1 k (tn (r.1 (24 + k))) 0 with
    | none => exact ⟨V, Nat.lt_of_lt_of_le h1 hp, Nat.lt_of_lt_of_le h2 hp, h3⟩
    | some i =>
      obtain ⟨-, d2, -⟩ := du_in _ _ _ hd
      rw [Nat.zero_add] at d2
      have V2 := WF_rp W V hk d2
      have hown := (WF_own V hk).2
      refine ⟨WF_dr V2, or_lt (Nat.lt_of_lt_of_le h1 hp) hpk, ?_, fun s hs => ?_⟩
      · show (if _ then _ else _) < _
        by_cases hm : m100 (seedS (rpA P k i r.1 519)) < nI (P 6)
        · rw [if_pos hm]; exact or_lt (Nat.lt_of_lt_of_le h2 hp) hpk
        · rw [if_neg hm]; exact Nat.lt_of_lt_of_le h2 hp
      · show (∃ t, t < P 1 ∧ up1 r.2.2.2.1 k _ s = nI t) ∧ ∃ l, 1 ≤ l ∧ l ≤ 7 ∧ up1 r.2.2.2.2 k _ s = nI l
        by_cases hsk : s = k
        · subst hsk
          rw [up1_e, up1_e]
          have e : rpA P s i r.1 (24 + s) = r.1 (24 + s) := rp_n (by omega) (by omega) (by omega) (by omega)
          exact V2.2.1 s i hk (by omega) (by rw [e]; exact d2)
        · rw [up1_n hsk, up1_n hsk]
          apply h3
          have hs2 : (r.2.1 ||| 2 ^ k).testBit s = true := hs
          rw [Nat.testBit_or, Nat.testBit_two_pow, show decide (k = s) = false from decide_eq_false (fun z => hsk z.symm), Bool.or_false] at hs2
          exact hs2
  · rw [if_neg ho]
    exact ⟨V, Nat.lt_of_lt_of_le h1 hp, Nat.lt_of_lt_of_le h2 hp, h3⟩
theorem RI_k {P : Nat → Nat} {on : Nat → Int32} (W : PW P) : ∀ m k r, k + m ≤ 6 → RI P k r → RI P (k + m) (zf (raA P on) k m r) := by
  intro m
  induction m with
  | zero => intro k r _ h; exact h
  | succ m ih =>
    intro k r hk h
    rw [zf, show k + (m + 1) = k + 1 + m by omega]
    exact ih (k + 1) _ (by omega) (RI_s W (by omega) h)
theorem RI_0 {P : Nat → Nat} {on fo : Nat → Int32} {len : Nat} (W : PW P) {A : Nat → Int32} (V : WF 1 (P 0) (P 1) A) : RI P 0 ((if A 518 = 0 then bgA P on fo len A else A), 0, 0, (fun _ => 0), (fun _ => 0)) := by
  refine ⟨?_, (show 0 < 2 ^ 0 by decide), (show 0 < 2 ^ 0 by decide), fun s hs => ?_⟩
  · show WF 1 (P 0) (P 1) (if _ then _ else _)
    by_cases h : A 518 = 0
    · rw [if_pos h]; exact WF_bg W V
    · rw [if_neg h]; exact V
  · exact absurd hs (by simp)
theorem RI_rs {P : Nat → Nat} {on fo : Nat → Int32} {len : Nat} (W : PW P) {A : Nat → Int32} (V : WF 1 (P 0) (P 1) A) : RI P (P 0) (rsA P on fo len A) := by
  have := RI_k (on := on) W (P 0) 0 _ (by have := W.1; omega) (RI_0 (on := on) (fo := fo) (len := len) W V)
  rw [Nat.zero_add] at this
  exact this
/-- an entry of a map anew -/
theorem WF_en {lo n m : Nat} {A : Nat → Int32} (V : WF lo n m A) {s k : Nat} (hs : s < 6) (hk : k < 30) {u v : Int32} (h : (u = -1 ∧ v = 0) ∨ ∃ o y, o < n ∧ o ≠ s ∧ 1 ≤ y ∧ y ≤ 8 ∧ u = nI o ∧ v = nI y) : WF lo n m (up1 (up1 A (84 + 30 * s + k) u) (264 + 30 * s + k) v) := by
  obtain ⟨v1, v2, v3, v4, v5⟩ := V
  refine ⟨fun s' hs' => ?_, fun s' i hs' hi ho => ?_, fun s' j hs' hj => ?_, ?_, ?_⟩
  · rw [up1_n (by omega), up1_n (by omega)]; exact v1 s' hs'
  · rw [up1_n (by omega), up1_n (by omega)] at ho
    rw [up1_n (show 30 + 3 * s' + i ≠ 264 + 30 * s + k by omega), up1_n (show 30 + 3 * s' + i ≠ 84 + 30 * s + k by omega), up1_n (show 48 + 3 * s' + i ≠ 264 + 30 * s + k by omega), up1_n (show 48 + 3 * s' + i ≠ 84 + 30 * s + k by omega)]
    exact v2 s' i hs' hi ho
  · by_cases h2 : s' = s ∧ j = k
    · obtain ⟨rfl, rfl⟩ := h2
      rw [up1_n (show 84 + 30 * s' + j ≠ 264 + 30 * s' + j by omega), up1_e, up1_e]
      exact h
    · rw [up1_n (show 84 + 30 * s' + j ≠ 264 + 30 * s + k by omega), up1_n (show 84 + 30 * s' + j ≠ 84 + 30 * s + k by omega), up1_n (show 264 + 30 * s' + j ≠ 264 + 30 * s + k by omega), up1_n (show 264 + 30 * s' + j ≠ 84 + 30 * s + k by omega)]
      exact v3 s' j hs' hj
  · rw [up1_n (by omega), up1_n (by omega)]; exact v4
  · rw [up1_n (by omega), up1_n (by omega)]; exact v5
theorem WF_kn {lo n m : Nat} {A : Nat → Int32} (V : WF lo n m A) {k : Nat} {u : Int32} (h1 : 444 ≤ k) (h2 : k < 516) : WF lo n m (up1 A k u) := by
  obtain ⟨v1, v2, v3, v4, v5⟩ := V
  refine ⟨fun s' hs' => ?_, fun s' i hs' hi ho => ?_, fun s' j hs' hj => ?_, ?_, ?_⟩
  · rw [up1_n (by omega)]; exact v1 s' hs'
  · rw [up1_n (by omega)] at ho
    rw [up1_n (by omega), up1_n (by omega)]; exact v2 s' i hs' hi ho
  · rw [up1_n (by omega), up1_n (by omega)]; exact v3 s' j hs' hj
  · rw [up1_n (by omega)]; exact v4
  · rw [up1_n (by omega)]; exact v5
theorem hd_in {P : Nat → Nat} {A : Nat → Int32} {s rep : Nat} : 0 < (hdA P A s rep).1 → (hdA P A s rep).2 < P 0 ∧ rep.testBit (hdA P A s rep).2 = true := by
  refine zf_I (fun _ (r : Nat × Nat) => 0 < r.1 → r.2 < P 0 ∧ rep.testBit r.2 = true) (P 0) ?_ (P 0) 0 (0, 0) (by omega) (fun h => absurd h (Nat.lt_irrefl 0))
  intro k r hk hI
  by_cases h : rep.testBit k = true ∧ farS A s k ≤ nI (P 2)
  · rw [if_pos h]; exact fun _ => ⟨hk, h.1⟩
  · rw [if_neg h]; exact hI
theorem WF_hr {P : Nat → Nat} (W : PW P) {A : Nat → Int32} (V : WF 1 (P 0) (P 1) A) {s o t l : Nat} (hs : s < 6) (ho : o < P 0) (hos : o ≠ s) (ht : t < P 1) (hl : 1 ≤ l ∧ l ≤ 7) : WF 1 (P 0) (P 1) (hrA s o (nI t) (nI l) A) := by
  have hm := W.2.2.1
  have hn := W.1
  obtain ⟨t0, ht0, e0⟩ := V.2.2.2.1
  unfold hrA
  rw [e0, tn_n (by omega), tn_n (by omega)]
  refine WF_kn (WF_kn (WF_en (WF_en V hs (by omega) (Or.inl ⟨rfl, rfl⟩)) hs (by omega) (Or.inr ⟨o, l + 1, ho, hos, by omega, by omega, rfl, nI_s l⟩)) (by omega) (by omega)) (by omega) (by omega)
theorem WF_li {P : Nat → Nat} {on : Nat → Int32} (W : PW P) {A : Nat → Int32} (V : WF 1 (P 0) (P 1) A) {s rep fad : Nat} {ns le : Nat → Int32} (hs : s < 6) (hr : ∀ s, rep.testBit s = true → (∃ t, t < P 1 ∧ ns s = nI t) ∧ ∃ l, 1 ≤ l ∧ l ≤ 7 ∧ le s = nI l) : WF 1 (P 0) (P 1) (liA P on rep fad ns le s A) := by
  unfold liA
  by_cases h1 : onA A on s = true ∧ rep.testBit s = false
  · rw [if_pos h1]
    by_cases h2 : 1 < (hdA P A s rep).1
    · rw [if_pos h2]; exact WF_up (by omega) (fun z => by omega) (fun z => by omega) V
    · rw [if_neg h2]
      by_cases h3 : (hdA P A s rep).1 = 1 ∧ fad.testBit (hdA P A s rep).2 = false
      · rw [if_pos h3]
        obtain ⟨o1, o2⟩ := hd_in (P := P) (A := A) (s := s) (rep := rep) (by omega)
        obtain ⟨⟨t, ht, et⟩, l, l1, l2, el⟩ := hr _ o2
        rw [et, el]
        exact WF_hr W V hs o1 (fun z => by rw [z, h1.2] at o2; cases o2) ht ⟨l1, l2⟩
      · rw [if_neg h3]; exact V
  · rw [if_neg h1]; exact V
theorem WF_lik {P : Nat → Nat} {on : Nat → Int32} (W : PW P) {rep fad : Nat} {ns le : Nat → Int32} (hr : ∀ s, rep.testBit s = true → (∃ t, t < P 1 ∧ ns s = nI t) ∧ ∃ l, 1 ≤ l ∧ l ≤ 7 ∧ le s = nI l) : ∀ m k A, k + m ≤ 6 → WF 1 (P 0) (P 1) A → WF 1 (P 0) (P 1) (zf (liA P on rep fad ns le) k m A) := by
  intro m
  induction m with
  | zero => intro k A _ V; exact V
  | succ m ih =>
    intro k A hk V
    rw [zf]
    exact ih (k + 1) _ (by omega) (WF_li W V (by omega) hr)
theorem WF_no {P : Nat → Nat} (W : PW P) {A : Nat → Int32} (V : WF 1 (P 0) (P 1) A) : WF 1 (P 0) (P 1) (noA P A) := by
  have hm := W.2.1
  have hm2 := W.2.2.1
  obtain ⟨t0, ht0, e0⟩ := V.2.2.2.1
  unfold noA
  rw [e0, tn_n (by omega)]
  by_cases h : t0 + 1 = P 1
  · rw [if_pos h]
    exact WF_up (by omega) (fun z => by omega) (fun z => by omega) (WF_up (by omega) (fun _ => ⟨0, by omega, rfl⟩) (fun z => by omega) V)
  · rw [if_neg h]
    exact WF_up (by omega) (fun _ => ⟨t0 + 1, by omega, rfl⟩) (fun z => by omega) V
theorem WF_go {P : Nat → Nat} {on fo : Nat → Int32} {len : Nat} (W : PW P) {A : Nat → Int32} (V : WF 1 (P 0) (P 1) A) : WF 1 (P 0) (P 1) (goA P on fo len A).1 := by
  have h := RI_rs (on := on) (fo := fo) (len := len) W V
  exact WF_no W (WF_lik W h.2.2.2 (P 0) 0 _ (by have := W.1; omega) h.1)
