/-! what stays; plans; well-formed states; the state at hand of both sides -/
def tn (x : Int32) : Nat := x.toNatClampNeg
theorem tn_n {n : Nat} (h : n < 2 ^ 31) : tn (nI n) = n := nI_clamp h
def FR (S : Nat → Prop) (T : Nat → Nat → Prop) (σ τ : ZS) : Prop := (∀ a, ¬ S a → sF τ a = sF σ a) ∧ (∀ a k, ¬ T a k → sI τ a k = sI σ a k) ∧ τ.2.2 = σ.2.2
theorem FR_r {S : Nat → Prop} {T : Nat → Nat → Prop} {σ : ZS} : FR S T σ σ := ⟨fun _ _ => rfl, fun _ _ _ => rfl, rfl⟩
theorem FR_t {S : Nat → Prop} {T : Nat → Nat → Prop} {σ τ υ : ZS} (h : FR S T σ τ) (g : FR S T τ υ) : FR S T σ υ := ⟨fun a ha => (g.1 a ha).trans (h.1 a ha), fun a k ha => (g.2.1 a k ha).trans (h.2.1 a k ha), g.2.2.trans h.2.2⟩
theorem FR_m {S S' : Nat → Prop} {T T' : Nat → Nat → Prop} {σ τ : ZS} (h : FR S T σ τ) (hS : ∀ a, S a → S' a) (hT : ∀ a k, T a k → T' a k) : FR S' T' σ τ := ⟨fun a ha => h.1 a (fun z => ha (hS a z)), fun a k ha => h.2.1 a k (fun z => ha (hT a k z)), h.2.2⟩
theorem FR_F {S : Nat → Prop} {T : Nat → Nat → Prop} {σ : ZS} {a k : Nat} {v : Int32} (h : S a) : FR S T σ (setF σ a k v) := ⟨fun b hb => by
  show up2 (sF σ) a k v b = _
  exact up2_ne (fun z => hb (z ▸ h)), fun _ _ _ => rfl, rfl⟩
theorem FR_I {S : Nat → Prop} {T : Nat → Nat → Prop} {σ : ZS} {a k : Nat} {v : Int32} (h : T a k) : FR S T σ (setI σ a k v) := ⟨fun _ _ => rfl, fun b j hb => by
  show up2 (sI σ) a k v b j = _
  unfold up2
  rw [if_neg (fun z => hb (by rw [z.1, z.2]; exact h))], rfl⟩
theorem FR_R {S : Nat → Prop} {T : Nat → Nat → Prop} {σ : ZS} {a : Nat} {g : Nat → Int32} (h : S a) : FR S T σ (setRow σ a g) := ⟨fun b hb => by
  show (fun j => if b = a then g j else sF σ b j) = _
  funext j
  exact if_neg (fun z : b = a => hb (z ▸ h)), fun _ _ _ => rfl, rfl⟩
theorem FR_K {S : Nat → Prop} {T : Nat → Nat → Prop} {σ τ : ZS} (h : FR S T σ τ) : sK τ = sK σ := by
  show τ.2.2.2.2.2.2.2.1 = σ.2.2.2.2.2.2.2.1
  rw [h.2.2]
theorem sF_eq {σ : ZS} {a k : Nat} {v : Int32} : sF (setF σ a k v) a k = v := by rw [sF_setF, if_pos ⟨rfl, rfl⟩]
theorem sF_ne {σ : ZS} {a k b j : Nat} {v : Int32} (h : ¬ (b = a ∧ j = k)) : sF (setF σ a k v) b j = sF σ b j := by rw [sF_setF, if_neg h]
theorem sI_eq {σ : ZS} {a k : Nat} {v : Int32} : sI (setI σ a k v) a k = v := by rw [sI_setI, if_pos ⟨rfl, rfl⟩]
theorem sI_ne {σ : ZS} {a k b j : Nat} {v : Int32} (h : ¬ (b = a ∧ j = k)) : sI (setI σ a k v) b j = sI σ b j := by rw [sI_setI, if_neg h]
def up1 (A : Nat → Int32) (k : Nat) (v : Int32) : Nat → Int32 := fun j => if j = k then v else A j
theorem up1_e {A : Nat → Int32} {k : Nat} {v : Int32} : up1 A k v k = v := by unfold up1; rw [if_pos rfl]
theorem up1_n {A : Nat → Int32} {k j : Nat} {v : Int32} (h : j ≠ k) : up1 A k v j = A j := by unfold up1; rw [if_neg h]
theorem sF_up {σ : ZS} {a k : Nat} {v : Int32} : sF (setF σ a k v) a = up1 (sF σ a) k v := by
  show up2 (sF σ) a k v a = _
  rw [up2_eq]
  rfl
/-- a plan's numbers: 0 ships, 1 slots, 2 range, 3 wide, 4 least, 5 keeps, 6 fades, 7 draw, 8 units -/
def PW (P : Nat → Nat) : Prop := P 0 ≤ 6 ∧ 6 ≤ P 1 ∧ P 1 ≤ 30 ∧ P 2 ≤ 99 ∧ P 3 ≤ 9 ∧ 1 ≤ P 4 ∧ P 4 ≤ 4 ∧ 1 ≤ P 5 ∧ P 5 ≤ 7 ∧ P 6 ≤ 100 ∧ P 7 ≤ 999 ∧ P 8 ≤ 30
def RP (σ : ZS) (bk : Nat) (P : Nat → Nat) : Prop := sI σ 78 34 = nI bk ∧ bk < 2 ∧ sF σ 81 bk = nI (P 0) ∧ sF σ 82 bk = nI (P 1) ∧ sF σ 83 bk = nI (P 2) ∧ sF σ 84 bk = nI (P 3) ∧ sF σ 85 bk = nI (P 4) ∧ sF σ 86 bk = nI (P 5) ∧ sF σ 88 bk = nI (P 6) ∧ sF σ 89 bk = nI (P 7) ∧ sF σ 87 bk = nI (P 8)
def CP (σ : ZS) (P : Nat → Nat) : Prop := sI σ 21 7 = nI (P 0) ∧ sI σ 21 0 = nI (P 1) ∧ sI σ 21 1 = nI (P 2) ∧ sI σ 21 2 = nI (P 3) ∧ sI σ 21 3 = nI (P 4) ∧ sI σ 21 4 = nI (P 5) ∧ sI σ 21 5 = nI (P 6) ∧ sI σ 21 6 = nI (P 7) ∧ sI σ 21 8 = nI (P 8)
theorem RP_B {σ : ZS} {bk : Nat} {P : Nat → Nat} (R : RP σ bk P) (W : PW P) : RB σ bk (P 0) (P 1) := ⟨R.1, R.2.1, R.2.2.1, W.1, R.2.2.2.1, W.2.1, W.2.2.1⟩
theorem CP_B {σ : ZS} {P : Nat → Nat} (R : CP σ P) (W : PW P) : CB σ (P 0) (P 1) := ⟨R.1, W.1, R.2.1, W.2.1, W.2.2.1⟩
theorem RP_f {S : Nat → Prop} {T : Nat → Nat → Prop} {σ τ : ZS} {bk : Nat} {P : Nat → Nat} (h : FR S T σ τ) (hS : ∀ a, 81 ≤ a → a ≤ 89 → ¬ S a) (hT : ¬ T 78 34) (R : RP σ bk P) : RP τ bk P := by
  unfold RP
  rw [h.2.1 78 34 hT, h.1 81 (hS _ (by omega) (by omega)), h.1 82 (hS _ (by omega) (by omega)), h.1 83 (hS _ (by omega) (by omega)), h.1 84 (hS _ (by omega) (by omega)), h.1 85 (hS _ (by omega) (by omega)), h.1 86 (hS _ (by omega) (by omega)), h.1 87 (hS _ (by omega) (by omega)), h.1 88 (hS _ (by omega) (by omega)), h.1 89 (hS _ (by omega) (by omega))]
  exact R
theorem CP_f {S : Nat → Prop} {T : Nat → Nat → Prop} {σ τ : ZS} {P : Nat → Nat} (h : FR S T σ τ) (hT : ∀ k, ¬ T 21 k) (R : CP σ P) : CP τ P := by
  unfold CP
  rw [h.2.1 21 0 (hT _), h.2.1 21 1 (hT _), h.2.1 21 2 (hT _), h.2.1 21 3 (hT _), h.2.1 21 4 (hT _), h.2.1 21 5 (hT _), h.2.1 21 6 (hT _), h.2.1 21 7 (hT _), h.2.1 21 8 (hT _)]
  exact R
/-- a step of the reference: what it may change -/
def rS (a : Nat) : Prop := 103 ≤ a ∧ a ≤ 108 ∧ a ≠ 105
def rT (a k : Nat) : Prop := a = 78 ∧ k = 40
theorem RP_r {σ τ : ZS} {bk : Nat} {P : Nat → Nat} (h : FR rS rT σ τ) (R : RP σ bk P) : RP τ bk P := RP_f h (fun a h1 h2 z => by unfold rS at z; omega) (fun z => by unfold rT at z; omega) R
theorem CP_r {σ τ : ZS} {P : Nat → Nat} (h : FR rS rT σ τ) (R : CP σ P) : CP τ P := CP_f h (fun k z => by unfold rT at z; omega) R
/-- a step of the class on the state at p: what it may change -/
def cS (p a : Nat) : Prop := (p ≤ a ∧ a ≤ p + 12) ∨ (55 ≤ a ∧ a ≤ 61) ∨ a = 28
def cT (p a k : Nat) : Prop := (a = p ∧ 13 ≤ k) ∨ (55 ≤ a ∧ a ≤ 61)
theorem st_in {n p : Nat} (h : isSt n p) : p = 29 ∨ p = 42 ∨ 118 ≤ p := by
  rcases h with h | h | ⟨j, -, h⟩
  · exact Or.inl h
  · exact Or.inr (Or.inl h)
  · exact Or.inr (Or.inr (by omega))
theorem RP_c {σ τ : ZS} {bk n p : Nat} {P : Nat → Nat} (hp : isSt n p) (h : FR (cS p) (cT p) σ τ) (R : RP σ bk P) : RP τ bk P := by
  have := st_in hp
  exact RP_f h (fun a h1 h2 z => by unfold cS at z; omega) (fun z => by unfold cT at z; omega) R
theorem CP_c {σ τ : ZS} {n p : Nat} {P : Nat → Nat} (hp : isSt n p) (h : FR (cS p) (cT p) σ τ) (R : CP σ P) : CP τ P := by
  have := st_in hp
  exact CP_f h (fun k z => by unfold cT at z; omega) R
/-- the view of a state after a write in it -/
theorem cV_I {σ : ZS} {p k i : Nat} {v : Int32} (h : (k = 13 ∧ i = 516) ∨ (k = 15 ∧ i = 517) ∨ (k = 16 ∧ i = 518) ∨ (k = 17 ∧ i = 519) ∨ (k = 14 ∧ i = 520)) : cV (setI σ p k v) p = up1 (cV σ p) i v := by
  funext j
  have e : ∀ q, sI (setI σ p k v) p q = if q = k then v else sI σ p q := by
    intro q
    rw [sI_setI]
    by_cases hq : q = k
    · rw [if_pos ⟨rfl, hq⟩, if_pos hq]
    · rw [if_neg (fun z => hq z.2), if_neg hq]
  unfold up1 cV
  by_cases hj : j < 516
  · rw [if_neg (show ¬ j = i by omega)]
    simp only [show ∀ a k', sF (setI σ p k v) a k' = sF σ a k' from fun _ _ => rfl]
    rcases (show j < 6 ∨ (6 ≤ j ∧ j < 12) ∨ (12 ≤ j ∧ j < 18) ∨ (18 ≤ j ∧ j < 24) ∨ (24 ≤ j ∧ j < 30) ∨ (30 ≤ j ∧ j < 48) ∨ (48 ≤ j ∧ j < 66) ∨ (66 ≤ j ∧ j < 84) ∨ (84 ≤ j ∧ j < 264) ∨ (264 ≤ j ∧ j < 444) ∨ (444 ≤ j ∧ j < 480) ∨ (480 ≤ j ∧ j < 516) by omega) with h | h | h | h | h | h | h | h | h | h | h | h
    · rw [if_pos h, if_pos h]
    all_goals repeat (first | rw [if_pos h.2, if_pos h.2] | rw [if_neg (by omega), if_neg (by omega)])
  · repeat rw [if_neg (show ¬ j < _ by omega)]
    simp only [e]
    rcases h with ⟨rfl, rfl⟩ | ⟨rfl, rfl⟩ | ⟨rfl, rfl⟩ | ⟨rfl, rfl⟩ | ⟨rfl, rfl⟩ <;> (rcases (show j = 516 ∨ j = 517 ∨ j = 518 ∨ j = 519 ∨ j = 520 ∨ 520 < j by omega) with rfl | rfl | rfl | rfl | rfl | hj2) <;> first | rfl | (simp [show ¬ j = 516 by omega, show ¬ j = 517 by omega, show ¬ j = 518 by omega, show ¬ j = 519 by omega, show ¬ j = 520 by omega, show ¬ j < 6 by omega, show ¬ j < 12 by omega, show ¬ j < 18 by omega, show ¬ j < 24 by omega, show ¬ j < 30 by omega, show ¬ j < 48 by omega, show ¬ j < 66 by omega, show ¬ j < 84 by omega, show ¬ j < 264 by omega, show ¬ j < 444 by omega, show ¬ j < 480 by omega, show ¬ j < 516 by omega])
/-- where row r of a state lies in the view, and how long it is -/
def vO (r : Nat) : Nat × Nat := if r = 1 then (0, 6) else if r = 2 then (6, 6) else if r = 3 then (12, 6) else if r = 4 then (18, 6) else if r = 5 then (24, 6) else if r = 6 then (30, 18) else if r = 7 then (48, 18) else if r = 8 then (66, 18) else if r = 9 then (84, 180) else if r = 10 then (264, 180) else if r = 11 then (444, 36) else (480, 36)
theorem cV_row (σ : ZS) (p j : Nat) (hj : j < 516) : ∃ r, 1 ≤ r ∧ r ≤ 12 ∧ (vO r).1 ≤ j ∧ j < (vO r).1 + (vO r).2 ∧ ∀ τ : ZS, cV τ p j = sF τ (p + r) (j - (vO r).1) := by
  rcases (show j < 6 ∨ (6 ≤ j ∧ j < 12) ∨ (12 ≤ j ∧ j < 18) ∨ (18 ≤ j ∧ j < 24) ∨ (24 ≤ j ∧ j < 30) ∨ (30 ≤ j ∧ j < 48) ∨ (48 ≤ j ∧ j < 66) ∨ (66 ≤ j ∧ j < 84) ∨ (84 ≤ j ∧ j < 264) ∨ (264 ≤ j ∧ j < 444) ∨ (444 ≤ j ∧ j < 480) ∨ (480 ≤ j ∧ j < 516) by omega) with h | h | h | h | h | h | h | h | h | h | h | h
  · exact ⟨1, by omega, by omega, by show 0 ≤ j; omega, by show j < 0 + 6; omega, fun τ => by have := cV_1 τ p h; rw [Nat.zero_add] at this; exact this⟩
  · exact ⟨2, by omega, by omega, by show 6 ≤ j; omega, by show j < 6 + 6; omega, fun τ => by have := cV_2 τ p (i := j - 6) (by omega); rw [show 6 + (j - 6) = j by omega] at this; exact this⟩
  · exact ⟨3, by omega, by omega, by show 12 ≤ j; omega, by show j < 12 + 6; omega, fun τ => by have := cV_3 τ p (i := j - 12) (by omega); rw [show 12 + (j - 12) = j by omega] at this; exact this⟩
  · exact ⟨4, by omega, by omega, by show 18 ≤ j; omega, by show j < 18 + 6; omega, fun τ => by have := cV_4 τ p (i := j - 18) (by omega); rw [show 18 + (j - 18) = j by omega] at this; exact this⟩
  · exact ⟨5, by omega, by omega, by show 24 ≤ j; omega, by show j < 24 + 6; omega, fun τ => by have := cV_5 τ p (i := j - 24) (by omega); rw [show 24 + (j - 24) = j by omega] at this; exact this⟩
  · exact ⟨6, by omega, by omega, by show 30 ≤ j; omega, by show j < 30 + 18; omega, fun τ => by have := cV_6 τ p (i := j - 30) (by omega); rw [show 30 + (j - 30) = j by omega] at this; exact this⟩
  · exact ⟨7, by omega, by omega, by show 48 ≤ j; omega, by show j < 48 + 18; omega, fun τ => by have := cV_7 τ p (i := j - 48) (by omega); rw [show 48 + (j - 48) = j by omega] at this; exact this⟩
  · exact ⟨8, by omega, by omega, by show 66 ≤ j; omega, by show j < 66 + 18; omega, fun τ => by have := cV_8 τ p (i := j - 66) (by omega); rw [show 66 + (j - 66) = j by omega] at this; exact this⟩
  · exact ⟨9, by omega, by omega, by show 84 ≤ j; omega, by show j < 84 + 180; omega, fun τ => by have := cV_9 τ p (i := j - 84) (by omega); rw [show 84 + (j - 84) = j by omega] at this; exact this⟩
  · exact ⟨10, by omega, by omega, by show 264 ≤ j; omega, by show j < 264 + 180; omega, fun τ => by have := cV_10 τ p (i := j - 264) (by omega); rw [show 264 + (j - 264) = j by omega] at this; exact this⟩
  · exact ⟨11, by omega, by omega, by show 444 ≤ j; omega, by show j < 444 + 36; omega, fun τ => by have := cV_11 τ p (i := j - 444) (by omega); rw [show 444 + (j - 444) = j by omega] at this; exact this⟩
  · exact ⟨12, by omega, by omega, by show 480 ≤ j; omega, by show j < 480 + 36; omega, fun τ => by have := cV_12 τ p (i := j - 480) (by omega); rw [show 480 + (j - 480) = j by omega] at this; exact this⟩
/-- scalars of the view -/
theorem cV_sc (σ : ZS) (p j : Nat) (hj : ¬ j < 516) : cV σ p j = if j = 516 then sI σ p 13 else if j = 517 then sI σ p 15 else if j = 518 then sI σ p 16 else if j = 519 then sI σ p 17 else if j = 520 then sI σ p 14 else 0 := by
  unfold cV
  rw [if_neg (by omega), if_neg (by omega), if_neg (by omega), if_neg (by omega), if_neg (by omega), if_neg (by omega), if_neg (by omega), if_neg (by omega), if_neg (by omega), if_neg (by omega), if_neg (by omega), if_neg (by omega)]
theorem vO_d {r s : Nat} (hr : 1 ≤ r) (hr2 : r ≤ 12) (hs : 1 ≤ s) (hs2 : s ≤ 12) {j : Nat} (h1 : (vO r).1 ≤ j) (h2 : j < (vO r).1 + (vO r).2) (h3 : (vO s).1 ≤ j) (h4 : j < (vO s).1 + (vO s).2) : r = s := by
  rcases (show r = 1 ∨ r = 2 ∨ r = 3 ∨ r = 4 ∨ r = 5 ∨ r = 6 ∨ r = 7 ∨ r = 8 ∨ r = 9 ∨ r = 10 ∨ r = 11 ∨ r = 12 by omega) with rfl | rfl | rfl | rfl | rfl | rfl | rfl | rfl | rfl | rfl | rfl | rfl <;> rcases (show s = 1 ∨ s = 2 ∨ s = 3 ∨ s = 4 ∨ s = 5 ∨ s = 6 ∨ s = 7 ∨ s = 8 ∨ s = 9 ∨ s = 10 ∨ s = 11 ∨ s = 12 by omega) with rfl | rfl | rfl | rfl | rfl | rfl | rfl | rfl | rfl | rfl | rfl | rfl <;> first | rfl | (exfalso; simp [vO] at h1 h2 h3 h4; omega)
theorem cV_F {σ : ZS} {p r k : Nat} {v : Int32} (hr : 1 ≤ r) (hr2 : r ≤ 12) (hk : k < (vO r).2) : cV (setF σ (p + r) k v) p = up1 (cV σ p) ((vO r).1 + k) v := by
  funext j
  by_cases hj : j < 516
  · obtain ⟨s, hs, hs2, h1, h2, he⟩ := cV_row σ p j hj
    rw [he]
    unfold up1
    rw [he]
    by_cases hjk : j = (vO r).1 + k
    · have : r = s := vO_d hr hr2 hs hs2 (by omega) (by omega) h1 h2
      subst this
      rw [if_pos hjk, show j - (vO r).1 = k by omega, sF_eq]
    · rw [if_neg hjk]
      apply sF_ne
      rintro ⟨h3, h4⟩
      have : s = r := by omega
      subst this
      omega
  · rw [cV_sc _ _ _ hj]
    have hl : (vO r).1 + (vO r).2 ≤ 516 := by
      rcases (show r = 1 ∨ r = 2 ∨ r = 3 ∨ r = 4 ∨ r = 5 ∨ r = 6 ∨ r = 7 ∨ r = 8 ∨ r = 9 ∨ r = 10 ∨ r = 11 ∨ r = 12 by omega) with rfl | rfl | rfl | rfl | rfl | rfl | rfl | rfl | rfl | rfl | rfl | rfl <;> decide
    rw [up1_n (by omega), cV_sc _ _ _ hj]
    rfl
/-- nothing in the state at q was changed -/
theorem cV_o {S : Nat → Prop} {T : Nat → Nat → Prop} {σ τ : ZS} {q : Nat} (h : FR S T σ τ) (hS : ∀ a, q ≤ a → a ≤ q + 12 → ¬ S a) (hT : ∀ k, ¬ T q k) : cV τ q = cV σ q := by
  funext j
  by_cases hj : j < 516
  · obtain ⟨s, hs, hs2, -, -, he⟩ := cV_row σ q j hj
    rw [he, he, h.1 (q + s) (hS _ (by omega) (by omega))]
  · rw [cV_sc _ _ _ hj, cV_sc _ _ _ hj, h.2.1 q 13 (hT _), h.2.1 q 14 (hT _), h.2.1 q 15 (hT _), h.2.1 q 16 (hT _), h.2.1 q 17 (hT _)]
/-- alike on live places: B is the class's, A the reference's -/
def LV (n : Nat) (B A : Nat → Int32) : Prop := (∀ s, s < n → B s = A s ∧ B (6 + s) = A (6 + s) ∧ B (12 + s) = A (12 + s) ∧ B (18 + s) = A (18 + s)) ∧ (∀ s, s < 6 → B (24 + s) = A (24 + s)) ∧ (∀ s i, s < 6 → i < 3 → i < tn (A (24 + s)) → B (30 + 3 * s + i) = A (30 + 3 * s + i) ∧ B (48 + 3 * s + i) = A (48 + 3 * s + i) ∧ B (66 + 3 * s + i) = A (66 + 3 * s + i)) ∧ (∀ k, 84 ≤ k → k < 521 → B k = A k)
/-- a state that can come about, of n ships and m slots -/
def WF (lo n m : Nat) (A : Nat → Int32) : Prop := (∀ s, s < 6 → ∃ k, k ≤ 3 ∧ A (24 + s) = nI k) ∧ (∀ s i, s < 6 → i < 3 → i < tn (A (24 + s)) → (∃ t, t < m ∧ A (30 + 3 * s + i) = nI t) ∧ ∃ l, lo ≤ l ∧ l ≤ 7 ∧ A (48 + 3 * s + i) = nI l) ∧ (∀ s k, s < 6 → k < 30 → (A (84 + 30 * s + k) = -1 ∧ A (264 + 30 * s + k) = 0) ∨ ∃ o y, o < n ∧ o ≠ s ∧ 1 ≤ y ∧ y ≤ 8 ∧ A (84 + 30 * s + k) = nI o ∧ A (264 + 30 * s + k) = nI y) ∧ (∃ t, t < m ∧ A 518 = nI t) ∧ ∃ z, z < 1000 ∧ A 519 = nI z
theorem WF_own {lo : Nat} {n m : Nat} {A : Nat → Int32} (W : WF lo n m A) {s : Nat} (hs : s < 6) : A (24 + s) = nI (tn (A (24 + s))) ∧ tn (A (24 + s)) ≤ 3 := by
  obtain ⟨k, hk, e⟩ := W.1 s hs
  rw [e, tn_n (by omega)]
  exact ⟨rfl, hk⟩
