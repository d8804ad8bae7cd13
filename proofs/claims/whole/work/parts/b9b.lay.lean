/-! laying out objects: a heap with a row of new cells on top -/
def BH (h : ZH) (l : List ZC) : ZH := (fun j => if h.2 ≤ j then (l[j - h.2]?).getD (h.1 j) else h.1 j, h.2 + l.length)
theorem bh_0 {h : ZH} : BH h [] = h := by
  unfold BH
  refine Prod.ext (funext fun j => ?_) rfl
  show (if h.2 ≤ j then (([] : List ZC)[j - h.2]?).getD (h.1 j) else h.1 j) = h.1 j
  by_cases hj : h.2 ≤ j
  · rw [if_pos hj]; rfl
  · rw [if_neg hj]
theorem bh_push {h : ZH} {l : List ZC} {c : ZC} : z_push (BH h l) c = BH h (l ++ [c]) := by
  unfold z_push BH
  refine Prod.ext (funext fun j => ?_) (by show h.2 + l.length + 1 = h.2 + (l ++ [c]).length; rw [List.length_append]; rfl)
  show (if j = h.2 + l.length then c else if h.2 ≤ j then (l[j - h.2]?).getD (h.1 j) else h.1 j) = if h.2 ≤ j then ((l ++ [c])[j - h.2]?).getD (h.1 j) else h.1 j
  by_cases hj : h.2 ≤ j
  · rw [if_pos hj, if_pos hj]
    by_cases h1 : j = h.2 + l.length
    · rw [if_pos h1, List.getElem?_append_right (by omega), show j - h.2 - l.length = 0 by omega]; rfl
    · rw [if_neg h1]
      by_cases h2 : j - h.2 < l.length
      · rw [List.getElem?_append_left h2]
      · rw [List.getElem?_eq_none (by omega), List.getElem?_eq_none (by rw [List.length_append]; show l.length + 1 ≤ j - h.2; omega)]
  · rw [if_neg hj, if_neg hj, if_neg (by omega)]
theorem bh_bb {h : ZH} {l m : List ZC} : BH (BH h l) m = BH h (l ++ m) := by
  unfold BH
  refine Prod.ext (funext fun j => ?_) (by show h.2 + l.length + m.length = h.2 + (l ++ m).length; rw [List.length_append]; omega)
  show (if h.2 + l.length ≤ j then (m[j - (h.2 + l.length)]?).getD (if h.2 ≤ j then (l[j - h.2]?).getD (h.1 j) else h.1 j) else if h.2 ≤ j then (l[j - h.2]?).getD (h.1 j) else h.1 j) = if h.2 ≤ j then ((l ++ m)[j - h.2]?).getD (h.1 j) else h.1 j
  by_cases hj : h.2 ≤ j
  · rw [if_pos hj, if_pos hj]
    by_cases h1 : h.2 + l.length ≤ j
    · rw [if_pos h1, List.getElem?_append_right (by omega), show j - h.2 - l.length = j - (h.2 + l.length) by omega, List.getElem?_eq_none (show l.length ≤ j - h.2 by omega)]; rfl
    · rw [if_neg h1, List.getElem?_append_left (by omega)]
  · rw [if_neg hj, if_neg hj, if_neg (by omega)]
theorem bh_s {h : ZH} {B ci k : Nat} {fs : List Value} {r : List ZC} {v : Value} (hB : h.2 = B) (hk : k < fs.length) : z_sF (BH h (.inl (ci, fs) :: r)) B ci k v = some (BH h (.inl (ci, fs.set k v) :: r)) := by
  subst hB
  have e : (BH h (.inl (ci, fs) :: r)).1 h.2 = .inl (ci, fs) := by
    show (if h.2 ≤ h.2 then ((.inl (ci, fs) :: r : List ZC)[h.2 - h.2]?).getD (h.1 h.2) else h.1 h.2) = _
    rw [if_pos (Nat.le_refl _), Nat.sub_self]; rfl
  unfold z_sF
  rw [e]
  show (if ci = ci ∧ k < fs.length then some (z_up (BH h (.inl (ci, fs) :: r)) h.2 (.inl (ci, fs.set k v))) else none) = _
  rw [if_pos ⟨rfl, hk⟩]
  congr 1
  unfold z_up BH
  refine Prod.ext (funext fun j => ?_) rfl
  show (if j = h.2 then Sum.inl (ci, fs.set k v) else if h.2 ≤ j then ((.inl (ci, fs) :: r : List ZC)[j - h.2]?).getD (h.1 j) else h.1 j) = if h.2 ≤ j then ((.inl (ci, fs.set k v) :: r : List ZC)[j - h.2]?).getD (h.1 j) else h.1 j
  by_cases hj : j = h.2
  · rw [if_pos hj, if_pos (by omega), show j - h.2 = 0 by omega]; rfl
  · rw [if_neg hj]
    by_cases h1 : h.2 ≤ j
    · rw [if_pos h1, if_pos h1, show j - h.2 = (j - h.2 - 1) + 1 by omega]; rfl
    · rw [if_neg h1, if_neg h1]
theorem bh_i {R : Type} {h : ZH} {B ci k : Nat} {fs : List Value} {r : List ZC} {v : Value} {F : ZH → Option R} (hB : h.2 = B) (hk : k < fs.length) : (z_sF (BH h (.inl (ci, fs) :: r)) B ci k v).bind F = F (BH h (.inl (ci, fs.set k v) :: r)) := by
  rw [bh_s hB hk]; rfl
theorem bh_b {R : Type} {h : ZH} {B ci k a : Nat} {fs : List Value} {r : List ZC} {c : ZC} {F : ZH → Option R} (hB : h.2 = B) (hk : k < fs.length) (ha : B + 1 + r.length = a) : ((z_nw (BH h (.inl (ci, fs) :: r)) c).bind fun q => (z_sF q.2 B ci k (.ref q.1)).bind F) = F (BH h (.inl (ci, fs.set k (.ref a)) :: (r ++ [c]))) := by
  unfold z_nw
  rw [Option.bind_some]
  dsimp only
  rw [bh_push, show (.inl (ci, fs) :: r : List ZC) ++ [c] = .inl (ci, fs) :: (r ++ [c]) from rfl, bh_s hB hk, Option.bind_some, show (BH h (.inl (ci, fs) :: r)).2 = a from by subst hB; rw [← ha]; show h.2 + (r.length + 1) = h.2 + 1 + r.length; omega]
theorem bh_o {R : Type} {h : ZH} {B ci k a : Nat} {fs : List Value} {r : List ZC} {o : ZC} {F : ZH → Option R} {f : Nat → ZH → Option ZH} {blk : Nat → List ZC} (spec : ∀ h B, h.2 = B → f B (BH h [o]) = some (BH h (blk B))) (hB : h.2 = B) (hk : k < fs.length) (ha : B + 1 + r.length = a) : ((z_nw (BH h (.inl (ci, fs) :: r)) o).bind fun q => (f q.1 q.2).bind fun h2 => (z_sF h2 B ci k (.ref q.1)).bind F) = F (BH h (.inl (ci, fs.set k (.ref a)) :: (r ++ blk a))) := by
  have e2 : (BH h (.inl (ci, fs) :: r)).2 = a := by subst hB; rw [← ha]; show h.2 + (r.length + 1) = h.2 + 1 + r.length; omega
  have e3 : z_push (BH h (.inl (ci, fs) :: r)) o = BH (BH h (.inl (ci, fs) :: r)) [o] := by
    have := bh_push (h := BH h (.inl (ci, fs) :: r)) (l := []) (c := o)
    rw [bh_0] at this
    exact this
  unfold z_nw
  rw [Option.bind_some]
  dsimp only
  rw [e3, e2, spec _ a e2, Option.bind_some, bh_bb, show (.inl (ci, fs) :: r : List ZC) ++ blk a = .inl (ci, fs) :: (r ++ blk a) from rfl, bh_s hB hk, Option.bind_some]
theorem bh_g {h : ZH} {B ci k pl : Nat} {fs : List Value} {r : List ZC} (hB : h.2 = B) (hf : fs[k]? = some (.ref pl)) : z_gR (BH h (.inl (ci, fs) :: r)) B ci k = some pl := by
  subst hB
  have e : (BH h (.inl (ci, fs) :: r)).1 h.2 = .inl (ci, fs) := by
    show (if h.2 ≤ h.2 then ((.inl (ci, fs) :: r : List ZC)[h.2 - h.2]?).getD (h.1 h.2) else h.1 h.2) = _
    rw [if_pos (Nat.le_refl _), Nat.sub_self]; rfl
  unfold z_gR z_gF
  rw [e]
  show (match (if ci = ci then fs[k]? else none) with | some (.ref x) => some x | _ => none) = _
  rw [if_pos rfl, hf]
theorem bh_o2 {R : Type} {h : ZH} {B ci k kp pl a : Nat} {fs : List Value} {r : List ZC} {o : ZC} {F : ZH → Option R} {f : Nat → Nat → ZH → Option ZH} {blk : Nat → List ZC} (spec : ∀ h B, h.2 = B → f B pl (BH h [o]) = some (BH h (blk B))) (hB : h.2 = B) (hf : fs[kp]? = some (.ref pl)) (hk : k < fs.length) (ha : B + 1 + r.length = a) : ((z_nw (BH h (.inl (ci, fs) :: r)) o).bind fun q => (z_gR q.2 B ci kp).bind fun x => (f q.1 x q.2).bind fun h2 => (z_sF h2 B ci k (.ref q.1)).bind F) = F (BH h (.inl (ci, fs.set k (.ref a)) :: (r ++ blk a))) := by
  have e2 : (BH h (.inl (ci, fs) :: r)).2 = a := by subst hB; rw [← ha]; show h.2 + (r.length + 1) = h.2 + 1 + r.length; omega
  have e3 : z_push (BH h (.inl (ci, fs) :: r)) o = BH (BH h (.inl (ci, fs) :: r)) [o] := by
    have := bh_push (h := BH h (.inl (ci, fs) :: r)) (l := []) (c := o)
    rw [bh_0] at this
    exact this
  have e4 : BH (BH h (.inl (ci, fs) :: r)) [o] = BH h (.inl (ci, fs) :: (r ++ [o])) := bh_bb
  unfold z_nw
  rw [Option.bind_some]
  dsimp only
  rw [e3, show z_gR (BH (BH h (.inl (ci, fs) :: r)) [o]) B ci kp = some pl from by rw [e4]; exact bh_g hB hf, Option.bind_some, e2, spec _ a e2, Option.bind_some, bh_bb, show (.inl (ci, fs) :: r : List ZC) ++ blk a = .inl (ci, fs) :: (r ++ blk a) from rfl, bh_s hB hk, Option.bind_some]
theorem bh_is {h : ZH} {B ci : Nat} {fs : List Value} {r : List ZC} (hB : h.2 = B) : z_is (BH h (.inl (ci, fs) :: r)) B ci = true := by
  subst hB
  have e : (BH h (.inl (ci, fs) :: r)).1 h.2 = .inl (ci, fs) := by
    show (if h.2 ≤ h.2 then ((.inl (ci, fs) :: r : List ZC)[h.2 - h.2]?).getD (h.1 h.2) else h.1 h.2) = _
    rw [if_pos (Nat.le_refl _), Nat.sub_self]; rfl
  unfold z_is
  rw [e]
  exact decide_eq_true rfl
def zA (t n : Nat) : ZC := .inr (.inl (t, List.replicate n 0))
def blk0 (B : Nat) : List ZC := [.inl (0, [.int 0, .int 0, .int 0, .ref (B + 1), .int 0]), zA 0 30]
def blk2 (B : Nat) : List ZC := [.inl (2, [.int 12, .int 30, .int 2, .int 2, .int 3, .int 0, .int 0, .int 0, .int 0, .ref (B + 1), .ref (B + 2), .ref (B + 3), .ref (B + 4), .ref (B + 5), .ref (B + 6), .int 0, .ref (B + 7)]), zA 0 6, zA 0 6, zA 0 6, zA 0 6, zA 0 6, zA 0 280, zA 0 32]
def blk3 (B : Nat) : List ZC := .inl (3, [.ref (B + 1), .int 0, .int (-1), .null, .int 0, .int 0, .int 0, .int 0, .int 0, .int 0, .int 0, .ref (B + 9), .ref (B + 10)]) :: (blk2 (B + 1) ++ [zA 0 6, zA 0 6])
def blk5 (B : Nat) : List ZC := [.inl (5, [.ref 21, .ref (B + 1), .ref (B + 2), .ref (B + 3), .ref (B + 4), .ref (B + 5), .ref (B + 6), .ref (B + 7), .ref (B + 8), .ref (B + 9), .ref (B + 10), .ref (B + 11), .ref (B + 12), .int 0, .int 0, .int 0, .int 0, .int 0]), zA 0 6, zA 0 6, zA 0 6, zA 0 6, zA 0 6, zA 0 18, zA 0 18, zA 0 18, zA 0 180, zA 0 180, zA 0 36, zA 0 36]
def blk6 (B : Nat) : List ZC := .inl (6, [.ref (B + 1), .ref (B + 3), .ref (B + 4), .int 0]) :: (blk0 (B + 1) ++ [zA 0 6, zA 0 6])
def blk7 (B : Nat) : List ZC := [.inl (7, [.int 0, .ref (B + 1), .ref (B + 2), .ref (B + 3)]), zA 0 6, zA 0 6, zA 0 64]
def blk1 (B : Nat) : List ZC := [.inl (1, [.ref 21, .ref (B + 1), .int 0, .int 0]), .inr (.inr (.inr (List.replicate 40 none)))]
def blk4 (B : Nat) : List ZC := [.inl (4, [.ref 21, .ref (B + 1), .ref (B + 2), .ref (B + 3), .ref (B + 4), .ref (B + 5), .ref (B + 6), .int 0, .int 0, .int 0, .int 0]), zA 0 30, zA 0 30, zA 2 30, zA 0 30, zA 0 30, zA 2 100]
theorem iX0 (h : ZH) (B : Nat) (hB : h.2 = B) : xX0_init B (BH h [.inl (0, [.int 0, .int 0, .int 0, .null, .int 0])]) = some (BH h (blk0 B)) := by
  unfold xX0_init
  rw [bh_b (a := B + 1) hB (by simp) rfl]
  rfl
theorem iX2 (h : ZH) (B : Nat) (hB : h.2 = B) : xX2_init B (BH h [.inl (2, [.int 0, .int 0, .int 0, .int 0, .int 0, .int 0, .int 0, .int 0, .int 0, .null, .null, .null, .null, .null, .null, .int 0, .null])]) = some (BH h (blk2 B)) := by
  unfold xX2_init
  rw [bh_i hB (by simp), bh_i hB (by simp), bh_i hB (by simp), bh_i hB (by simp), bh_i hB (by simp), bh_b (a := B + 1) hB (by simp) rfl, bh_b (a := B + 2) hB (by simp) rfl, bh_b (a := B + 3) hB (by simp) rfl, bh_b (a := B + 4) hB (by simp) rfl, bh_b (a := B + 5) hB (by simp) rfl, bh_b (a := B + 6) hB (by simp) rfl, bh_b (a := B + 7) hB (by simp) rfl]
  rfl
theorem iX5 (h : ZH) (B : Nat) (hB : h.2 = B) : xX5_init B 21 (BH h [.inl (5, [.null, .null, .null, .null, .null, .null, .null, .null, .null, .null, .null, .null, .null, .int 0, .int 0, .int 0, .int 0, .int 0])]) = some (BH h (blk5 B)) := by
  unfold xX5_init
  rw [bh_b (a := B + 1) hB (by simp) rfl, bh_b (a := B + 2) hB (by simp) rfl, bh_b (a := B + 3) hB (by simp) rfl, bh_b (a := B + 4) hB (by simp) rfl, bh_b (a := B + 5) hB (by simp) rfl, bh_b (a := B + 6) hB (by simp) rfl, bh_b (a := B + 7) hB (by simp) rfl, bh_b (a := B + 8) hB (by simp) rfl, bh_b (a := B + 9) hB (by simp) rfl, bh_b (a := B + 10) hB (by simp) rfl, bh_b (a := B + 11) hB (by simp) rfl, bh_b (a := B + 12) hB (by simp) rfl, bh_i hB (by simp)]
  rfl
theorem iX7 (h : ZH) (B : Nat) (hB : h.2 = B) : xX7_init B (BH h [.inl (7, [.int 0, .null, .null, .null])]) = some (BH h (blk7 B)) := by
  unfold xX7_init
  rw [bh_b (a := B + 1) hB (by simp) rfl, bh_b (a := B + 2) hB (by simp) rfl, bh_b (a := B + 3) hB (by simp) rfl]
  rfl
theorem iX1 (h : ZH) (B : Nat) (hB : h.2 = B) : xX1_init B 21 (BH h [.inl (1, [.null, .null, .int 0, .int 0])]) = some (BH h (blk1 B)) := by
  unfold xX1_init
  rw [bh_b (a := B + 1) hB (by simp) rfl, bh_i hB (by simp)]
  rfl
theorem iX4 (h : ZH) (B : Nat) (hB : h.2 = B) : xX4_init B 21 (BH h [.inl (4, [.null, .null, .null, .null, .null, .null, .null, .int 0, .int 0, .int 0, .int 0])]) = some (BH h (blk4 B)) := by
  unfold xX4_init
  rw [bh_b (a := B + 1) hB (by simp) rfl, bh_b (a := B + 2) hB (by simp) rfl, bh_b (a := B + 3) hB (by simp) rfl, bh_b (a := B + 4) hB (by simp) rfl, bh_b (a := B + 5) hB (by simp) rfl, bh_b (a := B + 6) hB (by simp) rfl, bh_i hB (by simp)]
  rfl
theorem iX3 (h : ZH) (B : Nat) (hB : h.2 = B) : xX3_init B (BH h [.inl (3, [.null, .int 0, .int 0, .null, .int 0, .int 0, .int 0, .int 0, .int 0, .int 0, .int 0, .null, .null])]) = some (BH h (blk3 B)) := by
  unfold xX3_init
  rw [bh_o (a := B + 1) iX2 hB (by simp) rfl, bh_i hB (by simp), bh_b (a := B + 9) hB (by simp) rfl, bh_b (a := B + 10) hB (by simp) rfl]
  rfl
theorem iX6 (h : ZH) (B : Nat) (hB : h.2 = B) : xX6_init B (BH h [.inl (6, [.null, .null, .null, .int 0])]) = some (BH h (blk6 B)) := by
  unfold xX6_init
  rw [bh_o (a := B + 1) iX0 hB (by simp) rfl, bh_b (a := B + 3) hB (by simp) rfl, bh_b (a := B + 4) hB (by simp) rfl]
  rfl
