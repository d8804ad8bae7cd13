/-! the whole pure heap as plain functions (the store), and rows of reads and writes over it -/
abbrev ZL : Type := (Nat × List (Option Nat)) ⊕ (Nat × Nat)
/-- int fields by cell and field, ints of arrays by cell and place, the long field, the long row, the state at hand, the reader's text, rows of references, how many states were made later, the script -/
abbrev ZS : Type := (Nat → Nat → Int32) × (Nat → Nat → Int32) × Int64 × (Nat → Int64) × Nat × Value × (Nat → Nat → Option Nat) × Nat × List Int32
abbrev sI (σ : ZS) : Nat → Nat → Int32 := σ.1
abbrev sF (σ : ZS) : Nat → Nat → Int32 := σ.2.1
abbrev sN (σ : ZS) : Int64 := σ.2.2.1
abbrev sJ (σ : ZS) : Nat → Int64 := σ.2.2.2.1
abbrev sNow (σ : ZS) : Nat := σ.2.2.2.2.1
abbrev sTx (σ : ZS) : Value := σ.2.2.2.2.2.1
abbrev sQ (σ : ZS) : Nat → Nat → Option Nat := σ.2.2.2.2.2.2.1
abbrev sK (σ : ZS) : Nat := σ.2.2.2.2.2.2.2.1
abbrev sX (σ : ZS) : List Int32 := σ.2.2.2.2.2.2.2.2
def up2 {α : Type} (f : Nat → Nat → α) (a k : Nat) (v : α) : Nat → Nat → α := fun b j => if b = a ∧ j = k then v else f b j
def setI (σ : ZS) (a k : Nat) (v : Int32) : ZS := (up2 (sI σ) a k v, σ.2)
def setF (σ : ZS) (a k : Nat) (v : Int32) : ZS := (σ.1, up2 (sF σ) a k v, σ.2.2)
def setN (σ : ZS) (v : Int64) : ZS := (σ.1, σ.2.1, v, σ.2.2.2)
def setJ (σ : ZS) (k : Nat) (v : Int64) : ZS := (σ.1, σ.2.1, σ.2.2.1, (fun j => if j = k then v else sJ σ j), σ.2.2.2.2)
def setNow (σ : ZS) (v : Nat) : ZS := (σ.1, σ.2.1, σ.2.2.1, σ.2.2.2.1, v, σ.2.2.2.2.2)
def setTx (σ : ZS) (v : Value) : ZS := (σ.1, σ.2.1, σ.2.2.1, σ.2.2.2.1, σ.2.2.2.2.1, v, σ.2.2.2.2.2.2)
def setQ (σ : ZS) (a k : Nat) (v : Option Nat) : ZS := (σ.1, σ.2.1, σ.2.2.1, σ.2.2.2.1, σ.2.2.2.2.1, σ.2.2.2.2.2.1, up2 (sQ σ) a k v, σ.2.2.2.2.2.2.2)
/-- a whole row anew -/
def setRow (σ : ZS) (a : Nat) (g : Nat → Int32) : ZS := (σ.1, (fun b j => if b = a then g j else sF σ b j), σ.2.2)
def layS : List ZL := [.inl (8, [some 9, none, none, none, some 10, some 21, some 1000002, some 42, some 55, some 57, some 62, some 66, some 68, some 75, some 76, some 77, none, none]), .inr (1, 1600), .inl (3, [some 11, none, none, some 1000003, none, none, none, none, none, none, none, some 19, some 20]), .inl (2, [none, none, none, none, none, none, none, none, none, some 12, some 13, some 14, some 15, some 16, some 17, none, some 18]), .inr (0, 6), .inr (0, 6), .inr (0, 6), .inr (0, 6), .inr (0, 6), .inr (0, 280), .inr (0, 32), .inr (0, 6), .inr (0, 6), .inl (2, [none, none, none, none, none, none, none, none, none, some 22, some 23, some 24, some 25, some 26, some 27, none, some 28]), .inr (0, 6), .inr (0, 6), .inr (0, 6), .inr (0, 6), .inr (0, 6), .inr (0, 280), .inr (0, 32), .inl (5, [some 21, some 2000001, some 2000002, some 2000003, some 2000004, some 2000005, some 2000006, some 2000007, some 2000008, some 2000009, some 2000010, some 2000011, some 2000012, none, none, none, none, none]), .inr (0, 6), .inr (0, 6), .inr (0, 6), .inr (0, 6), .inr (0, 6), .inr (0, 18), .inr (0, 18), .inr (0, 18), .inr (0, 180), .inr (0, 180), .inr (0, 36), .inr (0, 36), .inl (5, [some 21, some 2000001, some 2000002, some 2000003, some 2000004, some 2000005, some 2000006, some 2000007, some 2000008, some 2000009, some 2000010, some 2000011, some 2000012, none, none, none, none, none]), .inr (0, 6), .inr (0, 6), .inr (0, 6), .inr (0, 6), .inr (0, 6), .inr (0, 18), .inr (0, 18), .inr (0, 18), .inr (0, 180), .inr (0, 180), .inr (0, 36), .inr (0, 36), .inl (0, [none, none, none, some 56, none]), .inr (0, 30), .inl (6, [some 58, some 60, some 61, none]), .inl (0, [none, none, none, some 59, none]), .inr (0, 30), .inr (0, 6), .inr (0, 6), .inl (7, [none, some 63, some 64, some 65]), .inr (0, 6), .inr (0, 6), .inr (0, 64), .inl (1, [some 21, some 67, none, none]), .inr (4, 40), .inl (4, [some 21, some 69, some 70, some 71, some 72, some 73, some 74, none, none, none, none]), .inr (0, 30), .inr (0, 30), .inr (2, 30), .inr (0, 30), .inr (0, 30), .inr (2, 100), .inr (4, 3), .inr (2, 3), .inr (0, 6), .inl (9, [some 79, some 80, none, none, none, none, none, none, none, none, some 1000001, some 81, some 82, some 83, some 84, some 85, some 86, some 87, some 88, some 89, some 90, some 91, some 92, some 93, some 94, some 95, some 96, some 97, some 98, some 99, some 100, some 101, some 102, some 103, none, none, none, none, none, none, none, some 104, some 105, none, some 106, some 107, some 108, some 109, none, none, some 110, none, some 111, some 112, some 113, some 114, some 115, none, none, some 116, some 117]), .inr (1, 1620), .inr (1, 1600), .inr (0, 2), .inr (0, 2), .inr (0, 2), .inr (0, 2), .inr (0, 2), .inr (0, 2), .inr (0, 2), .inr (0, 2), .inr (0, 2), .inr (0, 2), .inr (0, 12), .inr (0, 12), .inr (0, 12), .inr (0, 12), .inr (0, 12), .inr (0, 2), .inr (0, 2), .inr (3, 12), .inr (0, 1120), .inr (0, 1120), .inr (0, 90), .inr (0, 90), .inr (0, 60), .inr (0, 521), .inr (0, 521), .inr (0, 30), .inr (0, 6), .inr (0, 6), .inr (0, 21361), .inr (0, 6), .inr (0, 30), .inr (0, 30), .inr (0, 30), .inr (0, 30), .inr (0, 30), .inr (0, 1563), .inr (2, 3)]
def layJ : ZL := .inl (99, [])
def layT : List ZL := [.inl (5, [some 21, some 2000001, some 2000002, some 2000003, some 2000004, some 2000005, some 2000006, some 2000007, some 2000008, some 2000009, some 2000010, some 2000011, some 2000012, none, none, none, none, none]), .inr (0, 6), .inr (0, 6), .inr (0, 6), .inr (0, 6), .inr (0, 6), .inr (0, 18), .inr (0, 18), .inr (0, 18), .inr (0, 180), .inr (0, 180), .inr (0, 36), .inr (0, 36)]
def layA (n a : Nat) : ZL := if a < 118 then layS.getD (a - 8) layJ else if a < 118 + 13 * n then layT.getD ((a - 118) % 13) layJ else layJ
def fv (σ : ZS) (a k : Nat) : Option Nat → Value
  | none => .int (sI σ a k)
  | some r => if r < 1000000 then .ref r else if r = 1000001 then .long (sN σ) else if r = 1000002 then .ref (sNow σ) else if r = 1000003 then sTx σ else .ref (a + (r - 2000000))
def bld (σ : ZS) (a : Nat) : ZL → ZC
  | .inl q => .inl (q.1, q.2.mapIdx (fun k f => fv σ a k f))
  | .inr q => if q.1 < 3 then .inr (.inl (q.1, (List.range q.2).map (sF σ a))) else if q.1 = 3 then .inr (.inr (.inl ((List.range q.2).map (sJ σ)))) else .inr (.inr (.inr ((List.range q.2).map (sQ σ a))))
def cellOf (σ : ZS) (a : Nat) : ZC := if a < 8 then z_pc (sX σ) a else bld σ a (layA (sK σ) a)
def mkH (σ : ZS) : ZH := (cellOf σ, 118 + 13 * sK σ)
theorem mk_at {σ : ZS} {a : Nat} {L : ZL} (h8 : ¬ a < 8) (hL : layA (sK σ) a = L) : (mkH σ).1 a = bld σ a L := by
  show cellOf σ a = _
  unfold cellOf
  rw [if_neg h8, hL]
/-- a write at a changes the cell there alone -/
theorem mk_up {σ τ : ZS} {a : Nat} {c : ZC} (hK : sK τ = sK σ) (hX : sX τ = sX σ) (h8 : ¬ a < 8) (hc : bld τ a (layA (sK σ) a) = c) (ho : ∀ b, b ≠ a → ∀ L, bld τ b L = bld σ b L) : z_up (mkH σ) a c = mkH τ := by
  unfold z_up mkH
  refine Prod.ext (funext fun j => ?_) (by show _ + _ = _ + _; rw [hK])
  show (if j = a then c else cellOf σ j) = cellOf τ j
  by_cases hj : j = a
  · subst hj
    rw [if_pos rfl]
    unfold cellOf
    rw [if_neg h8, hK, hc]
  · rw [if_neg hj]
    unfold cellOf
    rw [hK, hX, ho j hj]
theorem up2_ne {α : Type} {f : Nat → Nat → α} {a k b : Nat} {v : α} (h : b ≠ a) : up2 f a k v b = f b := by
  funext j
  unfold up2
  rw [if_neg (fun z => h z.1)]
theorem up2_eq {α : Type} {f : Nat → Nat → α} {a k : Nat} {v : α} : up2 f a k v a = fun j => if j = k then v else f a j := by
  funext j
  unfold up2
  by_cases hj : j = k
  · rw [if_pos ⟨rfl, hj⟩, if_pos hj]
  · rw [if_neg (fun z => hj z.2), if_neg hj]
theorem bld_I {σ : ZS} {a k : Nat} {v : Int32} {b : Nat} (h : b ≠ a) (L : ZL) : bld (setI σ a k v) b L = bld σ b L := by
  cases L with
  | inr q => rfl
  | inl q =>
    have e : (fun j f => fv (setI σ a k v) b j f) = fun j f => fv σ b j f := by
      funext j f
      cases f with
      | none => show Value.int (up2 (sI σ) a k v b j) = _; rw [up2_ne h]; rfl
      | some r => rfl
    show Sum.inl (q.1, q.2.mapIdx (fun j f => fv (setI σ a k v) b j f)) = Sum.inl (q.1, q.2.mapIdx (fun j f => fv σ b j f))
    rw [e]
theorem bld_F {σ : ZS} {a k : Nat} {v : Int32} {b : Nat} (h : b ≠ a) (L : ZL) : bld (setF σ a k v) b L = bld σ b L := by
  cases L with
  | inl q => rfl
  | inr q =>
    unfold bld
    show (if q.1 < 3 then Sum.inr (Sum.inl (q.1, (List.range q.2).map (up2 (sF σ) a k v b))) else _) = _
    rw [up2_ne h]
    rfl
theorem bld_Q {σ : ZS} {a k : Nat} {v : Option Nat} {b : Nat} (h : b ≠ a) (L : ZL) : bld (setQ σ a k v) b L = bld σ b L := by
  cases L with
  | inl q => rfl
  | inr q =>
    unfold bld
    show (if q.1 < 3 then _ else if q.1 = 3 then _ else Sum.inr (Sum.inr (Sum.inr ((List.range q.2).map (up2 (sQ σ) a k v b))))) = _
    rw [up2_ne h]
    rfl
theorem bld_Row {σ : ZS} {a : Nat} {g : Nat → Int32} {b : Nat} (h : b ≠ a) (L : ZL) : bld (setRow σ a g) b L = bld σ b L := by
  cases L with
  | inl q => rfl
  | inr q =>
    unfold bld
    show (if q.1 < 3 then Sum.inr (Sum.inl (q.1, (List.range q.2).map (fun j => if b = a then g j else sF σ b j))) else _) = _
    simp only [if_neg h]
    rfl
theorem mk_gF {σ : ZS} {a ci k : Nat} {fs : List (Option Nat)} {f : Option Nat} (h8 : ¬ a < 8) (hL : layA (sK σ) a = .inl (ci, fs)) (hf : fs[k]? = some f) : z_gF (mkH σ) a ci k = some (fv σ a k f) := by
  unfold z_gF
  rw [mk_at h8 hL]
  show (if ci = ci then (fs.mapIdx (fun k f => fv σ a k f))[k]? else none) = _
  rw [if_pos rfl, List.getElem?_mapIdx, hf]
  rfl
theorem mk_gI {σ : ZS} {a ci k : Nat} {fs : List (Option Nat)} (h8 : ¬ a < 8) (hL : layA (sK σ) a = .inl (ci, fs)) (hf : fs[k]? = some none) : z_gI (mkH σ) a ci k = some (sI σ a k) := by
  unfold z_gI
  rw [mk_gF h8 hL hf]
  rfl
theorem mk_gR {σ : ZS} {a ci k r : Nat} {fs : List (Option Nat)} (h8 : ¬ a < 8) (hL : layA (sK σ) a = .inl (ci, fs)) (hf : fs[k]? = some (some r)) (hr : r < 1000000) : z_gR (mkH σ) a ci k = some r := by
  unfold z_gR
  have e : fv σ a k (some r) = .ref r := by
    show (if r < 1000000 then _ else _) = _
    rw [if_pos hr]
  rw [mk_gF h8 hL hf, e]
theorem mk_gRr {σ : ZS} {a ci k r : Nat} {fs : List (Option Nat)} (h8 : ¬ a < 8) (hL : layA (sK σ) a = .inl (ci, fs)) (hf : fs[k]? = some (some (2000000 + r))) : z_gR (mkH σ) a ci k = some (a + r) := by
  unfold z_gR
  have e : fv σ a k (some (2000000 + r)) = .ref (a + r) := by
    show (if 2000000 + r < 1000000 then _ else if 2000000 + r = 1000001 then _ else if 2000000 + r = 1000002 then _ else if 2000000 + r = 1000003 then _ else Value.ref (a + (2000000 + r - 2000000))) = _
    rw [if_neg (by omega), if_neg (by omega), if_neg (by omega), if_neg (by omega), show 2000000 + r - 2000000 = r by omega]
  rw [mk_gF h8 hL hf, e]
theorem mk_is {σ : ZS} {a ci : Nat} {fs : List (Option Nat)} (h8 : ¬ a < 8) (hL : layA (sK σ) a = .inl (ci, fs)) : z_is (mkH σ) a ci = true := by
  unfold z_is
  rw [mk_at h8 hL]
  show decide (ci = ci) = true
  simp
theorem mk_sI {σ : ZS} {a ci k : Nat} {fs : List (Option Nat)} {v : Int32} (h8 : ¬ a < 8) (hL : layA (sK σ) a = .inl (ci, fs)) (hf : fs[k]? = some none) : z_sF (mkH σ) a ci k (.int v) = some (mkH (setI σ a k v)) := by
  unfold z_sF
  rw [mk_at h8 hL]
  have hk : k < fs.length := (List.getElem?_eq_some_iff.mp hf).1
  show (if ci = ci ∧ k < (fs.mapIdx (fun k f => fv σ a k f)).length then some (z_up (mkH σ) a (.inl (ci, (fs.mapIdx (fun k f => fv σ a k f)).set k (.int v)))) else none) = _
  rw [if_pos ⟨rfl, by rw [List.length_mapIdx]; exact hk⟩]
  congr 1
  refine mk_up rfl rfl h8 ?_ (fun b hb L => bld_I hb L)
  rw [hL]
  show Sum.inl (ci, fs.mapIdx (fun j f => fv (setI σ a k v) a j f)) = Sum.inl (ci, (fs.mapIdx (fun k f => fv σ a k f)).set k (.int v))
  congr 2
  apply List.ext_getElem?
  intro j
  rw [List.getElem?_set, List.getElem?_mapIdx, List.getElem?_mapIdx, List.length_mapIdx]
  by_cases hj : k = j
  · subst hj
    rw [if_pos rfl, if_pos hk, hf]
    show some (Value.int (up2 (sI σ) a k v a k)) = _
    unfold up2
    rw [if_pos ⟨rfl, rfl⟩]
  · rw [if_neg hj]
    cases fs[j]? with
    | none => rfl
    | some f =>
      cases f with
      | none =>
        show some (Value.int (up2 (sI σ) a k v a j)) = some (Value.int (sI σ a j))
        unfold up2
        rw [if_neg (fun z => hj z.2.symm)]
      | some r => rfl
theorem mk_aI {σ : ZS} {a n k : Nat} (h8 : ¬ a < 8) (hL : layA (sK σ) a = .inr (0, n)) (hn : n < 2 ^ 31) (hk : k < n) : z_aI (mkH σ) a (nI k) = some (sF σ a k) := by
  unfold z_aI
  rw [mk_at h8 hL]
  show (if (0 = 0 ∨ 0 = 10) ∧ ¬ nI k < 0 then ((List.range n).map (sF σ a))[(nI k).toNatClampNeg]? else none) = _
  rw [if_pos ⟨Or.inl rfl, nI_pos (by omega)⟩, nI_clamp (by omega), List.getElem?_map, List.getElem?_range hk]
  rfl
theorem mk_aB {σ : ZS} {a t n k : Nat} (h8 : ¬ a < 8) (hL : layA (sK σ) a = .inr (t, n)) (ht : t = 1 ∨ t = 2) (hn : n < 2 ^ 31) (hk : k < n) : z_aB (mkH σ) a (nI k) = some (sF σ a k) := by
  unfold z_aB
  rw [mk_at h8 hL]
  have hb : bld σ a (.inr (t, n)) = .inr (.inl (t, (List.range n).map (sF σ a))) := by
    rcases ht with rfl | rfl <;> rfl
  rw [hb]
  show (if (t = 1 ∨ t = 2 ∨ t = 11) ∧ ¬ nI k < 0 then ((List.range n).map (sF σ a))[(nI k).toNatClampNeg]? else none) = _
  rw [if_pos ⟨ht.elim Or.inl (fun z => Or.inr (Or.inl z)), nI_pos (by omega)⟩, nI_clamp (by omega), List.getElem?_map, List.getElem?_range hk]
  rfl
theorem mk_aQ {σ : ZS} {a n k : Nat} (h8 : ¬ a < 8) (hL : layA (sK σ) a = .inr (4, n)) (hn : n < 2 ^ 31) (hk : k < n) : z_aQ (mkH σ) a (nI k) = some (sQ σ a k) := by
  unfold z_aQ
  rw [mk_at h8 hL]
  show (if ¬ nI k < 0 then ((List.range n).map (sQ σ a))[(nI k).toNatClampNeg]? else none) = _
  rw [if_pos (nI_pos (by omega)), nI_clamp (by omega), List.getElem?_map, List.getElem?_range hk]
  rfl
theorem mk_aJ {σ : ZS} {a n k : Nat} (h8 : ¬ a < 8) (hL : layA (sK σ) a = .inr (3, n)) (hn : n < 2 ^ 31) (hk : k < n) : z_aJ (mkH σ) a (nI k) = some (sJ σ k) := by
  unfold z_aJ
  rw [mk_at h8 hL]
  show (if ¬ nI k < 0 then ((List.range n).map (sJ σ))[(nI k).toNatClampNeg]? else none) = _
  rw [if_pos (nI_pos (by omega)), nI_clamp (by omega), List.getElem?_map, List.getElem?_range hk]
  rfl
theorem rng_set {α : Type} {f : Nat → α} {n k : Nat} {v : α} : ((List.range n).map f).set k v = (List.range n).map (fun j => if j = k then v else f j) := by
  apply List.ext_getElem?
  intro j
  rw [List.getElem?_set, List.getElem?_map, List.getElem?_map, List.length_map, List.length_range]
  by_cases hj : k = j
  · subst hj
    rw [if_pos rfl]
    by_cases hk : k < n
    · rw [if_pos hk, List.getElem?_range hk]
      simp
    · rw [if_neg hk, List.getElem?_eq_none (by simpa using Nat.not_lt.mp hk)]
      rfl
  · rw [if_neg hj]
    by_cases hl : j < n
    · rw [List.getElem?_range hl]
      simp [Ne.symm hj]
    · rw [List.getElem?_eq_none (by simpa using Nat.not_lt.mp hl)]
      rfl
theorem mk_uI {σ : ZS} {a n k : Nat} {v : Int32} (h8 : ¬ a < 8) (hL : layA (sK σ) a = .inr (0, n)) (hn : n < 2 ^ 31) (hk : k < n) : z_uI (mkH σ) a (nI k) v = some (mkH (setF σ a k v)) := by
  unfold z_uI
  rw [mk_at h8 hL]
  show (if 0 = 0 ∧ ¬ nI k < 0 ∧ (nI k).toNatClampNeg < ((List.range n).map (sF σ a)).length then some (z_up (mkH σ) a (.inr (.inl (0, ((List.range n).map (sF σ a)).set (nI k).toNatClampNeg v)))) else none) = _
  rw [nI_clamp (by omega), if_pos ⟨rfl, nI_pos (by omega), by simpa using hk⟩]
  congr 1
  refine mk_up rfl rfl h8 ?_ (fun b hb L => bld_F hb L)
  rw [hL, rng_set]
  show Sum.inr (Sum.inl (0, (List.range n).map (up2 (sF σ) a k v a))) = _
  rw [up2_eq]
theorem mk_uB {σ : ZS} {a t n k : Nat} {v : Int32} (h8 : ¬ a < 8) (hL : layA (sK σ) a = .inr (t, n)) (hn : n < 2 ^ 31) (hk : k < n) : (t = 1 → z_uB (mkH σ) a (nI k) v = some (mkH (setF σ a k (vp_nar .byte v)))) ∧ (t = 2 → z_uB (mkH σ) a (nI k) v = some (mkH (setF σ a k (vp_nar .boolean v)))) := by
  constructor
  · rintro rfl
    unfold z_uB
    rw [mk_at h8 hL]
    show (if 1 = 1 ∧ ¬ nI k < 0 ∧ (nI k).toNatClampNeg < ((List.range n).map (sF σ a)).length then some (z_up (mkH σ) a (.inr (.inl (1, ((List.range n).map (sF σ a)).set (nI k).toNatClampNeg (vp_nar .byte v))))) else _) = _
    rw [nI_clamp (by omega), if_pos ⟨rfl, nI_pos (by omega), by simpa using hk⟩]
    congr 1
    refine mk_up rfl rfl h8 ?_ (fun b hb L => bld_F hb L)
    rw [hL, rng_set]
    show Sum.inr (Sum.inl (1, (List.range n).map (up2 (sF σ) a k (vp_nar .byte v) a))) = _
    rw [up2_eq]
  · rintro rfl
    unfold z_uB
    rw [mk_at h8 hL]
    show (if 2 = 1 ∧ _ then _ else if 2 = 2 ∧ ¬ nI k < 0 ∧ (nI k).toNatClampNeg < ((List.range n).map (sF σ a)).length then some (z_up (mkH σ) a (.inr (.inl (2, ((List.range n).map (sF σ a)).set (nI k).toNatClampNeg (vp_nar .boolean v))))) else none) = _
    rw [if_neg (fun z => absurd z.1 (by decide)), nI_clamp (by omega), if_pos ⟨rfl, nI_pos (by omega), by simpa using hk⟩]
    congr 1
    refine mk_up rfl rfl h8 ?_ (fun b hb L => bld_F hb L)
    rw [hL, rng_set]
    show Sum.inr (Sum.inl (2, (List.range n).map (up2 (sF σ) a k (vp_nar .boolean v) a))) = _
    rw [up2_eq]
theorem mk_cp {σ : ZS} {a b n m : Nat} (h8 : ¬ a < 8) (h8b : ¬ b < 8) (hL : layA (sK σ) a = .inr (0, m)) (hLb : layA (sK σ) b = .inr (0, n)) (hn : n < 2 ^ 31) (hm : n ≤ m) : z_cp (mkH σ) a b (nI n) = some (mkH (setRow σ b (sF σ a))) := by
  unfold z_cp
  rw [mk_at h8 hL, mk_at h8b hLb]
  show (if 0 = 0 ∧ 0 = 0 ∧ ¬ nI n < 0 ∧ (nI n).toNatClampNeg = ((List.range n).map (sF σ b)).length ∧ (nI n).toNatClampNeg ≤ ((List.range m).map (sF σ a)).length then some (z_up (mkH σ) b (.inr (.inl (0, ((List.range m).map (sF σ a)).take (nI n).toNatClampNeg)))) else none) = _
  rw [nI_clamp hn, if_pos ⟨rfl, rfl, nI_pos hn, by simp, by simpa using hm⟩]
  congr 1
  refine mk_up rfl rfl h8b ?_ (fun c hc L => bld_Row hc L)
  rw [hLb]
  show Sum.inr (Sum.inl (0, (List.range n).map (fun j => if b = b then sF σ a j else sF σ b j))) = _
  rw [← List.map_take, List.take_range, Nat.min_eq_left hm]
  simp
