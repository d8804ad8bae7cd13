/-! the two constructors -/
def bldL (σ : ZS) : Nat → List ZL → List ZC
  | _, [] => []
  | a, x :: xs => bld σ a x :: bldL σ (a + 1) xs
theorem bldL_g {σ : ZS} : ∀ (ls : List ZL) (a i : Nat), (bldL σ a ls)[i]? = (ls[i]?).map (bld σ (a + i))
  | [], a, i => by rw [bldL]; rfl
  | x :: xs, a, 0 => rfl
  | x :: xs, a, i + 1 => by
    show (bldL σ (a + 1) xs)[i]? = (xs[i]?).map (bld σ (a + (i + 1)))
    rw [bldL_g xs (a + 1) i, show a + 1 + i = a + (i + 1) by omega]
theorem bldL_n {σ : ZS} : ∀ (ls : List ZL) (a : Nat), (bldL σ a ls).length = ls.length
  | [], _ => rfl
  | x :: xs, a => by show (bldL σ (a + 1) xs).length + 1 = xs.length + 1; rw [bldL_n xs (a + 1)]
theorem layS_n : layS.length = 110 := by decide
theorem z_pc_j {xl : List Int32} {j : Nat} (h : 8 ≤ j) : z_pc xl j = z_junk := by
  obtain ⟨k, rfl⟩ : ∃ k, j = k + 8 := ⟨j - 8, by omega⟩
  rfl
theorem BH_c {σ : ZS} : BH (z_h0 (sX σ)) (bldL σ 8 (layS.take 70)) = mkK σ := by
  have hn : (bldL σ 8 (layS.take 70)).length = 70 := by rw [bldL_n, List.length_take, layS_n]; rfl
  unfold BH mkK cut
  refine Prod.ext (funext fun j => ?_) (by show 8 + (bldL σ 8 (layS.take 70)).length = 78; rw [hn])
  show (if 8 ≤ j then ((bldL σ 8 (layS.take 70))[j - 8]?).getD (z_pc (sX σ) j) else z_pc (sX σ) j) = if j < 78 then cellOf σ j else z_junk
  unfold cellOf
  by_cases h8 : j < 8
  · rw [if_neg (by omega), if_pos (by omega), if_pos h8]
  · rw [if_pos (by omega), if_neg h8]
    by_cases h78 : j < 78
    · rw [if_pos h78, bldL_g, List.getElem?_take, if_pos (by omega)]
      have hl : j - 8 < layS.length := by rw [layS_n]; omega
      unfold layA
      rw [if_pos (by omega), List.getElem?_eq_getElem hl, show 8 + (j - 8) = j by omega, List.getD_eq_getElem?_getD, List.getElem?_eq_getElem hl]
      rfl
    · rw [if_neg h78, List.getElem?_eq_none (by rw [hn]; omega)]
      exact z_pc_j (by omega)
theorem BH_r {σ : ZS} (hK : sK σ = 0) : BH (mkK σ) (bldL σ 78 (layS.drop 70)) = mkH σ := by
  have hn : (bldL σ 78 (layS.drop 70)).length = 40 := by rw [bldL_n, List.length_drop, layS_n]
  unfold BH
  refine Prod.ext (funext fun j => ?_) (by show 78 + (bldL σ 78 (layS.drop 70)).length = 118 + 13 * sK σ; rw [hn, hK])
  show (if 78 ≤ j then ((bldL σ 78 (layS.drop 70))[j - 78]?).getD (if j < 78 then cellOf σ j else z_junk) else (if j < 78 then cellOf σ j else z_junk)) = cellOf σ j
  by_cases h78 : j < 78
  · rw [if_neg (by omega), if_pos h78]
  · rw [if_pos (by omega), if_neg h78]
    unfold cellOf
    rw [if_neg (by omega)]
    unfold layA
    by_cases h118 : j < 118
    · have hl : j - 8 < layS.length := by rw [layS_n]; omega
      rw [if_pos h118, bldL_g, List.getElem?_drop, show 70 + (j - 78) = j - 8 by omega, List.getElem?_eq_getElem hl, show 78 + (j - 78) = j by omega, List.getD_eq_getElem?_getD, List.getElem?_eq_getElem hl]
      rfl
    · rw [if_neg h118, hK, if_neg (by omega), List.getElem?_eq_none (by rw [hn]; omega)]
      rfl
theorem bz_a {σ : ZS} {a t n : Nat} (ht : t < 3) (h : sF σ a = fun _ => 0) : zA t n = bld σ a (.inr (t, n)) := by
  show Sum.inr (Sum.inl (t, List.replicate n 0)) = if t < 3 then Sum.inr (Sum.inl (t, (List.range n).map (sF σ a))) else _
  rw [if_pos ht, h, List.map_const', List.length_range]
theorem bz_j {σ : ZS} {a n : Nat} (h : sJ σ = fun _ => 0) : (.inr (.inr (.inl (List.replicate n 0))) : ZC) = bld σ a (.inr (3, n)) := by
  show _ = Sum.inr (Sum.inr (Sum.inl ((List.range n).map (sJ σ))))
  rw [h, List.map_const', List.length_range]
theorem bz_q {σ : ZS} {a n : Nat} (h : sQ σ a = fun _ => none) : (.inr (.inr (.inr (List.replicate n none))) : ZC) = bld σ a (.inr (4, n)) := by
  show _ = Sum.inr (Sum.inr (Sum.inr ((List.range n).map (sQ σ a))))
  rw [h, List.map_const', List.length_range]
theorem bz_o {σ τ : ZS} {a : Nat} {q : Nat × List (Option Nat)} (h : ∀ k, sI σ a k = sI τ a k) (h2 : σ.2.2 = τ.2.2) : bld σ a (.inl q) = bld τ a (.inl q) := by
  have e : (fun k f => fv σ a k f) = fun k f => fv τ a k f := by
    funext k f
    cases f with
    | none => rw [fv_0, fv_0, h k]
    | some x =>
      unfold fv
      show (if x < 1000000 then Value.ref x else if x = 1000001 then .long σ.2.2.1 else if x = 1000002 then .ref σ.2.2.2.2.1 else if x = 1000003 then σ.2.2.2.2.2.1 else .ref (a + (x - 2000000))) = _
      rw [h2]
  show Sum.inl (q.1, q.2.mapIdx (fun k f => fv σ a k f)) = Sum.inl (q.1, q.2.mapIdx (fun k f => fv τ a k f))
  rw [e]
theorem cons_c {a b : ZC} {l m : List ZC} (h : a = b) (g : l = m) : a :: l = b :: m := by rw [h, g]
def sA (xl : List Int32) : ZS := ((fun a k => if (a = 8 ∧ k = 3) ∨ (a = 10 ∧ k = 2) ∨ (a = 78 ∧ (k = 5 ∨ k = 43)) then -1 else if a = 11 ∨ a = 21 then (if k = 0 then 12 else if k = 1 then 30 else if k = 2 ∨ k = 3 then 2 else if k = 4 then 3 else 0) else 0), (fun _ _ => 0), 0, (fun _ => 0), 29, .null, (fun _ _ => none), 0, xl)
theorem sA_I {xl : List Int32} (a k : Nat) : sI (sA xl) a k = if (a = 8 ∧ k = 3) ∨ (a = 10 ∧ k = 2) ∨ (a = 78 ∧ (k = 5 ∨ k = 43)) then -1 else if a = 11 ∨ a = 21 then (if k = 0 then 12 else if k = 1 then 30 else if k = 2 ∨ k = 3 then 2 else if k = 4 then 3 else 0) else 0 := rfl
theorem fv_now {σ : ZS} {a k : Nat} : fv σ a k (some 1000002) = .ref (sNow σ) := rfl
theorem fv_tx {σ : ZS} {a k : Nat} : fv σ a k (some 1000003) = sTx σ := rfl
theorem fv_nm {σ : ZS} {a k : Nat} : fv σ a k (some 1000001) = .long (sN σ) := rfl
theorem fv_s1 {σ : ZS} {a k : Nat} : fv σ a k (some 2000001) = .ref (a + 1) := fv_2 (r := 1)
theorem fv_s2 {σ : ZS} {a k : Nat} : fv σ a k (some 2000002) = .ref (a + 2) := fv_2 (r := 2)
theorem fv_s3 {σ : ZS} {a k : Nat} : fv σ a k (some 2000003) = .ref (a + 3) := fv_2 (r := 3)
theorem fv_s4 {σ : ZS} {a k : Nat} : fv σ a k (some 2000004) = .ref (a + 4) := fv_2 (r := 4)
theorem fv_s5 {σ : ZS} {a k : Nat} : fv σ a k (some 2000005) = .ref (a + 5) := fv_2 (r := 5)
theorem fv_s6 {σ : ZS} {a k : Nat} : fv σ a k (some 2000006) = .ref (a + 6) := fv_2 (r := 6)
theorem fv_s7 {σ : ZS} {a k : Nat} : fv σ a k (some 2000007) = .ref (a + 7) := fv_2 (r := 7)
theorem fv_s8 {σ : ZS} {a k : Nat} : fv σ a k (some 2000008) = .ref (a + 8) := fv_2 (r := 8)
theorem fv_s9 {σ : ZS} {a k : Nat} : fv σ a k (some 2000009) = .ref (a + 9) := fv_2 (r := 9)
theorem fv_s10 {σ : ZS} {a k : Nat} : fv σ a k (some 2000010) = .ref (a + 10) := fv_2 (r := 10)
theorem fv_s11 {σ : ZS} {a k : Nat} : fv σ a k (some 2000011) = .ref (a + 11) := fv_2 (r := 11)
theorem fv_s12 {σ : ZS} {a k : Nat} : fv σ a k (some 2000012) = .ref (a + 12) := fv_2 (r := 12)
theorem sA_w {xl : List Int32} : sNow (sA xl) = 29 ∧ sTx (sA xl) = .null ∧ sN (sA xl) = 0 := ⟨rfl, rfl, rfl⟩
theorem ob_8 (xl : List Int32) : (.inl (8, [.ref 9, .int 0, .int 0, .int (-1), .ref 10, .ref 21, .ref 29, .ref 42, .ref 55, .ref 57, .ref 62, .ref 66, .ref 68, .ref 75, .ref 76, .ref 77, .int 0, .int 0]) : ZC) = bld (sA xl) 8 (.inl (8, [some 9, none, none, none, some 10, some 21, some 1000002, some 42, some 55, some 57, some 62, some 66, some 68, some 75, some 76, some 77, none, none])) := by
  show _ = Sum.inl (8, ([some 9, none, none, none, some 10, some 21, some 1000002, some 42, some 55, some 57, some 62, some 66, some 68, some 75, some 76, some 77, none, none] : List (Option Nat)).mapIdx (fun k f => fv (sA xl) 8 k f))
  simp (decide := true) only [List.mapIdx_cons, List.mapIdx_nil, fv_0, fv_1, fv_now, fv_tx, fv_nm, fv_s1, fv_s2, fv_s3, fv_s4, fv_s5, fv_s6, fv_s7, fv_s8, fv_s9, fv_s10, fv_s11, fv_s12, sA_I, sA_w.1, sA_w.2.1, sA_w.2.2, if_true, if_false, Nat.reduceAdd, ↓reduceIte]
theorem ob_10 (xl : List Int32) : (.inl (3, [.ref 11, .int 0, .int (-1), .null, .int 0, .int 0, .int 0, .int 0, .int 0, .int 0, .int 0, .ref 19, .ref 20]) : ZC) = bld (sA xl) 10 (.inl (3, [some 11, none, none, some 1000003, none, none, none, none, none, none, none, some 19, some 20])) := by
  show _ = Sum.inl (3, ([some 11, none, none, some 1000003, none, none, none, none, none, none, none, some 19, some 20] : List (Option Nat)).mapIdx (fun k f => fv (sA xl) 10 k f))
  simp (decide := true) only [List.mapIdx_cons, List.mapIdx_nil, fv_0, fv_1, fv_now, fv_tx, fv_nm, fv_s1, fv_s2, fv_s3, fv_s4, fv_s5, fv_s6, fv_s7, fv_s8, fv_s9, fv_s10, fv_s11, fv_s12, sA_I, sA_w.1, sA_w.2.1, sA_w.2.2, if_true, if_false, Nat.reduceAdd, ↓reduceIte]
theorem ob_11 (xl : List Int32) : (.inl (2, [.int 12, .int 30, .int 2, .int 2, .int 3, .int 0, .int 0, .int 0, .int 0, .ref 12, .ref 13, .ref 14, .ref 15, .ref 16, .ref 17, .int 0, .ref 18]) : ZC) = bld (sA xl) 11 (.inl (2, [none, none, none, none, none, none, none, none, none, some 12, some 13, some 14, some 15, some 16, some 17, none, some 18])) := by
  show _ = Sum.inl (2, ([none, none, none, none, none, none, none, none, none, some 12, some 13, some 14, some 15, some 16, some 17, none, some 18] : List (Option Nat)).mapIdx (fun k f => fv (sA xl) 11 k f))
  simp (decide := true) only [List.mapIdx_cons, List.mapIdx_nil, fv_0, fv_1, fv_now, fv_tx, fv_nm, fv_s1, fv_s2, fv_s3, fv_s4, fv_s5, fv_s6, fv_s7, fv_s8, fv_s9, fv_s10, fv_s11, fv_s12, sA_I, sA_w.1, sA_w.2.1, sA_w.2.2, if_true, if_false, Nat.reduceAdd, ↓reduceIte]
theorem ob_21 (xl : List Int32) : (.inl (2, [.int 12, .int 30, .int 2, .int 2, .int 3, .int 0, .int 0, .int 0, .int 0, .ref 22, .ref 23, .ref 24, .ref 25, .ref 26, .ref 27, .int 0, .ref 28]) : ZC) = bld (sA xl) 21 (.inl (2, [none, none, none, none, none, none, none, none, none, some 22, some 23, some 24, some 25, some 26, some 27, none, some 28])) := by
  show _ = Sum.inl (2, ([none, none, none, none, none, none, none, none, none, some 22, some 23, some 24, some 25, some 26, some 27, none, some 28] : List (Option Nat)).mapIdx (fun k f => fv (sA xl) 21 k f))
  simp (decide := true) only [List.mapIdx_cons, List.mapIdx_nil, fv_0, fv_1, fv_now, fv_tx, fv_nm, fv_s1, fv_s2, fv_s3, fv_s4, fv_s5, fv_s6, fv_s7, fv_s8, fv_s9, fv_s10, fv_s11, fv_s12, sA_I, sA_w.1, sA_w.2.1, sA_w.2.2, if_true, if_false, Nat.reduceAdd, ↓reduceIte]
theorem ob_29 (xl : List Int32) : (.inl (5, [.ref 21, .ref 30, .ref 31, .ref 32, .ref 33, .ref 34, .ref 35, .ref 36, .ref 37, .ref 38, .ref 39, .ref 40, .ref 41, .int 0, .int 0, .int 0, .int 0, .int 0]) : ZC) = bld (sA xl) 29 (.inl (5, [some 21, some 2000001, some 2000002, some 2000003, some 2000004, some 2000005, some 2000006, some 2000007, some 2000008, some 2000009, some 2000010, some 2000011, some 2000012, none, none, none, none, none])) := by
  show _ = Sum.inl (5, ([some 21, some 2000001, some 2000002, some 2000003, some 2000004, some 2000005, some 2000006, some 2000007, some 2000008, some 2000009, some 2000010, some 2000011, some 2000012, none, none, none, none, none] : List (Option Nat)).mapIdx (fun k f => fv (sA xl) 29 k f))
  simp (decide := true) only [List.mapIdx_cons, List.mapIdx_nil, fv_0, fv_1, fv_now, fv_tx, fv_nm, fv_s1, fv_s2, fv_s3, fv_s4, fv_s5, fv_s6, fv_s7, fv_s8, fv_s9, fv_s10, fv_s11, fv_s12, sA_I, sA_w.1, sA_w.2.1, sA_w.2.2, if_true, if_false, Nat.reduceAdd, ↓reduceIte]
theorem ob_42 (xl : List Int32) : (.inl (5, [.ref 21, .ref 43, .ref 44, .ref 45, .ref 46, .ref 47, .ref 48, .ref 49, .ref 50, .ref 51, .ref 52, .ref 53, .ref 54, .int 0, .int 0, .int 0, .int 0, .int 0]) : ZC) = bld (sA xl) 42 (.inl (5, [some 21, some 2000001, some 2000002, some 2000003, some 2000004, some 2000005, some 2000006, some 2000007, some 2000008, some 2000009, some 2000010, some 2000011, some 2000012, none, none, none, none, none])) := by
  show _ = Sum.inl (5, ([some 21, some 2000001, some 2000002, some 2000003, some 2000004, some 2000005, some 2000006, some 2000007, some 2000008, some 2000009, some 2000010, some 2000011, some 2000012, none, none, none, none, none] : List (Option Nat)).mapIdx (fun k f => fv (sA xl) 42 k f))
  simp (decide := true) only [List.mapIdx_cons, List.mapIdx_nil, fv_0, fv_1, fv_now, fv_tx, fv_nm, fv_s1, fv_s2, fv_s3, fv_s4, fv_s5, fv_s6, fv_s7, fv_s8, fv_s9, fv_s10, fv_s11, fv_s12, sA_I, sA_w.1, sA_w.2.1, sA_w.2.2, if_true, if_false, Nat.reduceAdd, ↓reduceIte]
theorem ob_55 (xl : List Int32) : (.inl (0, [.int 0, .int 0, .int 0, .ref 56, .int 0]) : ZC) = bld (sA xl) 55 (.inl (0, [none, none, none, some 56, none])) := by
  show _ = Sum.inl (0, ([none, none, none, some 56, none] : List (Option Nat)).mapIdx (fun k f => fv (sA xl) 55 k f))
  simp (decide := true) only [List.mapIdx_cons, List.mapIdx_nil, fv_0, fv_1, fv_now, fv_tx, fv_nm, fv_s1, fv_s2, fv_s3, fv_s4, fv_s5, fv_s6, fv_s7, fv_s8, fv_s9, fv_s10, fv_s11, fv_s12, sA_I, sA_w.1, sA_w.2.1, sA_w.2.2, if_true, if_false, Nat.reduceAdd, ↓reduceIte]
theorem ob_57 (xl : List Int32) : (.inl (6, [.ref 58, .ref 60, .ref 61, .int 0]) : ZC) = bld (sA xl) 57 (.inl (6, [some 58, some 60, some 61, none])) := by
  show _ = Sum.inl (6, ([some 58, some 60, some 61, none] : List (Option Nat)).mapIdx (fun k f => fv (sA xl) 57 k f))
  simp (decide := true) only [List.mapIdx_cons, List.mapIdx_nil, fv_0, fv_1, fv_now, fv_tx, fv_nm, fv_s1, fv_s2, fv_s3, fv_s4, fv_s5, fv_s6, fv_s7, fv_s8, fv_s9, fv_s10, fv_s11, fv_s12, sA_I, sA_w.1, sA_w.2.1, sA_w.2.2, if_true, if_false, Nat.reduceAdd, ↓reduceIte]
theorem ob_58 (xl : List Int32) : (.inl (0, [.int 0, .int 0, .int 0, .ref 59, .int 0]) : ZC) = bld (sA xl) 58 (.inl (0, [none, none, none, some 59, none])) := by
  show _ = Sum.inl (0, ([none, none, none, some 59, none] : List (Option Nat)).mapIdx (fun k f => fv (sA xl) 58 k f))
  simp (decide := true) only [List.mapIdx_cons, List.mapIdx_nil, fv_0, fv_1, fv_now, fv_tx, fv_nm, fv_s1, fv_s2, fv_s3, fv_s4, fv_s5, fv_s6, fv_s7, fv_s8, fv_s9, fv_s10, fv_s11, fv_s12, sA_I, sA_w.1, sA_w.2.1, sA_w.2.2, if_true, if_false, Nat.reduceAdd, ↓reduceIte]
theorem ob_62 (xl : List Int32) : (.inl (7, [.int 0, .ref 63, .ref 64, .ref 65]) : ZC) = bld (sA xl) 62 (.inl (7, [none, some 63, some 64, some 65])) := by
  show _ = Sum.inl (7, ([none, some 63, some 64, some 65] : List (Option Nat)).mapIdx (fun k f => fv (sA xl) 62 k f))
  simp (decide := true) only [List.mapIdx_cons, List.mapIdx_nil, fv_0, fv_1, fv_now, fv_tx, fv_nm, fv_s1, fv_s2, fv_s3, fv_s4, fv_s5, fv_s6, fv_s7, fv_s8, fv_s9, fv_s10, fv_s11, fv_s12, sA_I, sA_w.1, sA_w.2.1, sA_w.2.2, if_true, if_false, Nat.reduceAdd, ↓reduceIte]
theorem ob_66 (xl : List Int32) : (.inl (1, [.ref 21, .ref 67, .int 0, .int 0]) : ZC) = bld (sA xl) 66 (.inl (1, [some 21, some 67, none, none])) := by
  show _ = Sum.inl (1, ([some 21, some 67, none, none] : List (Option Nat)).mapIdx (fun k f => fv (sA xl) 66 k f))
  simp (decide := true) only [List.mapIdx_cons, List.mapIdx_nil, fv_0, fv_1, fv_now, fv_tx, fv_nm, fv_s1, fv_s2, fv_s3, fv_s4, fv_s5, fv_s6, fv_s7, fv_s8, fv_s9, fv_s10, fv_s11, fv_s12, sA_I, sA_w.1, sA_w.2.1, sA_w.2.2, if_true, if_false, Nat.reduceAdd, ↓reduceIte]
theorem ob_68 (xl : List Int32) : (.inl (4, [.ref 21, .ref 69, .ref 70, .ref 71, .ref 72, .ref 73, .ref 74, .int 0, .int 0, .int 0, .int 0]) : ZC) = bld (sA xl) 68 (.inl (4, [some 21, some 69, some 70, some 71, some 72, some 73, some 74, none, none, none, none])) := by
  show _ = Sum.inl (4, ([some 21, some 69, some 70, some 71, some 72, some 73, some 74, none, none, none, none] : List (Option Nat)).mapIdx (fun k f => fv (sA xl) 68 k f))
  simp (decide := true) only [List.mapIdx_cons, List.mapIdx_nil, fv_0, fv_1, fv_now, fv_tx, fv_nm, fv_s1, fv_s2, fv_s3, fv_s4, fv_s5, fv_s6, fv_s7, fv_s8, fv_s9, fv_s10, fv_s11, fv_s12, sA_I, sA_w.1, sA_w.2.1, sA_w.2.2, if_true, if_false, Nat.reduceAdd, ↓reduceIte]
theorem ob_78 (xl : List Int32) : (.inl (9, [.ref 79, .ref 80, .int 0, .int 0, .int 0, .int (-1), .int 0, .int 0, .int 0, .int 0, .long 0, .ref 81, .ref 82, .ref 83, .ref 84, .ref 85, .ref 86, .ref 87, .ref 88, .ref 89, .ref 90, .ref 91, .ref 92, .ref 93, .ref 94, .ref 95, .ref 96, .ref 97, .ref 98, .ref 99, .ref 100, .ref 101, .ref 102, .ref 103, .int 0, .int 0, .int 0, .int 0, .int 0, .int 0, .int 0, .ref 104, .ref 105, .int (-1), .ref 106, .ref 107, .ref 108, .ref 109, .int 0, .int 0, .ref 110, .int 0, .ref 111, .ref 112, .ref 113, .ref 114, .ref 115, .int 0, .int 0, .ref 116, .ref 117]) : ZC) = bld (sA xl) 78 (.inl (9, [some 79, some 80, none, none, none, none, none, none, none, none, some 1000001, some 81, some 82, some 83, some 84, some 85, some 86, some 87, some 88, some 89, some 90, some 91, some 92, some 93, some 94, some 95, some 96, some 97, some 98, some 99, some 100, some 101, some 102, some 103, none, none, none, none, none, none, none, some 104, some 105, none, some 106, some 107, some 108, some 109, none, none, some 110, none, some 111, some 112, some 113, some 114, some 115, none, none, some 116, some 117])) := by
  show _ = Sum.inl (9, ([some 79, some 80, none, none, none, none, none, none, none, none, some 1000001, some 81, some 82, some 83, some 84, some 85, some 86, some 87, some 88, some 89, some 90, some 91, some 92, some 93, some 94, some 95, some 96, some 97, some 98, some 99, some 100, some 101, some 102, some 103, none, none, none, none, none, none, none, some 104, some 105, none, some 106, some 107, some 108, some 109, none, none, some 110, none, some 111, some 112, some 113, some 114, some 115, none, none, some 116, some 117] : List (Option Nat)).mapIdx (fun k f => fv (sA xl) 78 k f))
  simp (decide := true) only [List.mapIdx_cons, List.mapIdx_nil, fv_0, fv_1, fv_now, fv_tx, fv_nm, fv_s1, fv_s2, fv_s3, fv_s4, fv_s5, fv_s6, fv_s7, fv_s8, fv_s9, fv_s10, fv_s11, fv_s12, sA_I, sA_w.1, sA_w.2.1, sA_w.2.2, if_true, if_false, Nat.reduceAdd, ↓reduceIte]
def lC : List ZC := [.inl (8, [.ref 9, .int 0, .int 0, .int (-1), .ref 10, .ref 21, .ref 29, .ref 42, .ref 55, .ref 57, .ref 62, .ref 66, .ref 68, .ref 75, .ref 76, .ref 77, .int 0, .int 0]), zA 1 1600, .inl (3, [.ref 11, .int 0, .int (-1), .null, .int 0, .int 0, .int 0, .int 0, .int 0, .int 0, .int 0, .ref 19, .ref 20]), .inl (2, [.int 12, .int 30, .int 2, .int 2, .int 3, .int 0, .int 0, .int 0, .int 0, .ref 12, .ref 13, .ref 14, .ref 15, .ref 16, .ref 17, .int 0, .ref 18]), zA 0 6, zA 0 6, zA 0 6, zA 0 6, zA 0 6, zA 0 280, zA 0 32, zA 0 6, zA 0 6, .inl (2, [.int 12, .int 30, .int 2, .int 2, .int 3, .int 0, .int 0, .int 0, .int 0, .ref 22, .ref 23, .ref 24, .ref 25, .ref 26, .ref 27, .int 0, .ref 28]), zA 0 6, zA 0 6, zA 0 6, zA 0 6, zA 0 6, zA 0 280, zA 0 32, .inl (5, [.ref 21, .ref 30, .ref 31, .ref 32, .ref 33, .ref 34, .ref 35, .ref 36, .ref 37, .ref 38, .ref 39, .ref 40, .ref 41, .int 0, .int 0, .int 0, .int 0, .int 0]), zA 0 6, zA 0 6, zA 0 6, zA 0 6, zA 0 6, zA 0 18, zA 0 18, zA 0 18, zA 0 180, zA 0 180, zA 0 36, zA 0 36, .inl (5, [.ref 21, .ref 43, .ref 44, .ref 45, .ref 46, .ref 47, .ref 48, .ref 49, .ref 50, .ref 51, .ref 52, .ref 53, .ref 54, .int 0, .int 0, .int 0, .int 0, .int 0]), zA 0 6, zA 0 6, zA 0 6, zA 0 6, zA 0 6, zA 0 18, zA 0 18, zA 0 18, zA 0 180, zA 0 180, zA 0 36, zA 0 36, .inl (0, [.int 0, .int 0, .int 0, .ref 56, .int 0]), zA 0 30, .inl (6, [.ref 58, .ref 60, .ref 61, .int 0]), .inl (0, [.int 0, .int 0, .int 0, .ref 59, .int 0]), zA 0 30, zA 0 6, zA 0 6, .inl (7, [.int 0, .ref 63, .ref 64, .ref 65]), zA 0 6, zA 0 6, zA 0 64, .inl (1, [.ref 21, .ref 67, .int 0, .int 0]), .inr (.inr (.inr (List.replicate 40 none))), .inl (4, [.ref 21, .ref 69, .ref 70, .ref 71, .ref 72, .ref 73, .ref 74, .int 0, .int 0, .int 0, .int 0]), zA 0 30, zA 0 30, zA 2 30, zA 0 30, zA 0 30, zA 2 100, .inr (.inr (.inr (List.replicate 3 none))), zA 2 3, zA 0 6]
def lR : List ZC := [.inl (9, [.ref 79, .ref 80, .int 0, .int 0, .int 0, .int (-1), .int 0, .int 0, .int 0, .int 0, .long 0, .ref 81, .ref 82, .ref 83, .ref 84, .ref 85, .ref 86, .ref 87, .ref 88, .ref 89, .ref 90, .ref 91, .ref 92, .ref 93, .ref 94, .ref 95, .ref 96, .ref 97, .ref 98, .ref 99, .ref 100, .ref 101, .ref 102, .ref 103, .int 0, .int 0, .int 0, .int 0, .int 0, .int 0, .int 0, .ref 104, .ref 105, .int (-1), .ref 106, .ref 107, .ref 108, .ref 109, .int 0, .int 0, .ref 110, .int 0, .ref 111, .ref 112, .ref 113, .ref 114, .ref 115, .int 0, .int 0, .ref 116, .ref 117]), zA 1 1620, zA 1 1600, zA 0 2, zA 0 2, zA 0 2, zA 0 2, zA 0 2, zA 0 2, zA 0 2, zA 0 2, zA 0 2, zA 0 2, zA 0 12, zA 0 12, zA 0 12, zA 0 12, zA 0 12, zA 0 2, zA 0 2, .inr (.inr (.inl (List.replicate 12 0))), zA 0 1120, zA 0 1120, zA 0 90, zA 0 90, zA 0 60, zA 0 521, zA 0 521, zA 0 30, zA 0 6, zA 0 6, zA 0 21361, zA 0 6, zA 0 30, zA 0 30, zA 0 30, zA 0 30, zA 0 30, zA 0 1563, zA 2 3]
theorem lC_e (xl : List Int32) : lC = bldL (sA xl) 8 (layS.take 70) := by
  show lC = bldL (sA xl) 8 [.inl (8, [some 9, none, none, none, some 10, some 21, some 1000002, some 42, some 55, some 57, some 62, some 66, some 68, some 75, some 76, some 77, none, none]), .inr (1, 1600), .inl (3, [some 11, none, none, some 1000003, none, none, none, none, none, none, none, some 19, some 20]), .inl (2, [none, none, none, none, none, none, none, none, none, some 12, some 13, some 14, some 15, some 16, some 17, none, some 18]), .inr (0, 6), .inr (0, 6), .inr (0, 6), .inr (0, 6), .inr (0, 6), .inr (0, 280), .inr (0, 32), .inr (0, 6), .inr (0, 6), .inl (2, [none, none, none, none, none, none, none, none, none, some 22, some 23, some 24, some 25, some 26, some 27, none, some 28]), .inr (0, 6), .inr (0, 6), .inr (0, 6), .inr (0, 6), .inr (0, 6), .inr (0, 280), .inr (0, 32), .inl (5, [some 21, some 2000001, some 2000002, some 2000003, some 2000004, some 2000005, some 2000006, some 2000007, some 2000008, some 2000009, some 2000010, some 2000011, some 2000012, none, none, none, none, none]), .inr (0, 6), .inr (0, 6), .inr (0, 6), .inr (0, 6), .inr (0, 6), .inr (0, 18), .inr (0, 18), .inr (0, 18), .inr (0, 180), .inr (0, 180), .inr (0, 36), .inr (0, 36), .inl (5, [some 21, some 2000001, some 2000002, some 2000003, some 2000004, some 2000005, some 2000006, some 2000007, some 2000008, some 2000009, some 2000010, some 2000011, some 2000012, none, none, none, none, none]), .inr (0, 6), .inr (0, 6), .inr (0, 6), .inr (0, 6), .inr (0, 6), .inr (0, 18), .inr (0, 18), .inr (0, 18), .inr (0, 180), .inr (0, 180), .inr (0, 36), .inr (0, 36), .inl (0, [none, none, none, some 56, none]), .inr (0, 30), .inl (6, [some 58, some 60, some 61, none]), .inl (0, [none, none, none, some 59, none]), .inr (0, 30), .inr (0, 6), .inr (0, 6), .inl (7, [none, some 63, some 64, some 65]), .inr (0, 6), .inr (0, 6), .inr (0, 64), .inl (1, [some 21, some 67, none, none]), .inr (4, 40), .inl (4, [some 21, some 69, some 70, some 71, some 72, some 73, some 74, none, none, none, none]), .inr (0, 30), .inr (0, 30), .inr (2, 30), .inr (0, 30), .inr (0, 30), .inr (2, 100), .inr (4, 3), .inr (2, 3), .inr (0, 6)]
  unfold lC
  exact cons_c (ob_8 xl) (cons_c (bz_a (σ := sA xl) (a := 9) (by decide) rfl) (cons_c (ob_10 xl) (cons_c (ob_11 xl) (cons_c (bz_a (σ := sA xl) (a := 12) (by decide) rfl) (cons_c (bz_a (σ := sA xl) (a := 13) (by decide) rfl) (cons_c (bz_a (σ := sA xl) (a := 14) (by decide) rfl) (cons_c (bz_a (σ := sA xl) (a := 15) (by decide) rfl) (cons_c (bz_a (σ := sA xl) (a := 16) (by decide) rfl) (cons_c (bz_a (σ := sA xl) (a := 17) (by decide) rfl) (cons_c (bz_a (σ := sA xl) (a := 18) (by decide) rfl) (cons_c (bz_a (σ := sA xl) (a := 19) (by decide) rfl) (cons_c (bz_a (σ := sA xl) (a := 20) (by decide) rfl) (cons_c (ob_21 xl) (cons_c (bz_a (σ := sA xl) (a := 22) (by decide) rfl) (cons_c (bz_a (σ := sA xl) (a := 23) (by decide) rfl) (cons_c (bz_a (σ := sA xl) (a := 24) (by decide) rfl) (cons_c (bz_a (σ := sA xl) (a := 25) (by decide) rfl) (cons_c (bz_a (σ := sA xl) (a := 26) (by decide) rfl) (cons_c (bz_a (σ := sA xl) (a := 27) (by decide) rfl) (cons_c (bz_a (σ := sA xl) (a := 28) (by decide) rfl) (cons_c (ob_29 xl) (cons_c (bz_a (σ := sA xl) (a := 30) (by decide) rfl) (cons_c (bz_a (σ := sA xl) (a := 31) (by decide) rfl) (cons_c (bz_a (σ := sA xl) (a := 32) (by decide) rfl) (cons_c (bz_a (σ := sA xl) (a := 33) (by decide) rfl) (cons_c (bz_a (σ := sA xl) (a := 34) (by decide) rfl) (cons_c (bz_a (σ := sA xl) (a := 35) (by decide) rfl) (cons_c (bz_a (σ := sA xl) (a := 36) (by decide) rfl) (cons_c (bz_a (σ := sA xl) (a := 37) (by decide) rfl) (cons_c (bz_a (σ := sA xl) (a := 38) (by decide) rfl) (cons_c (bz_a (σ := sA xl) (a := 39) (by decide) rfl) (cons_c (bz_a (σ := sA xl) (a := 40) (by decide) rfl) (cons_c (bz_a (σ := sA xl) (a := 41) (by decide) rfl) (cons_c (ob_42 xl) (cons_c (bz_a (σ := sA xl) (a := 43) (by decide) rfl) (cons_c (bz_a (σ := sA xl) (a := 44) (by decide) rfl) (cons_c (bz_a (σ := sA xl) (a := 45) (by decide) rfl) (cons_c (bz_a (σ := sA xl) (a := 46) (by decide) rfl) (cons_c (bz_a (σ := sA xl) (a := 47) (by decide) rfl) (cons_c (bz_a (σ := sA xl) (a := 48) (by decide) rfl) (cons_c (bz_a (σ := sA xl) (a := 49) (by decide) rfl) (cons_c (bz_a (σ := sA xl) (a := 50) (by decide) rfl) (cons_c (bz_a (σ := sA xl) (a := 51) (by decide) rfl) (cons_c (bz_a (σ := sA xl) (a := 52) (by decide) rfl) (cons_c (bz_a (σ := sA xl) (a := 53) (by decide) rfl) (cons_c (bz_a (σ := sA xl) (a := 54) (by decide) rfl) (cons_c (ob_55 xl) (cons_c (bz_a (σ := sA xl) (a := 56) (by decide) rfl) (cons_c (ob_57 xl) (cons_c (ob_58 xl) (cons_c (bz_a (σ := sA xl) (a := 59) (by decide) rfl) (cons_c (bz_a (σ := sA xl) (a := 60) (by decide) rfl) (cons_c (bz_a (σ := sA xl) (a := 61) (by decide) rfl) (cons_c (ob_62 xl) (cons_c (bz_a (σ := sA xl) (a := 63) (by decide) rfl) (cons_c (bz_a (σ := sA xl) (a := 64) (by decide) rfl) (cons_c (bz_a (σ := sA xl) (a := 65) (by decide) rfl) (cons_c (ob_66 xl) (cons_c (bz_q (σ := sA xl) (a := 67) rfl) (cons_c (ob_68 xl) (cons_c (bz_a (σ := sA xl) (a := 69) (by decide) rfl) (cons_c (bz_a (σ := sA xl) (a := 70) (by decide) rfl) (cons_c (bz_a (σ := sA xl) (a := 71) (by decide) rfl) (cons_c (bz_a (σ := sA xl) (a := 72) (by decide) rfl) (cons_c (bz_a (σ := sA xl) (a := 73) (by decide) rfl) (cons_c (bz_a (σ := sA xl) (a := 74) (by decide) rfl) (cons_c (bz_q (σ := sA xl) (a := 75) rfl) (cons_c (bz_a (σ := sA xl) (a := 76) (by decide) rfl) (cons_c (bz_a (σ := sA xl) (a := 77) (by decide) rfl) rfl)))))))))))))))))))))))))))))))))))))))))))))))))))))))))))))))))))))
theorem lR_e {xl : List Int32} {σ : ZS} (f0 : ∀ a, 78 ≤ a → sF σ a = fun _ => 0) (hi : ∀ k, sI σ 78 k = sI (sA xl) 78 k) (h2 : σ.2.2 = (sA xl).2.2) : lR = bldL σ 78 (layS.drop 70) := by
  have j0 : sJ σ = fun _ => 0 := by show σ.2.2.2.1 = _; rw [h2]; rfl
  have o0 : .inl (9, [.ref 79, .ref 80, .int 0, .int 0, .int 0, .int (-1), .int 0, .int 0, .int 0, .int 0, .long 0, .ref 81, .ref 82, .ref 83, .ref 84, .ref 85, .ref 86, .ref 87, .ref 88, .ref 89, .ref 90, .ref 91, .ref 92, .ref 93, .ref 94, .ref 95, .ref 96, .ref 97, .ref 98, .ref 99, .ref 100, .ref 101, .ref 102, .ref 103, .int 0, .int 0, .int 0, .int 0, .int 0, .int 0, .int 0, .ref 104, .ref 105, .int (-1), .ref 106, .ref 107, .ref 108, .ref 109, .int 0, .int 0, .ref 110, .int 0, .ref 111, .ref 112, .ref 113, .ref 114, .ref 115, .int 0, .int 0, .ref 116, .ref 117]) = bld σ 78 (.inl (9, [some 79, some 80, none, none, none, none, none, none, none, none, some 1000001, some 81, some 82, some 83, some 84, some 85, some 86, some 87, some 88, some 89, some 90, some 91, some 92, some 93, some 94, some 95, some 96, some 97, some 98, some 99, some 100, some 101, some 102, some 103, none, none, none, none, none, none, none, some 104, some 105, none, some 106, some 107, some 108, some 109, none, none, some 110, none, some 111, some 112, some 113, some 114, some 115, none, none, some 116, some 117])) := by
    rw [bz_o (τ := sA xl) hi h2]; exact ob_78 xl
  show lR = bldL σ 78 [.inl (9, [some 79, some 80, none, none, none, none, none, none, none, none, some 1000001, some 81, some 82, some 83, some 84, some 85, some 86, some 87, some 88, some 89, some 90, some 91, some 92, some 93, some 94, some 95, some 96, some 97, some 98, some 99, some 100, some 101, some 102, some 103, none, none, none, none, none, none, none, some 104, some 105, none, some 106, some 107, some 108, some 109, none, none, some 110, none, some 111, some 112, some 113, some 114, some 115, none, none, some 116, some 117]), .inr (1, 1620), .inr (1, 1600), .inr (0, 2), .inr (0, 2), .inr (0, 2), .inr (0, 2), .inr (0, 2), .inr (0, 2), .inr (0, 2), .inr (0, 2), .inr (0, 2), .inr (0, 2), .inr (0, 12), .inr (0, 12), .inr (0, 12), .inr (0, 12), .inr (0, 12), .inr (0, 2), .inr (0, 2), .inr (3, 12), .inr (0, 1120), .inr (0, 1120), .inr (0, 90), .inr (0, 90), .inr (0, 60), .inr (0, 521), .inr (0, 521), .inr (0, 30), .inr (0, 6), .inr (0, 6), .inr (0, 21361), .inr (0, 6), .inr (0, 30), .inr (0, 30), .inr (0, 30), .inr (0, 30), .inr (0, 30), .inr (0, 1563), .inr (2, 3)]
  unfold lR
  exact cons_c o0 (cons_c (bz_a (σ := σ) (a := 79) (by decide) (f0 79 (by omega))) (cons_c (bz_a (σ := σ) (a := 80) (by decide) (f0 80 (by omega))) (cons_c (bz_a (σ := σ) (a := 81) (by decide) (f0 81 (by omega))) (cons_c (bz_a (σ := σ) (a := 82) (by decide) (f0 82 (by omega))) (cons_c (bz_a (σ := σ) (a := 83) (by decide) (f0 83 (by omega))) (cons_c (bz_a (σ := σ) (a := 84) (by decide) (f0 84 (by omega))) (cons_c (bz_a (σ := σ) (a := 85) (by decide) (f0 85 (by omega))) (cons_c (bz_a (σ := σ) (a := 86) (by decide) (f0 86 (by omega))) (cons_c (bz_a (σ := σ) (a := 87) (by decide) (f0 87 (by omega))) (cons_c (bz_a (σ := σ) (a := 88) (by decide) (f0 88 (by omega))) (cons_c (bz_a (σ := σ) (a := 89) (by decide) (f0 89 (by omega))) (cons_c (bz_a (σ := σ) (a := 90) (by decide) (f0 90 (by omega))) (cons_c (bz_a (σ := σ) (a := 91) (by decide) (f0 91 (by omega))) (cons_c (bz_a (σ := σ) (a := 92) (by decide) (f0 92 (by omega))) (cons_c (bz_a (σ := σ) (a := 93) (by decide) (f0 93 (by omega))) (cons_c (bz_a (σ := σ) (a := 94) (by decide) (f0 94 (by omega))) (cons_c (bz_a (σ := σ) (a := 95) (by decide) (f0 95 (by omega))) (cons_c (bz_a (σ := σ) (a := 96) (by decide) (f0 96 (by omega))) (cons_c (bz_a (σ := σ) (a := 97) (by decide) (f0 97 (by omega))) (cons_c (bz_j (σ := σ) (a := 98) j0) (cons_c (bz_a (σ := σ) (a := 99) (by decide) (f0 99 (by omega))) (cons_c (bz_a (σ := σ) (a := 100) (by decide) (f0 100 (by omega))) (cons_c (bz_a (σ := σ) (a := 101) (by decide) (f0 101 (by omega))) (cons_c (bz_a (σ := σ) (a := 102) (by decide) (f0 102 (by omega))) (cons_c (bz_a (σ := σ) (a := 103) (by decide) (f0 103 (by omega))) (cons_c (bz_a (σ := σ) (a := 104) (by decide) (f0 104 (by omega))) (cons_c (bz_a (σ := σ) (a := 105) (by decide) (f0 105 (by omega))) (cons_c (bz_a (σ := σ) (a := 106) (by decide) (f0 106 (by omega))) (cons_c (bz_a (σ := σ) (a := 107) (by decide) (f0 107 (by omega))) (cons_c (bz_a (σ := σ) (a := 108) (by decide) (f0 108 (by omega))) (cons_c (bz_a (σ := σ) (a := 109) (by decide) (f0 109 (by omega))) (cons_c (bz_a (σ := σ) (a := 110) (by decide) (f0 110 (by omega))) (cons_c (bz_a (σ := σ) (a := 111) (by decide) (f0 111 (by omega))) (cons_c (bz_a (σ := σ) (a := 112) (by decide) (f0 112 (by omega))) (cons_c (bz_a (σ := σ) (a := 113) (by decide) (f0 113 (by omega))) (cons_c (bz_a (σ := σ) (a := 114) (by decide) (f0 114 (by omega))) (cons_c (bz_a (σ := σ) (a := 115) (by decide) (f0 115 (by omega))) (cons_c (bz_a (σ := σ) (a := 116) (by decide) (f0 116 (by omega))) (cons_c (bz_a (σ := σ) (a := 117) (by decide) (f0 117 (by omega))) rfl)))))))))))))))))))))))))))))))))))))))
def o80 : ZC := .inl (8, [.null, .int 0, .int 0, .int 0, .null, .null, .null, .null, .null, .null, .null, .null, .null, .null, .null, .null, .int 0, .int 0])
theorem c_new0 (xl : List Int32) : xX8_init 8 (BH (z_h0 xl) [o80]) = (z_gR (mkK (sA xl)) 8 8 6).bind fun x157 => (z_gu (z_is (mkK (sA xl)) x157 5) ((xX5_start x157 (mkK (sA xl))).bind fun h160 => some h160)) := by
  have hL : BH (z_h0 xl) lC = mkK (sA xl) := by rw [lC_e xl]; exact BH_c (σ := sA xl)
  have hB : (z_h0 xl).2 = 8 := rfl
  generalize mkK (sA xl) = w at *
  generalize z_h0 xl = g at *
  unfold xX8_init o80
  rw [bh_b (a := 9) hB (by simp) rfl]
  rw [bh_i hB (by simp)]
  rw [bh_o (a := 10) iX3 hB (by simp) rfl]
  rw [bh_o (a := 21) iX2 hB (by simp) rfl]
  rw [bh_o2 (a := 29) (pl := 21) iX5 hB rfl (by simp) rfl]
  rw [bh_o2 (a := 42) (pl := 21) iX5 hB rfl (by simp) rfl]
  rw [bh_o (a := 55) iX0 hB (by simp) rfl]
  rw [bh_o (a := 57) iX6 hB (by simp) rfl]
  rw [bh_o (a := 62) iX7 hB (by simp) rfl]
  rw [bh_o2 (a := 66) (pl := 21) iX1 hB rfl (by simp) rfl]
  rw [bh_o2 (a := 68) (pl := 21) iX4 hB rfl (by simp) rfl]
  rw [bh_b (a := 75) hB (by simp) rfl]
  rw [bh_b (a := 76) hB (by simp) rfl]
  rw [bh_b (a := 77) hB (by simp) rfl]
  exact congrArg (fun H => (z_gR H 8 8 6).bind fun x157 => (z_gu (z_is H x157 5) ((xX5_start x157 H).bind fun h160 => some h160))) hL
theorem c_new (xl : List Int32) : ∃ sB, xX8_init 8 (BH (z_h0 xl) [o80]) = some (mkK sB) ∧ (∀ j, j < 521 → cV sB 29 j = ctA (fun r s => sF (sA xl) (22 + r) s) 0 (cV (sA xl) 29) j) ∧ FR (qS 29) (qT 29) (sA xl) sB := by
  have hp : isSt (sK (sA xl)) 29 := Or.inl rfl
  obtain ⟨sB, b1, b2, b3⟩ := c_start_k (σ := sA xl) (p := 29) (dr := 0) hp (by omega) rfl
  refine ⟨sB, ?_, b2, b3⟩
  rw [c_new0, kgR (by omega), rNow, Option.bind_some]
  show z_gu (z_is (mkK (sA xl)) 29 5) ((xX5_start 29 (mkK (sA xl))).bind fun h160 => some h160) = _
  rw [kis (by omega), is_S hp, gu_t, b1, Option.bind_some]
def o90 : ZC := .inl (9, [.null, .null, .int 0, .int 0, .int 0, .int 0, .int 0, .int 0, .int 0, .int 0, .long 0, .null, .null, .null, .null, .null, .null, .null, .null, .null, .null, .null, .null, .null, .null, .null, .null, .null, .null, .null, .null, .null, .null, .null, .int 0, .int 0, .int 0, .int 0, .int 0, .int 0, .int 0, .null, .null, .int 0, .null, .null, .null, .null, .int 0, .int 0, .null, .int 0, .null, .null, .null, .null, .null, .int 0, .int 0, .null, .null])
theorem r_new0 {xl : List Int32} {σ : ZS} (f0 : ∀ a, 78 ≤ a → sF σ a = fun _ => 0) (hi : ∀ k, sI σ 78 k = sI (sA xl) 78 k) (h2 : σ.2.2 = (sA xl).2.2) : xX9_init 78 (BH (mkK σ) [o90]) = (z_gu (z_is (mkH σ) 78 9) ((xX9_clearBank 78 (mkH σ)).bind fun h322 => (z_gu (z_is h322 78 9) ((xX9_startAnew 78 h322).bind fun h326 => some h326)))) := by
  have hL : BH (mkK σ) lR = mkH σ := by rw [lR_e f0 hi h2]; exact BH_r (by show σ.2.2.2.2.2.2.2.1 = 0; rw [h2]; rfl)
  have hB : (mkK σ).2 = 78 := rfl
  generalize mkK σ = w at *
  generalize mkH σ = v at *
  unfold xX9_init o90
  rw [bh_b (a := 79) hB (by simp) rfl]
  rw [bh_b (a := 80) hB (by simp) rfl]
  rw [bh_i hB (by simp)]
  rw [bh_b (a := 81) hB (by simp) rfl]
  rw [bh_b (a := 82) hB (by simp) rfl]
  rw [bh_b (a := 83) hB (by simp) rfl]
  rw [bh_b (a := 84) hB (by simp) rfl]
  rw [bh_b (a := 85) hB (by simp) rfl]
  rw [bh_b (a := 86) hB (by simp) rfl]
  rw [bh_b (a := 87) hB (by simp) rfl]
  rw [bh_b (a := 88) hB (by simp) rfl]
  rw [bh_b (a := 89) hB (by simp) rfl]
  rw [bh_b (a := 90) hB (by simp) rfl]
  rw [bh_b (a := 91) hB (by simp) rfl]
  rw [bh_b (a := 92) hB (by simp) rfl]
  rw [bh_b (a := 93) hB (by simp) rfl]
  rw [bh_b (a := 94) hB (by simp) rfl]
  rw [bh_b (a := 95) hB (by simp) rfl]
  rw [bh_b (a := 96) hB (by simp) rfl]
  rw [bh_b (a := 97) hB (by simp) rfl]
  rw [bh_b (a := 98) hB (by simp) rfl]
  rw [bh_b (a := 99) hB (by simp) rfl]
  rw [bh_b (a := 100) hB (by simp) rfl]
  rw [bh_b (a := 101) hB (by simp) rfl]
  rw [bh_b (a := 102) hB (by simp) rfl]
  rw [bh_b (a := 103) hB (by simp) rfl]
  rw [bh_b (a := 104) hB (by simp) rfl]
  rw [bh_b (a := 105) hB (by simp) rfl]
  rw [bh_i hB (by simp)]
  rw [bh_b (a := 106) hB (by simp) rfl]
  rw [bh_b (a := 107) hB (by simp) rfl]
  rw [bh_b (a := 108) hB (by simp) rfl]
  rw [bh_b (a := 109) hB (by simp) rfl]
  rw [bh_b (a := 110) hB (by simp) rfl]
  rw [bh_b (a := 111) hB (by simp) rfl]
  rw [bh_b (a := 112) hB (by simp) rfl]
  rw [bh_b (a := 113) hB (by simp) rfl]
  rw [bh_b (a := 114) hB (by simp) rfl]
  rw [bh_b (a := 115) hB (by simp) rfl]
  rw [bh_b (a := 116) hB (by simp) rfl]
  rw [bh_b (a := 117) hB (by simp) rfl]
  exact congrArg (fun H => (z_gu (z_is H 78 9) ((xX9_clearBank 78 H).bind fun h322 => (z_gu (z_is h322 78 9) ((xX9_startAnew 78 h322).bind fun h326 => some h326))))) hL
