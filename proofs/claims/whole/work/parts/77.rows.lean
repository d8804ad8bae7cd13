/-! rows of the store that were wanting: the state at hand, the text, the name, long rows, rows of states, a new state -/
def noR (r : Nat) : ZL → Bool
  | .inl q => q.2.all (fun f => decide (f ≠ some r))
  | .inr _ => true
def no3 : ZL → Bool
  | .inl _ => true
  | .inr q => decide (q.1 ≠ 3)
theorem lay_s2 : ∀ b, b < 118 → b ≠ 8 → noR 1000002 (layS.getD (b - 8) layJ) = true ∨ b < 8 := by decide +kernel
theorem lay_s3 : ∀ b, b < 118 → b ≠ 10 → noR 1000003 (layS.getD (b - 8) layJ) = true ∨ b < 8 := by decide +kernel
theorem lay_s1 : ∀ b, b < 118 → b ≠ 78 → noR 1000001 (layS.getD (b - 8) layJ) = true ∨ b < 8 := by decide +kernel
theorem lay_s4 : ∀ b, b < 118 → b ≠ 98 → no3 (layS.getD (b - 8) layJ) = true ∨ b < 8 := by decide +kernel
theorem lay_t : ∀ r, r < 13 → (noR 1000001 (layT.getD r layJ) && noR 1000002 (layT.getD r layJ) && noR 1000003 (layT.getD r layJ) && no3 (layT.getD r layJ)) = true := by decide +kernel
theorem lay_n {n b : Nat} (h8 : ¬ b < 8) : (b ≠ 8 → noR 1000002 (layA n b) = true) ∧ (b ≠ 10 → noR 1000003 (layA n b) = true) ∧ (b ≠ 78 → noR 1000001 (layA n b) = true) ∧ (b ≠ 98 → no3 (layA n b) = true) := by
  unfold layA
  by_cases h1 : b < 118
  · rw [if_pos h1]
    exact ⟨fun h => (lay_s2 b h1 h).resolve_right h8, fun h => (lay_s3 b h1 h).resolve_right h8, fun h => (lay_s1 b h1 h).resolve_right h8, fun h => (lay_s4 b h1 h).resolve_right h8⟩
  · rw [if_neg h1]
    by_cases h2 : b < 118 + 13 * n
    · rw [if_pos h2]
      have := lay_t ((b - 118) % 13) (Nat.mod_lt _ (by decide))
      simp only [Bool.and_eq_true] at this
      exact ⟨fun _ => this.1.1.2, fun _ => this.1.2, fun _ => this.1.1.1, fun _ => this.2⟩
    · rw [if_neg h2]
      exact ⟨fun _ => rfl, fun _ => rfl, fun _ => rfl, fun _ => rfl⟩
/-- a write at a changes the cell there alone, by the layout -/
theorem mk_up2 {σ τ : ZS} {a : Nat} {c : ZC} (hK : sK τ = sK σ) (hX : sX τ = sX σ) (h8 : ¬ a < 8) (hc : bld τ a (layA (sK σ) a) = c) (ho : ∀ b, b ≠ a → ¬ b < 8 → bld τ b (layA (sK σ) b) = bld σ b (layA (sK σ) b)) : z_up (mkH σ) a c = mkH τ := by
  unfold z_up mkH
  refine Prod.ext (funext fun j => ?_) (by show _ + _ = _ + _; rw [hK])
  show (if j = a then c else cellOf σ j) = cellOf τ j
  by_cases hj : j = a
  · subst hj
    rw [if_pos rfl]
    unfold cellOf
    rw [if_neg h8, hK, hc]
  · rw [if_neg hj]
    unfold cellOf
    rw [hK, hX]
    by_cases hj8 : j < 8
    · rw [if_pos hj8, if_pos hj8]
    · rw [if_neg hj8, if_neg hj8, ho j hj hj8]
theorem bld_no {σ τ : ZS} {b r : Nat} (hI : sI τ b = sI σ b) (hF : sF τ b = sF σ b) (hJ : sJ τ = sJ σ) (hQ : sQ τ b = sQ σ b) (h1 : r = 1000001 ∨ sN τ = sN σ) (h2 : r = 1000002 ∨ sNow τ = sNow σ) (h3 : r = 1000003 ∨ sTx τ = sTx σ) (L : ZL) (hn : noR r L = true) : bld τ b L = bld σ b L := by
  cases L with
  | inr q =>
    unfold bld
    rw [hF, hJ, hQ]
  | inl q =>
    show Sum.inl (q.1, q.2.mapIdx (fun k f => fv τ b k f)) = Sum.inl (q.1, q.2.mapIdx (fun k f => fv σ b k f))
    congr 2
    apply List.ext_getElem?
    intro j
    rw [List.getElem?_mapIdx, List.getElem?_mapIdx]
    cases hq : q.2[j]? with
    | none => rfl
    | some f =>
      have hm : f ∈ q.2 := List.mem_of_getElem? hq
      have hf : f ≠ some r := of_decide_eq_true (List.all_eq_true.mp hn f hm)
      show some (fv τ b j f) = some (fv σ b j f)
      cases f with
      | none =>
        show some (Value.int (sI τ b j)) = some (Value.int (sI σ b j))
        rw [hI]
      | some x =>
        have hx : x ≠ r := fun z => hf (by rw [z])
        unfold fv
        show some (if x < 1000000 then _ else if x = 1000001 then Value.long (sN τ) else if x = 1000002 then Value.ref (sNow τ) else if x = 1000003 then sTx τ else _) = some (if x < 1000000 then _ else if x = 1000001 then Value.long (sN σ) else if x = 1000002 then Value.ref (sNow σ) else if x = 1000003 then sTx σ else _)
        by_cases c0 : x < 1000000
        · rw [if_pos c0, if_pos c0]
        · rw [if_neg c0, if_neg c0]
          by_cases c1 : x = 1000001
          · rw [if_pos c1, if_pos c1, h1.resolve_left (fun z => hx (by rw [c1, z]))]
          · rw [if_neg c1, if_neg c1]
            by_cases c2 : x = 1000002
            · rw [if_pos c2, if_pos c2, h2.resolve_left (fun z => hx (by rw [c2, z]))]
            · rw [if_neg c2, if_neg c2]
              by_cases c3 : x = 1000003
              · rw [if_pos c3, if_pos c3, h3.resolve_left (fun z => hx (by rw [c3, z]))]
              · rw [if_neg c3, if_neg c3]
/-- a write of a field that isn't an int -/
theorem mk_sX {σ τ : ZS} {a ci k r : Nat} {fs : List (Option Nat)} {v : Value} (h8 : ¬ a < 8) (hL : layA (sK σ) a = .inl (ci, fs)) (hf : fs[k]? = some (some r)) (hu : ∀ j, j ≠ k → fs[j]? ≠ some (some r)) (hK : sK τ = sK σ) (hX : sX τ = sX σ) (hv : fv τ a k (some r) = v) (hI : sI τ = sI σ) (hF : sF τ = sF σ) (hJ : sJ τ = sJ σ) (hQ : sQ τ = sQ σ) (h1 : r = 1000001 ∨ sN τ = sN σ) (h2 : r = 1000002 ∨ sNow τ = sNow σ) (h3 : r = 1000003 ∨ sTx τ = sTx σ) (hn : ∀ b, b ≠ a → ¬ b < 8 → noR r (layA (sK σ) b) = true) : z_sF (mkH σ) a ci k v = some (mkH τ) := by
  unfold z_sF
  rw [mk_at h8 hL]
  have hk : k < fs.length := (List.getElem?_eq_some_iff.mp hf).1
  show (if ci = ci ∧ k < (fs.mapIdx (fun k f => fv σ a k f)).length then some (z_up (mkH σ) a (.inl (ci, (fs.mapIdx (fun k f => fv σ a k f)).set k v))) else none) = _
  rw [if_pos ⟨rfl, by rw [List.length_mapIdx]; exact hk⟩]
  congr 1
  refine mk_up2 hK hX h8 ?_ (fun b hb hb8 => bld_no (r := r) (by rw [hI]) (by rw [hF]) hJ (by rw [hQ]) h1 h2 h3 _ (hn b hb hb8))
  rw [hL]
  show Sum.inl (ci, fs.mapIdx (fun j f => fv τ a j f)) = Sum.inl (ci, (fs.mapIdx (fun k f => fv σ a k f)).set k v)
  congr 2
  apply List.ext_getElem?
  intro j
  rw [List.getElem?_set, List.getElem?_mapIdx, List.getElem?_mapIdx, List.length_mapIdx]
  by_cases hj : k = j
  · subst hj
    rw [if_pos rfl, if_pos hk, hf]
    show some (fv τ a k (some r)) = _
    rw [hv]
  · rw [if_neg hj]
    have hu2 := hu j (Ne.symm hj)
    cases hq : fs[j]? with
    | none => rfl
    | some f =>
      rw [hq] at hu2
      show some (fv τ a j f) = some (fv σ a j f)
      have hb := bld_no (σ := σ) (τ := τ) (b := a) (r := r) (by rw [hI]) (by rw [hF]) hJ (by rw [hQ]) h1 h2 h3 (.inl (0, List.replicate j none ++ [f])) (by
        show (List.replicate j none ++ [f]).all _ = true
        rw [List.all_append, Bool.and_eq_true]
        refine ⟨?_, ?_⟩
        · rw [List.all_eq_true]
          intro x hx
          rw [(List.mem_replicate.mp hx).2]
          rfl
        · show (decide (f ≠ some r) && true) = true
          rw [Bool.and_true]
          exact decide_eq_true (fun z => hu2 (by rw [z])))
      have hb2 : (List.replicate j none ++ [f]).mapIdx (fun k f => fv τ a k f) = (List.replicate j none ++ [f]).mapIdx (fun k f => fv σ a k f) := by
        have := Sum.inl.inj hb
        exact congrArg Prod.snd this
      have hb3 := congrArg (fun l => l[j]?) hb2
      simp only [List.getElem?_mapIdx] at hb3
      rw [List.getElem?_append_right (by simp)] at hb3
      simp at hb3
      rw [hb3]
theorem rNow (σ : ZS) : z_gR (mkH σ) 8 8 6 = some (sNow σ) := by
  unfold z_gR
  rw [mk_gF (f := some 1000002) (by decide) rfl rfl]
  rfl
theorem wNow (σ : ZS) (v : Nat) : z_sF (mkH σ) 8 8 6 (.ref v) = some (mkH (setNow σ v)) := by
  refine mk_sX (r := 1000002) (by decide) rfl rfl ?_ rfl rfl rfl rfl rfl rfl rfl (Or.inr rfl) (Or.inl rfl) (Or.inr rfl) (fun b hb hb8 => (lay_n hb8).1 hb)
  intro j hj
  rcases Nat.lt_or_ge j 18 with h | h
  · exact (by decide +kernel : ∀ j, j < 18 → j ≠ 6 → ([some 9, none, none, none, some 10, some 21, some 1000002, some 42, some 55, some 57, some 62, some 66, some 68, some 75, some 76, some 77, none, none] : List (Option Nat))[j]? ≠ some (some 1000002)) j h hj
  · rw [List.getElem?_eq_none (by simpa using h)]
    intro z
    cases z
theorem rTx (σ : ZS) (h : sTx σ = .ref 9) : z_gR (mkH σ) 10 3 3 = some 9 := by
  unfold z_gR
  rw [mk_gF (f := some 1000003) (by decide) rfl rfl]
  show (match some (sTx σ) with | some (.ref x) => some x | _ => none) = _
  rw [h]
theorem wTx (σ : ZS) (v : Value) : z_sF (mkH σ) 10 3 3 v = some (mkH (setTx σ v)) := by
  refine mk_sX (r := 1000003) (by decide) rfl rfl ?_ rfl rfl rfl rfl rfl rfl rfl (Or.inr rfl) (Or.inr rfl) (Or.inl rfl) (fun b hb hb8 => (lay_n hb8).2.1 hb)
  intro j hj
  rcases Nat.lt_or_ge j 13 with h | h
  · exact (by decide +kernel : ∀ j, j < 13 → j ≠ 3 → ([some 11, none, none, some 1000003, none, none, none, none, none, none, none, some 19, some 20] : List (Option Nat))[j]? ≠ some (some 1000003)) j h hj
  · rw [List.getElem?_eq_none (by simpa using h)]
    intro z
    cases z
theorem rName (σ : ZS) : z_gJ (mkH σ) 78 9 10 = some (sN σ) := by
  unfold z_gJ
  rw [mk_gF (f := some 1000001) (by decide) rfl rfl]
  rfl
theorem wName (σ : ZS) (v : Int64) : z_sF (mkH σ) 78 9 10 (.long v) = some (mkH (setN σ v)) := by
  refine mk_sX (r := 1000001) (by decide) rfl rfl ?_ rfl rfl rfl rfl rfl rfl rfl (Or.inl rfl) (Or.inr rfl) (Or.inr rfl) (fun b hb hb8 => (lay_n hb8).2.2.1 hb)
  intro j hj
  rcases Nat.lt_or_ge j 61 with h | h
  · exact (by decide +kernel : ∀ j, j < 61 → j ≠ 10 → ([some 79, some 80, none, none, none, none, none, none, none, none, some 1000001, some 81, some 82, some 83, some 84, some 85, some 86, some 87, some 88, some 89, some 90, some 91, some 92, some 93, some 94, some 95, some 96, some 97, some 98, some 99, some 100, some 101, some 102, some 103, none, none, none, none, none, none, none, some 104, some 105, none, some 106, some 107, some 108, some 109, none, none, some 110, none, some 111, some 112, some 113, some 114, some 115, none, none, some 116, some 117] : List (Option Nat))[j]? ≠ some (some 1000001)) j h hj
  · rw [List.getElem?_eq_none (by simpa using h)]
    intro z
    cases z
theorem wa_98 (σ : ZS) {k : Nat} (v : Int64) (hk : k < 12) : z_uJ (mkH σ) 98 (nI k) v = some (mkH (setJ σ k v)) := by
  unfold z_uJ
  rw [mk_at (L := .inr (3, 12)) (by decide) rfl]
  show (if ¬ nI k < 0 ∧ (nI k).toNatClampNeg < ((List.range 12).map (sJ σ)).length then some (z_up (mkH σ) 98 (.inr (.inr (.inl (((List.range 12).map (sJ σ)).set (nI k).toNatClampNeg v))))) else none) = _
  rw [nI_clamp (by omega), if_pos ⟨nI_pos (by omega), by simpa using hk⟩]
  congr 1
  refine mk_up2 rfl rfl (by decide) ?_ ?_
  · show Sum.inr (Sum.inr (Sum.inl ((List.range 12).map (fun j => if j = k then v else sJ σ j)))) = _
    rw [rng_set]
  · intro b hb hb8
    have := (lay_n (n := sK σ) hb8).2.2.2 hb
    cases hL : layA (sK σ) b with
    | inl q => rfl
    | inr q =>
      rw [hL] at this
      have h3 : q.1 ≠ 3 := of_decide_eq_true this
      unfold bld
      show (if q.1 < 3 then _ else if q.1 = 3 then _ else _) = (if q.1 < 3 then _ else if q.1 = 3 then _ else _)
      by_cases c : q.1 < 3
      · rw [if_pos c, if_pos c]
        rfl
      · rw [if_neg c, if_neg c, if_neg h3, if_neg h3]
        rfl
theorem mk_uQ {σ : ZS} {a n k p : Nat} (h8 : ¬ a < 8) (hL : layA (sK σ) a = .inr (4, n)) (hn : n < 2 ^ 31) (hk : k < n) (hp : isSt (sK σ) p) : z_uQ (mkH σ) a (nI k) p = some (mkH (setQ σ a k (some p))) := by
  unfold z_uQ
  rw [mk_at h8 hL]
  show (if z_is (mkH σ) p 5 = true ∧ ¬ nI k < 0 ∧ (nI k).toNatClampNeg < ((List.range n).map (sQ σ a)).length then some (z_up (mkH σ) a (.inr (.inr (.inr (((List.range n).map (sQ σ a)).set (nI k).toNatClampNeg (some p)))))) else none) = _
  rw [nI_clamp (by omega), if_pos ⟨is_S hp, nI_pos (by omega), by simpa using hk⟩]
  congr 1
  refine mk_up rfl rfl h8 ?_ (fun b hb L => bld_Q hb L)
  rw [hL, rng_set]
  show Sum.inr (Sum.inr (Sum.inr ((List.range n).map (up2 (sQ σ) a k (some p) a)))) = _
  rw [up2_eq]
theorem wa_67 {σ : ZS} {k p : Nat} (hk : k < 40) (hp : isSt (sK σ) p) : z_uQ (mkH σ) 67 (nI k) p = some (mkH (setQ σ 67 k (some p))) := mk_uQ (by decide) rfl (by decide) hk hp
theorem wa_75 {σ : ZS} {k p : Nat} (hk : k < 3) (hp : isSt (sK σ) p) : z_uQ (mkH σ) 75 (nI k) p = some (mkH (setQ σ 75 k (some p))) := mk_uQ (by decide) rfl (by decide) hk hp
