/-! reads and writes of the pure heap, and their rules -/
def z_gF (h : ZH) (a ci k : Nat) : Option Value := match h.1 a with
  | .inl o => if o.1 = ci then o.2[k]? else none
  | _ => none
def z_gI (h : ZH) (a ci k : Nat) : Option Int32 := match z_gF h a ci k with
  | some (.int x) => some x
  | _ => none
def z_gJ (h : ZH) (a ci k : Nat) : Option Int64 := match z_gF h a ci k with
  | some (.long x) => some x
  | _ => none
def z_gR (h : ZH) (a ci k : Nat) : Option Nat := match z_gF h a ci k with
  | some (.ref x) => some x
  | _ => none
def z_sF (h : ZH) (a ci k : Nat) (v : Value) : Option ZH := match h.1 a with
  | .inl o => if o.1 = ci ∧ k < o.2.length then some (z_up h a (.inl (ci, o.2.set k v))) else none
  | _ => none
def z_is (h : ZH) (a ci : Nat) : Bool := match h.1 a with
  | .inl o => decide (o.1 = ci)
  | _ => false
def z_aI (h : ZH) (a : Nat) (i : Int32) : Option Int32 := match h.1 a with
  | .inr (.inl r) => if (r.1 = 0 ∨ r.1 = 10) ∧ ¬ i < 0 then r.2[i.toNatClampNeg]? else none
  | _ => none
def z_aB (h : ZH) (a : Nat) (i : Int32) : Option Int32 := match h.1 a with
  | .inr (.inl r) => if (r.1 = 1 ∨ r.1 = 2 ∨ r.1 = 11) ∧ ¬ i < 0 then r.2[i.toNatClampNeg]? else none
  | _ => none
def z_aJ (h : ZH) (a : Nat) (i : Int32) : Option Int64 := match h.1 a with
  | .inr (.inr (.inl r)) => if ¬ i < 0 then r[i.toNatClampNeg]? else none
  | _ => none
def z_aQ (h : ZH) (a : Nat) (i : Int32) : Option (Option Nat) := match h.1 a with
  | .inr (.inr (.inr r)) => if ¬ i < 0 then r[i.toNatClampNeg]? else none
  | _ => none
def z_uI (h : ZH) (a : Nat) (i x : Int32) : Option ZH := match h.1 a with
  | .inr (.inl r) => if r.1 = 0 ∧ ¬ i < 0 ∧ i.toNatClampNeg < r.2.length then some (z_up h a (.inr (.inl (0, r.2.set i.toNatClampNeg x)))) else none
  | _ => none
def z_uB (h : ZH) (a : Nat) (i x : Int32) : Option ZH := match h.1 a with
  | .inr (.inl r) => if r.1 = 1 ∧ ¬ i < 0 ∧ i.toNatClampNeg < r.2.length then some (z_up h a (.inr (.inl (1, r.2.set i.toNatClampNeg (vp_nar .byte x))))) else if r.1 = 2 ∧ ¬ i < 0 ∧ i.toNatClampNeg < r.2.length then some (z_up h a (.inr (.inl (2, r.2.set i.toNatClampNeg (vp_nar .boolean x))))) else none
  | _ => none
def z_uJ (h : ZH) (a : Nat) (i : Int32) (x : Int64) : Option ZH := match h.1 a with
  | .inr (.inr (.inl r)) => if ¬ i < 0 ∧ i.toNatClampNeg < r.length then some (z_up h a (.inr (.inr (.inl (r.set i.toNatClampNeg x))))) else none
  | _ => none
def z_uQ (h : ZH) (a : Nat) (i : Int32) (x : Nat) : Option ZH := match h.1 a with
  | .inr (.inr (.inr r)) => if z_is h x 5 = true ∧ ¬ i < 0 ∧ i.toNatClampNeg < r.length then some (z_up h a (.inr (.inr (.inr (r.set i.toNatClampNeg (some x)))))) else none
  | _ => none
def z_aL (h : ZH) (a : Nat) : Option Int32 := match h.1 a with
  | .inr (.inl r) => if r.1 < 3 ∨ r.1 = 10 ∨ r.1 = 11 then some (Int32.ofNat r.2.length) else none
  | _ => none
/-- System.arraycopy of the first n ints of a row onto a row of n -/
def z_cp (h : ZH) (a b : Nat) (n : Int32) : Option ZH := match h.1 a, h.1 b with
  | .inr (.inl r), .inr (.inl q) => if r.1 = 0 ∧ q.1 = 0 ∧ ¬ n < 0 ∧ n.toNatClampNeg = q.2.length ∧ n.toNatClampNeg ≤ r.2.length then some (z_up h b (.inr (.inl (0, r.2.take n.toNatClampNeg)))) else none
  | _, _ => none
theorem z_gF_spec {h : ZH} {a ci k : Nat} {v : Value} (hv : z_gF h a ci k = some v) : ∃ fs, h.1 a = .inl (ci, fs) ∧ fs[k]? = some v := by
  unfold z_gF at hv
  split at hv
  · rename_i o ho
    split at hv
    · rename_i hc
      subst hc
      exact ⟨o.2, ho, hv⟩
    · cases hv
  · cases hv
theorem z_gI_spec {h : ZH} {a ci k : Nat} {x : Int32} (hv : z_gI h a ci k = some x) : z_gF h a ci k = some (.int x) := by
  unfold z_gI at hv
  split at hv
  · rename_i y hy
    cases hv
    exact hy
  · cases hv
theorem z_gJ_spec {h : ZH} {a ci k : Nat} {x : Int64} (hv : z_gJ h a ci k = some x) : z_gF h a ci k = some (.long x) := by
  unfold z_gJ at hv
  split at hv
  · rename_i y hy
    cases hv
    exact hy
  · cases hv
theorem z_gR_spec {h : ZH} {a ci k : Nat} {x : Nat} (hv : z_gR h a ci k = some x) : z_gF h a ci k = some (.ref x) := by
  unfold z_gR at hv
  split at hv
  · rename_i y hy
    cases hv
    exact hy
  · cases hv
theorem z_sF_spec {h h2 : ZH} {a ci k : Nat} {v : Value} (hv : z_sF h a ci k v = some h2) : ∃ fs, h.1 a = .inl (ci, fs) ∧ k < fs.length ∧ h2 = z_up h a (.inl (ci, fs.set k v)) := by
  unfold z_sF at hv
  split at hv
  · rename_i o ho
    split at hv
    · rename_i hc
      obtain ⟨hc1, hc2⟩ := hc
      subst hc1
      exact ⟨o.2, ho, hc2, (Option.some.inj hv).symm⟩
    · cases hv
  · cases hv
theorem z_is_spec {h : ZH} {a ci : Nat} (hv : z_is h a ci = true) : ∃ fs, h.1 a = .inl (ci, fs) := by
  unfold z_is at hv
  split at hv
  · rename_i o ho
    exact ⟨o.2, by rw [ho, ← of_decide_eq_true hv]⟩
  · cases hv
theorem z_aI_spec {h : ZH} {a : Nat} {i x : Int32} (hv : z_aI h a i = some x) : ∃ t xs, h.1 a = .inr (.inl (t, xs)) ∧ (t = 0 ∨ t = 10) ∧ ¬ i < 0 ∧ xs[i.toNatClampNeg]? = some x := by
  unfold z_aI at hv
  split at hv
  · rename_i r hr
    split at hv
    · rename_i hc
      exact ⟨r.1, r.2, hr, hc.1, hc.2, hv⟩
    · cases hv
  · cases hv
theorem z_aB_spec {h : ZH} {a : Nat} {i x : Int32} (hv : z_aB h a i = some x) : ∃ t xs, h.1 a = .inr (.inl (t, xs)) ∧ (t = 1 ∨ t = 2 ∨ t = 11) ∧ ¬ i < 0 ∧ xs[i.toNatClampNeg]? = some x := by
  unfold z_aB at hv
  split at hv
  · rename_i r hr
    split at hv
    · rename_i hc
      exact ⟨r.1, r.2, hr, hc.1, hc.2, hv⟩
    · cases hv
  · cases hv
theorem z_aJ_spec {h : ZH} {a : Nat} {i : Int32} {x : Int64} (hv : z_aJ h a i = some x) : ∃ xs, h.1 a = .inr (.inr (.inl xs)) ∧ ¬ i < 0 ∧ xs[i.toNatClampNeg]? = some x := by
  unfold z_aJ at hv
  split at hv
  · rename_i r hr
    split at hv
    · rename_i hc
      exact ⟨r, hr, hc, hv⟩
    · cases hv
  · cases hv
theorem z_aQ_spec {h : ZH} {a : Nat} {i : Int32} {x : Option Nat} (hv : z_aQ h a i = some x) : ∃ xs, h.1 a = .inr (.inr (.inr xs)) ∧ ¬ i < 0 ∧ xs[i.toNatClampNeg]? = some x := by
  unfold z_aQ at hv
  split at hv
  · rename_i r hr
    split at hv
    · rename_i hc
      exact ⟨r, hr, hc, hv⟩
    · cases hv
  · cases hv
theorem z_uI_spec {h h2 : ZH} {a : Nat} {i x : Int32} (hv : z_uI h a i x = some h2) : ∃ xs, h.1 a = .inr (.inl (0, xs)) ∧ ¬ i < 0 ∧ i.toNatClampNeg < xs.length ∧ h2 = z_up h a (.inr (.inl (0, xs.set i.toNatClampNeg x))) := by
  unfold z_uI at hv
  split at hv
  · rename_i r hr
    split at hv
    · rename_i hc
      obtain ⟨hc1, hc2, hc3⟩ := hc
      exact ⟨r.2, by rw [hr, ← hc1], hc2, hc3, (Option.some.inj hv).symm⟩
    · cases hv
  · cases hv
theorem z_uB_spec {h h2 : ZH} {a : Nat} {i x : Int32} (hv : z_uB h a i x = some h2) : (∃ xs, h.1 a = .inr (.inl (1, xs)) ∧ ¬ i < 0 ∧ i.toNatClampNeg < xs.length ∧ h2 = z_up h a (.inr (.inl (1, xs.set i.toNatClampNeg (vp_nar .byte x))))) ∨ (∃ xs, h.1 a = .inr (.inl (2, xs)) ∧ ¬ i < 0 ∧ i.toNatClampNeg < xs.length ∧ h2 = z_up h a (.inr (.inl (2, xs.set i.toNatClampNeg (vp_nar .boolean x))))) := by
  unfold z_uB at hv
  split at hv
  · rename_i r hr
    split at hv
    · rename_i hc
      obtain ⟨hc1, hc2, hc3⟩ := hc
      exact Or.inl ⟨r.2, by rw [hr, ← hc1], hc2, hc3, (Option.some.inj hv).symm⟩
    · split at hv
      · rename_i hc
        obtain ⟨hc1, hc2, hc3⟩ := hc
        exact Or.inr ⟨r.2, by rw [hr, ← hc1], hc2, hc3, (Option.some.inj hv).symm⟩
      · cases hv
  · cases hv
theorem z_uJ_spec {h h2 : ZH} {a : Nat} {i : Int32} {x : Int64} (hv : z_uJ h a i x = some h2) : ∃ xs, h.1 a = .inr (.inr (.inl xs)) ∧ ¬ i < 0 ∧ i.toNatClampNeg < xs.length ∧ h2 = z_up h a (.inr (.inr (.inl (xs.set i.toNatClampNeg x)))) := by
  unfold z_uJ at hv
  split at hv
  · rename_i r hr
    split at hv
    · rename_i hc
      exact ⟨r, hr, hc.1, hc.2, (Option.some.inj hv).symm⟩
    · cases hv
  · cases hv
theorem z_uQ_spec {h h2 : ZH} {a x : Nat} {i : Int32} (hv : z_uQ h a i x = some h2) : ∃ xs fs, h.1 a = .inr (.inr (.inr xs)) ∧ h.1 x = .inl (5, fs) ∧ ¬ i < 0 ∧ i.toNatClampNeg < xs.length ∧ h2 = z_up h a (.inr (.inr (.inr (xs.set i.toNatClampNeg (some x))))) := by
  unfold z_uQ at hv
  split at hv
  · rename_i r hr
    split at hv
    · rename_i hc
      obtain ⟨fs, hf⟩ := z_is_spec hc.1
      exact ⟨r, fs, hr, hf, hc.2.1, hc.2.2, (Option.some.inj hv).symm⟩
    · cases hv
  · cases hv
theorem z_cp_spec {h h2 : ZH} {a b : Nat} {n : Int32} (hv : z_cp h a b n = some h2) : ∃ xs ys, h.1 a = .inr (.inl (0, xs)) ∧ h.1 b = .inr (.inl (0, ys)) ∧ ¬ n < 0 ∧ n.toNatClampNeg = ys.length ∧ n.toNatClampNeg ≤ xs.length ∧ h2 = z_up h b (.inr (.inl (0, xs.take n.toNatClampNeg))) := by
  unfold z_cp at hv
  split at hv
  · rename_i r q hr hq
    split at hv
    · rename_i hc
      obtain ⟨c1, c2, c3, c4, c5⟩ := hc
      exact ⟨r.2, q.2, by rw [hr, ← c1], by rw [hq, ← c2], c3, c4, c5, (Option.some.inj hv).symm⟩
    · cases hv
  · cases hv
/-- a class of the system: its number, its name, its fields, their types -/
def z_K (ci : Nat) (C : String) (T : u_T) (N : Nat) (ty : Nat → FieldType) : Prop := vwCl[ci]? = some (C, T, N) ∧ (∀ w ∈ u_ws C T N, w ∈ z_tb) ∧ (∀ k, k < N → parseFieldDescriptor (T k).2.2.1 = some (ty k)) ∧ (∀ a, a < N → ∀ b, b < N → a ≠ b → (T a).2.1 ≠ (T b).2.1) ∧ ci < 50
theorem z_vin {i : Int32} {n : Nat} (h1 : ¬ i < 0) (h2 : i.toNatClampNeg < n) : vp_in i n := fun q => q.elim h1 (fun z => absurd h2 (Nat.not_lt.mpr z))
theorem z_lt {α : Type} {xs : List α} {k : Nat} {x : α} (h : xs[k]? = some x) : k < xs.length := (List.getElem?_eq_some_iff.mp h).1
theorem z_gd {α : Type} {xs : List α} {k : Nat} {x d : α} (h : xs[k]? = some x) : xs.getD k d = x := by rw [List.getD_eq_getElem?_getD, h]; rfl
theorem z_updI {xs : List Int32} {k : Nat} {x : Int32} (hk : k < xs.length) : (fun j => (xs.set k x).getD j 0) = upd (fun j => xs.getD j 0) k x := by
  funext j
  unfold upd
  rw [List.getD_eq_getElem?_getD, List.getElem?_set]
  by_cases hj : k = j
  · subst hj
    rw [if_pos rfl, if_pos hk, if_pos rfl]
    rfl
  · rw [if_neg hj, if_neg (fun e => hj e.symm)]
    exact (List.getD_eq_getElem?_getD ..).symm
theorem z_updL {xs : List Int64} {k : Nat} {x : Int64} (hk : k < xs.length) : (fun j => (xs.set k x).getD j 0) = vp_updL (fun j => xs.getD j 0) k x := by
  funext j
  unfold vp_updL
  rw [List.getD_eq_getElem?_getD, List.getElem?_set]
  by_cases hj : k = j
  · subst hj
    rw [if_pos rfl, if_pos hk, if_pos rfl]
    rfl
  · rw [if_neg hj, if_neg (fun e => hj e.symm)]
    exact (List.getD_eq_getElem?_getD ..).symm
theorem z_updQ {f : Nat → Nat} {xs : List (Option Nat)} {k x : Nat} (hk : k < xs.length) : (fun j => ((xs.set k (some x)).getD j none).map f) = va_up (fun j => (xs.getD j none).map f) k (some (f x)) := by
  funext j
  unfold va_up
  rw [List.getD_eq_getElem?_getD, List.getElem?_set]
  by_cases hj : k = j
  · subst hj
    rw [if_pos rfl, if_pos hk, if_pos rfl]
    rfl
  · rw [if_neg hj, if_neg (fun e => hj e.symm)]
    show _ = Option.map f (xs.getD j none)
    rw [List.getD_eq_getElem?_getD]
section ZH1
variable {Γ : ZG} {p : Program} {l : Launch} {e : Env} {R : Room} {s : State} {m : MethodId} {args : Array Value} {below : List Frame} {meth : Method} {c : Code} {cc : ByteArray} {nL cells slots : Nat} {own : String} {Q : State → Prop} {pc : Nat} {lv : List (Nat × Value)} {st : List Value} {h : ZH}
theorem z_lcmp (G : z_GG Γ p s m args meth c cc nL own) {x y : Int64} (hd : decode cc pc = .ok (.lcmp, 1)) (k : z_W Γ p l e R s m args below meth c nL cells slots Q (pc + 1) lv (.int (lg_cmp x y) :: st) h) : z_W Γ p l e R s m args below meth c nL cells slots Q pc lv (.long y :: .long x :: st) h := fun H locs ls hP hl hS => W.lcmp G.2.1 G.2.2.1 hd (k H locs ls hP hl hS)
theorem z_getF (G : z_GG Γ p s m args meth c cc nL own) {ci : Nat} {C : String} {T : u_T} {N : Nat} {ty : Nat → FieldType} (hK : z_K ci C T N ty) {k index : Nat} (hk : k < N) (hw : Cond.fieldLink own index (T k).1 (T k).2.1 (T k).2.2.1 ∈ z_tb) (hd : decode cc pc = .ok (.getfield index, 3)) {a : Nat} {v : Value} (hv : z_gF h a ci k = some v)
    (kk : z_W Γ p l e R s m args below meth c nL cells slots Q (pc + 3) lv (v :: st) h) : z_W Γ p l e R s m args below meth c nL cells slots Q pc lv (.ref a :: st) h := by
  intro H locs ls hP hl hS
  obtain ⟨fs, h1, h2⟩ := z_gF_spec hv
  obtain ⟨g1, g2⟩ := z_in G.1 hP (by rw [h1]; exact decide_eq_true hK.2.2.2.2)
  have he := z_ws_at (Γ := Γ) g1 g2
  rw [h1] at he
  show W p l e R s m args below meth c H locs cells slots Q (F0 m pc ls (.ref (z_ad Γ a) :: st.map (z_em Γ)))
  rw [z_ad_hi g1]
  exact va_get (D := Γ.1) (cl := vwCl) G.2.1 G.2.2.1 G.2.2.2.2.2.1 hK.2.1 G.2.2.2.2.1 G.2.2.2.2.2.2.1 hP.2.2.1 (a - 8) he hK.1 k hk (G.2.2.2.2.2.1 _ hw) (fun _ q => q) (by rw [List.getElem?_map, h2]; rfl) hd (kk H locs ls hP hl hS)
theorem z_putF (G : z_GG Γ p s m args meth c cc nL own) {ci : Nat} {C : String} {T : u_T} {N : Nat} {ty : Nat → FieldType} (hK : z_K ci C T N ty) {k index : Nat} (hk : k < N) (hw : Cond.fieldLink own index (T k).1 (T k).2.1 (T k).2.2.1 ∈ z_tb) (hfin : (T k).2.2.2 = false ∨ ((T k).2.2.2 = true ∧ meth.name = "<init>" ∧ (T k).1 = own)) {v : Value} (hn : narrow (ty k) (z_em Γ v) = z_em Γ v) (hfit : fits (ty k) (z_em Γ v) = true) (hd : decode cc pc = .ok (.putfield index, 3)) {a : Nat} {h2 : ZH} (hv : z_sF h a ci k v = some h2)
    (kk : z_W Γ p l e R s m args below meth c nL cells slots Q (pc + 3) lv st h2) : z_W Γ p l e R s m args below meth c nL cells slots Q pc lv (v :: .ref a :: st) h := by
  intro H locs ls hP hl hS0
  obtain ⟨fs, h1, hlen, rfl⟩ := z_sF_spec hv
  obtain ⟨g1, g2⟩ := z_in G.1 hP (by rw [h1]; exact decide_eq_true hK.2.2.2.2)
  have he := z_ws_at (Γ := Γ) g1 g2
  rw [h1] at he
  show W p l e R s m args below meth c H locs cells slots Q (F0 m pc ls (z_em Γ v :: .ref (z_ad Γ a) :: st.map (z_em Γ)))
  rw [z_ad_hi g1]
  have hx := G.2.1
  have hb := G.2.2.1
  have hown := G.2.2.2.2.1
  have hts := G.2.2.2.2.2.1
  have hKK := G.2.2.2.2.2.2.1
  obtain ⟨hc, hin, hty, hnm, hK5⟩ := hK
  have hap := va_apart (own := own) hts hin ty hty hnm hKK hc
  obtain ⟨r, e1, cell, q1, q2, q3, q4⟩ := hP.2.2.1 _ _ he
  have hr : r = (C, T, N) := Option.some.inj (e1.symm.trans hc)
  subst hr
  obtain ⟨hS, hfc, kC, hkC, hkind⟩ := hKK.1 ci _ hc
  obtain ⟨cf, kf, fi, f, hi, hsl⟩ := hS k hk
  have hlay := hts _ (hin _ (u_in_lay hk))
  have hst := (u_facts hfc hkC (u_lays hts hin hk) hi).1
  have hlink := hts _ hw
  have fin : ∀ (H' : Heap), H'[Γ.2.2.2.1 + (a - 8)]? = some (cell.setSlot f.slot (z_em Γ v)) → H'.size = H.size → (∀ q, q ≠ Γ.2.2.2.1 + (a - 8) → H'[q]? = H[q]?) → W p l e R s m args below meth c H' (locs ++ [⟨Γ.2.2.2.1 + (a - 8), f.slot⟩]) cells slots Q (F0 m (pc + 3) ls (st.map (z_em Γ))) := by
    intro H' f1 f2 f3
    rw [hsl] at f1
    refine kk H' _ ls (z_Hp_up hP (decide_eq_true hK5) g1 g2 f2 ?_ f3) hl (hS0.put f2 f3 (show z_A Γ _ from Nat.le_add_right _ _))
    refine ⟨_, hc, t_OB.to (V := updV (vp_V (fs.map (z_em Γ))) k (z_em Γ v)) ⟨_, f1, q2, q3, t_set q4 hap hk (z_em Γ v)⟩ (fun j _ => ?_)⟩
    rw [vp_updV_set (by rw [List.length_map]; exact hlen), List.map_set]
  unfold u_lay at hlay
  rcases hfin with hfin | ⟨hfin, hin2, hdecl⟩
  · rw [if_neg (by rw [hfin]; decide)] at hlay
    have h6 := u_store hfc hkC hkind hlay hi (hty k hk) hn hfit
    exact W.putK hx hb (f := f) ⟨hown, hlink, ⟨_, _, _, hi⟩, hst⟩ (by rw [q2]; exact h6) q1 q3 (by rw [hsl]; exact k2_hasslot (q4 k hk)) rfl rfl hd fin
  · rw [if_pos hfin] at hlay
    have hcf : m.cls = cf := by
      obtain ⟨_, _, c', _, _, _, -, -, hf', -, -, -, hown2, -⟩ := Cond.laysFinal_spec hlay
      have e1 : c' = cf := by have := hi.symm.trans hf'; simp at this; exact this.1.symm
      rw [hdecl] at hown2
      rw [← e1]; exact Option.some.inj (hown.symm.trans hown2)
    have h6 := u_fits hfc hkC hkind (Or.inr hlay) hi (hty k hk) hn hfit
    exact W.putFinK hx hb hown hlink hi hst hcf hin2 (by rw [q2]; exact h6) q1 q3 (by rw [hsl]; exact k2_hasslot (q4 k hk)) rfl rfl hd fin
end ZH1
