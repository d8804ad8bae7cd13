/-! A pure heap, and the judgement over it: z_W says W of every machine heap that holds the pure one. Cells 0..7 are the script, two static rows, two texts and their bytes: they are only read. -/
abbrev ZC : Type := (Nat × List Value) ⊕ ((Nat × List Int32) ⊕ (List Int64 ⊕ List (Option Nat)))
abbrev ZH : Type := (Nat → ZC) × Nat
def z_junk : ZC := .inl (99, [])
def z_up (h : ZH) (a : Nat) (c : ZC) : ZH := (fun j => if j = a then c else h.1 j, h.2)
def z_push (h : ZH) (c : ZC) : ZH := (fun j => if j = h.2 then c else h.1 j, h.2 + 1)
abbrev ZG : Type := va_G × (Nat → ClassId) × (Nat → Nat) × Nat × (Nat → ZC) × (State → Heap → Prop)
def z_ad (Γ : ZG) (i : Nat) : Nat := if i < 8 then Γ.2.2.1 i else Γ.2.2.2.1 + (i - 8)
def z_em (Γ : ZG) : Value → Value
  | .ref i => .ref (z_ad Γ i)
  | v => v
def z_cell (Γ : ZG) : ZC → va_E
  | .inl o => .inr (o.1, o.2.map (z_em Γ))
  | .inr (.inl a) => .inl (Γ.2.1 a.1, a.2.length, .inl (fun j => a.2.getD j 0))
  | .inr (.inr (.inl a)) => .inl (Γ.2.1 3, a.length, .inr (.inl (fun j => a.getD j 0)))
  | .inr (.inr (.inr a)) => .inl (Γ.2.1 4, a.length, .inr (.inr (.inr (.inr (fun j => (a.getD j none).map (z_ad Γ))))))
def z_tys (Γ : ZG) : List (ClassId × FieldType) := [(Γ.2.1 0, .int), (Γ.2.1 1, .byte), (Γ.2.1 2, .boolean), (Γ.2.1 3, .long), (Γ.2.1 4, .object "SlotFleet$State")]
def z_ws (Γ : ZG) (h : ZH) : va_W := (List.range (h.2 - 8)).map fun j => (Γ.2.2.2.1 + j, z_cell Γ (h.1 (j + 8)))
def z_A (Γ : ZG) : Nat → Prop := fun q => Γ.2.2.2.1 ≤ q
def z_norm : ZC → Bool
  | .inl o => decide (o.1 < 50)
  | .inr (.inl r) => decide (r.1 < 10)
  | _ => true
def z_Hp (Γ : ZG) (h : ZH) (H : Heap) : Prop := 8 ≤ h.2 ∧ H.size = Γ.2.2.2.1 + (h.2 - 8) ∧ va_P Γ.1 vwCl (z_ws Γ h) H ∧ (∀ i, h.2 ≤ i → h.1 i = z_junk) ∧ (∀ i, i < 8 → h.1 i = Γ.2.2.2.2.1 i) ∧ (∀ i, 8 ≤ i → i < h.2 → z_norm (h.1 i) = true)
/-- what the context promises: its extra facts (the script, two static rows, two texts, statics, nest mates) stay, and say what the first cells hold -/
def z_OK (Γ : ZG) : Prop := (∀ i, i < 8 → z_norm (Γ.2.2.2.2.1 i) = false) ∧
  (∀ (s U : State) (H : Heap), s.WarmedH U.vm → Γ.2.2.2.2.2 s H → Γ.2.2.2.2.2 U H) ∧ (∀ (U : State) (g : JFrame) (mk : MethodId) (a : Array Value) (H : Heap), Γ.2.2.2.2.2 U H → Γ.2.2.2.2.2 (U.calling g mk a) H) ∧
  (∀ (U : State) (H H1 : Heap), (∀ q : Nat, q < H.size → ¬ z_A Γ q → H1[q]? = H[q]?) → Γ.2.2.2.2.2 U H → Γ.2.2.2.2.2 U H1) ∧
  (∀ (s : State) (H : Heap) (i : Nat) (xs : List Int32), i < 8 → Γ.2.2.2.2.2 s H → (Γ.2.2.2.2.1 i = .inr (.inl (10, xs)) → va_T .int (Γ.2.2.1 i) xs.length (fun j => .int (xs.getD j 0)) (z_A Γ) s H) ∧ (Γ.2.2.2.2.1 i = .inr (.inl (11, xs)) → va_T .byte (Γ.2.2.1 i) xs.length (fun j => .int (xs.getD j 0)) (z_A Γ) s H)) ∧
  (∀ (s : State) (H : Heap), Γ.2.2.2.2.2 s H → va_AO "SlotFleet$State" s ∧ ∀ (o : String) (i : Nat) (y : MethodName) (t : String), Cond.methodLinkNest o i y t ∈ lw_tbl → va_Nw (.methodLinkNest o i y t) s) ∧
  (∀ (s : State) (H : Heap) (i : Nat) (fs : List Value), i < 8 → Γ.2.2.2.2.1 i = .inl (50, fs) → Γ.2.2.2.2.2 s H → va_O "java/lang/String" (Γ.2.2.1 i) (z_A Γ) s H ∧ ∃ j, fs = [.ref j, .int 0] ∧ va_OF "java/lang/String" "value" "[B" (.ref (z_ad Γ j)) (Γ.2.2.1 i) (z_A Γ) s H ∧ va_OF "java/lang/String" "coder" "B" (.int 0) (Γ.2.2.1 i) (z_A Γ) s H) ∧
  (∀ (s : State) (H : Heap), Γ.2.2.2.2.2 s H → va_Z "SlotFleet$Reader" "LEAST_OF" "[I" (.ref (Γ.2.2.1 1)) (z_A Γ) s H ∧ va_Z "SlotFleet$Reader" "MOST_OF" "[I" (.ref (Γ.2.2.1 2)) (z_A Γ) s H ∧ va_Z "java/lang/String" "COMPACT_STRINGS" "Z" (.int 1) (z_A Γ) s H ∧
    (va_Z "jdk/internal/util/Preconditions" "SIOOBE_FORMATTER" "Ljava/util/function/BiFunction;" .null (z_A Γ) s H ∨ va_Z "jdk/internal/util/Preconditions" "SIOOBE_FORMATTER" "Ljava/util/function/BiFunction;" (.ref (Γ.2.2.1 7)) (z_A Γ) s H) ∧
    vk_R "SlotFleet$Reader" 197 "slots range wide least keeps fades draw reports ship at moves on or and not speed heard number frame " (Γ.2.2.1 3) s ∧ vk_R "SlotFleet$Reader" 190 "<>=+-*/%;()" (Γ.2.2.1 4) s)
def z_Qc (Γ : ZG) (v : Option Value) (h' : ZH) : Array Value → State → Outcome → State → Prop := fun _ st oc t => oc = .returned (v.map (z_em Γ)) ∧ z_Hp Γ h' t.heap ∧ va_F (z_A Γ) st t
def z_Pc (Γ : ZG) (as : List Value) (h : ZH) : Array Value → State → Prop := va_Pc (as.map (z_em Γ)) (fun U => z_Hp Γ h U.heap ∧ va_K Γ.1 vwCl (z_tys Γ) U ∧ Γ.2.2.2.2.2 U U.heap)
/-- a method's contract: with these arguments over the heap h it answers v, and leaves h' -/
def z_M (Γ : ZG) (l : Launch) (y : MethodName) (ws : List Cond) (rm : Room) (as : List Value) (h : ZH) (v : Option Value) (h' : ZH) : Prop := Met l y ws rm (z_Pc Γ as h) (z_Qc Γ v h') rm.cells rm.slots (z_A Γ)
def z_GG (Γ : ZG) (p : Program) (s : State) (m : MethodId) (args : Array Value) (meth : Method) (c : Code) (cc : ByteArray) (nL : Nat) (own : String) : Prop :=
  z_OK Γ ∧ p.tables.exec = Jvm.exec ∧ c.code = cc ∧ c.maxLocals = nL ∧ s.vm.findClass own = some m.cls ∧ (∀ w ∈ z_tb, w.before args s = true) ∧ va_K Γ.1 vwCl (z_tys Γ) s ∧ Γ.2.2.2.2.2 s s.heap ∧ meth.locks = false ∧ Γ.2.2.2.1 ≤ s.heap.size
def z_W (Γ : ZG) (p : Program) (l : Launch) (e : Env) (R : Room) (s : State) (m : MethodId) (args : Array Value) (below : List Frame) (meth : Method) (c : Code) (nL cells slots : Nat) (Q : State → Prop) (pc : Nat) (lv : List (Nat × Value)) (st : List Value) (h : ZH) : Prop :=
  ∀ (H : Heap) (locs : List Loc) (ls : Array Slot), z_Hp Γ h H → lv_has ls nL (lv.map fun q => (q.1, z_em Γ q.2)) → va_S (z_A Γ) s.heap H locs → W p l e R s m args below meth c H locs cells slots Q (F0 m pc ls (st.map (z_em Γ)))
/-! lemmas of the pure heap -/
theorem z_ws_at {Γ : ZG} {h : ZH} {a : Nat} (h5 : 8 ≤ a) (ha : a < h.2) : (z_ws Γ h)[a - 8]? = some (Γ.2.2.2.1 + (a - 8), z_cell Γ (h.1 a)) := by
  unfold z_ws
  rw [List.getElem?_map, List.getElem?_range (by omega)]
  simp only [Option.map_some]
  rw [show a - 8 + 8 = a by omega]
theorem z_ws_len (Γ : ZG) (h : ZH) : (z_ws Γ h).length = h.2 - 8 := by simp [z_ws]
theorem z_ad_hi {Γ : ZG} {a : Nat} (h5 : 8 ≤ a) : z_ad Γ a = Γ.2.2.2.1 + (a - 8) := by
  unfold z_ad
  rw [if_neg (by omega)]
theorem z_ws_up {Γ : ZG} {h : ZH} {a : Nat} (h5 : 8 ≤ a) (c : ZC) : (z_ws Γ h).set (a - 8) (Γ.2.2.2.1 + (a - 8), z_cell Γ c) = z_ws Γ (z_up h a c) := by
  apply List.ext_getElem?
  intro j
  rw [List.getElem?_set]
  unfold z_ws z_up
  simp only [List.length_map, List.length_range, List.getElem?_map]
  by_cases hj : a - 8 = j
  · subst hj
    rw [if_pos rfl]
    by_cases hl : a - 8 < h.2 - 8
    · rw [if_pos hl, List.getElem?_range hl]
      simp only [Option.map_some]
      rw [if_pos (by omega)]
    · rw [if_neg hl, List.getElem?_eq_none (by simpa using Nat.not_lt.mp hl)]
      rfl
  · rw [if_neg hj]
    by_cases hl : j < h.2 - 8
    · rw [List.getElem?_range hl]
      simp only [Option.map_some]
      rw [if_neg (by omega)]
    · rw [List.getElem?_eq_none (by simpa using Nat.not_lt.mp hl)]
      rfl
theorem z_ws_push {Γ : ZG} {h : ZH} (h5 : 8 ≤ h.2) (c : ZC) : z_ws Γ h ++ [(Γ.2.2.2.1 + (h.2 - 8), z_cell Γ c)] = z_ws Γ (z_push h c) := by
  unfold z_ws z_push
  simp only
  rw [show h.2 + 1 - 8 = (h.2 - 8) + 1 by omega, List.range_succ, List.map_append, List.map_singleton]
  congr 1
  · apply List.map_congr_left
    intro j hj
    rw [List.mem_range] at hj
    rw [if_neg (by omega)]
  · rw [if_pos (by omega)]
theorem z_ws_D (Γ : ZG) (h : ZH) : va_D (z_A Γ) (z_ws Γ h) := by
  have key : ∀ (k : Nat) (q : Nat × va_E), (z_ws Γ h)[k]? = some q → q.1 = Γ.2.2.2.1 + k := by
    intro k q hq
    unfold z_ws at hq
    rw [List.getElem?_map] at hq
    by_cases hl : k < h.2 - 8
    · rw [List.getElem?_range hl] at hq
      simp only [Option.map_some, Option.some.injEq] at hq
      rw [← hq]
    · rw [List.getElem?_eq_none (by simpa using Nat.not_lt.mp hl)] at hq
      cases hq
  refine ⟨fun i j p q hp hq e => ?_, fun k q hq => ?_⟩
  · have h1 := key i p hp
    have h2 := key j q hq
    omega
  · rw [key k q hq]
    exact Nat.le_add_right _ _
/-- a cell of the usual kinds lies in the world -/
theorem z_in {Γ : ZG} {h : ZH} {H : Heap} (hO : z_OK Γ) (hP : z_Hp Γ h H) {a : Nat} (hn : z_norm (h.1 a) = true) : 8 ≤ a ∧ a < h.2 := by
  refine ⟨?_, ?_⟩
  · apply Nat.le_of_not_lt
    intro hl
    rw [hP.2.2.2.2.1 a hl, hO.1 a hl] at hn
    cases hn
  · apply Nat.lt_of_not_le
    intro hl
    rw [hP.2.2.2.1 a hl] at hn
    cases hn
theorem z_Hp_up {Γ : ZG} {h : ZH} {H H1 : Heap} (hP : z_Hp Γ h H) {a : Nat} {c : ZC} (hno : z_norm c = true) (h5 : 8 ≤ a) (ha : a < h.2) (z : H1.size = H.size) (hat : va_at Γ.1 vwCl (Γ.2.2.2.1 + (a - 8), z_cell Γ c) H1) (oq : ∀ q : Nat, q ≠ Γ.2.2.2.1 + (a - 8) → H1[q]? = H[q]?) : z_Hp Γ (z_up h a c) H1 := by
  refine ⟨hP.1, z.trans hP.2.1, ?_, fun i hi => ?_, fun i hi => ?_, fun i hi hi2 => ?_⟩
  · rw [← z_ws_up h5]
    exact hP.2.2.1.set (z_ws_D Γ h) (z_ws_at h5 ha) hat oq
  · show (if i = a then c else h.1 i) = _
    rw [if_neg (fun e => by have : h.2 ≤ i := hi; omega)]
    exact hP.2.2.2.1 i hi
  · show (if i = a then c else h.1 i) = _
    rw [if_neg (by omega)]
    exact hP.2.2.2.2.1 i hi
  · show z_norm (if i = a then c else h.1 i) = true
    by_cases he : i = a
    · rw [if_pos he]
      exact hno
    · rw [if_neg he]
      exact hP.2.2.2.2.2 i hi hi2
theorem z_Hp_push {Γ : ZG} {h : ZH} {H H1 : Heap} (hP : z_Hp Γ h H) {c : ZC} (hno : z_norm c = true) (z : H1.size = H.size + 1) (hat : va_at Γ.1 vwCl (H.size, z_cell Γ c) H1) (oq : ∀ q : Nat, q < H.size → H1[q]? = H[q]?) : z_Hp Γ (z_push h c) H1 := by
  obtain ⟨p1, p2, p3, p4, p5, p6⟩ := hP
  refine ⟨Nat.le_succ_of_le p1, by show H1.size = Γ.2.2.2.1 + (h.2 + 1 - 8); omega, ?_, fun i hi => ?_, fun i hi => ?_, fun i hi hi2 => ?_⟩
  · rw [← z_ws_push p1, ← p2]
    refine (p3.kept (fun k q hq => oq q.1 ((p3 k q hq).lt))).app (fun k q hq => ?_)
    have hz : k < 1 := (List.getElem?_eq_some_iff.mp hq).1
    rw [show k = 0 by omega] at hq
    cases hq
    exact hat
  · show (if i = h.2 then c else h.1 i) = _
    have hi' : h.2 + 1 ≤ i := hi
    rw [if_neg (by omega)]
    exact p4 i (by omega)
  · show (if i = h.2 then c else h.1 i) = _
    rw [if_neg (by omega)]
    exact p5 i hi
  · show z_norm (if i = h.2 then c else h.1 i) = true
    by_cases he : i = h.2
    · rw [if_pos he]
      exact hno
    · rw [if_neg he]
      exact p6 i hi (by have : i < h.2 + 1 := hi2; omega)
theorem z_em_map_at {Γ : ZG} {lv : List (Nat × Value)} {k i : Nat} {v : Value} (hk : lv[k]? = some (i, v)) : (lv.map fun q => (q.1, z_em Γ q.2))[k]? = some (i, z_em Γ v) := by
  rw [List.getElem?_map, hk]
  rfl
theorem z_em_cat (Γ : ZG) (v : Value) : (z_em Γ v).category = v.category := by cases v <;> rfl
/-- the locals with a new one -/
def z_setl (lv : List (Nat × Value)) (i : Nat) (v : Value) : List (Nat × Value) := if lv.any (fun q => q.1 == i) then lv.map (fun q => if q.1 = i then (i, v) else q) else lv ++ [(i, v)]
def z_chk (lv : List (Nat × Value)) (i : Nat) : Bool := lv.all fun q => !(q.1 + 1 == i && q.2.category == 2)
theorem z_setl_mem {lv : List (Nat × Value)} {i : Nat} {v : Value} {q : Nat × Value} (h : q ∈ z_setl lv i v) : q = (i, v) ∨ (q ∈ lv ∧ q.1 ≠ i) := by
  unfold z_setl at h
  split at h
  · obtain ⟨r, h1, h2⟩ := List.mem_map.mp h
    by_cases hr : r.1 = i
    · rw [if_pos hr] at h2
      exact Or.inl h2.symm
    · rw [if_neg hr] at h2
      rw [← h2]
      exact Or.inr ⟨h1, hr⟩
  · rename_i hn
    rcases List.mem_append.mp h with h1 | h1
    · refine Or.inr ⟨h1, fun e => hn ?_⟩
      rw [List.any_eq_true]
      exact ⟨q, h1, by rw [e]; exact beq_self_eq_true i⟩
    · exact Or.inl (List.mem_singleton.mp h1)
theorem z_store {Γ : ZG} {ls : Array Slot} {nL i : Nat} {lv : List (Nat × Value)} {v : Value} (hc : z_chk lv i = true)
    (h : lv_has ls nL ((i, z_em Γ v) :: (lv.map fun q => (q.1, z_em Γ q.2)).filter (fun q => !(q.1 == i) && !(q.1 + 1 == i && q.2.category == 2)))) : lv_has ls nL ((z_setl lv i v).map fun q => (q.1, z_em Γ q.2)) := by
  refine ⟨h.1, h.2.1, fun q hq => ?_⟩
  obtain ⟨r, h1, h2⟩ := List.mem_map.mp hq
  rw [← h2]
  rcases z_setl_mem h1 with h3 | ⟨h3, h4⟩
  · rw [h3]
    exact h.2.2 (i, z_em Γ v) List.mem_cons_self
  · refine h.2.2 (r.1, z_em Γ r.2) (List.mem_cons_of_mem _ (List.mem_filter.mpr ⟨List.mem_map.mpr ⟨r, h3, rfl⟩, ?_⟩))
    have h5 := List.all_eq_true.mp hc r h3
    simp only [z_em_cat, Bool.and_eq_true]
    refine ⟨?_, h5⟩
    simp [h4]
theorem z_lv_args (Γ : ZG) : ∀ (as : List Value) (i : Nat), (lv_args i as).map (fun q => (q.1, z_em Γ q.2)) = lv_args i (as.map (z_em Γ))
  | [], _ => rfl
  | a :: as, i => by
    simp only [lv_args, List.map_cons, z_em_cat]
    rw [z_lv_args Γ as]
