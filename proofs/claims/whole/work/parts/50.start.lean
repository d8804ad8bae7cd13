/-! the start: the context of the law's walk, and the claim out of the pure statement -/
def zB0 : List Int32 := [115, 108, 111, 116, 115, 32, 114, 97, 110, 103, 101, 32, 119, 105, 100, 101, 32, 108, 101, 97, 115, 116, 32, 107, 101, 101, 112, 115, 32, 102, 97, 100, 101, 115, 32, 100, 114, 97, 119, 32, 114, 101, 112, 111, 114, 116, 115, 32, 115, 104, 105, 112, 32, 97, 116, 32, 109, 111, 118, 101, 115, 32, 111, 110, 32, 111, 114, 32, 97, 110, 100, 32, 110, 111, 116, 32, 115, 112, 101, 101, 100, 32, 104, 101, 97, 114, 100, 32, 110, 117, 109, 98, 101, 114, 32, 102, 114, 97, 109, 101, 32]
def zB1 : List Int32 := [60, 62, 61, 43, 45, 42, 47, 37, 59, 40, 41]
def zLeast : List Int32 := [6, 1, 0, 1, 1, 0, 0]
def zMost : List Int32 := [30, 99, 9, 4, 7, 100, 999]
/-- the first cells: the script, the two static rows, the two texts and their bytes -/
def z_pc (xl : List Int32) : Nat → ZC
  | 0 => .inr (.inl (10, xl))
  | 1 => .inr (.inl (10, zLeast))
  | 2 => .inr (.inl (10, zMost))
  | 3 => .inl (50, [.ref 5, .int 0])
  | 4 => .inl (50, [.ref 6, .int 0])
  | 5 => .inr (.inl (11, zB0))
  | 6 => .inr (.inl (11, zB1))
  | _ => z_junk
/-- the heap at the law's entry -/
def z_h0 (xl : List Int32) : ZH := (z_pc xl, 8)
/-- THE PURE STATEMENT: on every script the law's pure function answers 1 -/
def PureLaw : Prop := ∀ xl : List Int32, xl.length ≤ 3072 → ∃ h' : ZH, xL_law 0 (z_h0 xl) = some (1, h')
def z_pa (b t1 t2 fm : Nat) (adK adV : Nat → Nat) : Nat → Nat
  | 0 => b
  | 1 => t1
  | 2 => t2
  | 3 => adK 0
  | 4 => adK 1
  | 5 => adV 0
  | 6 => adV 1
  | _ => fm
def z_E (b t1 t2 fm : Nat) (adK adV : Nat → Nat) (xl : List Int32) (b0 : Nat) : State → Heap → Prop := fun U H =>
  va_T .int b xl.length (fun j => .int (xl.getD j 0)) (fun q => b0 ≤ q) U H ∧ va_T .int t1 7 (fun j => .int (zLeast.getD j 0)) (fun q => b0 ≤ q) U H ∧ va_T .int t2 7 (fun j => .int (zMost.getD j 0)) (fun q => b0 ≤ q) U H ∧
  vk_S 2 [101, 11] [zB0, zB1] adK adV (fun q => b0 ≤ q) U H ∧
  va_Z "SlotFleet$Reader" "LEAST_OF" "[I" (.ref t1) (fun q => b0 ≤ q) U H ∧ va_Z "SlotFleet$Reader" "MOST_OF" "[I" (.ref t2) (fun q => b0 ≤ q) U H ∧ va_Z "java/lang/String" "COMPACT_STRINGS" "Z" (.int 1) (fun q => b0 ≤ q) U H ∧
  (va_Z "jdk/internal/util/Preconditions" "SIOOBE_FORMATTER" "Ljava/util/function/BiFunction;" .null (fun q => b0 ≤ q) U H ∨ va_Z "jdk/internal/util/Preconditions" "SIOOBE_FORMATTER" "Ljava/util/function/BiFunction;" (.ref fm) (fun q => b0 ≤ q) U H) ∧
  vk_R "SlotFleet$Reader" 197 "slots range wide least keeps fades draw reports ship at moves on or and not speed heard number frame " (adK 0) U ∧ vk_R "SlotFleet$Reader" 190 "<>=+-*/%;()" (adK 1) U ∧
  va_AO "SlotFleet$State" U ∧ ∀ (o : String) (i : Nat) (y : MethodName) (t : String), Cond.methodLinkNest o i y t ∈ lw_tbl → va_Nw (.methodLinkNest o i y t) U
def z_Ga (D : va_G) (cy : Nat → ClassId) (b t1 t2 fm : Nat) (adK adV : Nat → Nat) (xl : List Int32) (b0 : Nat) : ZG := (D, cy, z_pa b t1 t2 fm adK adV, b0, z_pc xl, z_E b t1 t2 fm adK adV xl b0)
theorem z_Ga_ok (D : va_G) (cy : Nat → ClassId) (b t1 t2 fm : Nat) (adK adV : Nat → Nat) (xl : List Int32) (b0 : Nat) : z_OK (z_Ga D cy b t1 t2 fm adK adV xl b0) := by
  refine ⟨?_, ?_, ?_, ?_, ?_, ?_, ?_, ?_⟩
  · intro i hi
    rcases (show i = 0 ∨ i = 1 ∨ i = 2 ∨ i = 3 ∨ i = 4 ∨ i = 5 ∨ i = 6 ∨ i = 7 by omega) with rfl | rfl | rfl | rfl | rfl | rfl | rfl | rfl <;> rfl
  · intro s U H hW hE
    obtain ⟨e1, e2, e3, e4, e5, e6, e7, e8, e9, e10, e11, e12⟩ := hE
    exact ⟨e1.moved hW.alike, e2.moved hW.alike, e3.moved hW.alike, e4.moved hW.alike, e5.moved hW.alike, e6.moved hW.alike, e7.moved hW.alike, e8.elim (fun z => Or.inl (z.moved hW.alike)) (fun z => Or.inr (z.moved hW.alike)), e9.warm hW, e10.warm hW, e11.moved hW.alike, fun o i y t h => (e12 o i y t h).warmM hW⟩
  · intro U g mk a H hE
    obtain ⟨e1, e2, e3, e4, e5, e6, e7, e8, e9, e10, e11, e12⟩ := hE
    have hA : U.vm.Alike (U.calling g mk a).vm := Vm.Alike.refl U.vm
    exact ⟨e1.moved hA, e2.moved hA, e3.moved hA, e4.moved hA, e5.moved hA, e6.moved hA, e7.moved hA, e8.elim (fun z => Or.inl (z.moved hA)) (fun z => Or.inr (z.moved hA)), e9.same rfl, e10.same rfl, e11.moved hA, fun o i y t h => (e12 o i y t h).same rfl rfl⟩
  · intro U H H1 hq hE
    obtain ⟨e1, e2, e3, e4, e5, e6, e7, e8, e9, e10, e11, e12⟩ := hE
    exact ⟨e1.kept hq, e2.kept hq, e3.kept hq, e4.kept hq, e5.kept hq, e6.kept hq, e7.kept hq, e8.elim (fun z => Or.inl (z.kept hq)) (fun z => Or.inr (z.kept hq)), e9, e10, e11, e12⟩
  · intro s H i xs hi hE
    obtain ⟨e1, e2, e3, e4, -⟩ := hE
    have f0 := (e4.1 0 (by decide)).2.2.2
    have f1 := (e4.1 1 (by decide)).2.2.2
    rcases (show i = 0 ∨ i = 1 ∨ i = 2 ∨ i = 3 ∨ i = 4 ∨ i = 5 ∨ i = 6 ∨ i = 7 by omega) with rfl | rfl | rfl | rfl | rfl | rfl | rfl | rfl
    · exact ⟨fun z => (by cases z; exact e1), fun z => (by cases z)⟩
    · exact ⟨fun z => (by cases z; exact e2), fun z => (by cases z)⟩
    · exact ⟨fun z => (by cases z; exact e3), fun z => (by cases z)⟩
    · exact ⟨fun z => (by cases z), fun z => (by cases z)⟩
    · exact ⟨fun z => (by cases z), fun z => (by cases z)⟩
    · exact ⟨fun z => (by cases z), fun z => (by cases z; exact f0)⟩
    · exact ⟨fun z => (by cases z), fun z => (by cases z; exact f1)⟩
    · exact ⟨fun z => (by cases z), fun z => (by cases z)⟩
  · intro s H hE
    obtain ⟨-, -, -, -, -, -, -, -, -, -, e11, e12⟩ := hE
    exact ⟨e11, e12⟩
  · intro s H i fs hi hf hE
    obtain ⟨-, -, -, e4, -⟩ := hE
    rcases (show i = 0 ∨ i = 1 ∨ i = 2 ∨ i = 3 ∨ i = 4 ∨ i = 5 ∨ i = 6 ∨ i = 7 by omega) with rfl | rfl | rfl | rfl | rfl | rfl | rfl | rfl
    · cases hf
    · cases hf
    · cases hf
    · cases hf
      exact ⟨(e4.1 0 (by decide)).1, 5, rfl, (e4.1 0 (by decide)).2.2.1, (e4.1 0 (by decide)).2.1⟩
    · cases hf
      exact ⟨(e4.1 1 (by decide)).1, 6, rfl, (e4.1 1 (by decide)).2.2.1, (e4.1 1 (by decide)).2.1⟩
    · cases hf
    · cases hf
    · cases hf
  · intro s H hE
    obtain ⟨-, -, -, -, e5, e6, e7, e8, e9, e10, -⟩ := hE
    exact ⟨e5, e6, e7, e8, e9, e10⟩
/-- what holds at the law's entry: the machine, the code, the tables' words (any of lw_tbl by 'hts w (by decide +kernel)'), the script of L ints xs at the cell b, what the Statement gives of the start (any of its parts by flat_of_before) -/
def lw_At (p : Program) (s : State) (m : MethodId) (meth : Method) (c : Code) (b L : Nat) (xs : Nat → Int32) : Prop :=
  p.tables.exec = Jvm.exec ∧ c.code = code ∧ meth.sig.returnType = ret ∧ c.maxLocals = 4 ∧ s.vm.findClass R_law = some m.cls ∧ (∀ w ∈ lw_tbl, w.before #[Value.ref b] s = true) ∧ va_X b L xs s s.heap ∧ b < s.heap.size ∧ meth.locks = false ∧ (Jvm.Cond.and given_1 narrow_1).before #[Value.ref b] s = true
set_option maxHeartbeats 40000000 in
set_option maxRecDepth 100000 in
theorem whole_start_of (hPure : PureLaw) {p : Program} {e : Env} {s : State} {m : MethodId} {below : List Frame} {meth : Method} {c : Code} (l : Launch) (hflags : l.flags = flags0) {b L : Nat} {xs : Nat → Int32} (hL : L ≤ 3072) (C0 : lw_At p s m meth c b L xs) : W p l e room_1 s m #[Value.ref b] below meth c s.heap [] 0 0 (lw_Z below #[Value.ref b] s) (entryFrame m ([Value.ref b] : List Value).toArray 4) := by
  obtain ⟨hx, hb, hr, hml, hown, hts, hX, hbl, hlocks, hgv⟩ := id C0
  have hAn : ∀ a : Nat, a < s.heap.size → ¬ (fun q : Nat => s.heap.size ≤ q) a := fun a h => Nat.not_le.mpr h
  have hs := flat_of_before _ hgv
  obtain ⟨c0, iS0, hKn0⟩ := u_known (C := RX0) (T := TX0) (N := 5) (n := 5) hts (fun w h => (List.mem_filter.mp (kK0.2.1 w h)).1) (hts (.instantiable RX0 5) (z_tb3 278 (by decide +kernel)))
  obtain ⟨c1, iS1, hKn1⟩ := u_known (C := RX1) (T := TX1) (N := 4) (n := 4) hts (fun w h => (List.mem_filter.mp (kK1.2.1 w h)).1) (hts (.instantiable RX1 4) (z_tb3 343 (by decide +kernel)))
  obtain ⟨c2, iS2, hKn2⟩ := u_known (C := RX2) (T := TX2) (N := 17) (n := 17) hts (fun w h => (List.mem_filter.mp (kK2.2.1 w h)).1) (hts (.instantiable RX2 17) (z_tb3 34 (by decide +kernel)))
  obtain ⟨c3, iS3, hKn3⟩ := u_known (C := RX3) (T := TX3) (N := 13) (n := 13) hts (fun w h => (List.mem_filter.mp (kK3.2.1 w h)).1) (hts (.instantiable RX3 13) (z_tb3 28 (by decide +kernel)))
  obtain ⟨c4, iS4, hKn4⟩ := u_known (C := RX4) (T := TX4) (N := 11) (n := 11) hts (fun w h => (List.mem_filter.mp (kK4.2.1 w h)).1) (hts (.instantiable RX4 11) (z_tb3 366 (by decide +kernel)))
  obtain ⟨c5, iS5, hKn5⟩ := u_known (C := RX5) (T := TX5) (N := 18) (n := 18) hts (fun w h => (List.mem_filter.mp (kK5.2.1 w h)).1) (hts (.instantiable RX5 18) (z_tb3 183 (by decide +kernel)))
  obtain ⟨c6, iS6, hKn6⟩ := u_known (C := RX6) (T := TX6) (N := 4) (n := 4) hts (fun w h => (List.mem_filter.mp (kK6.2.1 w h)).1) (hts (.instantiable RX6 4) (z_tb3 303 (by decide +kernel)))
  obtain ⟨c7, iS7, hKn7⟩ := u_known (C := RX7) (T := TX7) (N := 4) (n := 4) hts (fun w h => (List.mem_filter.mp (kK7.2.1 w h)).1) (hts (.instantiable RX7 4) (z_tb3 324 (by decide +kernel)))
  obtain ⟨c8, iS8, hKn8⟩ := u_known (C := RX8) (T := TX8) (N := 18) (n := 18) hts (fun w h => (List.mem_filter.mp (kK8.2.1 w h)).1) (hts (.instantiable RX8 18) (z_tb3 20 (by decide +kernel)))
  obtain ⟨c9, iS9, hKn9⟩ := u_known (C := RX9) (T := TX9) (N := 61) (n := 61) hts (fun w h => (List.mem_filter.mp (kK9.2.1 w h)).1) (hts (.instantiable RX9 61) (z_tb3 1201 (by decide +kernel)))
  obtain ⟨dC, dI, hKc⟩ : ∃ (dC : Nat → ClassId) (dI : Nat → Nat → Nat), ∀ (k : Nat) (q : vw_C), vwCl[k]? = some q → u_Kn s q.1 q.2.1 q.2.2 (dC k) (dI k) := by
    refine ⟨fun k => if k = 0 then c0 else if k = 1 then c1 else if k = 2 then c2 else if k = 3 then c3 else if k = 4 then c4 else if k = 5 then c5 else if k = 6 then c6 else if k = 7 then c7 else if k = 8 then c8 else c9, fun k => if k = 0 then iS0 else if k = 1 then iS1 else if k = 2 then iS2 else if k = 3 then iS3 else if k = 4 then iS4 else if k = 5 then iS5 else if k = 6 then iS6 else if k = 7 then iS7 else if k = 8 then iS8 else iS9, ?_⟩
    intro k q hq
    match k, hq with
    | 0, hq => cases hq; exact hKn0
    | 1, hq => cases hq; exact hKn1
    | 2, hq => cases hq; exact hKn2
    | 3, hq => cases hq; exact hKn3
    | 4, hq => cases hq; exact hKn4
    | 5, hq => cases hq; exact hKn5
    | 6, hq => cases hq; exact hKn6
    | 7, hq => cases hq; exact hKn7
    | 8, hq => cases hq; exact hKn8
    | 9, hq => cases hq; exact hKn9
    | k + 10, hq => simp [vwCl] at hq
  obtain ⟨cy0, ky0, cm0, fy0, gy0, jy0⟩ := Cond.arrayClass_spec (hts (.arrayClass .int) (z_tb3 136 (by decide +kernel)))
  obtain ⟨cy1, ky1, cm1, fy1, gy1, jy1⟩ := Cond.arrayClass_spec (hts (.arrayClass .byte) (z_tb3 135 (by decide +kernel)))
  obtain ⟨cy2, ky2, cm2, fy2, gy2, jy2⟩ := Cond.arrayClass_spec (hts (.arrayClass .boolean) (z_tb3 408 (by decide +kernel)))
  obtain ⟨cy3, ky3, cm3, fy3, gy3, jy3⟩ := Cond.arrayClass_spec (hts (.arrayClass .long) (z_tb3 1410 (by decide +kernel)))
  obtain ⟨comp4, cy4, ky4, f4, -, g4, j4, n4⟩ := Cond.arrayOver_spec (hts (.arrayOver (.object "SlotFleet$State")) (z_tb3 349 (by decide +kernel)))
  -- the script as a list
  obtain ⟨xl, hxl, hxe⟩ : ∃ xl : List Int32, xl.length = L ∧ ∀ j, j < L → xl.getD j 0 = xs j := ⟨(List.range L).map xs, by simp, fun j hj => by simp [List.getD_eq_getElem?_getD, hj]⟩
  have T0 : va_T .int b xl.length (fun j => .int (xl.getD j 0)) (fun q => s.heap.size ≤ q) s s.heap := by
    obtain ⟨scr, h1, h2, h3, h4, h5⟩ := hX
    exact ⟨scr, h1, h2, h3, (by rw [h4, hxl]; try exact Nat.le_refl _), (by rw [h4, hxl]; try rfl), fun j hj => (by rw [hxl] at hj; rw [h5 j hj]; exact congrArg (fun z => some (Value.int z)) (hxe j hj).symm), hAn b hbl⟩
  obtain ⟨t1, ht1, T1⟩ := va_Tof (tm := .static "SlotFleet$Reader" "LEAST_OF" "[I") (ty := .int) (N := 7) (f := fun j => .int (zLeast.getD j 0)) (A := fun q => s.heap.size ≤ q) (by decide) (hs _ (by decide +kernel)) (va_eqt (hs _ (by decide +kernel))) (fun j hj => va_eqt (hs _ (by
    rcases (show j = 0 ∨ j = 1 ∨ j = 2 ∨ j = 3 ∨ j = 4 ∨ j = 5 ∨ j = 6 by omega) with rfl | rfl | rfl | rfl | rfl | rfl | rfl <;> decide +kernel))) hAn
  obtain ⟨t2, ht2, T2⟩ := va_Tof (tm := .static "SlotFleet$Reader" "MOST_OF" "[I") (ty := .int) (N := 7) (f := fun j => .int (zMost.getD j 0)) (A := fun q => s.heap.size ≤ q) (by decide) (hs _ (by decide +kernel)) (va_eqt (hs _ (by decide +kernel))) (fun j hj => va_eqt (hs _ (by
    rcases (show j = 0 ∨ j = 1 ∨ j = 2 ∨ j = 3 ∨ j = 4 ∨ j = 5 ∨ j = 6 by omega) with rfl | rfl | rfl | rfl | rfl | rfl | rfl <;> decide +kernel))) hAn
  obtain ⟨adK, adV, hSt, hKe⟩ := vk_Sof (args := #[Value.ref b]) (s := s) (N := 2) (tm := fun i => if i = 0 then .string "SlotFleet$Reader" 197 else .string "SlotFleet$Reader" 190) (len := [101, 11]) (byt := [zB0, zB1]) (A := fun q => s.heap.size ≤ q)
    (fun i hi => by rcases (show i = 0 ∨ i = 1 by omega) with rfl | rfl <;> decide) (fun i hi => hs _ (by rcases (show i = 0 ∨ i = 1 by omega) with rfl | rfl <;> decide +kernel)) (fun i hi => hs _ (by rcases (show i = 0 ∨ i = 1 by omega) with rfl | rfl <;> decide +kernel))
    (fun i hi => hs _ (by rcases (show i = 0 ∨ i = 1 by omega) with rfl | rfl <;> decide +kernel)) (fun i hi => hs _ (by rcases (show i = 0 ∨ i = 1 by omega) with rfl | rfl <;> decide +kernel))
    (fun i hi j hj => hs _ (by
      have key : ∀ i : Nat, i < 2 → ∀ j : Nat, j < ([101, 11] : List Nat).getD i 0 → (Cond.eq (.elem (.field (if i = 0 then Term.string "SlotFleet$Reader" 197 else .string "SlotFleet$Reader" 190) "java/lang/String" "value" "[B") (.int (Int32.ofNat j))) (.int ((([zB0, zB1] : List (List Int32)).getD i []).getD j 0))) ∈ flatC (Jvm.Cond.and given_1 narrow_1) := by decide +kernel
      exact key i hi j hj))
    (fun i j hi hj hne => by
      rcases (show i = 0 ∨ i = 1 by omega) with rfl | rfl <;> rcases (show j = 0 ∨ j = 1 by omega) with rfl | rfl
      · exact absurd rfl hne
      · first | exact Or.inl (hs _ (by decide +kernel)) | exact Or.inr (hs _ (by decide +kernel))
      · first | exact Or.inl (hs _ (by decide +kernel)) | exact Or.inr (hs _ (by decide +kernel))
      · exact absurd rfl hne) hAn
  have Z1 := va_Zof (v := .ref t1) (A := fun q => s.heap.size ≤ q) (hts (.laysStatic "SlotFleet$Reader" "LEAST_OF" "[I") (z_tb3 696 (by decide +kernel))) (hts (.initialized "SlotFleet$Reader") (z_tb3 2 (by decide +kernel))) ht1 hAn
  have Z2 := va_Zof (v := .ref t2) (A := fun q => s.heap.size ≤ q) (hts (.laysStatic "SlotFleet$Reader" "MOST_OF" "[I") (z_tb3 698 (by decide +kernel))) (hts (.initialized "SlotFleet$Reader") (z_tb3 2 (by decide +kernel))) ht2 hAn
  have Z3 := va_Zof (v := .int 1) (A := fun q => s.heap.size ≤ q) (hts (.laysStatic "java/lang/String" "COMPACT_STRINGS" "Z") (z_tb3 533 (by decide +kernel))) (hts (.initialized "java/lang/String") (z_tb3 13 (by decide +kernel))) (va_eqi (hs _ (by decide +kernel))) hAn
  have Z4 := va_Zqof (A := fun q => s.heap.size ≤ q) (hts (.laysStatic "jdk/internal/util/Preconditions" "SIOOBE_FORMATTER" "Ljava/util/function/BiFunction;") (z_tb3 549 (by decide +kernel))) (hts (.initialized "jdk/internal/util/Preconditions") (z_tb3 15 (by decide +kernel))) (hs _ (by decide +kernel)) hAn
  obtain ⟨fm, Z5⟩ : ∃ fm : Nat, va_Z "jdk/internal/util/Preconditions" "SIOOBE_FORMATTER" "Ljava/util/function/BiFunction;" .null (fun q => s.heap.size ≤ q) s s.heap ∨ va_Z "jdk/internal/util/Preconditions" "SIOOBE_FORMATTER" "Ljava/util/function/BiFunction;" (.ref fm) (fun q => s.heap.size ≤ q) s s.heap := by
    rcases Z4 with z | ⟨t, z⟩
    · exact ⟨0, Or.inl z⟩
    · exact ⟨t, Or.inr z⟩
  have R1 : vk_R "SlotFleet$Reader" 197 "slots range wide least keeps fades draw reports ship at moves on or and not speed heard number frame " (adK 0) s := vk_R.of (hts _ (z_tb3 523 (by decide +kernel))) (hKe 0 (by decide))
  have R2 : vk_R "SlotFleet$Reader" 190 "<>=+-*/%;()" (adK 1) s := vk_R.of (hts _ (z_tb3 579 (by decide +kernel))) (hKe 1 (by decide))
  have AO : va_AO "SlotFleet$State" s := va_AO.of (hts (.arrayOver (.object "SlotFleet$State")) (z_tb3 349 (by decide +kernel)))
  have NN : ∀ (o : String) (i : Nat) (y : MethodName) (t : String), Cond.methodLinkNest o i y t ∈ lw_tbl → va_Nw (.methodLinkNest o i y t) s := fun o i y t h => va_Nw.of rfl (hts _ h)
  obtain ⟨Γ, hΓ⟩ : ∃ Γ, Γ = z_Ga (dC, dI) (fun k => if k = 0 then cy0 else if k = 1 then cy1 else if k = 2 then cy2 else if k = 3 then cy3 else cy4) b t1 t2 fm adK adV xl s.heap.size := ⟨_, rfl⟩
  have hO : z_OK Γ := by rw [hΓ]; exact z_Ga_ok _ _ _ _ _ _ _ _ _ _
  have hb0 : Γ.2.2.2.1 = s.heap.size := by rw [hΓ]; rfl
  have hE : Γ.2.2.2.2.2 s s.heap := by
    rw [hΓ]
    exact ⟨T0, T1, T2, hSt, Z1, Z2, Z3, Z5, R1, R2, AO, NN⟩
  have hK : va_K Γ.1 vwCl (z_tys Γ) s := by
    rw [hΓ]
    refine ⟨hKc, fun k q hq => ?_⟩
    match k, hq with
    | 0, hq => cases hq; exact ⟨fun n z => ⟨fun k h => (by cases h), ky0, gy0, cm0, jy0⟩, fy0⟩
    | 1, hq => cases hq; exact ⟨fun n z => ⟨fun k h => (by cases h), ky1, gy1, cm1, jy1⟩, fy1⟩
    | 2, hq => cases hq; exact ⟨fun n z => ⟨fun k h => (by cases h), ky2, gy2, cm2, jy2⟩, fy2⟩
    | 3, hq => cases hq; exact ⟨fun n z => ⟨fun k h => (by cases h), ky3, gy3, cm3, jy3⟩, fy3⟩
    | 4, hq => cases hq; exact ⟨fun n z => ⟨fun k h => (by cases h), ky4, g4, comp4, j4⟩, ky4, comp4, g4, j4, f4, n4⟩
    | k + 5, hq => simp [z_tys] at hq
  have G : z_GG Γ p s m #[Value.ref b] meth c cL_law 4 RL := ⟨hO, hx, hb, hml, hown, fun w hw => hts w (List.mem_filter.mp hw).1, hK, hE, hlocks, by rw [hb0]; exact Nat.le_refl _⟩
  have hP : z_Hp Γ (z_h0 xl) s.heap := by
    rw [hΓ]
    refine ⟨Nat.le_refl _, rfl, fun k q hq => by simp [z_ws, z_h0] at hq, fun i hi => ?_, fun i hi => rfl, fun i h1 h2 => absurd h2 (Nat.not_lt.mpr h1)⟩
    have h8 : 8 ≤ i := hi
    obtain ⟨j, rfl⟩ : ∃ j, i = j + 8 := ⟨i - 8, by omega⟩
    rfl
  obtain ⟨h', hX'⟩ := hPure xl (by rw [hxl]; exact hL)
  have hl := lv_entry ([.ref b]) (n := 4) (Nat.le_of_ble_eq_true rfl)
  rw [lg_entry_eq]
  generalize (lg_sl ([.ref b]) ++ List.replicate (4 - (lg_sl ([.ref b])).length) Slot.unset).toArray = ls at hl ⊢
  have hl2 : lv_has ls 4 (([(0, Value.ref 0)] : List (Nat × Value)).map fun q => (q.1, z_em Γ q.2)) := by
    rw [hΓ]
    exact hl
  exact wL_law hO G hb0 hr (r := (1, h')) rfl hX' s.heap [] _ hP hl2 va_S.rf
set_option maxHeartbeats 4000000 in
theorem lw_walk_of (hPure : PureLaw) (l : Launch) (hflags : l.flags = flags0) (b : Addr) (xs : List Int32) : MetFree l x (headSpec (Jvm.Cond.code x code maxLocals ret :: tables_1) room_1) (lw_P b xs) (fun _ _ _ _ _ => True) lw_Q := by
  refine MetFree.of_bodyS (code := code) (maxLocals := maxLocals) (ret := ret) (by decide) ?_ ?_
  · intro args s m h hn
    obtain ⟨meth, c, h1, h2, h3, h4, h5, h6, -, -⟩ := Cond.code_spec hn (atoms_spec (ws := Jvm.Cond.code x code maxLocals ret :: tables_1) h _ List.mem_cons_self)
    exact ⟨meth, c, h1, h2, h3, h4, h5, h6⟩
  · intro p e s m args below meth c s₁ B hml0 hP _
    obtain ⟨rfl, hx, hbd, hgv⟩ := hP
    obtain ⟨scr, harrAt, hlist, hof, hsmall⟩ := hx
    obtain ⟨hcb, hkn, -, -⟩ := State.arrayAt?_spec harrAt
    have hown : s.vm.findClass R_law = some m.cls := findClass_of_methodNamed B.named
    have hts0 : ∀ c ∈ (Jvm.Cond.code x code maxLocals ret :: tables_1), c.before #[Value.ref b] s = true := atoms_spec (ws := Jvm.Cond.code x code maxLocals ret :: tables_1) B.pre
    have hts : ∀ w ∈ lw_tbl, w.before #[Value.ref b] s = true := k2_hts_sels lw_privs (fun w hw => hts0 w (List.mem_cons_of_mem _ hw)) lw_privs_ok
    have hml : c.maxLocals = 4 := B.maxLocals_eq (hts0 _ List.mem_cons_self)
    have X₀ : Stand p l e room_1 s m #[Value.ref b] below meth c s₁ [] 0 0 := Stand.of_body B
    have hh0 : s₁.heap = s.heap := by rw [B.state]; rfl
    have hsz : scr.slots.size = xs.length := by rw [← Array.length_toList, hlist, List.length_map]
    have hval : ∀ j : Nat, j < xs.length → scr.slots[j]? = some (.int (xs.getD j 0)) := fun j hj => by
      rw [← Array.getElem?_toList, hlist]
      simp [hj]
    have hbl : b < s.heap.size := (Array.getElem?_eq_some_iff.mp hcb).1
    have hX : va_X b xs.length (fun j => xs.getD j 0) s s.heap := ⟨scr, hcb, hof, hkn, hsz, hval⟩
    have K : W p l e room_1 s m #[Value.ref b] below meth c s₁.heap [] 0 0 (lw_Z below #[Value.ref b] s) (entryFrame m ([Value.ref b] : List Value).toArray 4) := by
      rw [hh0]
      exact whole_start_of hPure l hflags hbd ⟨B.exec, B.bytes, B.returns, hml, hown, hts, hX, hbl, B.notSynchronized, hgv⟩
    obtain ⟨t, a1, o, b1, b2, b3⟩ := K s₁ rfl X₀
    exact ⟨t, o, a1, b1, b2, b3⟩
theorem lw_pre_spec {args : Array Value} {s : State} (h : (Jvm.Cond.and given_1 narrow_1).before args s = true) (hr : rest_1_c.before args s = true) : ∃ (b : Addr) (xs : List Int32), lw_P b xs args s := by
  have hs := flat_of_before _ h
  have hq := flat_of_before _ hr
  have hc : (Cond.count 1).before args s = true := hs _ (by decide +kernel)
  have harr : (Cond.arrayOf (.arg 0) .int).before args s = true := hs _ (by decide +kernel)
  have hle : (Cond.le (.length (.arg 0)) (.int 3072)).before args s = true := hs _ (by decide +kernel)
  have hlen : (Cond.isInt (.length (.arg 0))).before args s = true := hq _ (by decide +kernel)
  have hall : (Cond.all (.arg 0) (.isInt (.elem (.arg 0) (.index 0)))).before args s = true := hq _ (by decide +kernel)
  obtain ⟨b, xs, hb, hx⟩ := State.ints_of_pre rfl harr hlen hall
  have hsm : xs.length < 2 ^ 31 := hx.choose_spec.2.2.2
  have hev : (Term.length (.arg 0)).eval args s none [] s = some (.int xs.length.toInt32) := hx.length_eval hb
  have hv := Cond.le_ints hev (show (Term.int 3072).eval args s none [] s = some (.int 3072) from rfl)
  have hd : xs.length.toInt32 ≤ 3072 := by
    simpa [Cond.before, Cond.holds, hv] using hle
  have hN : xs.length ≤ 3072 := (Int32.ofNat_le_ofNat hsm (by decide)).mp (show Int32.ofNat xs.length ≤ Int32.ofNat 3072 from hd)
  exact ⟨b, xs, Cond.one_arg hc (show args[0]? = some (.ref b) from hb), hx, hN, h⟩
theorem lw_comes_of (hPure : PureLaw) (l : Launch) (hflags : l.flags = flags0) : Comes l x (Jvm.Cond.code x code maxLocals ret :: tables_1) room_1 (fun tb e args s => Calls_1 tb e args s ∧ rest_1 tb e args s ∧ Pre_1 tb e args s)
    (fun _ _ args s o t => lw_Q args s o t) := by
  intro p e ha hc hk s m args below hf hfit hheap happ hpre
  obtain ⟨b, xs, hP⟩ := lw_pre_spec hpre.2.2 hpre.2.1
  obtain ⟨k, o, h1, h2, h3, hQ⟩ := lw_walk_of hPure l hflags b xs p e ha hc hk s m args below hf ((Spec.applies_iff_loose hf).mp happ).1 hP trivial
  exact ⟨k, o, h1, h2, h3, hQ⟩
theorem lw_frame {s t : State} {o : Outcome} {args : Array Value} (h : Framed s o t [] 600000 7302250) :
    Framed s o t (fieldLocs frame_1_writes args s ++ arrayLocs frame_1_arrays args s ++ staticLocs frame_1_statics s) 600000 7302250 := h
theorem lw_limb_of (hPure : PureLaw) (L : Cond) (hL : ∀ (args : Array Value) (s t : State), L.after args s (.returned (some (.int 1))) t = true) :
    ArmFor flags0 classFile x code maxLocals ret World_1 tables_1 room_1 Calls_1 rest_1 Pre_1
      (fun tb e a s o t => postC L tb e a s o t ∧ Framed s o t (fieldLocs frame_1_writes a s ++ arrayLocs frame_1_arrays a s ++ staticLocs frame_1_statics s) 600000 7302250) := by
  intro l hflags _ _ p e ha hc hk s m args below hf hfit hheap happ hpre
  obtain ⟨k, o, h1, h2, h3, rfl, hF⟩ := lw_comes_of hPure l hflags p e ha hc hk s m args below hf hfit hheap happ hpre
  exact ⟨k, _, h1, h2, h3, hL args s _, lw_frame hF⟩
theorem i_vc_of (hPure : PureLaw) : Claimed_1_1 ∧ Claimed_1_2 := ⟨lw_limb_of hPure limb_1_1 (fun args s t => by simp [limb_1_1, Cond.after, Cond.holds, Cond.value]), lw_limb_of hPure limb_1_2 (fun args s t => Cond.after_iff.mpr (by
  first | (rw [show limb_1_2 = Cond.eq .result (.int 1) from rfl, Cond.eq_ints (x := 1) (y := 1) rfl rfl]; simp; done) | (simp [limb_1_2, Cond.value, Term.eval]; done)))⟩
