/-! small tools of the generated walks -/
theorem z_bd {α β : Type} {o : Option α} {f : α → Option β} {r : β} (h : o.bind f = some r) : ∃ x, o = some x ∧ f x = some r := by
  cases o with
  | none => cases h
  | some x => exact ⟨x, rfl, h⟩
def z_gu {α : Type} (b : Bool) (k : Option α) : Option α := match b with
  | true => k
  | false => none
theorem z_gu_s {α : Type} {b : Bool} {k : Option α} {r : α} (h : z_gu b k = some r) : b = true ∧ k = some r := by
  cases b with
  | true => exact ⟨rfl, h⟩
  | false => cases h
theorem z_it {α : Type} {c : Prop} [Decidable c] {a b : Option α} {r : α} (hc : c) (h : (if c then a else b) = some r) : a = some r := by rw [if_pos hc] at h; exact h
theorem z_if {α : Type} {c : Prop} [Decidable c] {a b : Option α} {r : α} (hc : ¬ c) (h : (if c then a else b) = some r) : b = some r := by rw [if_neg hc] at h; exact h
/-- a check: only if it doesn't hold it goes on -/
theorem z_ng {α : Type} {c : Prop} [Decidable c] {b : Option α} {r : α} (h : (if c then none else b) = some r) : ¬ c ∧ b = some r := by
  by_cases hc : c
  · rw [if_pos hc] at h; cases h
  · rw [if_neg hc] at h; exact ⟨hc, h⟩
/-- what a boolean method may answer -/
def z_zr (v : Int32) (h : ZH) : Option (Int32 × ZH) := if v = 0 ∨ v = 1 then some (v, h) else none
theorem z_zr_s {v : Int32} {h : ZH} {r : Int32 × ZH} (e : z_zr v h = some r) : (v = 0 ∨ v = 1) ∧ r = (v, h) := by
  unfold z_zr at e
  split at e
  · rename_i hc
    exact ⟨hc, (Option.some.inj e).symm⟩
  · cases e
theorem z_nz {v : Int32} (h : v = 0 ∨ v = 1) : narrow .boolean (.int v) = .int v := by rcases h with rfl | rfl <;> rfl
theorem z_tout {x : Int32} {lo hi : Int} (n : Nat) (hn : hi = lo + n - 1) (h : ∀ j : Nat, j < n → x ≠ Int32.ofInt (lo + j)) : x.toInt < lo ∨ hi < x.toInt := by
  apply Classical.byContradiction
  intro hc
  have h1 : ¬ x.toInt < lo := fun z => hc (Or.inl z)
  have h2 : ¬ hi < x.toInt := fun z => hc (Or.inr z)
  refine h (x.toInt - lo).toNat (by omega) ?_
  rw [show lo + ((x.toInt - lo).toNat : Int) = x.toInt by omega]
  simp
/-- fuel of a loop: more than any of them takes -/
def zFU : Nat := 1000000
section ZT
variable {Γ : ZG} {p : Program} {l : Launch} {e : Env} {R : Room} {s : State} {m : MethodId} {args : Array Value} {below : List Frame} {meth : Method} {c : Code} {cc : ByteArray} {nL cells slots : Nat} {own : String} {Q : State → Prop} {pc : Nat} {lv : List (Nat × Value)} {st : List Value} {h : ZH}
theorem z_drop {lv2 : List (Nat × Value)} (ks : List Nat) (hk : lv_pick lv ks = lv2) (k : z_W Γ p l e R s m args below meth c nL cells slots Q pc lv2 st h) : z_W Γ p l e R s m args below meth c nL cells slots Q pc lv st h := by
  intro H locs ls hP hl hS
  refine k H locs ls hP (lv_sub hl ks ?_) hS
  rw [← hk]
  unfold lv_pick
  rw [List.map_filterMap]
  congr 1
  funext x
  rw [List.getElem?_map]
theorem z_wid {k n : Nat} (h1 : cells ≤ k) (h2 : slots ≤ n) (kk : z_W Γ p l e R s m args below meth c nL k n Q pc lv st h) : z_W Γ p l e R s m args below meth c nL cells slots Q pc lv st h := fun H locs ls hP hl hS => W.widen h1 h2 (kk H locs ls hP hl hS)
theorem z_iincw (G : z_GG Γ p s m args meth c cc nL own) {i : Nat} {n : Int} {x w : Int32} {lv2 : List (Nat × Value)} (kx : Nat) (hd : decode cc pc = .ok (.iinc i n, 3)) (hk : lv[kx]? = some (i, .int x)) (hw : Int32.ofInt n = w) (hn : i < nL) (hc : z_chk lv i = true) (hl2 : z_setl lv i (.int (x + w)) = lv2) (k : z_W Γ p l e R s m args below meth c nL cells slots Q (pc + 3) lv2 st h) : z_W Γ p l e R s m args below meth c nL cells slots Q pc lv st h := z_iinc G kx hd hk (by rw [hw]) hn hc hl2 k
/-! ends that take the pure answer -/
theorem z_iretX {mc ms : Nat} {r : Int32 × ZH} {v : Int32} (hX : some (v, h) = some r) (G : z_GG Γ p s m args meth c cc nL own) (hr : meth.sig.returnType = some .int) (hd : decode cc pc = .ok (.ireturn, 1)) (hc : cells ≤ mc) (hs : slots ≤ ms) : z_W Γ p l e R s m args below meth c nL cells slots (MQ below (z_Qc Γ (some (.int r.1)) r.2) args s mc ms (z_A Γ)) pc lv [.int v] h := by
  cases hX
  exact z_iret G hr hd hc hs
theorem z_zretX {mc ms : Nat} {r : Int32 × ZH} {v : Int32} {ty : FieldType} (hX : some (v, h) = some r) (G : z_GG Γ p s m args meth c cc nL own) (hr : meth.sig.returnType = some ty) (hn : narrow ty (.int v) = .int v) (hd : decode cc pc = .ok (.ireturn, 1)) (hc : cells ≤ mc) (hs : slots ≤ ms) : z_W Γ p l e R s m args below meth c nL cells slots (MQ below (z_Qc Γ (some (.int r.1)) r.2) args s mc ms (z_A Γ)) pc lv [.int v] h := by
  cases hX
  exact z_zret G hr hn hd hc hs
theorem z_zretY {mc ms : Nat} {r : Int32 × ZH} {v : Int32} (hX : z_zr v h = some r) (G : z_GG Γ p s m args meth c cc nL own) (hr : meth.sig.returnType = some .boolean) (hd : decode cc pc = .ok (.ireturn, 1)) (hc : cells ≤ mc) (hs : slots ≤ ms) : z_W Γ p l e R s m args below meth c nL cells slots (MQ below (z_Qc Γ (some (.int r.1)) r.2) args s mc ms (z_A Γ)) pc lv [.int v] h := by
  obtain ⟨hv, rfl⟩ := z_zr_s hX
  exact z_zret G hr (z_nz hv) hd hc hs
theorem z_vretX {mc ms : Nat} {r : ZH} (hX : some h = some r) (G : z_GG Γ p s m args meth c cc nL own) (hr : meth.sig.returnType = none) (hd : decode cc pc = .ok (.return_, 1)) (hc : cells ≤ mc) (hs : slots ≤ ms) : z_W Γ p l e R s m args below meth c nL cells slots (MQ below (z_Qc Γ none r) args s mc ms (z_A Γ)) pc lv [] h := by
  cases hX
  exact z_vret G hr hd hc hs
theorem z_aretX {mc ms : Nat} {r : Nat × ZH} {v : Nat} {n : String} (hX : some (v, h) = some r) (G : z_GG Γ p s m args meth c cc nL own) (hr : meth.sig.returnType = some (.object n)) (hd : decode cc pc = .ok (.areturn, 1)) (hc : cells ≤ mc) (hs : slots ≤ ms) : z_W Γ p l e R s m args below meth c nL cells slots (MQ below (z_Qc Γ (some (.ref r.1)) r.2) args s mc ms (z_A Γ)) pc lv [.ref v] h := by
  cases hX
  exact z_aret G hr hd hc hs
/-! the texts and the statics -/
theorem z_str (G : z_GG Γ p s m args meth c cc nL own) {H : Heap} {a k : Nat} {v : Value} (hP : z_Hp Γ h H) (hv : z_gF h a 50 k = some v) : ∃ j, a < 8 ∧ z_ad Γ a = Γ.2.2.1 a ∧ [Value.ref j, .int 0][k]? = some v ∧ va_O "java/lang/String" (Γ.2.2.1 a) (z_A Γ) s s.heap ∧ va_OF "java/lang/String" "value" "[B" (.ref (z_ad Γ j)) (Γ.2.2.1 a) (z_A Γ) s s.heap ∧ va_OF "java/lang/String" "coder" "B" (.int 0) (Γ.2.2.1 a) (z_A Γ) s s.heap := by
  obtain ⟨fs, h1, h2⟩ := z_gF_spec hv
  have h8 : a < 8 := by
    apply Nat.lt_of_not_le
    intro h8
    by_cases hb : a < h.2
    · have := hP.2.2.2.2.2 a h8 hb
      rw [h1] at this
      cases this
    · have := hP.2.2.2.1 a (Nat.not_lt.mp hb)
      rw [h1] at this
      cases this
  obtain ⟨e1, j, rfl, e2, e3⟩ := G.1.2.2.2.2.2.2.1 s s.heap a fs h8 ((hP.2.2.2.2.1 a h8).symm.trans h1) G.2.2.2.2.2.2.2.1
  exact ⟨j, h8, by unfold z_ad; rw [if_pos h8], h2, e1, e2, e3⟩
theorem z_getSV (G : z_GG Γ p s m args meth c cc nL own) {index a x : Nat} (hw : Cond.fieldLink own index "java/lang/String" "value" "[B" ∈ z_tb) (hd : decode cc pc = .ok (.getfield index, 3)) (hv : z_gR h a 50 0 = some x) (kk : z_W Γ p l e R s m args below meth c nL cells slots Q (pc + 3) lv (.ref x :: st) h) : z_W Γ p l e R s m args below meth c nL cells slots Q pc lv (.ref a :: st) h := by
  intro H locs ls hP hl hS
  obtain ⟨j, h8, ea, ev, -, e2, -⟩ := z_str G hP (z_gR_spec hv)
  cases ev
  show W p l e R s m args below meth c H locs cells slots Q (F0 m pc ls (.ref (z_ad Γ a) :: st.map (z_em Γ)))
  rw [ea]
  exact vk_getf G.2.1 G.2.2.1 e2 hS G.2.2.2.2.1 (G.2.2.2.2.2.1 _ hw) (fun _ q => q) hd (kk H locs ls hP hl hS)
theorem z_getSC (G : z_GG Γ p s m args meth c cc nL own) {index a : Nat} {x : Int32} (hw : Cond.fieldLink own index "java/lang/String" "coder" "B" ∈ z_tb) (hd : decode cc pc = .ok (.getfield index, 3)) (hv : z_gI h a 50 1 = some x) (kk : z_W Γ p l e R s m args below meth c nL cells slots Q (pc + 3) lv (.int x :: st) h) : z_W Γ p l e R s m args below meth c nL cells slots Q pc lv (.ref a :: st) h := by
  intro H locs ls hP hl hS
  obtain ⟨j, h8, ea, ev, -, -, e3⟩ := z_str G hP (z_gI_spec hv)
  cases ev
  show W p l e R s m args below meth c H locs cells slots Q (F0 m pc ls (.ref (z_ad Γ a) :: st.map (z_em Γ)))
  rw [ea]
  exact vk_getf G.2.1 G.2.2.1 e3 hS G.2.2.2.2.1 (G.2.2.2.2.2.1 _ hw) (fun _ q => q) hd (kk H locs ls hP hl hS)
theorem z_gstZ (G : z_GG Γ p s m args meth c cc nL own) {index : Nat} (hw : Cond.fieldLink own index "java/lang/String" "COMPACT_STRINGS" "Z" ∈ z_tb) (hd : decode cc pc = .ok (.getstatic index, 3)) (kk : z_W Γ p l e R s m args below meth c nL cells slots Q (pc + 3) lv (.int 1 :: st) h) : z_W Γ p l e R s m args below meth c nL cells slots Q pc lv st h := fun H locs ls hP hl hS => va_gets G.2.1 G.2.2.1 (G.1.2.2.2.2.2.2.2 s s.heap G.2.2.2.2.2.2.2.1).2.2.1 hS G.2.2.2.2.1 (G.2.2.2.2.2.1 _ hw) (fun _ q => q) hd (kk H locs ls hP hl hS)
theorem z_gstL (G : z_GG Γ p s m args meth c cc nL own) {index : Nat} (hw : Cond.fieldLink own index "SlotFleet$Reader" "LEAST_OF" "[I" ∈ z_tb) (hd : decode cc pc = .ok (.getstatic index, 3)) (kk : z_W Γ p l e R s m args below meth c nL cells slots Q (pc + 3) lv (.ref 1 :: st) h) : z_W Γ p l e R s m args below meth c nL cells slots Q pc lv st h := fun H locs ls hP hl hS => va_gets G.2.1 G.2.2.1 (G.1.2.2.2.2.2.2.2 s s.heap G.2.2.2.2.2.2.2.1).1 hS G.2.2.2.2.1 (G.2.2.2.2.2.1 _ hw) (fun _ q => q) hd (kk H locs ls hP hl hS)
theorem z_gstM (G : z_GG Γ p s m args meth c cc nL own) {index : Nat} (hw : Cond.fieldLink own index "SlotFleet$Reader" "MOST_OF" "[I" ∈ z_tb) (hd : decode cc pc = .ok (.getstatic index, 3)) (kk : z_W Γ p l e R s m args below meth c nL cells slots Q (pc + 3) lv (.ref 2 :: st) h) : z_W Γ p l e R s m args below meth c nL cells slots Q pc lv st h := fun H locs ls hP hl hS => va_gets G.2.1 G.2.2.1 (G.1.2.2.2.2.2.2.2 s s.heap G.2.2.2.2.2.2.2.1).2.1 hS G.2.2.2.2.1 (G.2.2.2.2.2.1 _ hw) (fun _ q => q) hd (kk H locs ls hP hl hS)
theorem z_gstF (G : z_GG Γ p s m args meth c cc nL own) {index : Nat} (hw : Cond.fieldLink own index "jdk/internal/util/Preconditions" "SIOOBE_FORMATTER" "Ljava/util/function/BiFunction;" ∈ z_tb) (hd : decode cc pc = .ok (.getstatic index, 3)) (k1 : z_W Γ p l e R s m args below meth c nL cells slots Q (pc + 3) lv (.null :: st) h) (k2 : z_W Γ p l e R s m args below meth c nL cells slots Q (pc + 3) lv (.ref 7 :: st) h) : z_W Γ p l e R s m args below meth c nL cells slots Q pc lv st h := by
  intro H locs ls hP hl hS
  rcases (G.1.2.2.2.2.2.2.2 s s.heap G.2.2.2.2.2.2.2.1).2.2.2.1 with hz | hz
  · exact va_gets G.2.1 G.2.2.1 hz hS G.2.2.2.2.1 (G.2.2.2.2.2.1 _ hw) (fun _ q => q) hd (k1 H locs ls hP hl hS)
  · exact va_gets G.2.1 G.2.2.1 hz hS G.2.2.2.2.1 (G.2.2.2.2.2.1 _ hw) (fun _ q => q) hd (k2 H locs ls hP hl hS)
theorem z_ldcW (G : z_GG Γ p s m args meth c cc nL "SlotFleet$Reader") (hd : decode cc pc = .ok (.ldc 197, 2)) (kk : z_W Γ p l e R s m args below meth c nL cells slots Q (pc + 2) lv (.ref 3 :: st) h) : z_W Γ p l e R s m args below meth c nL cells slots Q pc lv st h := fun H locs ls hP hl hS => va_ldcS G.2.1 G.2.2.1 G.2.2.2.2.1 (G.1.2.2.2.2.2.2.2 s s.heap G.2.2.2.2.2.2.2.1).2.2.2.2.1 hd (kk H locs ls hP hl hS)
theorem z_ldcG (G : z_GG Γ p s m args meth c cc nL "SlotFleet$Reader") (hd : decode cc pc = .ok (.ldc 190, 2)) (kk : z_W Γ p l e R s m args below meth c nL cells slots Q (pc + 2) lv (.ref 4 :: st) h) : z_W Γ p l e R s m args below meth c nL cells slots Q pc lv st h := fun H locs ls hP hl hS => va_ldcS G.2.1 G.2.2.1 G.2.2.2.2.1 (G.1.2.2.2.2.2.2.2 s s.heap G.2.2.2.2.2.2.2.1).2.2.2.2.2 hd (kk H locs ls hP hl hS)
/-- what a method of a narrow answer may give -/
def z_cr (ty : FieldType) (v : Int32) (h : ZH) : Option (Int32 × ZH) := if vp_nar ty v = v then some (v, h) else none
theorem z_cr_s {ty : FieldType} {v : Int32} {h : ZH} {r : Int32 × ZH} (e : z_cr ty v h = some r) : vp_nar ty v = v ∧ r = (v, h) := by
  unfold z_cr at e
  split at e
  · rename_i hc
    exact ⟨hc, (Option.some.inj e).symm⟩
  · cases e
theorem z_cretB {mc ms : Nat} {r : Int32 × ZH} {v : Int32} (hX : z_cr .byte v h = some r) (G : z_GG Γ p s m args meth c cc nL own) (hr : meth.sig.returnType = some .byte) (hd : decode cc pc = .ok (.ireturn, 1)) (hc : cells ≤ mc) (hs : slots ≤ ms) : z_W Γ p l e R s m args below meth c nL cells slots (MQ below (z_Qc Γ (some (.int r.1)) r.2) args s mc ms (z_A Γ)) pc lv [.int v] h := by
  obtain ⟨hv, rfl⟩ := z_cr_s hX
  exact z_zret G hr (congrArg Value.int hv) hd hc hs
theorem z_cretC {mc ms : Nat} {r : Int32 × ZH} {v : Int32} (hX : z_cr .char v h = some r) (G : z_GG Γ p s m args meth c cc nL own) (hr : meth.sig.returnType = some .char) (hd : decode cc pc = .ok (.ireturn, 1)) (hc : cells ≤ mc) (hs : slots ≤ ms) : z_W Γ p l e R s m args below meth c nL cells slots (MQ below (z_Qc Γ (some (.int r.1)) r.2) args s mc ms (z_A Γ)) pc lv [.int v] h := by
  obtain ⟨hv, rfl⟩ := z_cr_s hX
  exact z_zret G hr (congrArg Value.int hv) hd hc hs
end ZT
