/-! small tools of the generated walks -/
theorem z_bd {α β : Type} {o : Option α} {f : α → Option β} {r : β} (h : o.bind f = some r) : ∃ x, o = some x ∧ f x = some r := by
  cases o with
  | none => cases h
  | some x => exact ⟨x, rfl, h⟩
def z_gu {α : Type} (b : Bool) (k : Option α) : Option α := match b with
  | true => k
  | false => none
theorem z_gu_s {α : Type} {b : Bool} {k : Option α} {r : α} (h : z_gu b k = some r) : b = true ∧ k = some r := by
  cases b with
  | true => exact ⟨rfl, h⟩
  | false => cases h
theorem z_it {α : Type} {c : Prop} [Decidable c] {a b : Option α} {r : α} (hc : c) (h : (if c then a else b) = some r) : a = some r := by rw [if_pos hc] at h; exact h
theorem z_if {α : Type} {c : Prop} [Decidable c] {a b : Option α} {r : α} (hc : ¬ c) (h : (if c then a else b) = some r) : b = some r := by rw [if_neg hc] at h; exact h
/-- a check: only if it doesn't hold it goes on -/
theorem z_ng {α : Type} {c : Prop} [Decidable c] {b : Option α} {r : α} (h : (if c then none else b) = some r) : ¬ c ∧ b = some r := by
  by_cases hc : c
  · rw [if_pos hc] at h; cases h
  · rw [if_neg hc] at h; exact ⟨hc, h⟩
/-- what a boolean method may answer -/
def z_zr (v : Int32) (h : ZH) : Option (Int32 × ZH) := if v = 0 ∨ v = 1 then some (v, h) else none
theorem z_zr_s {v : Int32} {h : ZH} {r : Int32 × ZH} (e : z_zr v h = some r) : (v = 0 ∨ v = 1) ∧ r = (v, h) := by
  unfold z_zr at e
  split at e
  · rename_i hc
    exact ⟨hc, (Option.some.inj e).symm⟩
  · cases e
theorem z_nz {v : Int32} (h : v = 0 ∨ v = 1) : narrow .boolean (.int v) = .int v := by rcases h with rfl | rfl <;> rfl
theorem z_tout {x : Int32} {lo hi : Int} (n : Nat) (hn : hi = lo + n - 1) (h : ∀ j : Nat, j < n → x ≠ Int32.ofInt (lo + j)) : x.toInt < lo ∨ hi < x.toInt := by
  apply Classical.byContradiction
  intro hc
  have h1 : ¬ x.toInt < lo := fun z => hc (Or.inl z)
  have h2 : ¬ hi < x.toInt := fun z => hc (Or.inr z)
  refine h (x.toInt - lo).toNat (by omega) ?_
  rw [show lo + ((x.toInt - lo).toNat : Int) = x.toInt by omega]
  simp
theorem z_inTb (ws : List Cond) (ps : List Nat) (hp : ws = ps.filterMap (fun i => tables_1[i]?)) (hg : ws.all goodWord = true) : ∀ w ∈ ws, w ∈ z_tb := by
  intro w hw
  have h1 := List.all_eq_true.mp hg w hw
  rw [hp] at hw
  obtain ⟨i, -, hi⟩ := List.mem_filterMap.mp hw
  exact List.mem_filter.mpr ⟨List.mem_append_right _ (List.mem_of_getElem? hi), h1⟩
theorem z_tb1 {w : Cond} (i : Nat) (h : tables_1[i]? = some w) (hg : goodWord w = true) : w ∈ z_tb := List.mem_filter.mpr ⟨List.mem_append_right _ (List.mem_of_getElem? h), hg⟩
theorem z_tb2 {w : Cond} (i : Nat) (h : (k2_sels lw_privs)[i]? = some w) (hg : goodWord w = true) : w ∈ z_tb := List.mem_filter.mpr ⟨List.mem_append_left _ (List.mem_of_getElem? h), hg⟩
theorem z_tb3 {w : Cond} (i : Nat) (h : tables_1[i]? = some w) : w ∈ lw_tbl := List.mem_append_right _ (List.mem_of_getElem? h)
/-- fuel of a loop: more than any of them takes -/
def zFU : Nat := 1000000
section ZT
variable {Γ : ZG} {p : Program} {l : Launch} {e : Env} {R : Room} {s : State} {m : MethodId} {args : Array Value} {below : List Frame} {meth : Method} {c : Code} {cc : ByteArray} {nL cells slots : Nat} {own : String} {Q : State → Prop} {pc : Nat} {lv : List (Nat × Value)} {st : List Value} {h : ZH}
theorem z_drop {lv2 : List (Nat × Value)} (ks : List Nat) (hk : lv_pick lv ks = lv2) (k : z_W Γ p l e R s m args below meth c nL cells slots Q pc lv2 st h) : z_W Γ p l e R s m args below meth c nL cells slots Q pc lv st h := by
  intro H locs ls hP hl hS
  refine k H locs ls hP (lv_sub hl ks ?_) hS
  rw [← hk]
  unfold lv_pick
  rw [List.map_filterMap]
  congr 1
  funext x
  rw [List.getElem?_map]
theorem z_wid {k n : Nat} (h1 : cells ≤ k) (h2 : slots ≤ n) (kk : z_W Γ p l e R s m args below meth c nL k n Q pc lv st h) : z_W Γ p l e R s m args below meth c nL cells slots Q pc lv st h := fun H locs ls hP hl hS => W.widen h1 h2 (kk H locs ls hP hl hS)
theorem z_iincw (G : z_GG Γ p s m args meth c cc nL own) {i : Nat} {n : Int} {x w : Int32} {lv2 : List (Nat × Value)} (kx : Nat) (hd : decode cc pc = .ok (.iinc i n, 3)) (hk : lv[kx]? = some (i, .int x)) (hw : Int32.ofInt n = w) (hn : i < nL) (hc : z_chk lv i = true) (hl2 : z_setl lv i (.int (x + w)) = lv2) (k : z_W Γ p l e R s m args below meth c nL cells slots Q (pc + 3) lv2 st h) : z_W Γ p l e R s m args below meth c nL cells slots Q pc lv st h := z_iinc G kx hd hk (by rw [hw]) hn hc hl2 k
/-! ends that take the pure answer -/
theorem z_iretX {mc ms : Nat} {r : Int32 × ZH} {v : Int32} (hX : some (v, h) = some r) (G : z_GG Γ p s m args meth c cc nL own) (hr : meth.sig.returnType = some .int) (hd : decode cc pc = .ok (.ireturn, 1)) (hc : cells ≤ mc) (hs : slots ≤ ms) : z_W Γ p l e R s m args below meth c nL cells slots (MQ below (z_Qc Γ (some (.int r.1)) r.2) args s mc ms (z_A Γ)) pc lv [.int v] h := by
  cases hX
  exact z_iret G hr hd hc hs
theorem z_zretX {mc ms : Nat} {r : Int32 × ZH} {v : Int32} {ty : FieldType} (hX : some (v, h) = some r) (G : z_GG Γ p s m args meth c cc nL own) (hr : meth.sig.returnType = some ty) (hn : narrow ty (.int v) = .int v) (hd : decode cc pc = .ok (.ireturn, 1)) (hc : cells ≤ mc) (hs : slots ≤ ms) : z_W Γ p l e R s m args below meth c nL cells slots (MQ below (z_Qc Γ (some (.int r.1)) r.2) args s mc ms (z_A Γ)) pc lv [.int v] h := by
  cases hX
  exact z_zret G hr hn hd hc hs
theorem z_zretY {mc ms : Nat} {r : Int32 × ZH} {v : Int32} (hX : z_zr v h = some r) (G : z_GG Γ p s m args meth c cc nL own) (hr : meth.sig.returnType = some .boolean) (hd : decode cc pc = .ok (.ireturn, 1)) (hc : cells ≤ mc) (hs : slots ≤ ms) : z_W Γ p l e R s m args below meth c nL cells slots (MQ below (z_Qc Γ (some (.int r.1)) r.2) args s mc ms (z_A Γ)) pc lv [.int v] h := by
  obtain ⟨hv, rfl⟩ := z_zr_s hX
  exact z_zret G hr (z_nz hv) hd hc hs
theorem z_vretX {mc ms : Nat} {r : ZH} (hX : some h = some r) (G : z_GG Γ p s m args meth c cc nL own) (hr : meth.sig.returnType = none) (hd : decode cc pc = .ok (.return_, 1)) (hc : cells ≤ mc) (hs : slots ≤ ms) : z_W Γ p l e R s m args below meth c nL cells slots (MQ below (z_Qc Γ none r) args s mc ms (z_A Γ)) pc lv [] h := by
  cases hX
  exact z_vret G hr hd hc hs
theorem z_aretX {mc ms : Nat} {r : Nat × ZH} {v : Nat} {n : String} (hX : some (v, h) = some r) (G : z_GG Γ p s m args meth c cc nL own) (hr : meth.sig.returnType = some (.object n)) (hd : decode cc pc = .ok (.areturn, 1)) (hc : cells ≤ mc) (hs : slots ≤ ms) : z_W Γ p l e R s m args below meth c nL cells slots (MQ below (z_Qc Γ (some (.ref r.1)) r.2) args s mc ms (z_A Γ)) pc lv [.ref v] h := by
  cases hX
  exact z_aret G hr hd hc hs
end ZT
