/-! calls as the generated walks take them, new cells as answers of z_nw -/
def z_nw (h : ZH) (c : ZC) : Option (Nat × ZH) := some (h.2, z_push h c)
def z_yd (y : MethodName) (n : Nat) : Prop := y.cls ≠ "java/lang/invoke/MethodHandle" ∧ y.cls ≠ "java/lang/invoke/VarHandle" ∧ (parseMethodDescriptor y.desc).map (fun d => d.parameters.length) = some n
section ZCW
variable {Γ : ZG} {p : Program} {l : Launch} {e : Env} {R : Room} {s : State} {m : MethodId} {args : Array Value} {below : List Frame} {meth : Method} {c : Code} {cc : ByteArray} {nL cells slots : Nat} {own : String} {Q : State → Prop} {pc : Nat} {lv : List (Nat × Value)} {st : List Value} {h : ZH}
theorem z_lvc {lv2 : List (Nat × Value)} (hl : lv = lv2) (k : z_W Γ p l e R s m args below meth c nL cells slots Q pc lv2 st h) : z_W Γ p l e R s m args below meth c nL cells slots Q pc lv st h := hl ▸ k

theorem z_cVI (G : z_GG Γ p s m args meth c cc nL own) {ci : Nat} {C : String} {T : u_T} {N : Nat} {ty : Nat → FieldType} (hK : z_K ci C T N ty) {y : MethodName} {bytes : ByteArray} {maxL n index b c2 s2 : Nat} {ret : Option FieldType} {rm : Room} {As : List Value} {v : Int32} {h1 : ZH} (hM : z_M Γ l y (z_ws1 y bytes maxL ret) rm (.ref b :: As) h (some (.int v)) h1) (hb : z_is h b ci = true)
    (hcode : Cond.code y bytes maxL ret ∈ z_tb) (hini : Cond.initialized y.cls ∈ z_tb) (hlink : Cond.methodLink own index y ∈ z_tb) (hin : Cond.instanceMethod y ∈ z_tb) (hse : Cond.selects C y y ∈ z_tb) (hy : z_yd y n)
    (hR : rm.frames + 1 ≤ R.frames ∧ 8 + (maxL + 11) + rm.locals ≤ R.locals) (hn : As.length = n) (hw8 : (st.map fun v => v.category).sum ≤ 8) (hc : cells + rm.cells = c2 ∧ slots + rm.slots = s2) (hf : c2 ≤ R.cells ∧ s2 ≤ R.slots) {st0 : List Value} (hst0 : st0 = As.reverse ++ (.ref b :: st)) (hd : decode cc pc = .ok (.invokevirtual index, 3))
    (kk : z_W Γ p l e R s m args below meth c nL c2 s2 Q (pc + 3) lv (.int v :: st) h1) : z_W Γ p l e R s m args below meth c nL cells slots Q pc lv st0 h := by
  obtain ⟨rfl, rfl⟩ := hc
  exact z_callV G hK hM hb hcode hini hlink hin hse hy hR hn hw8 hf hst0 hd kk
theorem z_cSI (G : z_GG Γ p s m args meth c cc nL own) {y : MethodName} {bytes : ByteArray} {maxL n index c2 s2 : Nat} {ret : Option FieldType} {rm : Room} {As : List Value} {v : Int32} {h1 : ZH} (hM : z_M Γ l y (z_ws1 y bytes maxL ret) rm As h (some (.int v)) h1)
    (hcode : Cond.code y bytes maxL ret ∈ z_tb) (hini : Cond.initialized y.cls ∈ z_tb) (hlink : Cond.methodLink own index y ∈ z_tb) (hst : Cond.static y ∈ z_tb) (hy : z_yd y n)
    (hR : rm.frames + 1 ≤ R.frames ∧ 8 + (maxL + 11) + rm.locals ≤ R.locals) (hn : As.length = n) (hw8 : (st.map fun v => v.category).sum ≤ 8) (hc : cells + rm.cells = c2 ∧ slots + rm.slots = s2) (hf : c2 ≤ R.cells ∧ s2 ≤ R.slots) {st0 : List Value} (hst0 : st0 = As.reverse ++ st) (hd : decode cc pc = .ok (.invokestatic index, 3))
    (kk : z_W Γ p l e R s m args below meth c nL c2 s2 Q (pc + 3) lv (.int v :: st) h1) : z_W Γ p l e R s m args below meth c nL cells slots Q pc lv st0 h := by
  obtain ⟨rfl, rfl⟩ := hc
  exact z_callS G hM hcode hini hlink hst hy hR hn hw8 hf hst0 hd kk
theorem z_cVR (G : z_GG Γ p s m args meth c cc nL own) {ci : Nat} {C : String} {T : u_T} {N : Nat} {ty : Nat → FieldType} (hK : z_K ci C T N ty) {y : MethodName} {bytes : ByteArray} {maxL n index b c2 s2 : Nat} {ret : Option FieldType} {rm : Room} {As : List Value} {v : Nat} {h1 : ZH} (hM : z_M Γ l y (z_ws1 y bytes maxL ret) rm (.ref b :: As) h (some (.ref v)) h1) (hb : z_is h b ci = true)
    (hcode : Cond.code y bytes maxL ret ∈ z_tb) (hini : Cond.initialized y.cls ∈ z_tb) (hlink : Cond.methodLink own index y ∈ z_tb) (hin : Cond.instanceMethod y ∈ z_tb) (hse : Cond.selects C y y ∈ z_tb) (hy : z_yd y n)
    (hR : rm.frames + 1 ≤ R.frames ∧ 8 + (maxL + 11) + rm.locals ≤ R.locals) (hn : As.length = n) (hw8 : (st.map fun v => v.category).sum ≤ 8) (hc : cells + rm.cells = c2 ∧ slots + rm.slots = s2) (hf : c2 ≤ R.cells ∧ s2 ≤ R.slots) {st0 : List Value} (hst0 : st0 = As.reverse ++ (.ref b :: st)) (hd : decode cc pc = .ok (.invokevirtual index, 3))
    (kk : z_W Γ p l e R s m args below meth c nL c2 s2 Q (pc + 3) lv (.ref v :: st) h1) : z_W Γ p l e R s m args below meth c nL cells slots Q pc lv st0 h := by
  obtain ⟨rfl, rfl⟩ := hc
  exact z_callV G hK hM hb hcode hini hlink hin hse hy hR hn hw8 hf hst0 hd kk
theorem z_cSR (G : z_GG Γ p s m args meth c cc nL own) {y : MethodName} {bytes : ByteArray} {maxL n index c2 s2 : Nat} {ret : Option FieldType} {rm : Room} {As : List Value} {v : Nat} {h1 : ZH} (hM : z_M Γ l y (z_ws1 y bytes maxL ret) rm As h (some (.ref v)) h1)
    (hcode : Cond.code y bytes maxL ret ∈ z_tb) (hini : Cond.initialized y.cls ∈ z_tb) (hlink : Cond.methodLink own index y ∈ z_tb) (hst : Cond.static y ∈ z_tb) (hy : z_yd y n)
    (hR : rm.frames + 1 ≤ R.frames ∧ 8 + (maxL + 11) + rm.locals ≤ R.locals) (hn : As.length = n) (hw8 : (st.map fun v => v.category).sum ≤ 8) (hc : cells + rm.cells = c2 ∧ slots + rm.slots = s2) (hf : c2 ≤ R.cells ∧ s2 ≤ R.slots) {st0 : List Value} (hst0 : st0 = As.reverse ++ st) (hd : decode cc pc = .ok (.invokestatic index, 3))
    (kk : z_W Γ p l e R s m args below meth c nL c2 s2 Q (pc + 3) lv (.ref v :: st) h1) : z_W Γ p l e R s m args below meth c nL cells slots Q pc lv st0 h := by
  obtain ⟨rfl, rfl⟩ := hc
  exact z_callS G hM hcode hini hlink hst hy hR hn hw8 hf hst0 hd kk
theorem z_cVV (G : z_GG Γ p s m args meth c cc nL own) {ci : Nat} {C : String} {T : u_T} {N : Nat} {ty : Nat → FieldType} (hK : z_K ci C T N ty) {y : MethodName} {bytes : ByteArray} {maxL n index b c2 s2 : Nat} {ret : Option FieldType} {rm : Room} {As : List Value}  {h1 : ZH} (hM : z_M Γ l y (z_ws1 y bytes maxL ret) rm (.ref b :: As) h none h1) (hb : z_is h b ci = true)
    (hcode : Cond.code y bytes maxL ret ∈ z_tb) (hini : Cond.initialized y.cls ∈ z_tb) (hlink : Cond.methodLink own index y ∈ z_tb) (hin : Cond.instanceMethod y ∈ z_tb) (hse : Cond.selects C y y ∈ z_tb) (hy : z_yd y n)
    (hR : rm.frames + 1 ≤ R.frames ∧ 8 + (maxL + 11) + rm.locals ≤ R.locals) (hn : As.length = n) (hw8 : (st.map fun v => v.category).sum ≤ 8) (hc : cells + rm.cells = c2 ∧ slots + rm.slots = s2) (hf : c2 ≤ R.cells ∧ s2 ≤ R.slots) {st0 : List Value} (hst0 : st0 = As.reverse ++ (.ref b :: st)) (hd : decode cc pc = .ok (.invokevirtual index, 3))
    (kk : z_W Γ p l e R s m args below meth c nL c2 s2 Q (pc + 3) lv st h1) : z_W Γ p l e R s m args below meth c nL cells slots Q pc lv st0 h := by
  obtain ⟨rfl, rfl⟩ := hc
  exact z_callV G hK hM hb hcode hini hlink hin hse hy hR hn hw8 hf hst0 hd kk
theorem z_cSV (G : z_GG Γ p s m args meth c cc nL own) {y : MethodName} {bytes : ByteArray} {maxL n index c2 s2 : Nat} {ret : Option FieldType} {rm : Room} {As : List Value}  {h1 : ZH} (hM : z_M Γ l y (z_ws1 y bytes maxL ret) rm As h none h1)
    (hcode : Cond.code y bytes maxL ret ∈ z_tb) (hini : Cond.initialized y.cls ∈ z_tb) (hlink : Cond.methodLink own index y ∈ z_tb) (hst : Cond.static y ∈ z_tb) (hy : z_yd y n)
    (hR : rm.frames + 1 ≤ R.frames ∧ 8 + (maxL + 11) + rm.locals ≤ R.locals) (hn : As.length = n) (hw8 : (st.map fun v => v.category).sum ≤ 8) (hc : cells + rm.cells = c2 ∧ slots + rm.slots = s2) (hf : c2 ≤ R.cells ∧ s2 ≤ R.slots) {st0 : List Value} (hst0 : st0 = As.reverse ++ st) (hd : decode cc pc = .ok (.invokestatic index, 3))
    (kk : z_W Γ p l e R s m args below meth c nL c2 s2 Q (pc + 3) lv st h1) : z_W Γ p l e R s m args below meth c nL cells slots Q pc lv st0 h := by
  obtain ⟨rfl, rfl⟩ := hc
  exact z_callS G hM hcode hini hlink hst hy hR hn hw8 hf hst0 hd kk
theorem z_cI (G : z_GG Γ p s m args meth c cc nL own) {y : MethodName} {bytes : ByteArray} {maxL n index b c2 s2 : Nat} {rm : Room} {As : List Value} {h1 : ZH} (hM : z_M Γ l y (z_ws1 y bytes maxL none) rm (.ref b :: As) h none h1)
    (hcode : Cond.code y bytes maxL none ∈ z_tb) (hini : Cond.initialized y.cls ∈ z_tb) (hlink : Cond.methodLink own index y ∈ z_tb) (hin : Cond.instanceMethod y ∈ z_tb) (hy1 : y.name = "<init>") (hy : z_yd y n)
    (hR : rm.frames + 1 ≤ R.frames ∧ 8 + (maxL + 11) + rm.locals ≤ R.locals) (hn : As.length = n) (hw8 : (st.map fun v => v.category).sum ≤ 8) (hc : cells + rm.cells = c2 ∧ slots + rm.slots = s2) (hf : c2 ≤ R.cells ∧ s2 ≤ R.slots) {st0 : List Value} (hst0 : st0 = As.reverse ++ (.ref b :: st)) (hd : decode cc pc = .ok (.invokespecial index, 3))
    (kk : z_W Γ p l e R s m args below meth c nL c2 s2 Q (pc + 3) lv st h1) : z_W Γ p l e R s m args below meth c nL cells slots Q pc lv st0 h := by
  obtain ⟨rfl, rfl⟩ := hc
  exact z_callI G hM hcode hini hlink hin hy1 hy hR hn hw8 hf hst0 hd kk
theorem z_cIN (G : z_GG Γ p s m args meth c cc nL own) {y : MethodName} {bytes : ByteArray} {maxL n index b c2 s2 : Nat} {rm : Room} {As : List Value} {h1 : ZH} (hM : z_M Γ l y (z_ws1 y bytes maxL none) rm (.ref b :: As) h none h1)
    (hcode : Cond.code y bytes maxL none ∈ z_tb) (hini : Cond.initialized y.cls ∈ z_tb) {host : String} (hlink : Cond.methodLinkNest own index y host ∈ lw_tbl) (hin : Cond.instanceMethod y ∈ z_tb) (hy1 : y.name = "<init>") (hy : z_yd y n)
    (hR : rm.frames + 1 ≤ R.frames ∧ 8 + (maxL + 11) + rm.locals ≤ R.locals) (hn : As.length = n) (hw8 : (st.map fun v => v.category).sum ≤ 8) (hc : cells + rm.cells = c2 ∧ slots + rm.slots = s2) (hf : c2 ≤ R.cells ∧ s2 ≤ R.slots) {st0 : List Value} (hst0 : st0 = As.reverse ++ (.ref b :: st)) (hd : decode cc pc = .ok (.invokespecial index, 3))
    (kk : z_W Γ p l e R s m args below meth c nL c2 s2 Q (pc + 3) lv st h1) : z_W Γ p l e R s m args below meth c nL cells slots Q pc lv st0 h := by
  obtain ⟨rfl, rfl⟩ := hc
  exact z_callIN G hM hcode hini hlink hin hy1 hy hR hn hw8 hf hst0 hd kk
theorem z_cVSI (G : z_GG Γ p s m args meth c cc nL own) {y : MethodName} {bytes : ByteArray} {maxL n index b c2 s2 : Nat} {ret : Option FieldType} {rm : Room} {As : List Value} {v : Int32} {h1 : ZH} (hM : z_M Γ l y (z_ws1 y bytes maxL ret) rm (.ref b :: As) h (some (.int v)) h1) (hb : z_is h b 50 = true)
    (hcode : Cond.code y bytes maxL ret ∈ z_tb) (hini : Cond.initialized y.cls ∈ z_tb) (hlink : Cond.methodLink own index y ∈ z_tb) (hin : Cond.instanceMethod y ∈ z_tb) (hse : Cond.selects "java/lang/String" y y ∈ z_tb) (hy : z_yd y n)
    (hR : rm.frames + 1 ≤ R.frames ∧ 8 + (maxL + 11) + rm.locals ≤ R.locals) (hn : As.length = n) (hw8 : (st.map fun v => v.category).sum ≤ 8) (hc : cells + rm.cells = c2 ∧ slots + rm.slots = s2) (hf : c2 ≤ R.cells ∧ s2 ≤ R.slots) {st0 : List Value} (hst0 : st0 = As.reverse ++ (.ref b :: st)) (hd : decode cc pc = .ok (.invokevirtual index, 3))
    (kk : z_W Γ p l e R s m args below meth c nL c2 s2 Q (pc + 3) lv (.int v :: st) h1) : z_W Γ p l e R s m args below meth c nL cells slots Q pc lv st0 h := by
  obtain ⟨rfl, rfl⟩ := hc
  subst hst0
  intro H locs ls hP hl hS
  obtain ⟨fs, hfs⟩ := z_is_spec hb
  have h8 : b < 8 := by
    apply Nat.lt_of_not_le
    intro h8
    by_cases hb : b < h.2
    · have := hP.2.2.2.2.2 b h8 hb
      rw [hfs] at this
      cases this
    · have := hP.2.2.2.1 b (Nat.not_lt.mp hb)
      rw [hfs] at this
      cases this
  obtain ⟨e1, -⟩ := G.1.2.2.2.2.2.2.1 s s.heap b fs h8 ((hP.2.2.2.2.1 b h8).symm.trans hfs) G.2.2.2.2.2.2.2.1
  have ea : z_ad Γ b = Γ.2.2.1 b := by unfold z_ad; rw [if_pos h8]
  rw [← ea] at e1
  obtain ⟨cell, k1, k2, k3, -⟩ := e1.kept hS.2.1
  refine z_after (v := some (.int v)) (a := (Value.ref (z_ad Γ b) :: As.map (z_em Γ)).toArray) G hP hl hS ?_ kk
  have hpre := z_pre G hP hS (.ref b :: As)
  exact va_runV (C := "java/lang/String") (b := z_ad Γ b) (As := As.map (z_em Γ)) (rest := st.map (z_em Γ)) ⟨G.2.1, G.2.2.1, G.2.2.2.1, G.2.2.2.2.1, G.2.2.2.2.2.1⟩ hM ⟨z_cb G hcode hini hlink hy hR, G.2.2.2.2.2.1 _ hin, G.2.2.2.2.2.1 _ hse⟩ ⟨hpre.1, ⟨cell, k1, k2, k3⟩, hpre.2⟩ rfl (by rw [List.length_map]; exact hn) hl.1 (by show (List.map _ _) = _; rw [List.map_append, List.map_reverse]; rfl) (by rw [z_cats]; show 2 * 0 + _ ≤ 8; omega) hd hf
theorem z_nO (G : z_GG Γ p s m args meth c cc nL own) {ci : Nat} {C : String} {T : u_T} {N c2 s2 : Nat} {ty : Nat → FieldType} (hK : z_K ci C T N ty) {index : Nat} (hw : Cond.classLink own index C ∈ z_tb) (hi1 : Cond.instantiable C N ∈ z_tb) (hi2 : Cond.initialized C ∈ z_tb) {fs : List Value} (hfs : ∀ j, j < N → defaultValue (ty j) = vp_V (fs.map (z_em Γ)) j) (hc : cells + 1 = c2 ∧ slots + N = s2) (hf : c2 ≤ R.cells ∧ s2 ≤ R.slots) (hd : decode cc pc = .ok (.new index, 3)) {q : Nat × ZH} (hv : z_nw h (.inl (ci, fs)) = some q)
    (kk : z_W Γ p l e R s m args below meth c nL c2 s2 Q (pc + 3) lv (.ref q.1 :: st) q.2) : z_W Γ p l e R s m args below meth c nL cells slots Q pc lv st h := by
  obtain ⟨rfl, rfl⟩ := hc
  cases hv
  exact z_new G hK hw hi1 hi2 hfs hf.1 hf.2 hd kk
theorem z_nI (G : z_GG Γ p s m args meth c cc nL own) {atype : ArrayType} {t c2 s2 : Nat} {n : Int32} {N : Nat} (hw : Cond.arrayClass (newarray.typeOf atype) ∈ z_tb) (ht : (z_tys Γ)[t]? = some (Γ.2.1 t, newarray.typeOf atype)) (h10 : t < 3) (hdef : defaultValue (newarray.typeOf atype) = .int 0) (hnr : ∀ C, newarray.typeOf atype ≠ .object C) (hn : ¬ n < 0) (hN : n.toNatClampNeg = N) (hbytes : N * componentBytes (newarray.typeOf atype) ≤ 536870912) (hc : cells + 1 = c2 ∧ slots + N = s2) (hf : c2 ≤ R.cells ∧ s2 ≤ R.slots) (hd : decode cc pc = .ok (.newarray atype, 2)) {q : Nat × ZH} (hv : z_nw h (.inr (.inl (t, List.replicate N 0))) = some q)
    (kk : z_W Γ p l e R s m args below meth c nL c2 s2 Q (pc + 2) lv (.ref q.1 :: st) q.2) : z_W Γ p l e R s m args below meth c nL cells slots Q pc lv (.int n :: st) h := by
  obtain ⟨rfl, rfl⟩ := hc
  cases hv
  exact z_newaI G hw ht h10 hdef hnr hn hN hbytes hf.1 hf.2 hd kk
theorem z_nJ (G : z_GG Γ p s m args meth c cc nL own) {n : Int32} {N c2 s2 : Nat} (hw : Cond.arrayClass .long ∈ z_tb) (hn : ¬ n < 0) (hN : n.toNatClampNeg = N) (hbytes : N * componentBytes .long ≤ 536870912) (hc : cells + 1 = c2 ∧ slots + N = s2) (hf : c2 ≤ R.cells ∧ s2 ≤ R.slots) (hd : decode cc pc = .ok (.newarray .long, 2)) {q : Nat × ZH} (hv : z_nw h (.inr (.inr (.inl (List.replicate N 0)))) = some q)
    (kk : z_W Γ p l e R s m args below meth c nL c2 s2 Q (pc + 2) lv (.ref q.1 :: st) q.2) : z_W Γ p l e R s m args below meth c nL cells slots Q pc lv (.int n :: st) h := by
  obtain ⟨rfl, rfl⟩ := hc
  cases hv
  exact z_newaJ G hw hn hN hbytes hf.1 hf.2 hd kk
theorem z_nQ (G : z_GG Γ p s m args meth c cc nL own) {index : Nat} {n : Int32} {N c2 s2 : Nat} (hw : Cond.classLink own index "SlotFleet$State" ∈ z_tb) (hn : ¬ n < 0) (hN : n.toNatClampNeg = N) (hbytes : N * 4 ≤ 536870912) (hc : cells + 1 = c2 ∧ slots + N = s2) (hf : c2 ≤ R.cells ∧ s2 ≤ R.slots) (hd : decode cc pc = .ok (.anewarray index, 3)) {q : Nat × ZH} (hv : z_nw h (.inr (.inr (.inr (List.replicate N none)))) = some q)
    (kk : z_W Γ p l e R s m args below meth c nL c2 s2 Q (pc + 3) lv (.ref q.1 :: st) q.2) : z_W Γ p l e R s m args below meth c nL cells slots Q pc lv (.int n :: st) h := by
  obtain ⟨rfl, rfl⟩ := hc
  cases hv
  exact z_newaQ G hw hn hN hbytes hf.1 hf.2 hd kk
theorem z_nmI {x v : Int32} (hv : some x = some v) (k : z_W Γ p l e R s m args below meth c nL cells slots Q pc lv (.int v :: st) h) : z_W Γ p l e R s m args below meth c nL cells slots Q pc lv (.int x :: st) h := by
  cases hv
  exact k
end ZCW
