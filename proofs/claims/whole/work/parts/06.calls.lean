/-! new cells, arraycopy, returns, a method's start, calls -/
section ZN
variable {Γ : ZG} {p : Program} {l : Launch} {e : Env} {R : Room} {s : State} {m : MethodId} {args : Array Value} {below : List Frame} {meth : Method} {c : Code} {cc : ByteArray} {nL cells slots : Nat} {own : String} {Q : State → Prop} {pc : Nat} {lv : List (Nat × Value)} {st : List Value} {h : ZH}
theorem z_new (G : z_GG Γ p s m args meth c cc nL own) {ci : Nat} {C : String} {T : u_T} {N : Nat} {ty : Nat → FieldType} (hK : z_K ci C T N ty) {index : Nat} (hw : Cond.classLink own index C ∈ z_tb) (hi1 : Cond.instantiable C N ∈ z_tb) (hi2 : Cond.initialized C ∈ z_tb) {fs : List Value} (hfs : ∀ j, j < N → defaultValue (ty j) = vp_V (fs.map (z_em Γ)) j) (hcells : cells + 1 ≤ R.cells) (hslots : slots + N ≤ R.slots) (hd : decode cc pc = .ok (.new index, 3))
    (kk : z_W Γ p l e R s m args below meth c nL (cells + 1) (slots + N) Q (pc + 3) lv (.ref h.2 :: st) (z_push h (.inl (ci, fs)))) : z_W Γ p l e R s m args below meth c nL cells slots Q pc lv st h := by
  intro H locs ls hP hl hS
  have hts := G.2.2.2.2.2.1
  have hKn := G.2.2.2.2.2.2.1.1 ci _ hK.1
  refine W.newcK G.2.1 G.2.2.1 G.2.2.2.2.1 (hts _ hw) (hts _ hi1) (hts _ hi2) rfl hd hcells hslots hKn.2.1 rfl fun H1 kC hkC e1 z1 o1 => ?_
  have h8 : 8 ≤ h.2 := hP.1
  have ha : H.size = z_ad Γ h.2 := by rw [z_ad_hi h8]; exact hP.2.1
  have kx := kk H1 locs ls (z_Hp_push hP (decide_eq_true hK.2.2.2.2) z1 ⟨_, hK.1, (u_born ty hts hK.2.1 hKn hkC e1 hK.2.2.1).to hfs⟩ o1) hl ⟨Nat.le_trans hS.1 (by omega), fun x g1 g2 => (o1 x (Nat.lt_of_lt_of_le g1 hS.1)).trans (hS.2.1 x g1 g2), hS.2.2⟩
  rw [ha]
  exact kx
theorem z_newaI (G : z_GG Γ p s m args meth c cc nL own) {atype : ArrayType} {t : Nat} {n : Int32} {N : Nat} (hw : Cond.arrayClass (newarray.typeOf atype) ∈ z_tb) (ht : (z_tys Γ)[t]? = some (Γ.2.1 t, newarray.typeOf atype)) (h10 : t < 3) (hdef : defaultValue (newarray.typeOf atype) = .int 0) (hnr : ∀ C, newarray.typeOf atype ≠ .object C) (hn : ¬ n < 0) (hN : n.toNatClampNeg = N) (hbytes : N * componentBytes (newarray.typeOf atype) ≤ 536870912) (hcells : cells + 1 ≤ R.cells) (hslots : slots + N ≤ R.slots) (hd : decode cc pc = .ok (.newarray atype, 2))
    (kk : z_W Γ p l e R s m args below meth c nL (cells + 1) (slots + N) Q (pc + 2) lv (.ref h.2 :: st) (z_push h (.inr (.inl (t, List.replicate N 0))))) : z_W Γ p l e R s m args below meth c nL cells slots Q pc lv (.int n :: st) h := by
  intro H locs ls hP hl hS
  have hts := G.2.2.2.2.2.1
  refine va_newaK G.2.1 G.2.2.1 (hts _ hw) rfl hd rfl hn hN hbytes hcells hslots rfl fun H1 cA e1 z1 o1 hAr hNm => ?_
  have h8 : 8 ≤ h.2 := hP.1
  have ha : H.size = z_ad Γ h.2 := by rw [z_ad_hi h8]; exact hP.2.1
  have hra := (G.2.2.2.2.2.2.1.2 t _ ht).2
  have hcA : cA = Γ.2.1 t := by
    have : s.vm.findClass ("[" ++ (newarray.typeOf atype).toString) = some (Γ.2.1 t) := by
      cases atype <;> exact hra
    exact Option.some.inj (hNm.symm.trans this)
  subst hcA
  have kx := kk H1 locs ls (z_Hp_push hP (by simp [z_norm]; omega) z1 (by
    show H1[H.size]? = some (vp_cell (Γ.2.1 t) (_, .inl _))
    rw [e1, vp_cell_i, hdef, List.length_replicate]
    congr 2
    funext j
    congr 1
    rw [List.getD_eq_getElem?_getD, List.getElem?_replicate]
    split <;> rfl) o1) hl ⟨Nat.le_trans hS.1 (by omega), fun x g1 g2 => (o1 x (Nat.lt_of_lt_of_le g1 hS.1)).trans (hS.2.1 x g1 g2), hS.2.2⟩
  show W p l e R s m args below meth c H1 locs (cells + 1) (slots + N) Q (F0 m (pc + 2) ls (.ref H.size :: st.map (z_em Γ)))
  rw [ha]
  exact kx
theorem z_newaJ (G : z_GG Γ p s m args meth c cc nL own) {n : Int32} {N : Nat} (hw : Cond.arrayClass .long ∈ z_tb) (hn : ¬ n < 0) (hN : n.toNatClampNeg = N) (hbytes : N * componentBytes .long ≤ 536870912) (hcells : cells + 1 ≤ R.cells) (hslots : slots + N ≤ R.slots) (hd : decode cc pc = .ok (.newarray .long, 2))
    (kk : z_W Γ p l e R s m args below meth c nL (cells + 1) (slots + N) Q (pc + 2) lv (.ref h.2 :: st) (z_push h (.inr (.inr (.inl (List.replicate N 0)))))) : z_W Γ p l e R s m args below meth c nL cells slots Q pc lv (.int n :: st) h := by
  intro H locs ls hP hl hS
  have hts := G.2.2.2.2.2.1
  refine va_newaK (atype := .long) G.2.1 G.2.2.1 (hts _ hw) rfl hd rfl hn hN hbytes hcells hslots rfl fun H1 cA e1 z1 o1 hAr hNm => ?_
  have h8 : 8 ≤ h.2 := hP.1
  have ha : H.size = z_ad Γ h.2 := by rw [z_ad_hi h8]; exact hP.2.1
  have ht : (z_tys Γ)[3]? = some (Γ.2.1 3, .long) := rfl
  have hra := (G.2.2.2.2.2.2.1.2 3 _ ht).2
  have hcA : cA = Γ.2.1 3 := Option.some.inj (hNm.symm.trans hra)
  subst hcA
  have kx := kk H1 locs ls (z_Hp_push hP rfl z1 (by
    show H1[H.size]? = some (vp_cell (Γ.2.1 3) (_, .inr (.inl _)))
    rw [e1, vp_cell_l, List.length_replicate]
    congr 2
    funext j
    show Value.long 0 = _
    congr 1
    rw [List.getD_eq_getElem?_getD, List.getElem?_replicate]
    split <;> rfl) o1) hl ⟨Nat.le_trans hS.1 (by omega), fun x g1 g2 => (o1 x (Nat.lt_of_lt_of_le g1 hS.1)).trans (hS.2.1 x g1 g2), hS.2.2⟩
  show W p l e R s m args below meth c H1 locs (cells + 1) (slots + N) Q (F0 m (pc + 2) ls (.ref H.size :: st.map (z_em Γ)))
  rw [ha]
  exact kx
theorem z_newaQ (G : z_GG Γ p s m args meth c cc nL own) {index : Nat} {n : Int32} {N : Nat} (hw : Cond.classLink own index "SlotFleet$State" ∈ z_tb) (hn : ¬ n < 0) (hN : n.toNatClampNeg = N) (hbytes : N * 4 ≤ 536870912) (hcells : cells + 1 ≤ R.cells) (hslots : slots + N ≤ R.slots) (hd : decode cc pc = .ok (.anewarray index, 3))
    (kk : z_W Γ p l e R s m args below meth c nL (cells + 1) (slots + N) Q (pc + 3) lv (.ref h.2 :: st) (z_push h (.inr (.inr (.inr (List.replicate N none)))))) : z_W Γ p l e R s m args below meth c nL cells slots Q pc lv (.int n :: st) h := by
  subst hN
  intro H locs ls hP hl hS
  have hts := G.2.2.2.2.2.1
  refine W.anew G.2.1 G.2.2.1 G.2.2.2.2.1 (hts _ hw) (va_AO.use (G.1.2.2.2.2.2.1 s s.heap G.2.2.2.2.2.2.2.1).1) rfl hd rfl hn hbytes hcells hslots fun cA kA comp f1 f2 f3 f4 => ?_
  have h8 : 8 ≤ h.2 := hP.1
  have ha : H.size = z_ad Γ h.2 := by rw [z_ad_hi h8]; exact hP.2.1
  have ht : (z_tys Γ)[4]? = some (Γ.2.1 4, .object "SlotFleet$State") := rfl
  obtain ⟨kA', comp', -, -, -, r4⟩ := (G.2.2.2.2.2.2.1.2 4 _ ht).2
  have hcA : cA = Γ.2.1 4 := Option.some.inj (f1.symm.trans r4)
  subst hcA
  generalize hH1 : H.push ({ cls := Γ.2.1 4, slots := Array.replicate n.toNatClampNeg .null, vm := .none } : Cell) = H1
  have z1 : H1.size = H.size + 1 := by rw [← hH1, Array.size_push]
  have e1 : H1[H.size]? = some (arrV (Γ.2.1 4) n.toNatClampNeg (fun _ => .null)) := by rw [← hH1, Array.getElem?_push_size, ← arrV_new]
  have o1 : ∀ q : Nat, q < H.size → H1[q]? = H[q]? := fun q hq => by rw [← hH1, Array.getElem?_push, if_neg (Nat.ne_of_lt hq)]
  have kx := kk H1 locs ls (z_Hp_push hP rfl z1 (by
    show H1[H.size]? = some (vp_cell (Γ.2.1 4) (_, .inr (.inr (.inr (.inr _)))))
    rw [e1, vp_cell_q, List.length_replicate]
    congr 2
    funext j
    rw [List.getD_eq_getElem?_getD, List.getElem?_replicate]
    split <;> rfl) o1) hl ⟨Nat.le_trans hS.1 (by omega), fun x g1 g2 => (o1 x (Nat.lt_of_lt_of_le g1 hS.1)).trans (hS.2.1 x g1 g2), hS.2.2⟩
  show W p l e R s m args below meth c H1 locs (cells + 1) (slots + n.toNatClampNeg) Q (F0 m (pc + 3) ls (.ref H.size :: st.map (z_em Γ)))
  rw [ha]
  exact kx
theorem z_cats (Γ : ZG) (st : List Value) : ((st.map (z_em Γ)).map fun v => v.category) = st.map fun v => v.category := by
  rw [List.map_map]
  apply List.map_congr_left
  intro v _
  exact z_em_cat Γ v
theorem z_obj (G : z_GG Γ p s m args meth c cc nL own) {index a : Nat} (hw : Cond.methodLink own index Lib.objectInit ∈ z_tb) (hw2 : Cond.instanceMethod Lib.objectInit ∈ z_tb) (hw3 : Cond.code Lib.objectInit ⟨#[0xb1]⟩ 1 none ∈ z_tb) (hf : 1 ≤ R.frames) (hlo : (st.map fun v => v.category).sum + 12 ≤ R.locals) (hd : decode cc pc = .ok (.invokespecial index, 3))
    (kk : z_W Γ p l e R s m args below meth c nL cells slots Q (pc + 3) lv st h) : z_W Γ p l e R s m args below meth c nL cells slots Q pc lv (.ref a :: st) h := by
  intro H locs ls hP hl hS
  have hts := G.2.2.2.2.2.1
  exact W.objInit (g := F0 m pc ls (.ref (z_ad Γ a) :: st.map (z_em Γ))) (rest := st.map (z_em Γ)) G.2.1 G.2.2.1 G.2.2.2.2.1 (hts _ hw) (hts _ hw2) (hts _ hw3) rfl (by rw [G.2.2.2.1]; exact hl.1) rfl hd hf (by rw [z_cats]; show 2 * 0 + _ + 12 ≤ _; omega) (kk H locs ls hP hl hS)
/-! ends -/
theorem z_iret {mc ms : Nat} (G : z_GG Γ p s m args meth c cc nL own) {v : Int32} (hr : meth.sig.returnType = some .int) (hd : decode cc pc = .ok (.ireturn, 1)) (hc : cells ≤ mc) (hs : slots ≤ ms) : z_W Γ p l e R s m args below meth c nL cells slots (MQ below (z_Qc Γ (some (.int v)) h) args s mc ms (z_A Γ)) pc lv [.int v] h := by
  intro H locs ls hP hl hS
  refine W.widen hc hs ?_
  exact W.iret G.2.1 G.2.2.1 hr (fun t ht hW => ⟨rfl, by rw [ht]; exact hP, hS.F ht⟩) hS.2.2 hd G.2.2.2.2.2.2.2.2.1
theorem z_zret {mc ms : Nat} (G : z_GG Γ p s m args meth c cc nL own) {v : Int32} {ty : FieldType} (hr : meth.sig.returnType = some ty) (hn : narrow ty (.int v) = .int v) (hd : decode cc pc = .ok (.ireturn, 1)) (hc : cells ≤ mc) (hs : slots ≤ ms) : z_W Γ p l e R s m args below meth c nL cells slots (MQ below (z_Qc Γ (some (.int v)) h) args s mc ms (z_A Γ)) pc lv [.int v] h := by
  intro H locs ls hP hl hS
  refine W.widen hc hs ?_
  exact W.zret G.2.1 G.2.2.1 hr hn (fun t ht hW => ⟨rfl, by rw [ht]; exact hP, hS.F ht⟩) hS.2.2 hd G.2.2.2.2.2.2.2.2.1
theorem z_vret {mc ms : Nat} (G : z_GG Γ p s m args meth c cc nL own) (hr : meth.sig.returnType = none) (hd : decode cc pc = .ok (.return_, 1)) (hc : cells ≤ mc) (hs : slots ≤ ms) : z_W Γ p l e R s m args below meth c nL cells slots (MQ below (z_Qc Γ none h) args s mc ms (z_A Γ)) pc lv [] h := by
  intro H locs ls hP hl hS
  refine W.widen hc hs ?_
  exact W.vret G.2.1 G.2.2.1 hr (fun t ht hW => ⟨rfl, by rw [ht]; exact hP, hS.F ht⟩) hS.2.2 hd G.2.2.2.2.2.2.2.2.1
theorem z_aret {mc ms : Nat} (G : z_GG Γ p s m args meth c cc nL own) {a : Nat} {n : String} (hr : meth.sig.returnType = some (.object n)) (hd : decode cc pc = .ok (.areturn, 1)) (hc : cells ≤ mc) (hs : slots ≤ ms) : z_W Γ p l e R s m args below meth c nL cells slots (MQ below (z_Qc Γ (some (.ref a)) h) args s mc ms (z_A Γ)) pc lv [.ref a] h := by
  intro H locs ls hP hl hS
  refine W.widen hc hs ?_
  exact W.aret G.2.1 G.2.2.1 hr (Or.inl ⟨n, rfl⟩) (Or.inr ⟨_, rfl⟩) (fun t ht hW => ⟨rfl, by rw [ht]; exact hP, hS.F ht⟩) hS.2.2 hd G.2.2.2.2.2.2.2.2.1
end ZN
/-- a method's words: its own code, and all the tables -/
def z_ws1 (y : MethodName) (cc : ByteArray) (maxL : Nat) (ret : Option FieldType) : List Cond := .code y cc maxL ret :: z_tb
theorem z_sl_len (Γ : ZG) : ∀ as : List Value, (lg_sl (as.map (z_em Γ))).length = (lg_sl as).length
  | [] => rfl
  | a :: as => by
    have ih := z_sl_len Γ as
    unfold lg_sl at ih ⊢
    simp only [List.map_cons, List.flatMap_cons, List.length_append, z_em_cat]
    rw [ih]
    split <;> rfl
theorem z_start {Γ : ZG} {l : Launch} {y : MethodName} {cc : ByteArray} {maxL : Nat} {ret : Option FieldType} {rm : Room} {as : List Value} {h h' : ZH} {v : Option Value} (hO : z_OK Γ) (hy : plainFor y = true) (hlen : (lg_sl as).length ≤ maxL)
    (body : ∀ (p : Program) (e : Env) (s : State) (m : MethodId) (args : Array Value) (below : List Frame) (meth : Method) (c : Code), z_GG Γ p s m args meth c cc maxL y.cls → meth.sig.returnType = ret → meth.name = y.name → z_W Γ p l e rm s m args below meth c maxL 0 0 (MQ below (z_Qc Γ v h') args s rm.cells rm.slots (z_A Γ)) 0 (lv_args 0 as) [] h) : z_M Γ l y (z_ws1 y cc maxL ret) rm as h v h' := by
  refine va_MetF (cc := cc) (maxL := maxL) (ret := ret) hy rfl ?_
  intro p e s m args below meth c s₁ B hml hv
  obtain ⟨rfl, hP, hK, hE⟩ := hv
  have hts := atoms_spec (ws := z_ws1 y cc maxL ret) B.pre
  have G : z_GG Γ p s m (as.map (z_em Γ)).toArray meth c cc maxL y.cls := ⟨hO, B.exec, B.bytes, hml, findClass_of_methodNamed B.named, fun w hw => hts w (List.mem_cons_of_mem _ hw), hK, hE, B.notSynchronized, by rw [hP.2.1]; exact Nat.le_add_right _ _⟩
  have hlen2 : (lg_sl (as.map (z_em Γ))).length ≤ maxL := by
    have : (lg_sl (as.map (z_em Γ))).length = (lg_sl as).length := z_sl_len Γ as
    rw [this]
    exact hlen
  have hl := lv_entry (as.map (z_em Γ)) (n := maxL) hlen2
  rw [lg_entry_eq]
  rw [← z_lv_args] at hl
  exact body p e s m _ below meth c G B.returns (name_of_methodNamed B.named B.method).1 s.heap [] _ hP hl va_S.rf
section ZCall
variable {Γ : ZG} {p : Program} {l : Launch} {e : Env} {R : Room} {s : State} {m : MethodId} {args : Array Value} {below : List Frame} {meth : Method} {c : Code} {cc : ByteArray} {nL cells slots : Nat} {own : String} {Q : State → Prop} {pc : Nat} {lv : List (Nat × Value)} {st : List Value} {h : ZH}
theorem z_good {w : Cond} (h : w ∈ z_tb) : goodWord w = true := (List.mem_filter.mp h).2
theorem z_warm (hts : ∀ w ∈ z_tb, w.before args s = true) {w : Cond} (hw : w ∈ z_tb) {a' : Array Value} {U : State} (hW : s.WarmedH U.vm) : w.before a' U = true := word_at hW (good_of_word (z_good hw)) (hts w hw)
theorem z_blind (hO : z_OK Γ) (as : List Value) (h : ZH) : FrameBlind (z_Pc Γ as h) := fun a U g mk q => by
  obtain ⟨q0, q1, q2, q3⟩ := q
  exact ⟨q0, q1, va_K.moved (u := U) (U := U.calling g mk a) (Vm.Alike.refl U.vm) q2, hO.2.2.1 U g mk a U.heap q3⟩
theorem z_pre (G : z_GG Γ p s m args meth c cc nL own) {H : Heap} {locs : List Loc} (hP : z_Hp Γ h H) (hS : va_S (z_A Γ) s.heap H locs) (as : List Value) : PreS s H (z_Pc Γ as h) (as.map (z_em Γ)) := by
  refine ⟨z_blind G.1 as h, fun U hU hW => ⟨rfl, by rw [hU]; exact hP, va_K.moved hW.alike G.2.2.2.2.2.2.1, ?_⟩⟩
  rw [hU]
  exact G.1.2.1 s U H hW (G.1.2.2.2.1 s s.heap H hS.2.1 G.2.2.2.2.2.2.2.1)
/-- what follows a call, out of the kit's row of the call -/
theorem z_after (G : z_GG Γ p s m args meth c cc nL own) {H : Heap} {locs : List Loc} {ls : Array Slot} {mc ms : Nat} {v : Option Value} {h1 : ZH} {a : Array Value} {st0 : List Value} (hP : z_Hp Γ h H) (hl : lv_has ls nL (lv.map fun q => (q.1, z_em Γ q.2))) (hS : va_S (z_A Γ) s.heap H locs)
    (hr : va_Run p l e R s m args below meth c H locs cells slots mc ms (F0 m pc ls st0) (st.map (z_em Γ)) (z_Qc Γ v h1 a) (z_A Γ))
    (kk : z_W Γ p l e R s m args below meth c nL (cells + mc) (slots + ms) Q (pc + 3) lv (v.toList ++ st) h1) : W p l e R s m args below meth c H locs cells slots Q (F0 m pc ls st0) := by
  intro T hT X
  obtain ⟨v', st₀, t, T', L, h0, X', hL, e1, e2, ⟨hv, hP1, hF⟩, stp⟩ := hr T hT X
  cases hv
  have kx := kk t.heap (locs ++ L) ls hP1 hl ⟨Nat.le_trans hS.1 (by have := hF.1; rw [h0] at this; exact this), fun q g1 g2 => by
      have := hF.2 q (by rw [h0]; exact Nat.lt_of_lt_of_le g1 hS.1) g2
      rw [this, h0]
      exact hS.2.1 q g1 g2, fun q hq => by
      rcases List.mem_append.mp hq with z | z
      · exact hS.2.2 q z
      · exact hL q z⟩
  obtain ⟨t2, a1, b1⟩ := kx T' e1 X'
  refine ⟨t2, stp t2 ?_, b1⟩
  have : (v.map (z_em Γ)).toList ++ st.map (z_em Γ) = (v.toList ++ st).map (z_em Γ) := by cases v <;> simp
  show Steps p.tables e below (T'.setTop (F0 m (pc + 3) ls ((v.map (z_em Γ)).toList ++ st.map (z_em Γ)))) t2
  rw [this]
  exact a1
theorem z_cb (G : z_GG Γ p s m args meth c cc nL own) {y : MethodName} {bytes : ByteArray} {maxL n index : Nat} {ret : Option FieldType} {rm : Room} (hcode : Cond.code y bytes maxL ret ∈ z_tb) (hini : Cond.initialized y.cls ∈ z_tb) (hlink : Cond.methodLink own index y ∈ z_tb)
    (hd : y.cls ≠ "java/lang/invoke/MethodHandle" ∧ y.cls ≠ "java/lang/invoke/VarHandle" ∧ (parseMethodDescriptor y.desc).map (fun d => d.parameters.length) = some n) (hR : rm.frames + 1 ≤ R.frames ∧ 8 + (maxL + 11) + rm.locals ≤ R.locals) : CallB R s args own index y bytes maxL ret (z_ws1 y bytes maxL ret) rm rm.cells rm.slots n := by
  have hts := G.2.2.2.2.2.1
  refine ⟨rfl, rfl, hR.1, hR.2, fun w hw a' U hW => ?_, List.mem_cons_self, hts _ hcode, hts _ hini, ⟨hd.1, hd.2.1⟩, fun sig hs => ?_, hts _ hlink⟩
  · rcases List.mem_cons.mp hw with z | z
    · rw [z]
      exact z_warm hts hcode hW
    · exact z_warm hts z hW
  · have h2 := hd.2.2
    rw [hs] at h2
    exact (Option.some.inj h2).symm
theorem z_callS (G : z_GG Γ p s m args meth c cc nL own) {y : MethodName} {bytes : ByteArray} {maxL n index : Nat} {ret : Option FieldType} {rm : Room} {As : List Value} {v : Option Value} {h1 : ZH} (hM : z_M Γ l y (z_ws1 y bytes maxL ret) rm As h v h1)
    (hcode : Cond.code y bytes maxL ret ∈ z_tb) (hini : Cond.initialized y.cls ∈ z_tb) (hlink : Cond.methodLink own index y ∈ z_tb) (hst : Cond.static y ∈ z_tb) (hy : y.cls ≠ "java/lang/invoke/MethodHandle" ∧ y.cls ≠ "java/lang/invoke/VarHandle" ∧ (parseMethodDescriptor y.desc).map (fun d => d.parameters.length) = some n)
    (hR : rm.frames + 1 ≤ R.frames ∧ 8 + (maxL + 11) + rm.locals ≤ R.locals) (hn : As.length = n) (hw8 : (st.map fun v => v.category).sum ≤ 8) (hf : cells + rm.cells ≤ R.cells ∧ slots + rm.slots ≤ R.slots) {st0 : List Value} (hst0 : st0 = As.reverse ++ st) (hd : decode cc pc = .ok (.invokestatic index, 3))
    (kk : z_W Γ p l e R s m args below meth c nL (cells + rm.cells) (slots + rm.slots) Q (pc + 3) lv (v.toList ++ st) h1) : z_W Γ p l e R s m args below meth c nL cells slots Q pc lv st0 h := by
  subst hst0
  intro H locs ls hP hl hS
  refine z_after (a := (As.map (z_em Γ)).toArray) G hP hl hS ?_ kk
  exact va_runS (As := As.map (z_em Γ)) (rest := st.map (z_em Γ)) ⟨G.2.1, G.2.2.1, G.2.2.2.1, G.2.2.2.2.1, G.2.2.2.2.2.1⟩ hM ⟨z_cb G hcode hini hlink hy hR, G.2.2.2.2.2.1 _ hst⟩ (z_pre G hP hS As) rfl (by rw [List.length_map]; exact hn) hl.1 (by show (List.map _ _) = _; rw [List.map_append, List.map_reverse]) (by rw [z_cats]; show 2 * 0 + _ ≤ 8; omega) hd hf
theorem z_callV (G : z_GG Γ p s m args meth c cc nL own) {ci : Nat} {C : String} {T : u_T} {N : Nat} {ty : Nat → FieldType} (hK : z_K ci C T N ty) {y : MethodName} {bytes : ByteArray} {maxL n index b : Nat} {ret : Option FieldType} {rm : Room} {As : List Value} {v : Option Value} {h1 : ZH} (hM : z_M Γ l y (z_ws1 y bytes maxL ret) rm (.ref b :: As) h v h1) (hb : z_is h b ci = true)
    (hcode : Cond.code y bytes maxL ret ∈ z_tb) (hini : Cond.initialized y.cls ∈ z_tb) (hlink : Cond.methodLink own index y ∈ z_tb) (hin : Cond.instanceMethod y ∈ z_tb) (hse : Cond.selects C y y ∈ z_tb) (hy : y.cls ≠ "java/lang/invoke/MethodHandle" ∧ y.cls ≠ "java/lang/invoke/VarHandle" ∧ (parseMethodDescriptor y.desc).map (fun d => d.parameters.length) = some n)
    (hR : rm.frames + 1 ≤ R.frames ∧ 8 + (maxL + 11) + rm.locals ≤ R.locals) (hn : As.length = n) (hw8 : (st.map fun v => v.category).sum ≤ 8) (hf : cells + rm.cells ≤ R.cells ∧ slots + rm.slots ≤ R.slots) {st0 : List Value} (hst0 : st0 = As.reverse ++ (.ref b :: st)) (hd : decode cc pc = .ok (.invokevirtual index, 3))
    (kk : z_W Γ p l e R s m args below meth c nL (cells + rm.cells) (slots + rm.slots) Q (pc + 3) lv (v.toList ++ st) h1) : z_W Γ p l e R s m args below meth c nL cells slots Q pc lv st0 h := by
  subst hst0
  intro H locs ls hP hl hS
  obtain ⟨fs, hfs⟩ := z_is_spec hb
  obtain ⟨g1, g2⟩ := z_in G.1 hP (by rw [hfs]; exact decide_eq_true hK.2.2.2.2)
  have he := z_ws_at (Γ := Γ) g1 g2
  rw [hfs, ← z_ad_hi g1] at he
  have hrc := va_recv G.2.2.2.2.2.2.1 hP.2.2.1 hK.1 he
  refine z_after (a := (Value.ref (z_ad Γ b) :: As.map (z_em Γ)).toArray) G hP hl hS ?_ kk
  have hpre := z_pre G hP hS (.ref b :: As)
  exact va_runV (C := C) (b := z_ad Γ b) (As := As.map (z_em Γ)) (rest := st.map (z_em Γ)) ⟨G.2.1, G.2.2.1, G.2.2.2.1, G.2.2.2.2.1, G.2.2.2.2.2.1⟩ hM ⟨z_cb G hcode hini hlink hy hR, G.2.2.2.2.2.1 _ hin, G.2.2.2.2.2.1 _ hse⟩ ⟨hpre.1, hrc, hpre.2⟩ rfl (by rw [List.length_map]; exact hn) hl.1 (by show (List.map _ _) = _; rw [List.map_append, List.map_reverse]; rfl) (by rw [z_cats]; show 2 * 0 + _ ≤ 8; omega) hd hf
theorem z_callI (G : z_GG Γ p s m args meth c cc nL own) {y : MethodName} {bytes : ByteArray} {maxL n index b : Nat} {rm : Room} {As : List Value} {h1 : ZH} (hM : z_M Γ l y (z_ws1 y bytes maxL none) rm (.ref b :: As) h none h1)
    (hcode : Cond.code y bytes maxL none ∈ z_tb) (hini : Cond.initialized y.cls ∈ z_tb) (hlink : Cond.methodLink own index y ∈ z_tb) (hin : Cond.instanceMethod y ∈ z_tb) (hy1 : y.name = "<init>") (hy : y.cls ≠ "java/lang/invoke/MethodHandle" ∧ y.cls ≠ "java/lang/invoke/VarHandle" ∧ (parseMethodDescriptor y.desc).map (fun d => d.parameters.length) = some n)
    (hR : rm.frames + 1 ≤ R.frames ∧ 8 + (maxL + 11) + rm.locals ≤ R.locals) (hn : As.length = n) (hw8 : (st.map fun v => v.category).sum ≤ 8) (hf : cells + rm.cells ≤ R.cells ∧ slots + rm.slots ≤ R.slots) {st0 : List Value} (hst0 : st0 = As.reverse ++ (.ref b :: st)) (hd : decode cc pc = .ok (.invokespecial index, 3))
    (kk : z_W Γ p l e R s m args below meth c nL (cells + rm.cells) (slots + rm.slots) Q (pc + 3) lv st h1) : z_W Γ p l e R s m args below meth c nL cells slots Q pc lv st0 h := by
  subst hst0
  intro H locs ls hP hl hS
  refine z_after (v := none) (a := (Value.ref (z_ad Γ b) :: As.map (z_em Γ)).toArray) G hP hl hS ?_ kk
  have hpre := z_pre G hP hS (.ref b :: As)
  exact va_runI (b := z_ad Γ b) (As := As.map (z_em Γ)) (rest := st.map (z_em Γ)) ⟨G.2.1, G.2.2.1, G.2.2.2.1, G.2.2.2.2.1, G.2.2.2.2.2.1⟩ hM ⟨z_cb G hcode hini hlink hy hR, hy1, G.2.2.2.2.2.1 _ hin⟩ hpre rfl (by rw [List.length_map]; exact hn) hl.1 (by show (List.map _ _) = _; rw [List.map_append, List.map_reverse]; rfl) (by rw [z_cats]; show 2 * 0 + _ ≤ 8; omega) hd hf
theorem z_callIN (G : z_GG Γ p s m args meth c cc nL own) {y : MethodName} {host : String} {bytes : ByteArray} {maxL n index b : Nat} {rm : Room} {As : List Value} {h1 : ZH} (hM : z_M Γ l y (z_ws1 y bytes maxL none) rm (.ref b :: As) h none h1)
    (hcode : Cond.code y bytes maxL none ∈ z_tb) (hini : Cond.initialized y.cls ∈ z_tb) (hlink : Cond.methodLinkNest own index y host ∈ lw_tbl) (hin : Cond.instanceMethod y ∈ z_tb) (hy1 : y.name = "<init>") (hy : y.cls ≠ "java/lang/invoke/MethodHandle" ∧ y.cls ≠ "java/lang/invoke/VarHandle" ∧ (parseMethodDescriptor y.desc).map (fun d => d.parameters.length) = some n)
    (hR : rm.frames + 1 ≤ R.frames ∧ 8 + (maxL + 11) + rm.locals ≤ R.locals) (hn : As.length = n) (hw8 : (st.map fun v => v.category).sum ≤ 8) (hf : cells + rm.cells ≤ R.cells ∧ slots + rm.slots ≤ R.slots) {st0 : List Value} (hst0 : st0 = As.reverse ++ (.ref b :: st)) (hd : decode cc pc = .ok (.invokespecial index, 3))
    (kk : z_W Γ p l e R s m args below meth c nL (cells + rm.cells) (slots + rm.slots) Q (pc + 3) lv st h1) : z_W Γ p l e R s m args below meth c nL cells slots Q pc lv st0 h := by
  subst hst0
  intro H locs ls hP hl hS
  refine z_after (v := none) (a := (Value.ref (z_ad Γ b) :: As.map (z_em Γ)).toArray) G hP hl hS ?_ kk
  have hpre := z_pre G hP hS (.ref b :: As)
  have hts := G.2.2.2.2.2.1
  have hcb : va_CN R s args own index y host bytes maxL none (z_ws1 y bytes maxL none) rm rm.cells rm.slots n := by
    refine ⟨⟨rfl, rfl, hR.1, hR.2, fun w hw a' U hW => ?_, List.mem_cons_self⟩, hts _ hcode, hts _ hini, ⟨hy.1, hy.2.1⟩, fun sig hs => ?_, va_Nw.use rfl ((G.1.2.2.2.2.2.1 s s.heap G.2.2.2.2.2.2.2.1).2 _ _ _ _ hlink)⟩
    · rcases List.mem_cons.mp hw with z | z
      · rw [z]
        exact z_warm hts hcode hW
      · exact z_warm hts z hW
    · have h2 := hy.2.2
      rw [hs] at h2
      exact (Option.some.inj h2).symm
  exact va_runIN (b := z_ad Γ b) (As := As.map (z_em Γ)) (rest := st.map (z_em Γ)) ⟨G.2.1, G.2.2.1, G.2.2.2.1, G.2.2.2.2.1, G.2.2.2.2.2.1⟩ hM ⟨hcb, hy1, hts _ hin⟩ hpre rfl (by rw [List.length_map]; exact hn) hl.1 (by show (List.map _ _) = _; rw [List.map_append, List.map_reverse]; rfl) (by rw [z_cats]; show 2 * 0 + _ ≤ 8; omega) hd hf
end ZCall
