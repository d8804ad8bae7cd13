/-! arrays, new cells -/
section ZA
variable {Γ : ZG} {p : Program} {l : Launch} {e : Env} {R : Room} {s : State} {m : MethodId} {args : Array Value} {below : List Frame} {meth : Method} {c : Code} {cc : ByteArray} {nL cells slots : Nat} {own : String} {Q : State → Prop} {pc : Nat} {lv : List (Nat × Value)} {st : List Value} {h : ZH}
theorem z_getI (G : z_GG Γ p s m args meth c cc nL own) {ci : Nat} {C : String} {T : u_T} {N : Nat} {ty : Nat → FieldType} (hK : z_K ci C T N ty) {k index : Nat} (hk : k < N) (hw : Cond.fieldLink own index (T k).1 (T k).2.1 (T k).2.2.1 ∈ z_tb) (hd : decode cc pc = .ok (.getfield index, 3)) {a : Nat} {v : Int32} (hv : z_gI h a ci k = some v)
    (kk : z_W Γ p l e R s m args below meth c nL cells slots Q (pc + 3) lv (.int v :: st) h) : z_W Γ p l e R s m args below meth c nL cells slots Q pc lv (.ref a :: st) h := z_getF G hK hk hw hd (z_gI_spec hv) kk
theorem z_getJ (G : z_GG Γ p s m args meth c cc nL own) {ci : Nat} {C : String} {T : u_T} {N : Nat} {ty : Nat → FieldType} (hK : z_K ci C T N ty) {k index : Nat} (hk : k < N) (hw : Cond.fieldLink own index (T k).1 (T k).2.1 (T k).2.2.1 ∈ z_tb) (hd : decode cc pc = .ok (.getfield index, 3)) {a : Nat} {v : Int64} (hv : z_gJ h a ci k = some v)
    (kk : z_W Γ p l e R s m args below meth c nL cells slots Q (pc + 3) lv (.long v :: st) h) : z_W Γ p l e R s m args below meth c nL cells slots Q pc lv (.ref a :: st) h := z_getF G hK hk hw hd (z_gJ_spec hv) kk
theorem z_getR (G : z_GG Γ p s m args meth c cc nL own) {ci : Nat} {C : String} {T : u_T} {N : Nat} {ty : Nat → FieldType} (hK : z_K ci C T N ty) {k index : Nat} (hk : k < N) (hw : Cond.fieldLink own index (T k).1 (T k).2.1 (T k).2.2.1 ∈ z_tb) (hd : decode cc pc = .ok (.getfield index, 3)) {a v : Nat} (hv : z_gR h a ci k = some v)
    (kk : z_W Γ p l e R s m args below meth c nL cells slots Q (pc + 3) lv (.ref v :: st) h) : z_W Γ p l e R s m args below meth c nL cells slots Q pc lv (.ref a :: st) h := z_getF G hK hk hw hd (z_gR_spec hv) kk
/-- a cell of the read-only kinds is one of the first -/
theorem z_ro {H : Heap} {t : Nat} {xs : List Int32} {a : Nat} (hP : z_Hp Γ h H) (h1 : h.1 a = .inr (.inl (t, xs))) (ht : 10 ≤ t) : a < 8 := by
  apply Nat.lt_of_not_le
  intro h8
  by_cases hb : a < h.2
  · have := hP.2.2.2.2.2 a h8 hb
    rw [h1] at this
    have := of_decide_eq_true this
    omega
  · have := hP.2.2.2.1 a (Nat.not_lt.mp hb)
    rw [h1] at this
    cases this
theorem z_iald (G : z_GG Γ p s m args meth c cc nL own) (hd : decode cc pc = .ok (.iaload, 1)) {a : Nat} {i x : Int32} (hv : z_aI h a i = some x)
    (kk : z_W Γ p l e R s m args below meth c nL cells slots Q (pc + 1) lv (.int x :: st) h) : z_W Γ p l e R s m args below meth c nL cells slots Q pc lv (.int i :: .ref a :: st) h := by
  intro H locs ls hP hl hS
  obtain ⟨t, xs, h1, ht, h0, h2⟩ := z_aI_spec hv
  have kx := kk H locs ls hP hl hS
  show W p l e R s m args below meth c H locs cells slots Q (F0 m pc ls (.int i :: .ref (z_ad Γ a) :: st.map (z_em Γ)))
  rcases ht with rfl | rfl
  · obtain ⟨g1, g2⟩ := z_in G.1 hP (by rw [h1]; rfl)
    have he := z_ws_at (Γ := Γ) g1 g2
    rw [h1] at he
    rw [z_ad_hi g1]
    refine va_iald (D := Γ.1) (cl := vwCl) G.2.1 G.2.2.1 G.2.2.2.2.2.2.1 hP.2.2.1 (a - 8) 0 he rfl (z_vin h0 (z_lt h2)) hd ?_
    rw [z_gd h2]
    exact kx
  · have h8 : a < 8 := z_ro hP h1 (by decide)
    have hT := (G.1.2.2.2.2.1 s s.heap a xs h8 G.2.2.2.2.2.2.2.1).1 ((hP.2.2.2.2.1 a h8).symm.trans h1)
    rw [show z_ad Γ a = Γ.2.2.1 a by unfold z_ad; rw [if_pos h8]]
    exact va_ti (v := .int x) G.2.1 G.2.2.1 hT hS (z_vin h0 (z_lt h2)) (congrArg Value.int (z_gd h2)) hd kx
theorem z_bald (G : z_GG Γ p s m args meth c cc nL own) (hd : decode cc pc = .ok (.baload, 1)) {a : Nat} {i x : Int32} (hv : z_aB h a i = some x)
    (kk : z_W Γ p l e R s m args below meth c nL cells slots Q (pc + 1) lv (.int x :: st) h) : z_W Γ p l e R s m args below meth c nL cells slots Q pc lv (.int i :: .ref a :: st) h := by
  intro H locs ls hP hl hS
  obtain ⟨t, xs, h1, ht, h0, h2⟩ := z_aB_spec hv
  have kx := kk H locs ls hP hl hS
  show W p l e R s m args below meth c H locs cells slots Q (F0 m pc ls (.int i :: .ref (z_ad Γ a) :: st.map (z_em Γ)))
  rcases ht with rfl | rfl | rfl
  · obtain ⟨g1, g2⟩ := z_in G.1 hP (by rw [h1]; rfl)
    have he := z_ws_at (Γ := Γ) g1 g2
    rw [h1] at he
    rw [z_ad_hi g1]
    refine va_bald (D := Γ.1) (cl := vwCl) G.2.1 G.2.2.1 G.2.2.2.2.2.2.1 hP.2.2.1 (a - 8) 1 he rfl (z_vin h0 (z_lt h2)) hd ?_
    rw [z_gd h2]
    exact kx
  · obtain ⟨g1, g2⟩ := z_in G.1 hP (by rw [h1]; rfl)
    have he := z_ws_at (Γ := Γ) g1 g2
    rw [h1] at he
    rw [z_ad_hi g1]
    refine va_zald (D := Γ.1) (cl := vwCl) G.2.1 G.2.2.1 G.2.2.2.2.2.2.1 hP.2.2.1 (a - 8) 2 he rfl (z_vin h0 (z_lt h2)) hd ?_
    rw [z_gd h2]
    exact kx
  · have h8 : a < 8 := z_ro hP h1 (by decide)
    have hT := (G.1.2.2.2.2.1 s s.heap a xs h8 G.2.2.2.2.2.2.2.1).2 ((hP.2.2.2.2.1 a h8).symm.trans h1)
    rw [show z_ad Γ a = Γ.2.2.1 a by unfold z_ad; rw [if_pos h8]]
    exact va_tb (v := .int x) G.2.1 G.2.2.1 hT hS (z_vin h0 (z_lt h2)) (congrArg Value.int (z_gd h2)) hd kx
theorem z_lald (G : z_GG Γ p s m args meth c cc nL own) (hd : decode cc pc = .ok (.laload, 1)) {a : Nat} {i : Int32} {x : Int64} (hv : z_aJ h a i = some x)
    (kk : z_W Γ p l e R s m args below meth c nL cells slots Q (pc + 1) lv (.long x :: st) h) : z_W Γ p l e R s m args below meth c nL cells slots Q pc lv (.int i :: .ref a :: st) h := by
  intro H locs ls hP hl hS
  obtain ⟨xs, h1, h0, h2⟩ := z_aJ_spec hv
  have kx := kk H locs ls hP hl hS
  show W p l e R s m args below meth c H locs cells slots Q (F0 m pc ls (.int i :: .ref (z_ad Γ a) :: st.map (z_em Γ)))
  obtain ⟨g1, g2⟩ := z_in G.1 hP (by rw [h1]; rfl)
  have he := z_ws_at (Γ := Γ) g1 g2
  rw [h1] at he
  rw [z_ad_hi g1]
  refine va_lald (D := Γ.1) (cl := vwCl) G.2.1 G.2.2.1 G.2.2.2.2.2.2.1 hP.2.2.1 (a - 8) 3 he rfl (z_vin h0 (z_lt h2)) hd ?_
  rw [z_gd h2]
  exact kx
def z_qv (o : Option Nat) : Value := match o with
  | some a => .ref a
  | none => .null
theorem z_aald (G : z_GG Γ p s m args meth c cc nL own) (hd : decode cc pc = .ok (.aaload, 1)) {a : Nat} {i : Int32} {x : Option Nat} (hv : z_aQ h a i = some x)
    (kk : z_W Γ p l e R s m args below meth c nL cells slots Q (pc + 1) lv (z_qv x :: st) h) : z_W Γ p l e R s m args below meth c nL cells slots Q pc lv (.int i :: .ref a :: st) h := by
  intro H locs ls hP hl hS
  obtain ⟨xs, h1, h0, h2⟩ := z_aQ_spec hv
  have kx := kk H locs ls hP hl hS
  show W p l e R s m args below meth c H locs cells slots Q (F0 m pc ls (.int i :: .ref (z_ad Γ a) :: st.map (z_em Γ)))
  obtain ⟨g1, g2⟩ := z_in G.1 hP (by rw [h1]; rfl)
  have he := z_ws_at (Γ := Γ) g1 g2
  rw [h1] at he
  rw [z_ad_hi g1]
  refine va_aldq (D := Γ.1) (cl := vwCl) G.2.1 G.2.2.1 G.2.2.2.2.2.2.1 hP.2.2.1 (a - 8) 4 he rfl (z_vin h0 (z_lt h2)) hd ?_
  rw [z_gd h2]
  cases x with
  | none => exact kx
  | some b => exact kx
theorem z_iast (G : z_GG Γ p s m args meth c cc nL own) (hd : decode cc pc = .ok (.iastore, 1)) {a : Nat} {i x : Int32} {h2 : ZH} (hv : z_uI h a i x = some h2)
    (kk : z_W Γ p l e R s m args below meth c nL cells slots Q (pc + 1) lv st h2) : z_W Γ p l e R s m args below meth c nL cells slots Q pc lv (.int x :: .int i :: .ref a :: st) h := by
  intro H locs ls hP hl hS
  obtain ⟨xs, h1, h0, hk, rfl⟩ := z_uI_spec hv
  show W p l e R s m args below meth c H locs cells slots Q (F0 m pc ls (.int x :: .int i :: .ref (z_ad Γ a) :: st.map (z_em Γ)))
  obtain ⟨g1, g2⟩ := z_in G.1 hP (by rw [h1]; rfl)
  have he := z_ws_at (Γ := Γ) g1 g2
  rw [h1] at he
  rw [z_ad_hi g1]
  have ht : (z_tys Γ)[0]? = some (Γ.2.1 0, .int) := rfl
  refine W.iast G.2.1 G.2.2.1 (hP.2.2.1 _ _ he) ((G.2.2.2.2.2.2.1.2 0 _ ht).1 xs.length (fun j => .int (xs.getD j 0))) (fun q => by cases q) (by show ¬ (i < 0 ∨ (arrV _ _ _).slots.size ≤ _); rw [arrV_size]; exact z_vin h0 hk) rfl rfl hd fun H1 e1 z oq => ?_
  refine kk H1 _ ls (z_Hp_up hP rfl g1 g2 z ?_ oq) hl (hS.put z oq (show z_A Γ _ from Nat.le_add_right _ _))
  show H1[_]? = some (vp_cell _ (_, .inl _))
  rw [e1, z_updI hk, List.length_set]
  rw [vp_cell_i, vp_cell_i, arrV_store]
  congr 2
  funext q
  by_cases hq : q = i.toNatClampNeg
  · subst hq
    simp [updV, upd]
  · simp [updV, upd, hq]
theorem z_bast (G : z_GG Γ p s m args meth c cc nL own) (hd : decode cc pc = .ok (.bastore, 1)) {a : Nat} {i x : Int32} {h2 : ZH} (hv : z_uB h a i x = some h2)
    (kk : z_W Γ p l e R s m args below meth c nL cells slots Q (pc + 1) lv st h2) : z_W Γ p l e R s m args below meth c nL cells slots Q pc lv (.int x :: .int i :: .ref a :: st) h := by
  intro H locs ls hP hl hS
  show W p l e R s m args below meth c H locs cells slots Q (F0 m pc ls (.int x :: .int i :: .ref (z_ad Γ a) :: st.map (z_em Γ)))
  rcases z_uB_spec hv with ⟨xs, h1, h0, hk, rfl⟩ | ⟨xs, h1, h0, hk, rfl⟩
  · obtain ⟨g1, g2⟩ := z_in G.1 hP (by rw [h1]; rfl)
    have he := z_ws_at (Γ := Γ) g1 g2
    rw [h1] at he
    rw [z_ad_hi g1]
    have ht : (z_tys Γ)[1]? = some (Γ.2.1 1, .byte) := rfl
    refine W.bast G.2.1 G.2.2.1 (hP.2.2.1 _ _ he) ((G.2.2.2.2.2.2.1.2 1 _ ht).1 xs.length (fun j => .int (xs.getD j 0))) (fun q => by cases q) (by show ¬ (i < 0 ∨ (arrV _ _ _).slots.size ≤ _); rw [arrV_size]; exact z_vin h0 hk) rfl rfl hd fun H1 e1 z oq => ?_
    refine kk H1 _ ls (z_Hp_up hP rfl g1 g2 z ?_ oq) hl (hS.put z oq (show z_A Γ _ from Nat.le_add_right _ _))
    show H1[_]? = some (vp_cell _ (_, .inl _))
    rw [e1, z_updI hk, List.length_set]
    rw [vp_cell_i, vp_cell_i, arrV_store]
    congr 2
    funext q
    by_cases hq : q = i.toNatClampNeg
    · subst hq
      simp [updV, upd, vp_nar]
      try rfl
    · simp [updV, upd, hq]
  · obtain ⟨g1, g2⟩ := z_in G.1 hP (by rw [h1]; rfl)
    have he := z_ws_at (Γ := Γ) g1 g2
    rw [h1] at he
    rw [z_ad_hi g1]
    have ht : (z_tys Γ)[2]? = some (Γ.2.1 2, .boolean) := rfl
    refine W.zast G.2.1 G.2.2.1 (hP.2.2.1 _ _ he) ((G.2.2.2.2.2.2.1.2 2 _ ht).1 xs.length (fun j => .int (xs.getD j 0))) (fun q => by cases q) (by show ¬ (i < 0 ∨ (arrV _ _ _).slots.size ≤ _); rw [arrV_size]; exact z_vin h0 hk) rfl rfl hd fun H1 e1 z oq => ?_
    refine kk H1 _ ls (z_Hp_up hP rfl g1 g2 z ?_ oq) hl (hS.put z oq (show z_A Γ _ from Nat.le_add_right _ _))
    show H1[_]? = some (vp_cell _ (_, .inl _))
    rw [e1, z_updI hk, List.length_set]
    rw [vp_cell_i, vp_cell_i, arrV_store]
    congr 2
    funext q
    by_cases hq : q = i.toNatClampNeg
    · subst hq
      simp [updV, upd, vp_nar]
      try rfl
    · simp [updV, upd, hq]
theorem z_last (G : z_GG Γ p s m args meth c cc nL own) (hd : decode cc pc = .ok (.lastore, 1)) {a : Nat} {i : Int32} {x : Int64} {h2 : ZH} (hv : z_uJ h a i x = some h2)
    (kk : z_W Γ p l e R s m args below meth c nL cells slots Q (pc + 1) lv st h2) : z_W Γ p l e R s m args below meth c nL cells slots Q pc lv (.long x :: .int i :: .ref a :: st) h := by
  intro H locs ls hP hl hS
  obtain ⟨xs, h1, h0, hk, rfl⟩ := z_uJ_spec hv
  show W p l e R s m args below meth c H locs cells slots Q (F0 m pc ls (.long x :: .int i :: .ref (z_ad Γ a) :: st.map (z_em Γ)))
  obtain ⟨g1, g2⟩ := z_in G.1 hP (by rw [h1]; rfl)
  have he := z_ws_at (Γ := Γ) g1 g2
  rw [h1] at he
  rw [z_ad_hi g1]
  have ht : (z_tys Γ)[3]? = some (Γ.2.1 3, .long) := rfl
  refine W.last G.2.1 G.2.2.1 (hP.2.2.1 _ _ he) ((G.2.2.2.2.2.2.1.2 3 _ ht).1 xs.length (fun j => .long (xs.getD j 0))) (fun q => by cases q) (by show ¬ (i < 0 ∨ (arrV _ _ _).slots.size ≤ _); rw [arrV_size]; exact z_vin h0 hk) rfl rfl hd fun H1 e1 z oq => ?_
  refine kk H1 _ ls (z_Hp_up hP rfl g1 g2 z ?_ oq) hl (hS.put z oq (show z_A Γ _ from Nat.le_add_right _ _))
  show H1[_]? = some (vp_cell _ (_, .inr (.inl _)))
  rw [e1, z_updL hk, List.length_set]
  rw [vp_cell_l, vp_cell_l, arrV_store]
  congr 2
  funext q
  by_cases hq : q = i.toNatClampNeg
  · subst hq
    simp [updV, vp_updL]
  · simp [updV, vp_updL, hq]
theorem z_aast (G : z_GG Γ p s m args meth c cc nL own) (hd : decode cc pc = .ok (.aastore, 1)) {a x : Nat} {i : Int32} {h2 : ZH} (hv : z_uQ h a i x = some h2)
    (kk : z_W Γ p l e R s m args below meth c nL cells slots Q (pc + 1) lv st h2) : z_W Γ p l e R s m args below meth c nL cells slots Q pc lv (.ref x :: .int i :: .ref a :: st) h := by
  intro H locs ls hP hl hS
  obtain ⟨xs, fs, h1, hx1, h0, hk, rfl⟩ := z_uQ_spec hv
  show W p l e R s m args below meth c H locs cells slots Q (F0 m pc ls (.ref (z_ad Γ x) :: .int i :: .ref (z_ad Γ a) :: st.map (z_em Γ)))
  obtain ⟨g1, g2⟩ := z_in G.1 hP (by rw [h1]; rfl)
  obtain ⟨g3, g4⟩ := z_in G.1 hP (a := x) (by rw [hx1]; rfl)
  have he := z_ws_at (Γ := Γ) g1 g2
  rw [h1] at he
  have hex := z_ws_at (Γ := Γ) g3 g4
  rw [hx1] at hex
  rw [z_ad_hi g1]
  have hK := G.2.2.2.2.2.2.1
  have ht : (z_tys Γ)[4]? = some (Γ.2.1 4, .object "SlotFleet$State") := rfl
  have hc : vwCl[5]? = some (RX5, TX5, 18) := rfl
  obtain ⟨r', hr', cellV, c1, c2, c3, -⟩ := hP.2.2.1 _ _ hex
  have hcls := (hK.1 5 _ hc).2
  obtain ⟨kA, comp, k1, k2, k3, -⟩ := (hK.2 4 _ ht).2
  have hcomp : comp = Γ.1.1 5 := Option.some.inj (k3.symm.trans hcls.1)
  subst hcomp
  obtain ⟨kC, hkC, -⟩ := hcls.2
  rw [← z_ad_hi g3] at c1
  refine W.aast G.2.1 G.2.2.1 (hP.2.2.1 _ _ he) (fun q z => by cases z) (fun z => by cases z) k1 k2 rfl hkC ⟨h0, by show _ < (arrV _ _ _).slots.size; rw [arrV_size]; exact hk⟩ c1 (fun q z => by rw [c3] at z; cases z) (by rw [c2]; exact hkC) (by rw [c2]; exact va_assign hcls) rfl rfl hd fun H1 e1 z oq => ?_
  refine kk H1 _ ls (z_Hp_up hP rfl g1 g2 z ?_ oq) hl (hS.put z oq (show z_A Γ _ from Nat.le_add_right _ _))
  show H1[_]? = some (vp_cell _ (_, .inr (.inr (.inr (.inr _)))))
  rw [e1, z_updQ hk, List.length_set]
  rw [vp_cell_q, vp_cell_q, arrV_store]
  congr 2
  funext q
  by_cases hq : q = i.toNatClampNeg
  · subst hq
    simp [updV, va_up, va_rf]
  · simp [updV, va_up, hq]
end ZA
