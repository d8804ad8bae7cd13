/-! the length of an array, System.arraycopy of ints from the start of one row onto another -/
section ZL
variable {Γ : ZG} {p : Program} {l : Launch} {e : Env} {R : Room} {s : State} {m : MethodId} {args : Array Value} {below : List Frame} {meth : Method} {c : Code} {cc : ByteArray} {nL cells slots : Nat} {own : String} {Q : State → Prop} {pc : Nat} {lv : List (Nat × Value)} {st : List Value} {h : ZH}
theorem z_aL_spec {a : Nat} {x : Int32} (hv : z_aL h a = some x) : ∃ t xs, h.1 a = .inr (.inl (t, xs)) ∧ (t < 3 ∨ t = 10 ∨ t = 11) ∧ x = Int32.ofNat xs.length := by
  unfold z_aL at hv
  split at hv
  · rename_i r hr
    split at hv
    · rename_i hc
      exact ⟨r.1, r.2, hr, hc, (Option.some.inj hv).symm⟩
    · cases hv
  · cases hv
theorem z_alen (G : z_GG Γ p s m args meth c cc nL own) (hd : decode cc pc = .ok (.arraylength, 1)) {a : Nat} {x : Int32} (hv : z_aL h a = some x)
    (kk : z_W Γ p l e R s m args below meth c nL cells slots Q (pc + 1) lv (.int x :: st) h) : z_W Γ p l e R s m args below meth c nL cells slots Q pc lv (.ref a :: st) h := by
  intro H locs ls hP hl hS
  obtain ⟨t, xs, h1, ht, rfl⟩ := z_aL_spec hv
  have kx := kk H locs ls hP hl hS
  show W p l e R s m args below meth c H locs cells slots Q (F0 m pc ls (.ref (z_ad Γ a) :: st.map (z_em Γ)))
  rcases ht with ht | rfl | rfl
  · obtain ⟨g1, g2⟩ := z_in G.1 hP (by rw [h1]; simp [z_norm]; omega)
    have he := z_ws_at (Γ := Γ) g1 g2
    rw [h1] at he
    rw [z_ad_hi g1]
    rcases (show t = 0 ∨ t = 1 ∨ t = 2 by omega) with rfl | rfl | rfl
    · exact va_alen (D := Γ.1) (cl := vwCl) (ty := .int) G.2.1 G.2.2.1 G.2.2.2.2.2.2.1 hP.2.2.1 (a - 8) 0 he rfl rfl hd kx
    · exact va_alen (D := Γ.1) (cl := vwCl) (ty := .byte) G.2.1 G.2.2.1 G.2.2.2.2.2.2.1 hP.2.2.1 (a - 8) 1 he rfl rfl hd kx
    · exact va_alen (D := Γ.1) (cl := vwCl) (ty := .boolean) G.2.1 G.2.2.1 G.2.2.2.2.2.2.1 hP.2.2.1 (a - 8) 2 he rfl rfl hd kx
  · have h8 : a < 8 := z_ro hP h1 (by decide)
    have hT := (G.1.2.2.2.2.1 s s.heap a xs h8 G.2.2.2.2.2.2.2.1).1 ((hP.2.2.2.2.1 a h8).symm.trans h1)
    rw [show z_ad Γ a = Γ.2.2.1 a by unfold z_ad; rw [if_pos h8]]
    exact va_tlen G.2.1 G.2.2.1 hT hS rfl hd kx
  · have h8 : a < 8 := z_ro hP h1 (by decide)
    have hT := (G.1.2.2.2.2.1 s s.heap a xs h8 G.2.2.2.2.2.2.2.1).2 ((hP.2.2.2.2.1 a h8).symm.trans h1)
    rw [show z_ad Γ a = Γ.2.2.1 a by unfold z_ad; rw [if_pos h8]]
    exact va_tlen G.2.1 G.2.2.1 hT hS rfl hd kx
theorem z_cpl {xs ys : List Int32} {n : Nat} (h1 : n = ys.length) (h2 : n ≤ xs.length) : va_cpy (fun j => xs.getD j 0) (fun j => ys.getD j 0) 0 0 n = fun j => (xs.take n).getD j 0 := by
  funext j
  unfold va_cpy
  rw [List.getD_eq_getElem?_getD, List.getElem?_take]
  by_cases hj : j < n
  · rw [if_pos ⟨Nat.zero_le _, by omega⟩, if_pos hj]
    show xs.getD (0 + (j - 0)) 0 = _
    rw [show 0 + (j - 0) = j by omega, List.getD_eq_getElem?_getD]
  · rw [if_neg (by omega), if_neg hj]
    show ys.getD j 0 = _
    rw [List.getD_eq_getElem?_getD, List.getElem?_eq_none (by omega)]
theorem z_copy (G : z_GG Γ p s m args meth c cc nL own) {index a b : Nat} {n : Int32} {h2 : ZH} (hw : Cond.methodLink own index arraycopyName ∈ z_tb) (hw2 : Cond.native arraycopyName ∈ z_tb) (hw3 : Cond.static arraycopyName ∈ z_tb) (hw4 : Cond.initialized "java/lang/System" ∈ z_tb) (hv : z_cp h a b n = some h2)
    (hframes : 1 ≤ R.frames) (hlocals : (st.map fun v => v.category).sum + (nativeFrameWords "java/lang/System" "arraycopy" 5 + 11) ≤ R.locals) (hd : decode cc pc = .ok (.invokestatic index, 3))
    (kk : z_W Γ p l e R s m args below meth c nL cells slots Q (pc + 3) lv st h2) : z_W Γ p l e R s m args below meth c nL cells slots Q pc lv (.int n :: .int 0 :: .ref b :: .int 0 :: .ref a :: st) h := by
  intro H locs ls hP hl hS
  obtain ⟨xs, ys, ha, hb, h3, h4, h5, rfl⟩ := z_cp_spec hv
  obtain ⟨g1, g2⟩ := z_in G.1 hP (by rw [ha]; rfl)
  obtain ⟨g3, g4⟩ := z_in G.1 hP (a := b) (by rw [hb]; rfl)
  have hea := z_ws_at (Γ := Γ) g1 g2
  have heb := z_ws_at (Γ := Γ) g3 g4
  rw [ha] at hea
  rw [hb] at heb
  have hc0 : H[Γ.2.2.2.1 + (a - 8)]? = some (vp_cell (Γ.2.1 0) (xs.length, .inl (fun j => xs.getD j 0))) := hP.2.2.1 _ _ hea
  have hc1 : H[Γ.2.2.2.1 + (b - 8)]? = some (vp_cell (Γ.2.1 0) (ys.length, .inl (fun j => ys.getD j 0))) := hP.2.2.1 _ _ heb
  show W p l e R s m args below meth c H locs cells slots Q (F0 m pc ls (.int n :: .int 0 :: .ref (z_ad Γ b) :: .int 0 :: .ref (z_ad Γ a) :: st.map (z_em Γ)))
  rw [z_ad_hi g1, z_ad_hi g3]
  have hts := G.2.2.2.2.2.1
  have hK := G.2.2.2.2.2.2.1
  have ht : (z_tys Γ)[0]? = some (Γ.2.1 0, .int) := rfl
  have nn : n.toInt = (n.toNatClampNeg : Int) := by
    have hz0 : (0 : Int) ≤ n.toInt := by
      have := Int32.not_lt.mp h3
      simpa using Int32.le_iff_toInt_le.mp this
    show n.toInt = ((n.toInt.toNat : Nat) : Int)
    omega
  intro T hT X
  obtain ⟨-, k0, hk0, cm0, hkk0⟩ := (hK.2 0 _ ht).1 xs.length (fun j => .int (xs.getD j 0))
  obtain ⟨-, k1, hk1, cm1, hkk1⟩ := (hK.2 0 _ ht).1 ys.length (fun j => .int (ys.getD j 0))
  obtain ⟨vm', X', step⟩ := X.arraycopy G.2.1 G.2.2.2.2.1 (hts _ hw) (hts _ hw2) (hts _ hw3) (hts _ hw4) (src := Γ.2.2.2.1 + (a - 8)) (dst := Γ.2.2.2.1 + (b - 8)) (cs := vp_cell (Γ.2.1 0) (xs.length, .inl (fun j => xs.getD j 0))) (cd := vp_cell (Γ.2.1 0) (ys.length, .inl (fun j => ys.getD j 0))) (srcPos := 0) (destPos := 0) (n := n) (by rw [hT]; exact hc0) (by rw [hT]; exact hc1)
    (fun _ z => by cases z) (fun _ z => by cases z) (fun z => by cases z) (fun z => by cases z) hk0 hk1 hkk0 hkk1 (by simp) (by decide) (by decide) h3
    (by rw [nn]; show ¬ _ > ((arrV (Γ.2.1 0) xs.length (fun j => .int (xs.getD j 0))).slots.size : Int); rw [arrV_size]; have : (0 : Int32).toInt = 0 := by decide
        omega)
    (by rw [nn]; show ¬ _ > ((arrV (Γ.2.1 0) ys.length (fun j => .int (ys.getD j 0))).slots.size : Int); rw [arrV_size]; have : (0 : Int32).toInt = 0 := by decide
        omega)
    (fun vm₁ _ i hi => by
      have e : (vp_cell (Γ.2.1 0) (xs.length, .inl (fun j => xs.getD j 0))).slots.getD ((0 : Int32).toNatClampNeg + i) .null = .int (xs.getD i 0) := by
        show (arrV (Γ.2.1 0) xs.length (fun j => .int (xs.getD j 0))).slots.getD _ _ = _
        rw [show (0 : Int32).toNatClampNeg + i = i by rw [sb_cl0]; omega]
        rw [Array.getD_eq_getD_getElem?, arrV_read _ _ (by omega)]
        rfl
      refine ⟨?_, ?_⟩
      · rw [e]
        rfl
      · rw [e]
        exact trivial)
    (g := F0 m pc ls (.int n :: .int 0 :: .ref (Γ.2.2.2.1 + (b - 8)) :: .int 0 :: .ref (Γ.2.2.2.1 + (a - 8)) :: st.map (z_em Γ))) rfl (by rw [G.2.2.2.1]; exact hl.1) (rest := st.map (z_em Γ)) rfl (by rw [G.2.2.1]; exact hd) hframes (by rw [z_cats]; show 2 * 0 + _ + _ ≤ _; omega)
  have e1 : copied (vp_cell (Γ.2.1 0) (xs.length, .inl (fun j => xs.getD j 0))) (vp_cell (Γ.2.1 0) (ys.length, .inl (fun j => ys.getD j 0))) 0 0 n = vp_cell (Γ.2.1 0) (ys.length, .inl (va_cpy (fun j => xs.getD j 0) (fun j => ys.getD j 0) (0 : Int32).toNatClampNeg (0 : Int32).toNatClampNeg n.toNatClampNeg)) := va_copied (fun z => .int z) (Γ.2.1 0) (Γ.2.1 0) (fun j => xs.getD j 0) (fun j => ys.getD j 0) (by rw [sb_cl0]; omega)
  rw [sb_cl0, z_cpl h4 h5] at e1
  rw [e1] at X' step
  have hl1 : Γ.2.2.2.1 + (b - 8) < H.size := (Array.getElem?_eq_some_iff.mp hc1).1
  generalize hcell : vp_cell (Γ.2.1 0) (ys.length, Sum.inl (fun j => (xs.take n.toNatClampNeg).getD j 0)) = cellN at X' step
  have hheap : ((T.setVm vm').setCell (Γ.2.2.2.1 + (b - 8)) cellN).heap = H.setIfInBounds (Γ.2.2.2.1 + (b - 8)) cellN := by rw [← hT]; rfl
  have oq : ∀ q : Nat, q ≠ Γ.2.2.2.1 + (b - 8) → (H.setIfInBounds (Γ.2.2.2.1 + (b - 8)) cellN)[q]? = H[q]? := fun q hq => by simp [Array.getElem?_setIfInBounds, Ne.symm hq]
  have hlt : (xs.take n.toNatClampNeg).length = ys.length := by rw [List.length_take]; omega
  have hHp : z_Hp Γ (z_up h b (.inr (.inl (0, xs.take n.toNatClampNeg)))) (H.setIfInBounds (Γ.2.2.2.1 + (b - 8)) cellN) := by
    refine z_Hp_up hP rfl g3 g4 (by simp) ?_ oq
    show (H.setIfInBounds _ _)[_]? = some (vp_cell (Γ.2.1 0) (_, .inl _))
    rw [hlt, hcell]
    simp [Array.getElem?_setIfInBounds, hl1]
  obtain ⟨t, a1, b1⟩ := kk _ _ ls hHp hl ⟨by simp; exact hS.1, fun q g1 g2 => by
      rw [oq q (fun e => g2 (by rw [e]; exact Nat.le_add_right _ _))]
      exact hS.2.1 q g1 g2, fun q hq => by
      rcases List.mem_append.mp hq with z | z
      · exact hS.2.2 q z
      · obtain ⟨z, -, hz⟩ := List.mem_map.mp z
        rw [← hz]
        exact Nat.le_add_right _ _⟩ _ hheap X'
  exact ⟨t, step t a1, b1⟩
end ZL
