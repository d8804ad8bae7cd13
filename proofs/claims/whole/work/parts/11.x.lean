theorem dX0_init_0 : decode cX0_init 0 = .ok (.aload_n 0, 1) := by decide +kernel
theorem dX0_init_1 : decode cX0_init 1 = .ok (.invokespecial 3, 3) := by decide +kernel
theorem dX0_init_4 : decode cX0_init 4 = .ok (.aload_n 0, 1) := by decide +kernel
theorem dX0_init_5 : decode cX0_init 5 = .ok (.bipush 30, 2) := by decide +kernel
theorem dX0_init_7 : decode cX0_init 7 = .ok (.newarray .int, 2) := by decide +kernel
theorem dX0_init_9 : decode cX0_init 9 = .ok (.putfield 9, 3) := by decide +kernel
theorem dX0_init_12 : decode cX0_init 12 = .ok (.return_, 1) := by decide +kernel
theorem ydX0_init : z_yd yX0_init 0 := ⟨by decide, by decide, by decide +kernel⟩
abbrev rmX0_init : Room := { frames := 1, cells := 1, slots := 30, locals := 12 }
noncomputable def xX0_init (l0 : Nat) (h : ZH) : Option ZH := ((z_nw h (.inr (.inl (0, List.replicate 30 0)))).bind fun q7 => ((z_sF q7.2 l0 0 3 (.ref q7.1)).bind fun h9 => some h9))
set_option maxHeartbeats 4000000 in
set_option maxRecDepth 100000 in
theorem lX0_init {Γ : ZG} {l : Launch} (hO : z_OK Γ) {l0 : Nat} {h : ZH} {r : ZH} (hX : xX0_init l0 h = some r) : z_M Γ l yX0_init (z_ws1 yX0_init cX0_init 1 none) rmX0_init [.ref l0] h none r := by
  refine z_start hO (plainFor_of_name (by decide)) (Nat.le_of_ble_eq_true rfl) ?_
  intro p e s m args below meth c G hr hnm
  refine z_lvc (lv2 := [(0, .ref l0)]) rfl ?_
  refine z_aload_n (pc := 0) G 0 dX0_init_0 rfl rfl ?_
  refine z_obj (pc := 1) G kt_282 kt_25 kt_26 (by decide) (Nat.le_of_ble_eq_true rfl) dX0_init_1 ?_
  refine z_aload_n (pc := 4) G 0 dX0_init_4 rfl rfl ?_
  refine z_bipush (pc := 5) (v := 30) G dX0_init_5 (by decide) ?_
  obtain ⟨q7, hv7, hX⟩ := z_bd hX
  refine z_nI (pc := 7) (atype := .int) (t := 0) (N := 30) (c2 := 1) (s2 := 30) G kt_136 rfl (by decide) rfl (fun _ z => by cases z) (by decide) (by decide) (by decide) ⟨rfl, rfl⟩ ⟨by decide, by decide⟩ dX0_init_7 hv7 ?_
  obtain ⟨h9, hv9, hX⟩ := z_bd hX
  refine z_putF (pc := 9) G kK0 (k := 3) (by decide) kt_289 (Or.inr ⟨rfl, hnm, rfl⟩) rfl rfl dX0_init_9 hv9 ?_
  exact z_vretX (pc := 12) hX G hr dX0_init_12 (by decide) (by decide)
theorem dJ9_floorMod_7cf53_0 : decode cJ9_floorMod_7cf53 0 = .ok (.iload_n 0, 1) := by decide +kernel
theorem dJ9_floorMod_7cf53_1 : decode cJ9_floorMod_7cf53 1 = .ok (.iload_n 1, 1) := by decide +kernel
theorem dJ9_floorMod_7cf53_2 : decode cJ9_floorMod_7cf53 2 = .ok (.irem, 1) := by decide +kernel
theorem dJ9_floorMod_7cf53_3 : decode cJ9_floorMod_7cf53 3 = .ok (.istore_n 2, 1) := by decide +kernel
theorem dJ9_floorMod_7cf53_4 : decode cJ9_floorMod_7cf53 4 = .ok (.iload_n 0, 1) := by decide +kernel
theorem dJ9_floorMod_7cf53_5 : decode cJ9_floorMod_7cf53 5 = .ok (.iload_n 1, 1) := by decide +kernel
theorem dJ9_floorMod_7cf53_6 : decode cJ9_floorMod_7cf53 6 = .ok (.ixor, 1) := by decide +kernel
theorem dJ9_floorMod_7cf53_7 : decode cJ9_floorMod_7cf53 7 = .ok (.ifCond .ge 11, 3) := by decide +kernel
theorem dJ9_floorMod_7cf53_10 : decode cJ9_floorMod_7cf53 10 = .ok (.iload_n 2, 1) := by decide +kernel
theorem dJ9_floorMod_7cf53_11 : decode cJ9_floorMod_7cf53 11 = .ok (.ifCond .eq 7, 3) := by decide +kernel
theorem dJ9_floorMod_7cf53_14 : decode cJ9_floorMod_7cf53 14 = .ok (.iload_n 2, 1) := by decide +kernel
theorem dJ9_floorMod_7cf53_15 : decode cJ9_floorMod_7cf53 15 = .ok (.iload_n 1, 1) := by decide +kernel
theorem dJ9_floorMod_7cf53_16 : decode cJ9_floorMod_7cf53 16 = .ok (.iadd, 1) := by decide +kernel
theorem dJ9_floorMod_7cf53_17 : decode cJ9_floorMod_7cf53 17 = .ok (.ireturn, 1) := by decide +kernel
theorem dJ9_floorMod_7cf53_18 : decode cJ9_floorMod_7cf53 18 = .ok (.iload_n 2, 1) := by decide +kernel
theorem dJ9_floorMod_7cf53_19 : decode cJ9_floorMod_7cf53 19 = .ok (.ireturn, 1) := by decide +kernel
theorem ydJ9_floorMod_7cf53 : z_yd yJ9_floorMod_7cf53 2 := ⟨by decide, by decide, by decide +kernel⟩
abbrev rmJ9_floorMod_7cf53 : Room := { frames := 0, cells := 0, slots := 0, locals := 0 }
noncomputable def xJ9_floorMod_7cf53 (l0 : Int32) (l1 : Int32) (h : ZH) : Option (Int32 × ZH) := (if l1 = 0 then none else (if 0 ≤ (l0 ^^^ l1) then some ((l0 - l0 / l1 * l1), h) else (if (l0 - l0 / l1 * l1) = 0 then some ((l0 - l0 / l1 * l1), h) else some (((l0 - l0 / l1 * l1) + l1), h))))
set_option maxHeartbeats 4000000 in
set_option maxRecDepth 100000 in
theorem lJ9_floorMod_7cf53 {Γ : ZG} {l : Launch} (hO : z_OK Γ) {l0 : Int32} {l1 : Int32} {h : ZH} {r : (Int32 × ZH)} (hX : xJ9_floorMod_7cf53 l0 l1 h = some r) : z_M Γ l yJ9_floorMod_7cf53 (z_ws1 yJ9_floorMod_7cf53 cJ9_floorMod_7cf53 3 (some .int)) rmJ9_floorMod_7cf53 [.int l0, .int l1] h (some (.int r.1)) r.2 := by
  refine z_start hO (by decide +kernel) (Nat.le_of_ble_eq_true rfl) ?_
  intro p e s m args below meth c G hr hnm
  refine z_lvc (lv2 := [(0, .int l0), (1, .int l1)]) rfl ?_
  refine z_iload_n (pc := 0) G 0 dJ9_floorMod_7cf53_0 rfl rfl ?_
  refine z_iload_n (pc := 1) G 1 dJ9_floorMod_7cf53_1 rfl rfl ?_
  obtain ⟨hn2, hX⟩ := z_ng hX
  refine z_irem (pc := 2) G dJ9_floorMod_7cf53_2 hn2 ?_
  refine z_istore_n (pc := 3) (lv2 := [(0, .int l0), (1, .int l1), (2, .int (l0 - l0 / l1 * l1))]) G dJ9_floorMod_7cf53_3 rfl (by decide) rfl rfl ?_
  refine z_iload_n (pc := 4) G 0 dJ9_floorMod_7cf53_4 rfl rfl ?_
  refine z_iload_n (pc := 5) G 1 dJ9_floorMod_7cf53_5 rfl rfl ?_
  refine z_ixor (pc := 6) G dJ9_floorMod_7cf53_6 ?_
  refine z_if_ge (pc := 7) (tgt := 18) G dJ9_floorMod_7cf53_7 (by decide) (fun hc7 => ?_) (fun hc7 => ?_)
  · have hX := z_it hc7 hX
    refine z_iload_n (pc := 18) G 2 dJ9_floorMod_7cf53_18 rfl rfl ?_
    exact z_iretX (pc := 19) hX G hr dJ9_floorMod_7cf53_19 (by decide) (by decide)
  · have hX := z_if hc7 hX
    refine z_iload_n (pc := 10) G 2 dJ9_floorMod_7cf53_10 rfl rfl ?_
    refine z_if_eq (pc := 11) (tgt := 18) G dJ9_floorMod_7cf53_11 (by decide) (fun hc11 => ?_) (fun hc11 => ?_)
    · have hX := z_it hc11 hX
      refine z_iload_n (pc := 18) G 2 dJ9_floorMod_7cf53_18 rfl rfl ?_
      exact z_iretX (pc := 19) hX G hr dJ9_floorMod_7cf53_19 (by decide) (by decide)
    · have hX := z_if hc11 hX
      refine z_iload_n (pc := 14) G 2 dJ9_floorMod_7cf53_14 rfl rfl ?_
      refine z_iload_n (pc := 15) G 1 dJ9_floorMod_7cf53_15 rfl rfl ?_
      refine z_iadd (pc := 16) G dJ9_floorMod_7cf53_16 ?_
      exact z_iretX (pc := 17) hX G hr dJ9_floorMod_7cf53_17 (by decide) (by decide)
theorem dJ9_min_7cf53_0 : decode cJ9_min_7cf53 0 = .ok (.iload_n 0, 1) := by decide +kernel
theorem dJ9_min_7cf53_1 : decode cJ9_min_7cf53 1 = .ok (.iload_n 1, 1) := by decide +kernel
theorem dJ9_min_7cf53_2 : decode cJ9_min_7cf53 2 = .ok (.if_icmp .gt 7, 3) := by decide +kernel
theorem dJ9_min_7cf53_5 : decode cJ9_min_7cf53 5 = .ok (.iload_n 0, 1) := by decide +kernel
theorem dJ9_min_7cf53_6 : decode cJ9_min_7cf53 6 = .ok (.goto 4, 3) := by decide +kernel
theorem dJ9_min_7cf53_9 : decode cJ9_min_7cf53 9 = .ok (.iload_n 1, 1) := by decide +kernel
theorem dJ9_min_7cf53_10 : decode cJ9_min_7cf53 10 = .ok (.ireturn, 1) := by decide +kernel
theorem ydJ9_min_7cf53 : z_yd yJ9_min_7cf53 2 := ⟨by decide, by decide, by decide +kernel⟩
abbrev rmJ9_min_7cf53 : Room := { frames := 0, cells := 0, slots := 0, locals := 0 }
noncomputable def xJ9_min_7cf53 (l0 : Int32) (l1 : Int32) (h : ZH) : Option (Int32 × ZH) := (if l1 < l0 then some (l1, h) else some (l0, h))
set_option maxHeartbeats 4000000 in
set_option maxRecDepth 100000 in
theorem lJ9_min_7cf53 {Γ : ZG} {l : Launch} (hO : z_OK Γ) {l0 : Int32} {l1 : Int32} {h : ZH} {r : (Int32 × ZH)} (hX : xJ9_min_7cf53 l0 l1 h = some r) : z_M Γ l yJ9_min_7cf53 (z_ws1 yJ9_min_7cf53 cJ9_min_7cf53 2 (some .int)) rmJ9_min_7cf53 [.int l0, .int l1] h (some (.int r.1)) r.2 := by
  refine z_start hO (by decide +kernel) (Nat.le_of_ble_eq_true rfl) ?_
  intro p e s m args below meth c G hr hnm
  refine z_lvc (lv2 := [(0, .int l0), (1, .int l1)]) rfl ?_
  refine z_iload_n (pc := 0) G 0 dJ9_min_7cf53_0 rfl rfl ?_
  refine z_iload_n (pc := 1) G 1 dJ9_min_7cf53_1 rfl rfl ?_
  refine z_icmp_gt (pc := 2) (tgt := 9) G dJ9_min_7cf53_2 (by decide) (fun hc2 => ?_) (fun hc2 => ?_)
  · have hX := z_it hc2 hX
    refine z_iload_n (pc := 9) G 1 dJ9_min_7cf53_9 rfl rfl ?_
    exact z_iretX (pc := 10) hX G hr dJ9_min_7cf53_10 (by decide) (by decide)
  · have hX := z_if hc2 hX
    refine z_iload_n (pc := 5) G 0 dJ9_min_7cf53_5 rfl rfl ?_
    refine z_goto (pc := 6) (tgt := 10) G dJ9_min_7cf53_6 (by decide) ?_
    exact z_iretX (pc := 10) hX G hr dJ9_min_7cf53_10 (by decide) (by decide)
theorem dX0_setOrder_0 : decode cX0_setOrder 0 = .ok (.aload_n 0, 1) := by decide +kernel
theorem dX0_setOrder_1 : decode cX0_setOrder 1 = .ok (.iconst 0, 1) := by decide +kernel
theorem dX0_setOrder_2 : decode cX0_setOrder 2 = .ok (.putfield 15, 3) := by decide +kernel
theorem dX0_setOrder_5 : decode cX0_setOrder 5 = .ok (.aload_n 1, 1) := by decide +kernel
theorem dX0_setOrder_6 : decode cX0_setOrder 6 = .ok (.getfield 19, 3) := by decide +kernel
theorem dX0_setOrder_9 : decode cX0_setOrder 9 = .ok (.iconst 1, 1) := by decide +kernel
theorem dX0_setOrder_10 : decode cX0_setOrder 10 = .ok (.if_icmp .ge 4, 3) := by decide +kernel
theorem dX0_setOrder_13 : decode cX0_setOrder 13 = .ok (.return_, 1) := by decide +kernel
theorem dX0_setOrder_14 : decode cX0_setOrder 14 = .ok (.aload_n 0, 1) := by decide +kernel
theorem dX0_setOrder_15 : decode cX0_setOrder 15 = .ok (.iconst 2, 1) := by decide +kernel
theorem dX0_setOrder_16 : decode cX0_setOrder 16 = .ok (.iload_n 3, 1) := by decide +kernel
theorem dX0_setOrder_17 : decode cX0_setOrder 17 = .ok (.imul, 1) := by decide +kernel
theorem dX0_setOrder_18 : decode cX0_setOrder 18 = .ok (.iconst 1, 1) := by decide +kernel
theorem dX0_setOrder_19 : decode cX0_setOrder 19 = .ok (.iadd, 1) := by decide +kernel
theorem dX0_setOrder_20 : decode cX0_setOrder 20 = .ok (.aload_n 1, 1) := by decide +kernel
theorem dX0_setOrder_21 : decode cX0_setOrder 21 = .ok (.getfield 19, 3) := by decide +kernel
theorem dX0_setOrder_24 : decode cX0_setOrder 24 = .ok (.invokestatic 24, 3) := by decide +kernel
theorem dX0_setOrder_27 : decode cX0_setOrder 27 = .ok (.putfield 15, 3) := by decide +kernel
theorem dX0_setOrder_30 : decode cX0_setOrder 30 = .ok (.iconst 0, 1) := by decide +kernel
theorem dX0_setOrder_31 : decode cX0_setOrder 31 = .ok (.istore 4, 2) := by decide +kernel
theorem dX0_setOrder_33 : decode cX0_setOrder 33 = .ok (.iload 4, 2) := by decide +kernel
theorem dX0_setOrder_35 : decode cX0_setOrder 35 = .ok (.aload_n 0, 1) := by decide +kernel
theorem dX0_setOrder_36 : decode cX0_setOrder 36 = .ok (.getfield 15, 3) := by decide +kernel
theorem dX0_setOrder_39 : decode cX0_setOrder 39 = .ok (.if_icmp .ge 29, 3) := by decide +kernel
theorem dX0_setOrder_42 : decode cX0_setOrder 42 = .ok (.aload_n 0, 1) := by decide +kernel
theorem dX0_setOrder_43 : decode cX0_setOrder 43 = .ok (.getfield 9, 3) := by decide +kernel
theorem dX0_setOrder_46 : decode cX0_setOrder 46 = .ok (.iload 4, 2) := by decide +kernel
theorem dX0_setOrder_48 : decode cX0_setOrder 48 = .ok (.iload_n 2, 1) := by decide +kernel
theorem dX0_setOrder_49 : decode cX0_setOrder 49 = .ok (.iload_n 3, 1) := by decide +kernel
theorem dX0_setOrder_50 : decode cX0_setOrder 50 = .ok (.isub, 1) := by decide +kernel
theorem dX0_setOrder_51 : decode cX0_setOrder 51 = .ok (.iload 4, 2) := by decide +kernel
theorem dX0_setOrder_53 : decode cX0_setOrder 53 = .ok (.iadd, 1) := by decide +kernel
theorem dX0_setOrder_54 : decode cX0_setOrder 54 = .ok (.aload_n 1, 1) := by decide +kernel
theorem dX0_setOrder_55 : decode cX0_setOrder 55 = .ok (.getfield 19, 3) := by decide +kernel
theorem dX0_setOrder_58 : decode cX0_setOrder 58 = .ok (.invokestatic 30, 3) := by decide +kernel
theorem dX0_setOrder_61 : decode cX0_setOrder 61 = .ok (.iastore, 1) := by decide +kernel
theorem dX0_setOrder_62 : decode cX0_setOrder 62 = .ok (.iinc 4 1, 3) := by decide +kernel
theorem dX0_setOrder_65 : decode cX0_setOrder 65 = .ok (.goto (-32), 3) := by decide +kernel
theorem dX0_setOrder_68 : decode cX0_setOrder 68 = .ok (.return_, 1) := by decide +kernel
theorem ydX0_setOrder : z_yd yX0_setOrder 3 := ⟨by decide, by decide, by decide +kernel⟩
abbrev rmX0_setOrder : Room := { frames := 1, cells := 0, slots := 0, locals := 22 }
noncomputable def xX0_setOrder_B33 (r33 : Nat → Nat → Int32 → Int32 → Int32 → ZH → Option ZH) (l0 : Nat) (l1 : Nat) (l2 : Int32) (l3 : Int32) (l4 : Int32) (h : ZH) : Option ZH := ((z_gI h l0 0 4).bind fun x36 => (if x36 ≤ l4 then some h else ((z_gR h l0 0 3).bind fun x43 => ((z_gI h l1 2 0).bind fun x55 => ((xJ9_floorMod_7cf53 ((l2 - l3) + l4) x55 h).bind fun r58 => ((z_uI r58.2 x43 l4 r58.1).bind fun h61 => r33 l0 l1 l2 l3 (l4 + 1) h61))))))
noncomputable def xX0_setOrder_L33 (n : Nat) : Nat → Nat → Int32 → Int32 → Int32 → ZH → Option ZH := Nat.rec (motive := fun _ => Nat → Nat → Int32 → Int32 → Int32 → ZH → Option ZH) (fun _ _ _ _ _ _ => none) (fun _ rec => xX0_setOrder_B33  rec) n
set_option maxHeartbeats 4000000 in
set_option maxRecDepth 100000 in
theorem wX0_setOrder_B33 {Γ : ZG} {p : Program} {l : Launch} {e : Env} {s : State} {m : MethodId} {args : Array Value} {below : List Frame} {meth : Method} {c : Code} (hO : z_OK Γ) (G : z_GG Γ p s m args meth c cX0_setOrder 5 RX0) (hr : meth.sig.returnType = none) (hnm : meth.name = "setOrder") {r : ZH} {r33 : Nat → Nat → Int32 → Int32 → Int32 → ZH → Option ZH} (H33 : ∀ (l0 : Nat) (l1 : Nat) (l2 : Int32) (l3 : Int32) (l4 : Int32) (h : ZH), r33 l0 l1 l2 l3 l4 h = some r → z_W Γ p l e rmX0_setOrder s m args below meth c 5 0 0 (MQ below (z_Qc Γ none r) args s rmX0_setOrder.cells rmX0_setOrder.slots (z_A Γ)) 33 [(0, .ref l0), (1, .ref l1), (2, .int l2), (3, .int l3), (4, .int l4)] [] h) : ∀ (l0 : Nat) (l1 : Nat) (l2 : Int32) (l3 : Int32) (l4 : Int32) (h : ZH), xX0_setOrder_B33  r33 l0 l1 l2 l3 l4 h = some r → z_W Γ p l e rmX0_setOrder s m args below meth c 5 0 0 (MQ below (z_Qc Γ none r) args s rmX0_setOrder.cells rmX0_setOrder.slots (z_A Γ)) 33 [(0, .ref l0), (1, .ref l1), (2, .int l2), (3, .int l3), (4, .int l4)] [] h := by
  intro l0 l1 l2 l3 l4 h hX
  refine z_iload (pc := 33) G 4 dX0_setOrder_33 rfl ?_
  refine z_aload_n (pc := 35) G 0 dX0_setOrder_35 rfl rfl ?_
  obtain ⟨x36, hv36, hX⟩ := z_bd hX
  refine z_getI (pc := 36) G kK0 (k := 4) (by decide) kt_290 dX0_setOrder_36 hv36 ?_
  refine z_icmp_ge (pc := 39) (tgt := 68) G dX0_setOrder_39 (by decide) (fun hc39 => ?_) (fun hc39 => ?_)
  · have hX := z_it hc39 hX
    exact z_vretX (pc := 68) hX G hr dX0_setOrder_68 (by decide) (by decide)
  · have hX := z_if hc39 hX
    refine z_aload_n (pc := 42) G 0 dX0_setOrder_42 rfl rfl ?_
    obtain ⟨x43, hv43, hX⟩ := z_bd hX
    refine z_getR (pc := 43) G kK0 (k := 3) (by decide) kt_289 dX0_setOrder_43 hv43 ?_
    refine z_iload (pc := 46) G 4 dX0_setOrder_46 rfl ?_
    refine z_iload_n (pc := 48) G 2 dX0_setOrder_48 rfl rfl ?_
    refine z_iload_n (pc := 49) G 3 dX0_setOrder_49 rfl rfl ?_
    refine z_isub (pc := 50) G dX0_setOrder_50 ?_
    refine z_iload (pc := 51) G 4 dX0_setOrder_51 rfl ?_
    refine z_iadd (pc := 53) G dX0_setOrder_53 ?_
    refine z_aload_n (pc := 54) G 1 dX0_setOrder_54 rfl rfl ?_
    obtain ⟨x55, hv55, hX⟩ := z_bd hX
    refine z_getI (pc := 55) G kK2 (k := 0) (by decide) kt_40 dX0_setOrder_55 hv55 ?_
    obtain ⟨r58, hv58, hX⟩ := z_bd hX
    refine z_cSI (pc := 58) (As := [.int ((l2 - l3) + l4), .int x55]) (c2 := 0) (s2 := 0) G (lJ9_floorMod_7cf53 hO hv58) kt_867 kt_12 kt_865 kt_866 ydJ9_floorMod_7cf53 ⟨by decide, by decide⟩ rfl (Nat.le_of_ble_eq_true rfl) ⟨rfl, rfl⟩ ⟨by decide, by decide⟩ rfl dX0_setOrder_58 ?_
    obtain ⟨h61, hv61, hX⟩ := z_bd hX
    refine z_iast (pc := 61) G dX0_setOrder_61 hv61 ?_
    refine z_iincw (pc := 62) (w := 1) (lv2 := [(0, .ref l0), (1, .ref l1), (2, .int l2), (3, .int l3), (4, .int (l4 + 1))]) G 4 dX0_setOrder_62 rfl (by decide) (by decide) rfl rfl ?_
    refine z_goto (pc := 65) (tgt := 33) G dX0_setOrder_65 (by decide) ?_
    exact H33 _ _ _ _ _ _ hX
set_option maxHeartbeats 4000000 in
set_option maxRecDepth 100000 in
theorem wX0_setOrder_L33 {Γ : ZG} {p : Program} {l : Launch} {e : Env} {s : State} {m : MethodId} {args : Array Value} {below : List Frame} {meth : Method} {c : Code} (hO : z_OK Γ) (G : z_GG Γ p s m args meth c cX0_setOrder 5 RX0) (hr : meth.sig.returnType = none) (hnm : meth.name = "setOrder") {r : ZH} : ∀ (nn : Nat) (l0 : Nat) (l1 : Nat) (l2 : Int32) (l3 : Int32) (l4 : Int32) (h : ZH), xX0_setOrder_L33  nn l0 l1 l2 l3 l4 h = some r → z_W Γ p l e rmX0_setOrder s m args below meth c 5 0 0 (MQ below (z_Qc Γ none r) args s rmX0_setOrder.cells rmX0_setOrder.slots (z_A Γ)) 33 [(0, .ref l0), (1, .ref l1), (2, .int l2), (3, .int l3), (4, .int l4)] [] h := by
  intro nn
  induction nn with
  | zero => intro l0 l1 l2 l3 l4 h hX; cases hX
  | succ nn ih => intro l0 l1 l2 l3 l4 h hX; exact wX0_setOrder_B33 hO G hr hnm  ih l0 l1 l2 l3 l4 h hX
noncomputable def xX0_setOrder (l0 : Nat) (l1 : Nat) (l2 : Int32) (l3 : Int32) (h : ZH) : Option ZH := ((z_sF h l0 0 4 (.int (0 : Int32))).bind fun h2 => ((z_gI h2 l1 2 0).bind fun x6 => (if (1 : Int32) ≤ x6 then ((z_gI h2 l1 2 0).bind fun x21 => ((xJ9_min_7cf53 (((2 : Int32) * l3) + (1 : Int32)) x21 h2).bind fun r24 => ((z_sF r24.2 l0 0 4 (.int r24.1)).bind fun h27 => xX0_setOrder_L33 zFU l0 l1 l2 l3 (0 : Int32) h27))) else some h2)))
set_option maxHeartbeats 4000000 in
set_option maxRecDepth 100000 in
theorem lX0_setOrder {Γ : ZG} {l : Launch} (hO : z_OK Γ) {l0 : Nat} {l1 : Nat} {l2 : Int32} {l3 : Int32} {h : ZH} {r : ZH} (hX : xX0_setOrder l0 l1 l2 l3 h = some r) : z_M Γ l yX0_setOrder (z_ws1 yX0_setOrder cX0_setOrder 5 none) rmX0_setOrder [.ref l0, .ref l1, .int l2, .int l3] h none r := by
  refine z_start hO (plainFor_of_name (by decide)) (Nat.le_of_ble_eq_true rfl) ?_
  intro p e s m args below meth c G hr hnm
  refine z_lvc (lv2 := [(0, .ref l0), (1, .ref l1), (2, .int l2), (3, .int l3)]) rfl ?_
  refine z_aload_n (pc := 0) G 0 dX0_setOrder_0 rfl rfl ?_
  refine z_iconst (pc := 1) (v := 0) G dX0_setOrder_1 (by decide) ?_
  obtain ⟨h2, hv2, hX⟩ := z_bd hX
  refine z_putF (pc := 2) G kK0 (k := 4) (by decide) kt_290 (Or.inl rfl) rfl rfl dX0_setOrder_2 hv2 ?_
  refine z_aload_n (pc := 5) G 1 dX0_setOrder_5 rfl rfl ?_
  obtain ⟨x6, hv6, hX⟩ := z_bd hX
  refine z_getI (pc := 6) G kK2 (k := 0) (by decide) kt_40 dX0_setOrder_6 hv6 ?_
  refine z_iconst (pc := 9) (v := 1) G dX0_setOrder_9 (by decide) ?_
  refine z_icmp_ge (pc := 10) (tgt := 14) G dX0_setOrder_10 (by decide) (fun hc10 => ?_) (fun hc10 => ?_)
  · have hX := z_it hc10 hX
    refine z_aload_n (pc := 14) G 0 dX0_setOrder_14 rfl rfl ?_
    refine z_iconst (pc := 15) (v := 2) G dX0_setOrder_15 (by decide) ?_
    refine z_iload_n (pc := 16) G 3 dX0_setOrder_16 rfl rfl ?_
    refine z_imul (pc := 17) G dX0_setOrder_17 ?_
    refine z_iconst (pc := 18) (v := 1) G dX0_setOrder_18 (by decide) ?_
    refine z_iadd (pc := 19) G dX0_setOrder_19 ?_
    refine z_aload_n (pc := 20) G 1 dX0_setOrder_20 rfl rfl ?_
    obtain ⟨x21, hv21, hX⟩ := z_bd hX
    refine z_getI (pc := 21) G kK2 (k := 0) (by decide) kt_40 dX0_setOrder_21 hv21 ?_
    obtain ⟨r24, hv24, hX⟩ := z_bd hX
    refine z_cSI (pc := 24) (As := [.int (((2 : Int32) * l3) + (1 : Int32)), .int x21]) (c2 := 0) (s2 := 0) G (lJ9_min_7cf53 hO hv24) kt_501 kt_12 kt_864 kt_500 ydJ9_min_7cf53 ⟨by decide, by decide⟩ rfl (Nat.le_of_ble_eq_true rfl) ⟨rfl, rfl⟩ ⟨by decide, by decide⟩ rfl dX0_setOrder_24 ?_
    obtain ⟨h27, hv27, hX⟩ := z_bd hX
    refine z_putF (pc := 27) G kK0 (k := 4) (by decide) kt_290 (Or.inl rfl) rfl rfl dX0_setOrder_27 hv27 ?_
    refine z_iconst (pc := 30) (v := 0) G dX0_setOrder_30 (by decide) ?_
    refine z_istore (pc := 31) (lv2 := [(0, .ref l0), (1, .ref l1), (2, .int l2), (3, .int l3), (4, .int (0 : Int32))]) G dX0_setOrder_31 (by decide) rfl rfl ?_
    exact wX0_setOrder_L33 hO G hr hnm zFU _ _ _ _ _ _ hX
  · have hX := z_if hc10 hX
    exact z_vretX (pc := 13) hX G hr dX0_setOrder_13 (by decide) (by decide)
theorem dX5_holderOf_0 : decode cX5_holderOf 0 = .ok (.aload_n 0, 1) := by decide +kernel
theorem dX5_holderOf_1 : decode cX5_holderOf 1 = .ok (.getfield 36, 3) := by decide +kernel
theorem dX5_holderOf_4 : decode cX5_holderOf 4 = .ok (.iload_n 1, 1) := by decide +kernel
theorem dX5_holderOf_5 : decode cX5_holderOf 5 = .ok (.bipush 30, 2) := by decide +kernel
theorem dX5_holderOf_7 : decode cX5_holderOf 7 = .ok (.imul, 1) := by decide +kernel
theorem dX5_holderOf_8 : decode cX5_holderOf 8 = .ok (.iload_n 2, 1) := by decide +kernel
theorem dX5_holderOf_9 : decode cX5_holderOf 9 = .ok (.iadd, 1) := by decide +kernel
theorem dX5_holderOf_10 : decode cX5_holderOf 10 = .ok (.iaload, 1) := by decide +kernel
theorem dX5_holderOf_11 : decode cX5_holderOf 11 = .ok (.ireturn, 1) := by decide +kernel
theorem ydX5_holderOf : z_yd yX5_holderOf 2 := ⟨by decide, by decide, by decide +kernel⟩
abbrev rmX5_holderOf : Room := { frames := 0, cells := 0, slots := 0, locals := 0 }
noncomputable def xX5_holderOf (l0 : Nat) (l1 : Int32) (l2 : Int32) (h : ZH) : Option (Int32 × ZH) := ((z_gR h l0 5 9).bind fun x1 => ((z_aI h x1 ((l1 * (30 : Int32)) + l2)).bind fun x10 => some (x10, h)))
set_option maxHeartbeats 4000000 in
set_option maxRecDepth 100000 in
theorem lX5_holderOf {Γ : ZG} {l : Launch} (hO : z_OK Γ) {l0 : Nat} {l1 : Int32} {l2 : Int32} {h : ZH} {r : (Int32 × ZH)} (hX : xX5_holderOf l0 l1 l2 h = some r) : z_M Γ l yX5_holderOf (z_ws1 yX5_holderOf cX5_holderOf 3 (some .int)) rmX5_holderOf [.ref l0, .int l1, .int l2] h (some (.int r.1)) r.2 := by
  refine z_start hO (plainFor_of_name (by decide)) (Nat.le_of_ble_eq_true rfl) ?_
  intro p e s m args below meth c G hr hnm
  refine z_lvc (lv2 := [(0, .ref l0), (1, .int l1), (2, .int l2)]) rfl ?_
  refine z_aload_n (pc := 0) G 0 dX5_holderOf_0 rfl rfl ?_
  obtain ⟨x1, hv1, hX⟩ := z_bd hX
  refine z_getR (pc := 1) G kK5 (k := 9) (by decide) kt_215 dX5_holderOf_1 hv1 ?_
  refine z_iload_n (pc := 4) G 1 dX5_holderOf_4 rfl rfl ?_
  refine z_bipush (pc := 5) (v := 30) G dX5_holderOf_5 (by decide) ?_
  refine z_imul (pc := 7) G dX5_holderOf_7 ?_
  refine z_iload_n (pc := 8) G 2 dX5_holderOf_8 rfl rfl ?_
  refine z_iadd (pc := 9) G dX5_holderOf_9 ?_
  obtain ⟨x10, hv10, hX⟩ := z_bd hX
  refine z_iald (pc := 10) G dX5_holderOf_10 hv10 ?_
  exact z_iretX (pc := 11) hX G hr dX5_holderOf_11 (by decide) (by decide)
theorem dJ9_abs_0f7a4_0 : decode cJ9_abs_0f7a4 0 = .ok (.iload_n 0, 1) := by decide +kernel
theorem dJ9_abs_0f7a4_1 : decode cJ9_abs_0f7a4 1 = .ok (.ifCond .ge 8, 3) := by decide +kernel
theorem dJ9_abs_0f7a4_4 : decode cJ9_abs_0f7a4 4 = .ok (.iload_n 0, 1) := by decide +kernel
theorem dJ9_abs_0f7a4_5 : decode cJ9_abs_0f7a4 5 = .ok (.ineg, 1) := by decide +kernel
theorem dJ9_abs_0f7a4_6 : decode cJ9_abs_0f7a4 6 = .ok (.goto 4, 3) := by decide +kernel
theorem dJ9_abs_0f7a4_9 : decode cJ9_abs_0f7a4 9 = .ok (.iload_n 0, 1) := by decide +kernel
theorem dJ9_abs_0f7a4_10 : decode cJ9_abs_0f7a4 10 = .ok (.ireturn, 1) := by decide +kernel
theorem ydJ9_abs_0f7a4 : z_yd yJ9_abs_0f7a4 1 := ⟨by decide, by decide, by decide +kernel⟩
abbrev rmJ9_abs_0f7a4 : Room := { frames := 0, cells := 0, slots := 0, locals := 0 }
noncomputable def xJ9_abs_0f7a4 (l0 : Int32) (h : ZH) : Option (Int32 × ZH) := (if 0 ≤ l0 then some (l0, h) else some ((-l0), h))
set_option maxHeartbeats 4000000 in
set_option maxRecDepth 100000 in
theorem lJ9_abs_0f7a4 {Γ : ZG} {l : Launch} (hO : z_OK Γ) {l0 : Int32} {h : ZH} {r : (Int32 × ZH)} (hX : xJ9_abs_0f7a4 l0 h = some r) : z_M Γ l yJ9_abs_0f7a4 (z_ws1 yJ9_abs_0f7a4 cJ9_abs_0f7a4 1 (some .int)) rmJ9_abs_0f7a4 [.int l0] h (some (.int r.1)) r.2 := by
  refine z_start hO (by decide +kernel) (Nat.le_of_ble_eq_true rfl) ?_
  intro p e s m args below meth c G hr hnm
  refine z_lvc (lv2 := [(0, .int l0)]) rfl ?_
  refine z_iload_n (pc := 0) G 0 dJ9_abs_0f7a4_0 rfl rfl ?_
  refine z_if_ge (pc := 1) (tgt := 9) G dJ9_abs_0f7a4_1 (by decide) (fun hc1 => ?_) (fun hc1 => ?_)
  · have hX := z_it hc1 hX
    refine z_iload_n (pc := 9) G 0 dJ9_abs_0f7a4_9 rfl rfl ?_
    exact z_iretX (pc := 10) hX G hr dJ9_abs_0f7a4_10 (by decide) (by decide)
  · have hX := z_if hc1 hX
    refine z_iload_n (pc := 4) G 0 dJ9_abs_0f7a4_4 rfl rfl ?_
    refine z_ineg (pc := 5) G dJ9_abs_0f7a4_5 ?_
    refine z_goto (pc := 6) (tgt := 10) G dJ9_abs_0f7a4_6 (by decide) ?_
    exact z_iretX (pc := 10) hX G hr dJ9_abs_0f7a4_10 (by decide) (by decide)
theorem dX0_farthestHeld_0 : decode cX0_farthestHeld 0 = .ok (.iconst (-1), 1) := by decide +kernel
theorem dX0_farthestHeld_1 : decode cX0_farthestHeld 1 = .ok (.istore 4, 2) := by decide +kernel
theorem dX0_farthestHeld_3 : decode cX0_farthestHeld 3 = .ok (.iconst (-1), 1) := by decide +kernel
theorem dX0_farthestHeld_4 : decode cX0_farthestHeld 4 = .ok (.istore 5, 2) := by decide +kernel
theorem dX0_farthestHeld_6 : decode cX0_farthestHeld 6 = .ok (.iconst 0, 1) := by decide +kernel
theorem dX0_farthestHeld_7 : decode cX0_farthestHeld 7 = .ok (.istore 6, 2) := by decide +kernel
theorem dX0_farthestHeld_9 : decode cX0_farthestHeld 9 = .ok (.iload 6, 2) := by decide +kernel
theorem dX0_farthestHeld_11 : decode cX0_farthestHeld 11 = .ok (.aload_n 0, 1) := by decide +kernel
theorem dX0_farthestHeld_12 : decode cX0_farthestHeld 12 = .ok (.getfield 15, 3) := by decide +kernel
theorem dX0_farthestHeld_15 : decode cX0_farthestHeld 15 = .ok (.if_icmp .ge 113, 3) := by decide +kernel
theorem dX0_farthestHeld_18 : decode cX0_farthestHeld 18 = .ok (.aload_n 0, 1) := by decide +kernel
theorem dX0_farthestHeld_19 : decode cX0_farthestHeld 19 = .ok (.getfield 9, 3) := by decide +kernel
theorem dX0_farthestHeld_22 : decode cX0_farthestHeld 22 = .ok (.iload 6, 2) := by decide +kernel
theorem dX0_farthestHeld_24 : decode cX0_farthestHeld 24 = .ok (.iaload, 1) := by decide +kernel
theorem dX0_farthestHeld_25 : decode cX0_farthestHeld 25 = .ok (.istore 7, 2) := by decide +kernel
theorem dX0_farthestHeld_27 : decode cX0_farthestHeld 27 = .ok (.aload_n 1, 1) := by decide +kernel
theorem dX0_farthestHeld_28 : decode cX0_farthestHeld 28 = .ok (.iload_n 2, 1) := by decide +kernel
theorem dX0_farthestHeld_29 : decode cX0_farthestHeld 29 = .ok (.iload 7, 2) := by decide +kernel
theorem dX0_farthestHeld_31 : decode cX0_farthestHeld 31 = .ok (.invokevirtual 50, 3) := by decide +kernel
theorem dX0_farthestHeld_34 : decode cX0_farthestHeld 34 = .ok (.istore 8, 2) := by decide +kernel
theorem dX0_farthestHeld_36 : decode cX0_farthestHeld 36 = .ok (.iload 8, 2) := by decide +kernel
theorem dX0_farthestHeld_38 : decode cX0_farthestHeld 38 = .ok (.iconst (-1), 1) := by decide +kernel
theorem dX0_farthestHeld_39 : decode cX0_farthestHeld 39 = .ok (.if_icmp .eq 83, 3) := by decide +kernel
theorem dX0_farthestHeld_42 : decode cX0_farthestHeld 42 = .ok (.iload 8, 2) := by decide +kernel
theorem dX0_farthestHeld_44 : decode cX0_farthestHeld 44 = .ok (.iload_n 2, 1) := by decide +kernel
theorem dX0_farthestHeld_45 : decode cX0_farthestHeld 45 = .ok (.if_icmp .eq 77, 3) := by decide +kernel
theorem dX0_farthestHeld_48 : decode cX0_farthestHeld 48 = .ok (.iload_n 3, 1) := by decide +kernel
theorem dX0_farthestHeld_49 : decode cX0_farthestHeld 49 = .ok (.iload 7, 2) := by decide +kernel
theorem dX0_farthestHeld_51 : decode cX0_farthestHeld 51 = .ok (.ishr, 1) := by decide +kernel
theorem dX0_farthestHeld_52 : decode cX0_farthestHeld 52 = .ok (.iconst 1, 1) := by decide +kernel
theorem dX0_farthestHeld_53 : decode cX0_farthestHeld 53 = .ok (.iand, 1) := by decide +kernel
theorem dX0_farthestHeld_54 : decode cX0_farthestHeld 54 = .ok (.iconst 1, 1) := by decide +kernel
theorem dX0_farthestHeld_55 : decode cX0_farthestHeld 55 = .ok (.if_icmp .ne 6, 3) := by decide +kernel
theorem dX0_farthestHeld_58 : decode cX0_farthestHeld 58 = .ok (.goto 64, 3) := by decide +kernel
theorem dX0_farthestHeld_61 : decode cX0_farthestHeld 61 = .ok (.iload_n 2, 1) := by decide +kernel
theorem dX0_farthestHeld_62 : decode cX0_farthestHeld 62 = .ok (.bipush 6, 2) := by decide +kernel
theorem dX0_farthestHeld_64 : decode cX0_farthestHeld 64 = .ok (.imul, 1) := by decide +kernel
theorem dX0_farthestHeld_65 : decode cX0_farthestHeld 65 = .ok (.iload 8, 2) := by decide +kernel
theorem dX0_farthestHeld_67 : decode cX0_farthestHeld 67 = .ok (.iadd, 1) := by decide +kernel
theorem dX0_farthestHeld_68 : decode cX0_farthestHeld 68 = .ok (.istore 9, 2) := by decide +kernel
theorem dX0_farthestHeld_70 : decode cX0_farthestHeld 70 = .ok (.aload_n 1, 1) := by decide +kernel
theorem dX0_farthestHeld_71 : decode cX0_farthestHeld 71 = .ok (.getfield 65, 3) := by decide +kernel
theorem dX0_farthestHeld_74 : decode cX0_farthestHeld 74 = .ok (.iload 9, 2) := by decide +kernel
theorem dX0_farthestHeld_76 : decode cX0_farthestHeld 76 = .ok (.iaload, 1) := by decide +kernel
theorem dX0_farthestHeld_77 : decode cX0_farthestHeld 77 = .ok (.aload_n 1, 1) := by decide +kernel
theorem dX0_farthestHeld_78 : decode cX0_farthestHeld 78 = .ok (.getfield 68, 3) := by decide +kernel
theorem dX0_farthestHeld_81 : decode cX0_farthestHeld 81 = .ok (.iload_n 2, 1) := by decide +kernel
theorem dX0_farthestHeld_82 : decode cX0_farthestHeld 82 = .ok (.iaload, 1) := by decide +kernel
theorem dX0_farthestHeld_83 : decode cX0_farthestHeld 83 = .ok (.isub, 1) := by decide +kernel
theorem dX0_farthestHeld_84 : decode cX0_farthestHeld 84 = .ok (.invokestatic 71, 3) := by decide +kernel
theorem dX0_farthestHeld_87 : decode cX0_farthestHeld 87 = .ok (.aload_n 1, 1) := by decide +kernel
theorem dX0_farthestHeld_88 : decode cX0_farthestHeld 88 = .ok (.getfield 74, 3) := by decide +kernel
theorem dX0_farthestHeld_91 : decode cX0_farthestHeld 91 = .ok (.iload 9, 2) := by decide +kernel
theorem dX0_farthestHeld_93 : decode cX0_farthestHeld 93 = .ok (.iaload, 1) := by decide +kernel
theorem dX0_farthestHeld_94 : decode cX0_farthestHeld 94 = .ok (.aload_n 1, 1) := by decide +kernel
theorem dX0_farthestHeld_95 : decode cX0_farthestHeld 95 = .ok (.getfield 77, 3) := by decide +kernel
theorem dX0_farthestHeld_98 : decode cX0_farthestHeld 98 = .ok (.iload_n 2, 1) := by decide +kernel
theorem dX0_farthestHeld_99 : decode cX0_farthestHeld 99 = .ok (.iaload, 1) := by decide +kernel
theorem dX0_farthestHeld_100 : decode cX0_farthestHeld 100 = .ok (.isub, 1) := by decide +kernel
theorem dX0_farthestHeld_101 : decode cX0_farthestHeld 101 = .ok (.invokestatic 71, 3) := by decide +kernel
theorem dX0_farthestHeld_104 : decode cX0_farthestHeld 104 = .ok (.iadd, 1) := by decide +kernel
theorem dX0_farthestHeld_105 : decode cX0_farthestHeld 105 = .ok (.istore 10, 2) := by decide +kernel
theorem dX0_farthestHeld_107 : decode cX0_farthestHeld 107 = .ok (.iload 10, 2) := by decide +kernel
theorem dX0_farthestHeld_109 : decode cX0_farthestHeld 109 = .ok (.iload 4, 2) := by decide +kernel
theorem dX0_farthestHeld_111 : decode cX0_farthestHeld 111 = .ok (.if_icmp .le 11, 3) := by decide +kernel
theorem dX0_farthestHeld_114 : decode cX0_farthestHeld 114 = .ok (.iload 10, 2) := by decide +kernel
theorem dX0_farthestHeld_116 : decode cX0_farthestHeld 116 = .ok (.istore 4, 2) := by decide +kernel
theorem dX0_farthestHeld_118 : decode cX0_farthestHeld 118 = .ok (.iload 7, 2) := by decide +kernel
theorem dX0_farthestHeld_120 : decode cX0_farthestHeld 120 = .ok (.istore 5, 2) := by decide +kernel
theorem dX0_farthestHeld_122 : decode cX0_farthestHeld 122 = .ok (.iinc 6 1, 3) := by decide +kernel
theorem dX0_farthestHeld_125 : decode cX0_farthestHeld 125 = .ok (.goto (-116), 3) := by decide +kernel
theorem dX0_farthestHeld_128 : decode cX0_farthestHeld 128 = .ok (.iload 5, 2) := by decide +kernel
theorem dX0_farthestHeld_130 : decode cX0_farthestHeld 130 = .ok (.ireturn, 1) := by decide +kernel
theorem ydX0_farthestHeld : z_yd yX0_farthestHeld 3 := ⟨by decide, by decide, by decide +kernel⟩
abbrev rmX0_farthestHeld : Room := { frames := 1, cells := 0, slots := 0, locals := 22 }
noncomputable def xX0_farthestHeld_B9 (r9 : Nat → Nat → Int32 → Int32 → Int32 → Int32 → Int32 → ZH → Option (Int32 × ZH)) (l0 : Nat) (l1 : Nat) (l2 : Int32) (l3 : Int32) (l4 : Int32) (l5 : Int32) (l6 : Int32) (h : ZH) : Option (Int32 × ZH) := ((z_gI h l0 0 4).bind fun x12 => (if x12 ≤ l6 then some (l5, h) else ((z_gR h l0 0 3).bind fun x19 => ((z_aI h x19 l6).bind fun x24 => (z_gu (z_is h l1 5) ((xX5_holderOf l1 l2 x24 h).bind fun r31 => (if r31.1 = (-1 : Int32) then r9 l0 l1 l2 l3 l4 l5 (l6 + 1) r31.2 else (if r31.1 = l2 then r9 l0 l1 l2 l3 l4 l5 (l6 + 1) r31.2 else (if ((l3 >>> (x24 &&& 31)) &&& (1 : Int32)) = (1 : Int32) then r9 l0 l1 l2 l3 l4 l5 (l6 + 1) r31.2 else ((z_gR r31.2 l1 5 11).bind fun x71 => ((z_aI r31.2 x71 ((l2 * (6 : Int32)) + r31.1)).bind fun x76 => ((z_gR r31.2 l1 5 1).bind fun x78 => ((z_aI r31.2 x78 l2).bind fun x82 => ((xJ9_abs_0f7a4 (x76 - x82) r31.2).bind fun r84 => ((z_gR r84.2 l1 5 12).bind fun x88 => ((z_aI r84.2 x88 ((l2 * (6 : Int32)) + r31.1)).bind fun x93 => ((z_gR r84.2 l1 5 2).bind fun x95 => ((z_aI r84.2 x95 l2).bind fun x99 => ((xJ9_abs_0f7a4 (x93 - x99) r84.2).bind fun r101 => (if (r84.1 + r101.1) ≤ l4 then r9 l0 l1 l2 l3 l4 l5 (l6 + 1) r101.2 else r9 l0 l1 l2 l3 (r84.1 + r101.1) x24 (l6 + 1) r101.2))))))))))))))))))))
noncomputable def xX0_farthestHeld_L9 (n : Nat) : Nat → Nat → Int32 → Int32 → Int32 → Int32 → Int32 → ZH → Option (Int32 × ZH) := Nat.rec (motive := fun _ => Nat → Nat → Int32 → Int32 → Int32 → Int32 → Int32 → ZH → Option (Int32 × ZH)) (fun _ _ _ _ _ _ _ _ => none) (fun _ rec => xX0_farthestHeld_B9  rec) n
set_option maxHeartbeats 4000000 in
set_option maxRecDepth 100000 in
theorem wX0_farthestHeld_B9 {Γ : ZG} {p : Program} {l : Launch} {e : Env} {s : State} {m : MethodId} {args : Array Value} {below : List Frame} {meth : Method} {c : Code} (hO : z_OK Γ) (G : z_GG Γ p s m args meth c cX0_farthestHeld 11 RX0) (hr : meth.sig.returnType = (some .int)) (hnm : meth.name = "farthestHeld") {r : (Int32 × ZH)} {r9 : Nat → Nat → Int32 → Int32 → Int32 → Int32 → Int32 → ZH → Option (Int32 × ZH)} (H9 : ∀ (l0 : Nat) (l1 : Nat) (l2 : Int32) (l3 : Int32) (l4 : Int32) (l5 : Int32) (l6 : Int32) (h : ZH), r9 l0 l1 l2 l3 l4 l5 l6 h = some r → z_W Γ p l e rmX0_farthestHeld s m args below meth c 11 0 0 (MQ below (z_Qc Γ (some (.int r.1)) r.2) args s rmX0_farthestHeld.cells rmX0_farthestHeld.slots (z_A Γ)) 9 [(0, .ref l0), (1, .ref l1), (2, .int l2), (3, .int l3), (4, .int l4), (5, .int l5), (6, .int l6)] [] h) : ∀ (l0 : Nat) (l1 : Nat) (l2 : Int32) (l3 : Int32) (l4 : Int32) (l5 : Int32) (l6 : Int32) (h : ZH), xX0_farthestHeld_B9  r9 l0 l1 l2 l3 l4 l5 l6 h = some r → z_W Γ p l e rmX0_farthestHeld s m args below meth c 11 0 0 (MQ below (z_Qc Γ (some (.int r.1)) r.2) args s rmX0_farthestHeld.cells rmX0_farthestHeld.slots (z_A Γ)) 9 [(0, .ref l0), (1, .ref l1), (2, .int l2), (3, .int l3), (4, .int l4), (5, .int l5), (6, .int l6)] [] h := by
  intro l0 l1 l2 l3 l4 l5 l6 h hX
  refine z_iload (pc := 9) G 6 dX0_farthestHeld_9 rfl ?_
  refine z_aload_n (pc := 11) G 0 dX0_farthestHeld_11 rfl rfl ?_
  obtain ⟨x12, hv12, hX⟩ := z_bd hX
  refine z_getI (pc := 12) G kK0 (k := 4) (by decide) kt_290 dX0_farthestHeld_12 hv12 ?_
  refine z_icmp_ge (pc := 15) (tgt := 128) G dX0_farthestHeld_15 (by decide) (fun hc15 => ?_) (fun hc15 => ?_)
  · have hX := z_it hc15 hX
    refine z_iload (pc := 128) G 5 dX0_farthestHeld_128 rfl ?_
    exact z_iretX (pc := 130) hX G hr dX0_farthestHeld_130 (by decide) (by decide)
  · have hX := z_if hc15 hX
    refine z_aload_n (pc := 18) G 0 dX0_farthestHeld_18 rfl rfl ?_
    obtain ⟨x19, hv19, hX⟩ := z_bd hX
    refine z_getR (pc := 19) G kK0 (k := 3) (by decide) kt_289 dX0_farthestHeld_19 hv19 ?_
    refine z_iload (pc := 22) G 6 dX0_farthestHeld_22 rfl ?_
    obtain ⟨x24, hv24, hX⟩ := z_bd hX
    refine z_iald (pc := 24) G dX0_farthestHeld_24 hv24 ?_
    refine z_istore (pc := 25) (lv2 := [(0, .ref l0), (1, .ref l1), (2, .int l2), (3, .int l3), (4, .int l4), (5, .int l5), (6, .int l6), (7, .int x24)]) G dX0_farthestHeld_25 (by decide) rfl rfl ?_
    refine z_aload_n (pc := 27) G 1 dX0_farthestHeld_27 rfl rfl ?_
    refine z_iload_n (pc := 28) G 2 dX0_farthestHeld_28 rfl rfl ?_
    refine z_iload (pc := 29) G 7 dX0_farthestHeld_29 rfl ?_
    obtain ⟨hi31, hX⟩ := z_gu_s hX
    obtain ⟨r31, hv31, hX⟩ := z_bd hX
    refine z_cVI (pc := 31) (As := [.int l2, .int x24]) (c2 := 0) (s2 := 0) G kK5 (lX5_holderOf hO hv31) hi31 kt_748 kt_4 kt_872 kt_746 kt_747 ydX5_holderOf ⟨by decide, by decide⟩ rfl (Nat.le_of_ble_eq_true rfl) ⟨rfl, rfl⟩ ⟨by decide, by decide⟩ rfl dX0_farthestHeld_31 ?_
    refine z_istore (pc := 34) (lv2 := [(0, .ref l0), (1, .ref l1), (2, .int l2), (3, .int l3), (4, .int l4), (5, .int l5), (6, .int l6), (7, .int x24), (8, .int r31.1)]) G dX0_farthestHeld_34 (by decide) rfl rfl ?_
    refine z_iload (pc := 36) G 8 dX0_farthestHeld_36 rfl ?_
    refine z_iconst (pc := 38) (v := (-1)) G dX0_farthestHeld_38 (by decide) ?_
    refine z_icmp_eq (pc := 39) (tgt := 122) G dX0_farthestHeld_39 (by decide) (fun hc39 => ?_) (fun hc39 => ?_)
    · have hX := z_it hc39 hX
      refine z_iincw (pc := 122) (w := 1) (lv2 := [(0, .ref l0), (1, .ref l1), (2, .int l2), (3, .int l3), (4, .int l4), (5, .int l5), (6, .int (l6 + 1)), (7, .int x24), (8, .int r31.1)]) G 6 dX0_farthestHeld_122 rfl (by decide) (by decide) rfl rfl ?_
      refine z_goto (pc := 125) (tgt := 9) G dX0_farthestHeld_125 (by decide) ?_
      refine z_drop (lv2 := [(0, .ref l0), (1, .ref l1), (2, .int l2), (3, .int l3), (4, .int l4), (5, .int l5), (6, .int (l6 + 1))]) [0, 1, 2, 3, 4, 5, 6] rfl ?_
      exact H9 _ _ _ _ _ _ _ _ hX
    · have hX := z_if hc39 hX
      refine z_iload (pc := 42) G 8 dX0_farthestHeld_42 rfl ?_
      refine z_iload_n (pc := 44) G 2 dX0_farthestHeld_44 rfl rfl ?_
      refine z_icmp_eq (pc := 45) (tgt := 122) G dX0_farthestHeld_45 (by decide) (fun hc45 => ?_) (fun hc45 => ?_)
      · have hX := z_it hc45 hX
        refine z_iincw (pc := 122) (w := 1) (lv2 := [(0, .ref l0), (1, .ref l1), (2, .int l2), (3, .int l3), (4, .int l4), (5, .int l5), (6, .int (l6 + 1)), (7, .int x24), (8, .int r31.1)]) G 6 dX0_farthestHeld_122 rfl (by decide) (by decide) rfl rfl ?_
        refine z_goto (pc := 125) (tgt := 9) G dX0_farthestHeld_125 (by decide) ?_
        refine z_drop (lv2 := [(0, .ref l0), (1, .ref l1), (2, .int l2), (3, .int l3), (4, .int l4), (5, .int l5), (6, .int (l6 + 1))]) [0, 1, 2, 3, 4, 5, 6] rfl ?_
        exact H9 _ _ _ _ _ _ _ _ hX
      · have hX := z_if hc45 hX
        refine z_iload_n (pc := 48) G 3 dX0_farthestHeld_48 rfl rfl ?_
        refine z_iload (pc := 49) G 7 dX0_farthestHeld_49 rfl ?_
        refine z_ishr (pc := 51) G dX0_farthestHeld_51 ?_
        refine z_iconst (pc := 52) (v := 1) G dX0_farthestHeld_52 (by decide) ?_
        refine z_iand (pc := 53) G dX0_farthestHeld_53 ?_
        refine z_iconst (pc := 54) (v := 1) G dX0_farthestHeld_54 (by decide) ?_
        refine z_icmp_ne (pc := 55) (tgt := 61) G dX0_farthestHeld_55 (by decide) (fun hc55 => ?_) (fun hc55 => ?_)
        · have hX := z_if hc55 hX
          refine z_iload_n (pc := 61) G 2 dX0_farthestHeld_61 rfl rfl ?_
          refine z_bipush (pc := 62) (v := 6) G dX0_farthestHeld_62 (by decide) ?_
          refine z_imul (pc := 64) G dX0_farthestHeld_64 ?_
          refine z_iload (pc := 65) G 8 dX0_farthestHeld_65 rfl ?_
          refine z_iadd (pc := 67) G dX0_farthestHeld_67 ?_
          refine z_istore (pc := 68) (lv2 := [(0, .ref l0), (1, .ref l1), (2, .int l2), (3, .int l3), (4, .int l4), (5, .int l5), (6, .int l6), (7, .int x24), (8, .int r31.1), (9, .int ((l2 * (6 : Int32)) + r31.1))]) G dX0_farthestHeld_68 (by decide) rfl rfl ?_
          refine z_aload_n (pc := 70) G 1 dX0_farthestHeld_70 rfl rfl ?_
          obtain ⟨x71, hv71, hX⟩ := z_bd hX
          refine z_getR (pc := 71) G kK5 (k := 11) (by decide) kt_220 dX0_farthestHeld_71 hv71 ?_
          refine z_iload (pc := 74) G 9 dX0_farthestHeld_74 rfl ?_
          obtain ⟨x76, hv76, hX⟩ := z_bd hX
          refine z_iald (pc := 76) G dX0_farthestHeld_76 hv76 ?_
          refine z_aload_n (pc := 77) G 1 dX0_farthestHeld_77 rfl rfl ?_
          obtain ⟨x78, hv78, hX⟩ := z_bd hX
          refine z_getR (pc := 78) G kK5 (k := 1) (by decide) kt_192 dX0_farthestHeld_78 hv78 ?_
          refine z_iload_n (pc := 81) G 2 dX0_farthestHeld_81 rfl rfl ?_
          obtain ⟨x82, hv82, hX⟩ := z_bd hX
          refine z_iald (pc := 82) G dX0_farthestHeld_82 hv82 ?_
          refine z_isub (pc := 83) G dX0_farthestHeld_83 ?_
          obtain ⟨r84, hv84, hX⟩ := z_bd hX
          refine z_cSI (pc := 84) (As := [.int (x76 - x82)]) (c2 := 0) (s2 := 0) G (lJ9_abs_0f7a4 hO hv84) kt_786 kt_12 kt_878 kt_785 ydJ9_abs_0f7a4 ⟨by decide, by decide⟩ rfl (Nat.le_of_ble_eq_true rfl) ⟨rfl, rfl⟩ ⟨by decide, by decide⟩ rfl dX0_farthestHeld_84 ?_
          refine z_aload_n (pc := 87) G 1 dX0_farthestHeld_87 rfl rfl ?_
          obtain ⟨x88, hv88, hX⟩ := z_bd hX
          refine z_getR (pc := 88) G kK5 (k := 12) (by decide) kt_224 dX0_farthestHeld_88 hv88 ?_
          refine z_iload (pc := 91) G 9 dX0_farthestHeld_91 rfl ?_
          obtain ⟨x93, hv93, hX⟩ := z_bd hX
          refine z_iald (pc := 93) G dX0_farthestHeld_93 hv93 ?_
          refine z_aload_n (pc := 94) G 1 dX0_farthestHeld_94 rfl rfl ?_
          obtain ⟨x95, hv95, hX⟩ := z_bd hX
          refine z_getR (pc := 95) G kK5 (k := 2) (by decide) kt_196 dX0_farthestHeld_95 hv95 ?_
          refine z_iload_n (pc := 98) G 2 dX0_farthestHeld_98 rfl rfl ?_
          obtain ⟨x99, hv99, hX⟩ := z_bd hX
          refine z_iald (pc := 99) G dX0_farthestHeld_99 hv99 ?_
          refine z_isub (pc := 100) G dX0_farthestHeld_100 ?_
          obtain ⟨r101, hv101, hX⟩ := z_bd hX
          refine z_cSI (pc := 101) (As := [.int (x93 - x99)]) (c2 := 0) (s2 := 0) G (lJ9_abs_0f7a4 hO hv101) kt_786 kt_12 kt_878 kt_785 ydJ9_abs_0f7a4 ⟨by decide, by decide⟩ rfl (Nat.le_of_ble_eq_true rfl) ⟨rfl, rfl⟩ ⟨by decide, by decide⟩ rfl dX0_farthestHeld_101 ?_
          refine z_iadd (pc := 104) G dX0_farthestHeld_104 ?_
          refine z_istore (pc := 105) (lv2 := [(0, .ref l0), (1, .ref l1), (2, .int l2), (3, .int l3), (4, .int l4), (5, .int l5), (6, .int l6), (7, .int x24), (8, .int r31.1), (9, .int ((l2 * (6 : Int32)) + r31.1)), (10, .int (r84.1 + r101.1))]) G dX0_farthestHeld_105 (by decide) rfl rfl ?_
          refine z_iload (pc := 107) G 10 dX0_farthestHeld_107 rfl ?_
          refine z_iload (pc := 109) G 4 dX0_farthestHeld_109 rfl ?_
          refine z_icmp_le (pc := 111) (tgt := 122) G dX0_farthestHeld_111 (by decide) (fun hc111 => ?_) (fun hc111 => ?_)
          · have hX := z_it hc111 hX
            refine z_iincw (pc := 122) (w := 1) (lv2 := [(0, .ref l0), (1, .ref l1), (2, .int l2), (3, .int l3), (4, .int l4), (5, .int l5), (6, .int (l6 + 1)), (7, .int x24), (8, .int r31.1), (9, .int ((l2 * (6 : Int32)) + r31.1)), (10, .int (r84.1 + r101.1))]) G 6 dX0_farthestHeld_122 rfl (by decide) (by decide) rfl rfl ?_
            refine z_goto (pc := 125) (tgt := 9) G dX0_farthestHeld_125 (by decide) ?_
            refine z_drop (lv2 := [(0, .ref l0), (1, .ref l1), (2, .int l2), (3, .int l3), (4, .int l4), (5, .int l5), (6, .int (l6 + 1))]) [0, 1, 2, 3, 4, 5, 6] rfl ?_
            exact H9 _ _ _ _ _ _ _ _ hX
          · have hX := z_if hc111 hX
            refine z_iload (pc := 114) G 10 dX0_farthestHeld_114 rfl ?_
            refine z_istore (pc := 116) (lv2 := [(0, .ref l0), (1, .ref l1), (2, .int l2), (3, .int l3), (4, .int (r84.1 + r101.1)), (5, .int l5), (6, .int l6), (7, .int x24), (8, .int r31.1), (9, .int ((l2 * (6 : Int32)) + r31.1)), (10, .int (r84.1 + r101.1))]) G dX0_farthestHeld_116 (by decide) rfl rfl ?_
            refine z_iload (pc := 118) G 7 dX0_farthestHeld_118 rfl ?_
            refine z_istore (pc := 120) (lv2 := [(0, .ref l0), (1, .ref l1), (2, .int l2), (3, .int l3), (4, .int (r84.1 + r101.1)), (5, .int x24), (6, .int l6), (7, .int x24), (8, .int r31.1), (9, .int ((l2 * (6 : Int32)) + r31.1)), (10, .int (r84.1 + r101.1))]) G dX0_farthestHeld_120 (by decide) rfl rfl ?_
            refine z_iincw (pc := 122) (w := 1) (lv2 := [(0, .ref l0), (1, .ref l1), (2, .int l2), (3, .int l3), (4, .int (r84.1 + r101.1)), (5, .int x24), (6, .int (l6 + 1)), (7, .int x24), (8, .int r31.1), (9, .int ((l2 * (6 : Int32)) + r31.1)), (10, .int (r84.1 + r101.1))]) G 6 dX0_farthestHeld_122 rfl (by decide) (by decide) rfl rfl ?_
            refine z_goto (pc := 125) (tgt := 9) G dX0_farthestHeld_125 (by decide) ?_
            refine z_drop (lv2 := [(0, .ref l0), (1, .ref l1), (2, .int l2), (3, .int l3), (4, .int (r84.1 + r101.1)), (5, .int x24), (6, .int (l6 + 1))]) [0, 1, 2, 3, 4, 5, 6] rfl ?_
            exact H9 _ _ _ _ _ _ _ _ hX
        · have hX := z_it hc55 hX
          refine z_goto (pc := 58) (tgt := 122) G dX0_farthestHeld_58 (by decide) ?_
          refine z_iincw (pc := 122) (w := 1) (lv2 := [(0, .ref l0), (1, .ref l1), (2, .int l2), (3, .int l3), (4, .int l4), (5, .int l5), (6, .int (l6 + 1)), (7, .int x24), (8, .int r31.1)]) G 6 dX0_farthestHeld_122 rfl (by decide) (by decide) rfl rfl ?_
          refine z_goto (pc := 125) (tgt := 9) G dX0_farthestHeld_125 (by decide) ?_
          refine z_drop (lv2 := [(0, .ref l0), (1, .ref l1), (2, .int l2), (3, .int l3), (4, .int l4), (5, .int l5), (6, .int (l6 + 1))]) [0, 1, 2, 3, 4, 5, 6] rfl ?_
          exact H9 _ _ _ _ _ _ _ _ hX
set_option maxHeartbeats 4000000 in
set_option maxRecDepth 100000 in
theorem wX0_farthestHeld_L9 {Γ : ZG} {p : Program} {l : Launch} {e : Env} {s : State} {m : MethodId} {args : Array Value} {below : List Frame} {meth : Method} {c : Code} (hO : z_OK Γ) (G : z_GG Γ p s m args meth c cX0_farthestHeld 11 RX0) (hr : meth.sig.returnType = (some .int)) (hnm : meth.name = "farthestHeld") {r : (Int32 × ZH)} : ∀ (nn : Nat) (l0 : Nat) (l1 : Nat) (l2 : Int32) (l3 : Int32) (l4 : Int32) (l5 : Int32) (l6 : Int32) (h : ZH), xX0_farthestHeld_L9  nn l0 l1 l2 l3 l4 l5 l6 h = some r → z_W Γ p l e rmX0_farthestHeld s m args below meth c 11 0 0 (MQ below (z_Qc Γ (some (.int r.1)) r.2) args s rmX0_farthestHeld.cells rmX0_farthestHeld.slots (z_A Γ)) 9 [(0, .ref l0), (1, .ref l1), (2, .int l2), (3, .int l3), (4, .int l4), (5, .int l5), (6, .int l6)] [] h := by
  intro nn
  induction nn with
  | zero => intro l0 l1 l2 l3 l4 l5 l6 h hX; cases hX
  | succ nn ih => intro l0 l1 l2 l3 l4 l5 l6 h hX; exact wX0_farthestHeld_B9 hO G hr hnm  ih l0 l1 l2 l3 l4 l5 l6 h hX
noncomputable def xX0_farthestHeld (l0 : Nat) (l1 : Nat) (l2 : Int32) (l3 : Int32) (h : ZH) : Option (Int32 × ZH) := xX0_farthestHeld_L9 zFU l0 l1 l2 l3 (-1 : Int32) (-1 : Int32) (0 : Int32) h
set_option maxHeartbeats 4000000 in
set_option maxRecDepth 100000 in
theorem lX0_farthestHeld {Γ : ZG} {l : Launch} (hO : z_OK Γ) {l0 : Nat} {l1 : Nat} {l2 : Int32} {l3 : Int32} {h : ZH} {r : (Int32 × ZH)} (hX : xX0_farthestHeld l0 l1 l2 l3 h = some r) : z_M Γ l yX0_farthestHeld (z_ws1 yX0_farthestHeld cX0_farthestHeld 11 (some .int)) rmX0_farthestHeld [.ref l0, .ref l1, .int l2, .int l3] h (some (.int r.1)) r.2 := by
  refine z_start hO (plainFor_of_name (by decide)) (Nat.le_of_ble_eq_true rfl) ?_
  intro p e s m args below meth c G hr hnm
  refine z_lvc (lv2 := [(0, .ref l0), (1, .ref l1), (2, .int l2), (3, .int l3)]) rfl ?_
  refine z_iconst (pc := 0) (v := (-1)) G dX0_farthestHeld_0 (by decide) ?_
  refine z_istore (pc := 1) (lv2 := [(0, .ref l0), (1, .ref l1), (2, .int l2), (3, .int l3), (4, .int (-1 : Int32))]) G dX0_farthestHeld_1 (by decide) rfl rfl ?_
  refine z_iconst (pc := 3) (v := (-1)) G dX0_farthestHeld_3 (by decide) ?_
  refine z_istore (pc := 4) (lv2 := [(0, .ref l0), (1, .ref l1), (2, .int l2), (3, .int l3), (4, .int (-1 : Int32)), (5, .int (-1 : Int32))]) G dX0_farthestHeld_4 (by decide) rfl rfl ?_
  refine z_iconst (pc := 6) (v := 0) G dX0_farthestHeld_6 (by decide) ?_
  refine z_istore (pc := 7) (lv2 := [(0, .ref l0), (1, .ref l1), (2, .int l2), (3, .int l3), (4, .int (-1 : Int32)), (5, .int (-1 : Int32)), (6, .int (0 : Int32))]) G dX0_farthestHeld_7 (by decide) rfl rfl ?_
  exact wX0_farthestHeld_L9 hO G hr hnm zFU _ _ _ _ _ _ _ _ hX
theorem dX5_ownedBits_0 : decode cX5_ownedBits 0 = .ok (.iconst 0, 1) := by decide +kernel
theorem dX5_ownedBits_1 : decode cX5_ownedBits 1 = .ok (.istore_n 2, 1) := by decide +kernel
theorem dX5_ownedBits_2 : decode cX5_ownedBits 2 = .ok (.iconst 0, 1) := by decide +kernel
theorem dX5_ownedBits_3 : decode cX5_ownedBits 3 = .ok (.istore_n 3, 1) := by decide +kernel
theorem dX5_ownedBits_4 : decode cX5_ownedBits 4 = .ok (.iload_n 3, 1) := by decide +kernel
theorem dX5_ownedBits_5 : decode cX5_ownedBits 5 = .ok (.aload_n 0, 1) := by decide +kernel
theorem dX5_ownedBits_6 : decode cX5_ownedBits 6 = .ok (.getfield 24, 3) := by decide +kernel
theorem dX5_ownedBits_9 : decode cX5_ownedBits 9 = .ok (.iload_n 1, 1) := by decide +kernel
theorem dX5_ownedBits_10 : decode cX5_ownedBits 10 = .ok (.iaload, 1) := by decide +kernel
theorem dX5_ownedBits_11 : decode cX5_ownedBits 11 = .ok (.if_icmp .ge 24, 3) := by decide +kernel
theorem dX5_ownedBits_14 : decode cX5_ownedBits 14 = .ok (.iload_n 2, 1) := by decide +kernel
theorem dX5_ownedBits_15 : decode cX5_ownedBits 15 = .ok (.iconst 1, 1) := by decide +kernel
theorem dX5_ownedBits_16 : decode cX5_ownedBits 16 = .ok (.aload_n 0, 1) := by decide +kernel
theorem dX5_ownedBits_17 : decode cX5_ownedBits 17 = .ok (.getfield 27, 3) := by decide +kernel
theorem dX5_ownedBits_20 : decode cX5_ownedBits 20 = .ok (.iload_n 1, 1) := by decide +kernel
theorem dX5_ownedBits_21 : decode cX5_ownedBits 21 = .ok (.iconst 3, 1) := by decide +kernel
theorem dX5_ownedBits_22 : decode cX5_ownedBits 22 = .ok (.imul, 1) := by decide +kernel
theorem dX5_ownedBits_23 : decode cX5_ownedBits 23 = .ok (.iload_n 3, 1) := by decide +kernel
theorem dX5_ownedBits_24 : decode cX5_ownedBits 24 = .ok (.iadd, 1) := by decide +kernel
theorem dX5_ownedBits_25 : decode cX5_ownedBits 25 = .ok (.iaload, 1) := by decide +kernel
theorem dX5_ownedBits_26 : decode cX5_ownedBits 26 = .ok (.ishl, 1) := by decide +kernel
theorem dX5_ownedBits_27 : decode cX5_ownedBits 27 = .ok (.ior, 1) := by decide +kernel
theorem dX5_ownedBits_28 : decode cX5_ownedBits 28 = .ok (.istore_n 2, 1) := by decide +kernel
theorem dX5_ownedBits_29 : decode cX5_ownedBits 29 = .ok (.iinc 3 1, 3) := by decide +kernel
theorem dX5_ownedBits_32 : decode cX5_ownedBits 32 = .ok (.goto (-28), 3) := by decide +kernel
theorem dX5_ownedBits_35 : decode cX5_ownedBits 35 = .ok (.iload_n 2, 1) := by decide +kernel
theorem dX5_ownedBits_36 : decode cX5_ownedBits 36 = .ok (.ireturn, 1) := by decide +kernel
theorem ydX5_ownedBits : z_yd yX5_ownedBits 1 := ⟨by decide, by decide, by decide +kernel⟩
abbrev rmX5_ownedBits : Room := { frames := 0, cells := 0, slots := 0, locals := 0 }
noncomputable def xX5_ownedBits_B4 (r4 : Nat → Int32 → Int32 → Int32 → ZH → Option (Int32 × ZH)) (l0 : Nat) (l1 : Int32) (l2 : Int32) (l3 : Int32) (h : ZH) : Option (Int32 × ZH) := ((z_gR h l0 5 5).bind fun x6 => ((z_aI h x6 l1).bind fun x10 => (if x10 ≤ l3 then some (l2, h) else ((z_gR h l0 5 6).bind fun x17 => ((z_aI h x17 ((l1 * (3 : Int32)) + l3)).bind fun x25 => r4 l0 l1 (l2 ||| ((1 : Int32) <<< (x25 &&& 31))) (l3 + 1) h)))))
noncomputable def xX5_ownedBits_L4 (n : Nat) : Nat → Int32 → Int32 → Int32 → ZH → Option (Int32 × ZH) := Nat.rec (motive := fun _ => Nat → Int32 → Int32 → Int32 → ZH → Option (Int32 × ZH)) (fun _ _ _ _ _ => none) (fun _ rec => xX5_ownedBits_B4  rec) n
set_option maxHeartbeats 4000000 in
set_option maxRecDepth 100000 in
theorem wX5_ownedBits_B4 {Γ : ZG} {p : Program} {l : Launch} {e : Env} {s : State} {m : MethodId} {args : Array Value} {below : List Frame} {meth : Method} {c : Code} (hO : z_OK Γ) (G : z_GG Γ p s m args meth c cX5_ownedBits 4 RX5) (hr : meth.sig.returnType = (some .int)) (hnm : meth.name = "ownedBits") {r : (Int32 × ZH)} {r4 : Nat → Int32 → Int32 → Int32 → ZH → Option (Int32 × ZH)} (H4 : ∀ (l0 : Nat) (l1 : Int32) (l2 : Int32) (l3 : Int32) (h : ZH), r4 l0 l1 l2 l3 h = some r → z_W Γ p l e rmX5_ownedBits s m args below meth c 4 0 0 (MQ below (z_Qc Γ (some (.int r.1)) r.2) args s rmX5_ownedBits.cells rmX5_ownedBits.slots (z_A Γ)) 4 [(0, .ref l0), (1, .int l1), (2, .int l2), (3, .int l3)] [] h) : ∀ (l0 : Nat) (l1 : Int32) (l2 : Int32) (l3 : Int32) (h : ZH), xX5_ownedBits_B4  r4 l0 l1 l2 l3 h = some r → z_W Γ p l e rmX5_ownedBits s m args below meth c 4 0 0 (MQ below (z_Qc Γ (some (.int r.1)) r.2) args s rmX5_ownedBits.cells rmX5_ownedBits.slots (z_A Γ)) 4 [(0, .ref l0), (1, .int l1), (2, .int l2), (3, .int l3)] [] h := by
  intro l0 l1 l2 l3 h hX
  refine z_iload_n (pc := 4) G 3 dX5_ownedBits_4 rfl rfl ?_
  refine z_aload_n (pc := 5) G 0 dX5_ownedBits_5 rfl rfl ?_
  obtain ⟨x6, hv6, hX⟩ := z_bd hX
  refine z_getR (pc := 6) G kK5 (k := 5) (by decide) kt_203 dX5_ownedBits_6 hv6 ?_
  refine z_iload_n (pc := 9) G 1 dX5_ownedBits_9 rfl rfl ?_
  obtain ⟨x10, hv10, hX⟩ := z_bd hX
  refine z_iald (pc := 10) G dX5_ownedBits_10 hv10 ?_
  refine z_icmp_ge (pc := 11) (tgt := 35) G dX5_ownedBits_11 (by decide) (fun hc11 => ?_) (fun hc11 => ?_)
  · have hX := z_it hc11 hX
    refine z_iload_n (pc := 35) G 2 dX5_ownedBits_35 rfl rfl ?_
    exact z_iretX (pc := 36) hX G hr dX5_ownedBits_36 (by decide) (by decide)
  · have hX := z_if hc11 hX
    refine z_iload_n (pc := 14) G 2 dX5_ownedBits_14 rfl rfl ?_
    refine z_iconst (pc := 15) (v := 1) G dX5_ownedBits_15 (by decide) ?_
    refine z_aload_n (pc := 16) G 0 dX5_ownedBits_16 rfl rfl ?_
    obtain ⟨x17, hv17, hX⟩ := z_bd hX
    refine z_getR (pc := 17) G kK5 (k := 6) (by decide) kt_206 dX5_ownedBits_17 hv17 ?_
    refine z_iload_n (pc := 20) G 1 dX5_ownedBits_20 rfl rfl ?_
    refine z_iconst (pc := 21) (v := 3) G dX5_ownedBits_21 (by decide) ?_
    refine z_imul (pc := 22) G dX5_ownedBits_22 ?_
    refine z_iload_n (pc := 23) G 3 dX5_ownedBits_23 rfl rfl ?_
    refine z_iadd (pc := 24) G dX5_ownedBits_24 ?_
    obtain ⟨x25, hv25, hX⟩ := z_bd hX
    refine z_iald (pc := 25) G dX5_ownedBits_25 hv25 ?_
    refine z_ishl (pc := 26) G dX5_ownedBits_26 ?_
    refine z_ior (pc := 27) G dX5_ownedBits_27 ?_
    refine z_istore_n (pc := 28) (lv2 := [(0, .ref l0), (1, .int l1), (2, .int (l2 ||| ((1 : Int32) <<< (x25 &&& 31)))), (3, .int l3)]) G dX5_ownedBits_28 rfl (by decide) rfl rfl ?_
    refine z_iincw (pc := 29) (w := 1) (lv2 := [(0, .ref l0), (1, .int l1), (2, .int (l2 ||| ((1 : Int32) <<< (x25 &&& 31)))), (3, .int (l3 + 1))]) G 3 dX5_ownedBits_29 rfl (by decide) (by decide) rfl rfl ?_
    refine z_goto (pc := 32) (tgt := 4) G dX5_ownedBits_32 (by decide) ?_
    exact H4 _ _ _ _ _ hX
set_option maxHeartbeats 4000000 in
set_option maxRecDepth 100000 in
theorem wX5_ownedBits_L4 {Γ : ZG} {p : Program} {l : Launch} {e : Env} {s : State} {m : MethodId} {args : Array Value} {below : List Frame} {meth : Method} {c : Code} (hO : z_OK Γ) (G : z_GG Γ p s m args meth c cX5_ownedBits 4 RX5) (hr : meth.sig.returnType = (some .int)) (hnm : meth.name = "ownedBits") {r : (Int32 × ZH)} : ∀ (nn : Nat) (l0 : Nat) (l1 : Int32) (l2 : Int32) (l3 : Int32) (h : ZH), xX5_ownedBits_L4  nn l0 l1 l2 l3 h = some r → z_W Γ p l e rmX5_ownedBits s m args below meth c 4 0 0 (MQ below (z_Qc Γ (some (.int r.1)) r.2) args s rmX5_ownedBits.cells rmX5_ownedBits.slots (z_A Γ)) 4 [(0, .ref l0), (1, .int l1), (2, .int l2), (3, .int l3)] [] h := by
  intro nn
  induction nn with
  | zero => intro l0 l1 l2 l3 h hX; cases hX
  | succ nn ih => intro l0 l1 l2 l3 h hX; exact wX5_ownedBits_B4 hO G hr hnm  ih l0 l1 l2 l3 h hX
noncomputable def xX5_ownedBits (l0 : Nat) (l1 : Int32) (h : ZH) : Option (Int32 × ZH) := xX5_ownedBits_L4 zFU l0 l1 (0 : Int32) (0 : Int32) h
set_option maxHeartbeats 4000000 in
set_option maxRecDepth 100000 in
theorem lX5_ownedBits {Γ : ZG} {l : Launch} (hO : z_OK Γ) {l0 : Nat} {l1 : Int32} {h : ZH} {r : (Int32 × ZH)} (hX : xX5_ownedBits l0 l1 h = some r) : z_M Γ l yX5_ownedBits (z_ws1 yX5_ownedBits cX5_ownedBits 4 (some .int)) rmX5_ownedBits [.ref l0, .int l1] h (some (.int r.1)) r.2 := by
  refine z_start hO (plainFor_of_name (by decide)) (Nat.le_of_ble_eq_true rfl) ?_
  intro p e s m args below meth c G hr hnm
  refine z_lvc (lv2 := [(0, .ref l0), (1, .int l1)]) rfl ?_
  refine z_iconst (pc := 0) (v := 0) G dX5_ownedBits_0 (by decide) ?_
  refine z_istore_n (pc := 1) (lv2 := [(0, .ref l0), (1, .int l1), (2, .int (0 : Int32))]) G dX5_ownedBits_1 rfl (by decide) rfl rfl ?_
  refine z_iconst (pc := 2) (v := 0) G dX5_ownedBits_2 (by decide) ?_
  refine z_istore_n (pc := 3) (lv2 := [(0, .ref l0), (1, .int l1), (2, .int (0 : Int32)), (3, .int (0 : Int32))]) G dX5_ownedBits_3 rfl (by decide) rfl rfl ?_
  exact wX5_ownedBits_L4 hO G hr hnm zFU _ _ _ _ _ hX
theorem dJ6_bitCount_0f7a4_0 : decode cJ6_bitCount_0f7a4 0 = .ok (.iload_n 0, 1) := by decide +kernel
theorem dJ6_bitCount_0f7a4_1 : decode cJ6_bitCount_0f7a4 1 = .ok (.iload_n 0, 1) := by decide +kernel
theorem dJ6_bitCount_0f7a4_2 : decode cJ6_bitCount_0f7a4 2 = .ok (.iconst 1, 1) := by decide +kernel
theorem dJ6_bitCount_0f7a4_3 : decode cJ6_bitCount_0f7a4 3 = .ok (.iushr, 1) := by decide +kernel
theorem dJ6_bitCount_0f7a4_4 : decode cJ6_bitCount_0f7a4 4 = .ok (.ldc_w 265, 3) := by decide +kernel
theorem dJ6_bitCount_0f7a4_7 : decode cJ6_bitCount_0f7a4 7 = .ok (.iand, 1) := by decide +kernel
theorem dJ6_bitCount_0f7a4_8 : decode cJ6_bitCount_0f7a4 8 = .ok (.isub, 1) := by decide +kernel
theorem dJ6_bitCount_0f7a4_9 : decode cJ6_bitCount_0f7a4 9 = .ok (.istore_n 0, 1) := by decide +kernel
theorem dJ6_bitCount_0f7a4_10 : decode cJ6_bitCount_0f7a4 10 = .ok (.iload_n 0, 1) := by decide +kernel
theorem dJ6_bitCount_0f7a4_11 : decode cJ6_bitCount_0f7a4 11 = .ok (.ldc_w 266, 3) := by decide +kernel
theorem dJ6_bitCount_0f7a4_14 : decode cJ6_bitCount_0f7a4 14 = .ok (.iand, 1) := by decide +kernel
theorem dJ6_bitCount_0f7a4_15 : decode cJ6_bitCount_0f7a4 15 = .ok (.iload_n 0, 1) := by decide +kernel
theorem dJ6_bitCount_0f7a4_16 : decode cJ6_bitCount_0f7a4 16 = .ok (.iconst 2, 1) := by decide +kernel
theorem dJ6_bitCount_0f7a4_17 : decode cJ6_bitCount_0f7a4 17 = .ok (.iushr, 1) := by decide +kernel
theorem dJ6_bitCount_0f7a4_18 : decode cJ6_bitCount_0f7a4 18 = .ok (.ldc_w 266, 3) := by decide +kernel
theorem dJ6_bitCount_0f7a4_21 : decode cJ6_bitCount_0f7a4 21 = .ok (.iand, 1) := by decide +kernel
theorem dJ6_bitCount_0f7a4_22 : decode cJ6_bitCount_0f7a4 22 = .ok (.iadd, 1) := by decide +kernel
theorem dJ6_bitCount_0f7a4_23 : decode cJ6_bitCount_0f7a4 23 = .ok (.istore_n 0, 1) := by decide +kernel
theorem dJ6_bitCount_0f7a4_24 : decode cJ6_bitCount_0f7a4 24 = .ok (.iload_n 0, 1) := by decide +kernel
theorem dJ6_bitCount_0f7a4_25 : decode cJ6_bitCount_0f7a4 25 = .ok (.iload_n 0, 1) := by decide +kernel
theorem dJ6_bitCount_0f7a4_26 : decode cJ6_bitCount_0f7a4 26 = .ok (.iconst 4, 1) := by decide +kernel
theorem dJ6_bitCount_0f7a4_27 : decode cJ6_bitCount_0f7a4 27 = .ok (.iushr, 1) := by decide +kernel
theorem dJ6_bitCount_0f7a4_28 : decode cJ6_bitCount_0f7a4 28 = .ok (.iadd, 1) := by decide +kernel
theorem dJ6_bitCount_0f7a4_29 : decode cJ6_bitCount_0f7a4 29 = .ok (.ldc_w 267, 3) := by decide +kernel
theorem dJ6_bitCount_0f7a4_32 : decode cJ6_bitCount_0f7a4 32 = .ok (.iand, 1) := by decide +kernel
theorem dJ6_bitCount_0f7a4_33 : decode cJ6_bitCount_0f7a4 33 = .ok (.istore_n 0, 1) := by decide +kernel
theorem dJ6_bitCount_0f7a4_34 : decode cJ6_bitCount_0f7a4 34 = .ok (.iload_n 0, 1) := by decide +kernel
theorem dJ6_bitCount_0f7a4_35 : decode cJ6_bitCount_0f7a4 35 = .ok (.iload_n 0, 1) := by decide +kernel
theorem dJ6_bitCount_0f7a4_36 : decode cJ6_bitCount_0f7a4 36 = .ok (.bipush 8, 2) := by decide +kernel
theorem dJ6_bitCount_0f7a4_38 : decode cJ6_bitCount_0f7a4 38 = .ok (.iushr, 1) := by decide +kernel
theorem dJ6_bitCount_0f7a4_39 : decode cJ6_bitCount_0f7a4 39 = .ok (.iadd, 1) := by decide +kernel
theorem dJ6_bitCount_0f7a4_40 : decode cJ6_bitCount_0f7a4 40 = .ok (.istore_n 0, 1) := by decide +kernel
theorem dJ6_bitCount_0f7a4_41 : decode cJ6_bitCount_0f7a4 41 = .ok (.iload_n 0, 1) := by decide +kernel
theorem dJ6_bitCount_0f7a4_42 : decode cJ6_bitCount_0f7a4 42 = .ok (.iload_n 0, 1) := by decide +kernel
theorem dJ6_bitCount_0f7a4_43 : decode cJ6_bitCount_0f7a4 43 = .ok (.bipush 16, 2) := by decide +kernel
theorem dJ6_bitCount_0f7a4_45 : decode cJ6_bitCount_0f7a4 45 = .ok (.iushr, 1) := by decide +kernel
theorem dJ6_bitCount_0f7a4_46 : decode cJ6_bitCount_0f7a4 46 = .ok (.iadd, 1) := by decide +kernel
theorem dJ6_bitCount_0f7a4_47 : decode cJ6_bitCount_0f7a4 47 = .ok (.istore_n 0, 1) := by decide +kernel
theorem dJ6_bitCount_0f7a4_48 : decode cJ6_bitCount_0f7a4 48 = .ok (.iload_n 0, 1) := by decide +kernel
theorem dJ6_bitCount_0f7a4_49 : decode cJ6_bitCount_0f7a4 49 = .ok (.bipush 63, 2) := by decide +kernel
theorem dJ6_bitCount_0f7a4_51 : decode cJ6_bitCount_0f7a4 51 = .ok (.iand, 1) := by decide +kernel
theorem dJ6_bitCount_0f7a4_52 : decode cJ6_bitCount_0f7a4 52 = .ok (.ireturn, 1) := by decide +kernel
theorem ydJ6_bitCount_0f7a4 : z_yd yJ6_bitCount_0f7a4 1 := ⟨by decide, by decide, by decide +kernel⟩
abbrev rmJ6_bitCount_0f7a4 : Room := { frames := 0, cells := 0, slots := 0, locals := 0 }
noncomputable def xJ6_bitCount_0f7a4 (l0 : Int32) (h : ZH) : Option (Int32 × ZH) := ((some (l0 - ((l0.toUInt32 >>> ((1 : Int32).toUInt32 &&& Int32.toUInt32 31)).toInt32 &&& (1431655765 : Int32)))).bind fun v9 => ((some ((v9 &&& (858993459 : Int32)) + ((v9.toUInt32 >>> ((2 : Int32).toUInt32 &&& Int32.toUInt32 31)).toInt32 &&& (858993459 : Int32)))).bind fun v23 => ((some ((v23 + (v23.toUInt32 >>> ((4 : Int32).toUInt32 &&& Int32.toUInt32 31)).toInt32) &&& (252645135 : Int32))).bind fun v33 => ((some (v33 + (v33.toUInt32 >>> ((8 : Int32).toUInt32 &&& Int32.toUInt32 31)).toInt32)).bind fun v40 => ((some (v40 + (v40.toUInt32 >>> ((16 : Int32).toUInt32 &&& Int32.toUInt32 31)).toInt32)).bind fun v47 => some ((v47 &&& (63 : Int32)), h))))))
set_option maxHeartbeats 4000000 in
set_option maxRecDepth 100000 in
theorem lJ6_bitCount_0f7a4 {Γ : ZG} {l : Launch} (hO : z_OK Γ) {l0 : Int32} {h : ZH} {r : (Int32 × ZH)} (hX : xJ6_bitCount_0f7a4 l0 h = some r) : z_M Γ l yJ6_bitCount_0f7a4 (z_ws1 yJ6_bitCount_0f7a4 cJ6_bitCount_0f7a4 1 (some .int)) rmJ6_bitCount_0f7a4 [.int l0] h (some (.int r.1)) r.2 := by
  refine z_start hO (by decide +kernel) (Nat.le_of_ble_eq_true rfl) ?_
  intro p e s m args below meth c G hr hnm
  refine z_lvc (lv2 := [(0, .int l0)]) rfl ?_
  refine z_iload_n (pc := 0) G 0 dJ6_bitCount_0f7a4_0 rfl rfl ?_
  refine z_iload_n (pc := 1) G 0 dJ6_bitCount_0f7a4_1 rfl rfl ?_
  refine z_iconst (pc := 2) (v := 1) G dJ6_bitCount_0f7a4_2 (by decide) ?_
  refine z_iushr (pc := 3) (v := (l0.toUInt32 >>> ((1 : Int32).toUInt32 &&& Int32.toUInt32 31)).toInt32) G dJ6_bitCount_0f7a4_3 rfl ?_
  refine z_ldcw (pc := 4) G kt_752 dJ6_bitCount_0f7a4_4 ?_
  refine z_iand (pc := 7) G dJ6_bitCount_0f7a4_7 ?_
  refine z_isub (pc := 8) G dJ6_bitCount_0f7a4_8 ?_
  obtain ⟨v9, hv9, hX⟩ := z_bd hX
  refine z_nmI (pc := 9) hv9 ?_
  refine z_istore_n (pc := 9) (lv2 := [(0, .int v9)]) G dJ6_bitCount_0f7a4_9 rfl (by decide) rfl rfl ?_
  refine z_iload_n (pc := 10) G 0 dJ6_bitCount_0f7a4_10 rfl rfl ?_
  refine z_ldcw (pc := 11) G kt_753 dJ6_bitCount_0f7a4_11 ?_
  refine z_iand (pc := 14) G dJ6_bitCount_0f7a4_14 ?_
  refine z_iload_n (pc := 15) G 0 dJ6_bitCount_0f7a4_15 rfl rfl ?_
  refine z_iconst (pc := 16) (v := 2) G dJ6_bitCount_0f7a4_16 (by decide) ?_
  refine z_iushr (pc := 17) (v := (v9.toUInt32 >>> ((2 : Int32).toUInt32 &&& Int32.toUInt32 31)).toInt32) G dJ6_bitCount_0f7a4_17 rfl ?_
  refine z_ldcw (pc := 18) G kt_753 dJ6_bitCount_0f7a4_18 ?_
  refine z_iand (pc := 21) G dJ6_bitCount_0f7a4_21 ?_
  refine z_iadd (pc := 22) G dJ6_bitCount_0f7a4_22 ?_
  obtain ⟨v23, hv23, hX⟩ := z_bd hX
  refine z_nmI (pc := 23) hv23 ?_
  refine z_istore_n (pc := 23) (lv2 := [(0, .int v23)]) G dJ6_bitCount_0f7a4_23 rfl (by decide) rfl rfl ?_
  refine z_iload_n (pc := 24) G 0 dJ6_bitCount_0f7a4_24 rfl rfl ?_
  refine z_iload_n (pc := 25) G 0 dJ6_bitCount_0f7a4_25 rfl rfl ?_
  refine z_iconst (pc := 26) (v := 4) G dJ6_bitCount_0f7a4_26 (by decide) ?_
  refine z_iushr (pc := 27) (v := (v23.toUInt32 >>> ((4 : Int32).toUInt32 &&& Int32.toUInt32 31)).toInt32) G dJ6_bitCount_0f7a4_27 rfl ?_
  refine z_iadd (pc := 28) G dJ6_bitCount_0f7a4_28 ?_
  refine z_ldcw (pc := 29) G kt_754 dJ6_bitCount_0f7a4_29 ?_
  refine z_iand (pc := 32) G dJ6_bitCount_0f7a4_32 ?_
  obtain ⟨v33, hv33, hX⟩ := z_bd hX
  refine z_nmI (pc := 33) hv33 ?_
  refine z_istore_n (pc := 33) (lv2 := [(0, .int v33)]) G dJ6_bitCount_0f7a4_33 rfl (by decide) rfl rfl ?_
  refine z_iload_n (pc := 34) G 0 dJ6_bitCount_0f7a4_34 rfl rfl ?_
  refine z_iload_n (pc := 35) G 0 dJ6_bitCount_0f7a4_35 rfl rfl ?_
  refine z_bipush (pc := 36) (v := 8) G dJ6_bitCount_0f7a4_36 (by decide) ?_
  refine z_iushr (pc := 38) (v := (v33.toUInt32 >>> ((8 : Int32).toUInt32 &&& Int32.toUInt32 31)).toInt32) G dJ6_bitCount_0f7a4_38 rfl ?_
  refine z_iadd (pc := 39) G dJ6_bitCount_0f7a4_39 ?_
  obtain ⟨v40, hv40, hX⟩ := z_bd hX
  refine z_nmI (pc := 40) hv40 ?_
  refine z_istore_n (pc := 40) (lv2 := [(0, .int v40)]) G dJ6_bitCount_0f7a4_40 rfl (by decide) rfl rfl ?_
  refine z_iload_n (pc := 41) G 0 dJ6_bitCount_0f7a4_41 rfl rfl ?_
  refine z_iload_n (pc := 42) G 0 dJ6_bitCount_0f7a4_42 rfl rfl ?_
  refine z_bipush (pc := 43) (v := 16) G dJ6_bitCount_0f7a4_43 (by decide) ?_
  refine z_iushr (pc := 45) (v := (v40.toUInt32 >>> ((16 : Int32).toUInt32 &&& Int32.toUInt32 31)).toInt32) G dJ6_bitCount_0f7a4_45 rfl ?_
  refine z_iadd (pc := 46) G dJ6_bitCount_0f7a4_46 ?_
  obtain ⟨v47, hv47, hX⟩ := z_bd hX
  refine z_nmI (pc := 47) hv47 ?_
  refine z_istore_n (pc := 47) (lv2 := [(0, .int v47)]) G dJ6_bitCount_0f7a4_47 rfl (by decide) rfl rfl ?_
  refine z_iload_n (pc := 48) G 0 dJ6_bitCount_0f7a4_48 rfl rfl ?_
  refine z_bipush (pc := 49) (v := 63) G dJ6_bitCount_0f7a4_49 (by decide) ?_
  refine z_iand (pc := 51) G dJ6_bitCount_0f7a4_51 ?_
  exact z_iretX (pc := 52) hX G hr dJ6_bitCount_0f7a4_52 (by decide) (by decide)
theorem dX0_look_0 : decode cX0_look 0 = .ok (.aload_n 0, 1) := by decide +kernel
theorem dX0_look_1 : decode cX0_look 1 = .ok (.aload_n 1, 1) := by decide +kernel
theorem dX0_look_2 : decode cX0_look 2 = .ok (.getfield 33, 3) := by decide +kernel
theorem dX0_look_5 : decode cX0_look 5 = .ok (.iload_n 3, 1) := by decide +kernel
theorem dX0_look_6 : decode cX0_look 6 = .ok (.iload 4, 2) := by decide +kernel
theorem dX0_look_8 : decode cX0_look 8 = .ok (.invokevirtual 39, 3) := by decide +kernel
theorem dX0_look_11 : decode cX0_look 11 = .ok (.aload_n 1, 1) := by decide +kernel
theorem dX0_look_12 : decode cX0_look 12 = .ok (.iload_n 2, 1) := by decide +kernel
theorem dX0_look_13 : decode cX0_look 13 = .ok (.invokevirtual 43, 3) := by decide +kernel
theorem dX0_look_16 : decode cX0_look 16 = .ok (.istore 5, 2) := by decide +kernel
theorem dX0_look_18 : decode cX0_look 18 = .ok (.aload_n 0, 1) := by decide +kernel
theorem dX0_look_19 : decode cX0_look 19 = .ok (.iconst 0, 1) := by decide +kernel
theorem dX0_look_20 : decode cX0_look 20 = .ok (.putfield 47, 3) := by decide +kernel
theorem dX0_look_23 : decode cX0_look 23 = .ok (.iconst 0, 1) := by decide +kernel
theorem dX0_look_24 : decode cX0_look 24 = .ok (.istore 6, 2) := by decide +kernel
theorem dX0_look_26 : decode cX0_look 26 = .ok (.iload 6, 2) := by decide +kernel
theorem dX0_look_28 : decode cX0_look 28 = .ok (.aload_n 0, 1) := by decide +kernel
theorem dX0_look_29 : decode cX0_look 29 = .ok (.getfield 15, 3) := by decide +kernel
theorem dX0_look_32 : decode cX0_look 32 = .ok (.if_icmp .ge 52, 3) := by decide +kernel
theorem dX0_look_35 : decode cX0_look 35 = .ok (.aload_n 0, 1) := by decide +kernel
theorem dX0_look_36 : decode cX0_look 36 = .ok (.getfield 9, 3) := by decide +kernel
theorem dX0_look_39 : decode cX0_look 39 = .ok (.iload 6, 2) := by decide +kernel
theorem dX0_look_41 : decode cX0_look 41 = .ok (.iaload, 1) := by decide +kernel
theorem dX0_look_42 : decode cX0_look 42 = .ok (.istore 7, 2) := by decide +kernel
theorem dX0_look_44 : decode cX0_look 44 = .ok (.aload_n 1, 1) := by decide +kernel
theorem dX0_look_45 : decode cX0_look 45 = .ok (.iload_n 2, 1) := by decide +kernel
theorem dX0_look_46 : decode cX0_look 46 = .ok (.iload 7, 2) := by decide +kernel
theorem dX0_look_48 : decode cX0_look 48 = .ok (.invokevirtual 50, 3) := by decide +kernel
theorem dX0_look_51 : decode cX0_look 51 = .ok (.iconst (-1), 1) := by decide +kernel
theorem dX0_look_52 : decode cX0_look 52 = .ok (.if_icmp .ne 26, 3) := by decide +kernel
theorem dX0_look_55 : decode cX0_look 55 = .ok (.iload 5, 2) := by decide +kernel
theorem dX0_look_57 : decode cX0_look 57 = .ok (.iload 7, 2) := by decide +kernel
theorem dX0_look_59 : decode cX0_look 59 = .ok (.ishr, 1) := by decide +kernel
theorem dX0_look_60 : decode cX0_look 60 = .ok (.iconst 1, 1) := by decide +kernel
theorem dX0_look_61 : decode cX0_look 61 = .ok (.iand, 1) := by decide +kernel
theorem dX0_look_62 : decode cX0_look 62 = .ok (.ifCond .ne 16, 3) := by decide +kernel
theorem dX0_look_65 : decode cX0_look 65 = .ok (.aload_n 0, 1) := by decide +kernel
theorem dX0_look_66 : decode cX0_look 66 = .ok (.dup, 1) := by decide +kernel
theorem dX0_look_67 : decode cX0_look 67 = .ok (.getfield 47, 3) := by decide +kernel
theorem dX0_look_70 : decode cX0_look 70 = .ok (.iconst 1, 1) := by decide +kernel
theorem dX0_look_71 : decode cX0_look 71 = .ok (.iload 7, 2) := by decide +kernel
theorem dX0_look_73 : decode cX0_look 73 = .ok (.ishl, 1) := by decide +kernel
theorem dX0_look_74 : decode cX0_look 74 = .ok (.ior, 1) := by decide +kernel
theorem dX0_look_75 : decode cX0_look 75 = .ok (.putfield 47, 3) := by decide +kernel
theorem dX0_look_78 : decode cX0_look 78 = .ok (.iinc 6 1, 3) := by decide +kernel
theorem dX0_look_81 : decode cX0_look 81 = .ok (.goto (-55), 3) := by decide +kernel
theorem dX0_look_84 : decode cX0_look 84 = .ok (.aload_n 0, 1) := by decide +kernel
theorem dX0_look_85 : decode cX0_look 85 = .ok (.getfield 47, 3) := by decide +kernel
theorem dX0_look_88 : decode cX0_look 88 = .ok (.invokestatic 53, 3) := by decide +kernel
theorem dX0_look_91 : decode cX0_look 91 = .ok (.istore 6, 2) := by decide +kernel
theorem dX0_look_93 : decode cX0_look 93 = .ok (.iload 6, 2) := by decide +kernel
theorem dX0_look_95 : decode cX0_look 95 = .ok (.aload_n 1, 1) := by decide +kernel
theorem dX0_look_96 : decode cX0_look 96 = .ok (.getfield 33, 3) := by decide +kernel
theorem dX0_look_99 : decode cX0_look 99 = .ok (.getfield 58, 3) := by decide +kernel
theorem dX0_look_102 : decode cX0_look 102 = .ok (.if_icmp .ge 44, 3) := by decide +kernel
theorem dX0_look_105 : decode cX0_look 105 = .ok (.aload_n 0, 1) := by decide +kernel
theorem dX0_look_106 : decode cX0_look 106 = .ok (.aload_n 1, 1) := by decide +kernel
theorem dX0_look_107 : decode cX0_look 107 = .ok (.iload_n 2, 1) := by decide +kernel
theorem dX0_look_108 : decode cX0_look 108 = .ok (.iload 5, 2) := by decide +kernel
theorem dX0_look_110 : decode cX0_look 110 = .ok (.aload_n 0, 1) := by decide +kernel
theorem dX0_look_111 : decode cX0_look 111 = .ok (.getfield 47, 3) := by decide +kernel
theorem dX0_look_114 : decode cX0_look 114 = .ok (.ior, 1) := by decide +kernel
theorem dX0_look_115 : decode cX0_look 115 = .ok (.invokevirtual 61, 3) := by decide +kernel
theorem dX0_look_118 : decode cX0_look 118 = .ok (.istore 7, 2) := by decide +kernel
theorem dX0_look_120 : decode cX0_look 120 = .ok (.iload 7, 2) := by decide +kernel
theorem dX0_look_122 : decode cX0_look 122 = .ok (.iconst (-1), 1) := by decide +kernel
theorem dX0_look_123 : decode cX0_look 123 = .ok (.if_icmp .ne 4, 3) := by decide +kernel
theorem dX0_look_126 : decode cX0_look 126 = .ok (.return_, 1) := by decide +kernel
theorem dX0_look_127 : decode cX0_look 127 = .ok (.aload_n 0, 1) := by decide +kernel
theorem dX0_look_128 : decode cX0_look 128 = .ok (.dup, 1) := by decide +kernel
theorem dX0_look_129 : decode cX0_look 129 = .ok (.getfield 47, 3) := by decide +kernel
theorem dX0_look_132 : decode cX0_look 132 = .ok (.iconst 1, 1) := by decide +kernel
theorem dX0_look_133 : decode cX0_look 133 = .ok (.iload 7, 2) := by decide +kernel
theorem dX0_look_135 : decode cX0_look 135 = .ok (.ishl, 1) := by decide +kernel
theorem dX0_look_136 : decode cX0_look 136 = .ok (.ior, 1) := by decide +kernel
theorem dX0_look_137 : decode cX0_look 137 = .ok (.putfield 47, 3) := by decide +kernel
theorem dX0_look_140 : decode cX0_look 140 = .ok (.iinc 6 1, 3) := by decide +kernel
theorem dX0_look_143 : decode cX0_look 143 = .ok (.goto (-50), 3) := by decide +kernel
theorem dX0_look_146 : decode cX0_look 146 = .ok (.return_, 1) := by decide +kernel
theorem ydX0_look : z_yd yX0_look 4 := ⟨by decide, by decide, by decide +kernel⟩
abbrev rmX0_look : Room := { frames := 2, cells := 0, slots := 0, locals := 52 }
noncomputable def xX0_look_B93 (r93 : Nat → Nat → Int32 → Int32 → Int32 → ZH → Option ZH) (l0 : Nat) (l1 : Nat) (l2 : Int32) (l5 : Int32) (l6 : Int32) (h : ZH) : Option ZH := ((z_gR h l1 5 0).bind fun x96 => ((z_gI h x96 2 3).bind fun x99 => (if x99 ≤ l6 then some h else ((z_gI h l0 0 0).bind fun x111 => (z_gu (z_is h l0 0) ((xX0_farthestHeld l0 l1 l2 (l5 ||| x111) h).bind fun r115 => (if r115.1 = (-1 : Int32) then some r115.2 else ((z_gI r115.2 l0 0 0).bind fun x129 => ((z_sF r115.2 l0 0 0 (.int (x129 ||| ((1 : Int32) <<< (r115.1 &&& 31))))).bind fun h137 => r93 l0 l1 l2 l5 (l6 + 1) h137)))))))))
noncomputable def xX0_look_L93 (n : Nat) : Nat → Nat → Int32 → Int32 → Int32 → ZH → Option ZH := Nat.rec (motive := fun _ => Nat → Nat → Int32 → Int32 → Int32 → ZH → Option ZH) (fun _ _ _ _ _ _ => none) (fun _ rec => xX0_look_B93  rec) n
set_option maxHeartbeats 4000000 in
set_option maxRecDepth 100000 in
theorem wX0_look_B93 {Γ : ZG} {p : Program} {l : Launch} {e : Env} {s : State} {m : MethodId} {args : Array Value} {below : List Frame} {meth : Method} {c : Code} (hO : z_OK Γ) (G : z_GG Γ p s m args meth c cX0_look 8 RX0) (hr : meth.sig.returnType = none) (hnm : meth.name = "look") {r : ZH} {r93 : Nat → Nat → Int32 → Int32 → Int32 → ZH → Option ZH} (H93 : ∀ (l0 : Nat) (l1 : Nat) (l2 : Int32) (l5 : Int32) (l6 : Int32) (h : ZH), r93 l0 l1 l2 l5 l6 h = some r → z_W Γ p l e rmX0_look s m args below meth c 8 0 0 (MQ below (z_Qc Γ none r) args s rmX0_look.cells rmX0_look.slots (z_A Γ)) 93 [(0, .ref l0), (1, .ref l1), (2, .int l2), (5, .int l5), (6, .int l6)] [] h) : ∀ (l0 : Nat) (l1 : Nat) (l2 : Int32) (l5 : Int32) (l6 : Int32) (h : ZH), xX0_look_B93  r93 l0 l1 l2 l5 l6 h = some r → z_W Γ p l e rmX0_look s m args below meth c 8 0 0 (MQ below (z_Qc Γ none r) args s rmX0_look.cells rmX0_look.slots (z_A Γ)) 93 [(0, .ref l0), (1, .ref l1), (2, .int l2), (5, .int l5), (6, .int l6)] [] h := by
  intro l0 l1 l2 l5 l6 h hX
  refine z_iload (pc := 93) G 4 dX0_look_93 rfl ?_
  refine z_aload_n (pc := 95) G 1 dX0_look_95 rfl rfl ?_
  obtain ⟨x96, hv96, hX⟩ := z_bd hX
  refine z_getR (pc := 96) G kK5 (k := 0) (by decide) kt_189 dX0_look_96 hv96 ?_
  obtain ⟨x99, hv99, hX⟩ := z_bd hX
  refine z_getI (pc := 99) G kK2 (k := 3) (by decide) kt_55 dX0_look_99 hv99 ?_
  refine z_icmp_ge (pc := 102) (tgt := 146) G dX0_look_102 (by decide) (fun hc102 => ?_) (fun hc102 => ?_)
  · have hX := z_it hc102 hX
    exact z_vretX (pc := 146) hX G hr dX0_look_146 (by decide) (by decide)
  · have hX := z_if hc102 hX
    refine z_aload_n (pc := 105) G 0 dX0_look_105 rfl rfl ?_
    refine z_aload_n (pc := 106) G 1 dX0_look_106 rfl rfl ?_
    refine z_iload_n (pc := 107) G 2 dX0_look_107 rfl rfl ?_
    refine z_iload (pc := 108) G 3 dX0_look_108 rfl ?_
    refine z_aload_n (pc := 110) G 0 dX0_look_110 rfl rfl ?_
    obtain ⟨x111, hv111, hX⟩ := z_bd hX
    refine z_getI (pc := 111) G kK0 (k := 0) (by decide) kt_283 dX0_look_111 hv111 ?_
    refine z_ior (pc := 114) G dX0_look_114 ?_
    obtain ⟨hi115, hX⟩ := z_gu_s hX
    obtain ⟨r115, hv115, hX⟩ := z_bd hX
    refine z_cVI (pc := 115) (As := [.ref l1, .int l2, .int (l5 ||| x111)]) (c2 := 0) (s2 := 0) G kK0 (lX0_farthestHeld hO hv115) hi115 kt_877 kt_5 kt_874 kt_875 kt_876 ydX0_farthestHeld ⟨by decide, by decide⟩ rfl (Nat.le_of_ble_eq_true rfl) ⟨rfl, rfl⟩ ⟨by decide, by decide⟩ rfl dX0_look_115 ?_
    refine z_istore (pc := 118) (lv2 := [(0, .ref l0), (1, .ref l1), (2, .int l2), (5, .int l5), (6, .int l6), (7, .int r115.1)]) G dX0_look_118 (by decide) rfl rfl ?_
    refine z_iload (pc := 120) G 5 dX0_look_120 rfl ?_
    refine z_iconst (pc := 122) (v := (-1)) G dX0_look_122 (by decide) ?_
    refine z_icmp_ne (pc := 123) (tgt := 127) G dX0_look_123 (by decide) (fun hc123 => ?_) (fun hc123 => ?_)
    · have hX := z_if hc123 hX
      refine z_aload_n (pc := 127) G 0 dX0_look_127 rfl rfl ?_
      refine z_dup (pc := 128) G dX0_look_128 rfl ?_
      obtain ⟨x129, hv129, hX⟩ := z_bd hX
      refine z_getI (pc := 129) G kK0 (k := 0) (by decide) kt_283 dX0_look_129 hv129 ?_
      refine z_iconst (pc := 132) (v := 1) G dX0_look_132 (by decide) ?_
      refine z_iload (pc := 133) G 5 dX0_look_133 rfl ?_
      refine z_ishl (pc := 135) G dX0_look_135 ?_
      refine z_ior (pc := 136) G dX0_look_136 ?_
      obtain ⟨h137, hv137, hX⟩ := z_bd hX
      refine z_putF (pc := 137) G kK0 (k := 0) (by decide) kt_283 (Or.inl rfl) rfl rfl dX0_look_137 hv137 ?_
      refine z_iincw (pc := 140) (w := 1) (lv2 := [(0, .ref l0), (1, .ref l1), (2, .int l2), (5, .int l5), (6, .int (l6 + 1)), (7, .int r115.1)]) G 4 dX0_look_140 rfl (by decide) (by decide) rfl rfl ?_
      refine z_goto (pc := 143) (tgt := 93) G dX0_look_143 (by decide) ?_
      refine z_drop (lv2 := [(0, .ref l0), (1, .ref l1), (2, .int l2), (5, .int l5), (6, .int (l6 + 1))]) [0, 1, 2, 3, 4] rfl ?_
      exact H93 _ _ _ _ _ _ hX
    · have hX := z_it hc123 hX
      exact z_vretX (pc := 126) hX G hr dX0_look_126 (by decide) (by decide)
set_option maxHeartbeats 4000000 in
set_option maxRecDepth 100000 in
theorem wX0_look_L93 {Γ : ZG} {p : Program} {l : Launch} {e : Env} {s : State} {m : MethodId} {args : Array Value} {below : List Frame} {meth : Method} {c : Code} (hO : z_OK Γ) (G : z_GG Γ p s m args meth c cX0_look 8 RX0) (hr : meth.sig.returnType = none) (hnm : meth.name = "look") {r : ZH} : ∀ (nn : Nat) (l0 : Nat) (l1 : Nat) (l2 : Int32) (l5 : Int32) (l6 : Int32) (h : ZH), xX0_look_L93  nn l0 l1 l2 l5 l6 h = some r → z_W Γ p l e rmX0_look s m args below meth c 8 0 0 (MQ below (z_Qc Γ none r) args s rmX0_look.cells rmX0_look.slots (z_A Γ)) 93 [(0, .ref l0), (1, .ref l1), (2, .int l2), (5, .int l5), (6, .int l6)] [] h := by
  intro nn
  induction nn with
  | zero => intro l0 l1 l2 l5 l6 h hX; cases hX
  | succ nn ih => intro l0 l1 l2 l5 l6 h hX; exact wX0_look_B93 hO G hr hnm  ih l0 l1 l2 l5 l6 h hX
noncomputable def xX0_look_B84 (l0 : Nat) (l1 : Nat) (l2 : Int32) (l5 : Int32) (h : ZH) : Option ZH := ((z_gI h l0 0 0).bind fun x85 => ((xJ6_bitCount_0f7a4 x85 h).bind fun r88 => xX0_look_L93 zFU l0 l1 l2 l5 r88.1 r88.2))
set_option maxHeartbeats 4000000 in
set_option maxRecDepth 100000 in
theorem wX0_look_B84 {Γ : ZG} {p : Program} {l : Launch} {e : Env} {s : State} {m : MethodId} {args : Array Value} {below : List Frame} {meth : Method} {c : Code} (hO : z_OK Γ) (G : z_GG Γ p s m args meth c cX0_look 8 RX0) (hr : meth.sig.returnType = none) (hnm : meth.name = "look") {r : ZH} : ∀ (l0 : Nat) (l1 : Nat) (l2 : Int32) (l5 : Int32) (h : ZH), xX0_look_B84  l0 l1 l2 l5 h = some r → z_W Γ p l e rmX0_look s m args below meth c 8 0 0 (MQ below (z_Qc Γ none r) args s rmX0_look.cells rmX0_look.slots (z_A Γ)) 84 [(0, .ref l0), (1, .ref l1), (2, .int l2), (5, .int l5)] [] h := by
  intro l0 l1 l2 l5 h hX
  refine z_aload_n (pc := 84) G 0 dX0_look_84 rfl rfl ?_
  obtain ⟨x85, hv85, hX⟩ := z_bd hX
  refine z_getI (pc := 85) G kK0 (k := 0) (by decide) kt_283 dX0_look_85 hv85 ?_
  obtain ⟨r88, hv88, hX⟩ := z_bd hX
  refine z_cSI (pc := 88) (As := [.int x85]) (c2 := 0) (s2 := 0) G (lJ6_bitCount_0f7a4 hO hv88) kt_751 kt_18 kt_873 kt_750 ydJ6_bitCount_0f7a4 ⟨by decide, by decide⟩ rfl (Nat.le_of_ble_eq_true rfl) ⟨rfl, rfl⟩ ⟨by decide, by decide⟩ rfl dX0_look_88 ?_
  refine z_istore (pc := 91) (lv2 := [(0, .ref l0), (1, .ref l1), (2, .int l2), (5, .int l5), (6, .int r88.1)]) G dX0_look_91 (by decide) rfl rfl ?_
  exact wX0_look_L93 hO G hr hnm zFU _ _ _ _ _ _ hX
noncomputable def xX0_look_B26 (r26 : Nat → Nat → Int32 → Int32 → Int32 → ZH → Option ZH) (l0 : Nat) (l1 : Nat) (l2 : Int32) (l5 : Int32) (l6 : Int32) (h : ZH) : Option ZH := ((z_gI h l0 0 4).bind fun x29 => (if x29 ≤ l6 then xX0_look_B84 l0 l1 l2 l5 h else ((z_gR h l0 0 3).bind fun x36 => ((z_aI h x36 l6).bind fun x41 => (z_gu (z_is h l1 5) ((xX5_holderOf l1 l2 x41 h).bind fun r48 => (if r48.1 = (-1 : Int32) then (if ((l5 >>> (x41 &&& 31)) &&& (1 : Int32)) = 0 then ((z_gI r48.2 l0 0 0).bind fun x67 => ((z_sF r48.2 l0 0 0 (.int (x67 ||| ((1 : Int32) <<< (x41 &&& 31))))).bind fun h75 => r26 l0 l1 l2 l5 (l6 + 1) h75)) else r26 l0 l1 l2 l5 (l6 + 1) r48.2) else r26 l0 l1 l2 l5 (l6 + 1) r48.2)))))))
noncomputable def xX0_look_L26 (n : Nat) : Nat → Nat → Int32 → Int32 → Int32 → ZH → Option ZH := Nat.rec (motive := fun _ => Nat → Nat → Int32 → Int32 → Int32 → ZH → Option ZH) (fun _ _ _ _ _ _ => none) (fun _ rec => xX0_look_B26  rec) n
set_option maxHeartbeats 4000000 in
set_option maxRecDepth 100000 in
theorem wX0_look_B26 {Γ : ZG} {p : Program} {l : Launch} {e : Env} {s : State} {m : MethodId} {args : Array Value} {below : List Frame} {meth : Method} {c : Code} (hO : z_OK Γ) (G : z_GG Γ p s m args meth c cX0_look 8 RX0) (hr : meth.sig.returnType = none) (hnm : meth.name = "look") {r : ZH} {r26 : Nat → Nat → Int32 → Int32 → Int32 → ZH → Option ZH} (H26 : ∀ (l0 : Nat) (l1 : Nat) (l2 : Int32) (l5 : Int32) (l6 : Int32) (h : ZH), r26 l0 l1 l2 l5 l6 h = some r → z_W Γ p l e rmX0_look s m args below meth c 8 0 0 (MQ below (z_Qc Γ none r) args s rmX0_look.cells rmX0_look.slots (z_A Γ)) 26 [(0, .ref l0), (1, .ref l1), (2, .int l2), (5, .int l5), (6, .int l6)] [] h) : ∀ (l0 : Nat) (l1 : Nat) (l2 : Int32) (l5 : Int32) (l6 : Int32) (h : ZH), xX0_look_B26  r26 l0 l1 l2 l5 l6 h = some r → z_W Γ p l e rmX0_look s m args below meth c 8 0 0 (MQ below (z_Qc Γ none r) args s rmX0_look.cells rmX0_look.slots (z_A Γ)) 26 [(0, .ref l0), (1, .ref l1), (2, .int l2), (5, .int l5), (6, .int l6)] [] h := by
  intro l0 l1 l2 l5 l6 h hX
  refine z_iload (pc := 26) G 4 dX0_look_26 rfl ?_
  refine z_aload_n (pc := 28) G 0 dX0_look_28 rfl rfl ?_
  obtain ⟨x29, hv29, hX⟩ := z_bd hX
  refine z_getI (pc := 29) G kK0 (k := 4) (by decide) kt_290 dX0_look_29 hv29 ?_
  refine z_icmp_ge (pc := 32) (tgt := 84) G dX0_look_32 (by decide) (fun hc32 => ?_) (fun hc32 => ?_)
  · have hX := z_it hc32 hX
    refine z_drop (lv2 := [(0, .ref l0), (1, .ref l1), (2, .int l2), (5, .int l5)]) [0, 1, 2, 3] rfl ?_
    exact wX0_look_B84 hO G hr hnm _ _ _ _ _ hX
  · have hX := z_if hc32 hX
    refine z_aload_n (pc := 35) G 0 dX0_look_35 rfl rfl ?_
    obtain ⟨x36, hv36, hX⟩ := z_bd hX
    refine z_getR (pc := 36) G kK0 (k := 3) (by decide) kt_289 dX0_look_36 hv36 ?_
    refine z_iload (pc := 39) G 4 dX0_look_39 rfl ?_
    obtain ⟨x41, hv41, hX⟩ := z_bd hX
    refine z_iald (pc := 41) G dX0_look_41 hv41 ?_
    refine z_istore (pc := 42) (lv2 := [(0, .ref l0), (1, .ref l1), (2, .int l2), (5, .int l5), (6, .int l6), (7, .int x41)]) G dX0_look_42 (by decide) rfl rfl ?_
    refine z_aload_n (pc := 44) G 1 dX0_look_44 rfl rfl ?_
    refine z_iload_n (pc := 45) G 2 dX0_look_45 rfl rfl ?_
    refine z_iload (pc := 46) G 5 dX0_look_46 rfl ?_
    obtain ⟨hi48, hX⟩ := z_gu_s hX
    obtain ⟨r48, hv48, hX⟩ := z_bd hX
    refine z_cVI (pc := 48) (As := [.int l2, .int x41]) (c2 := 0) (s2 := 0) G kK5 (lX5_holderOf hO hv48) hi48 kt_748 kt_4 kt_872 kt_746 kt_747 ydX5_holderOf ⟨by decide, by decide⟩ rfl (Nat.le_of_ble_eq_true rfl) ⟨rfl, rfl⟩ ⟨by decide, by decide⟩ rfl dX0_look_48 ?_
    refine z_iconst (pc := 51) (v := (-1)) G dX0_look_51 (by decide) ?_
    refine z_icmp_ne (pc := 52) (tgt := 78) G dX0_look_52 (by decide) (fun hc52 => ?_) (fun hc52 => ?_)
    · have hX := z_if hc52 hX
      refine z_iincw (pc := 78) (w := 1) (lv2 := [(0, .ref l0), (1, .ref l1), (2, .int l2), (5, .int l5), (6, .int (l6 + 1)), (7, .int x41)]) G 4 dX0_look_78 rfl (by decide) (by decide) rfl rfl ?_
      refine z_goto (pc := 81) (tgt := 26) G dX0_look_81 (by decide) ?_
      refine z_drop (lv2 := [(0, .ref l0), (1, .ref l1), (2, .int l2), (5, .int l5), (6, .int (l6 + 1))]) [0, 1, 2, 3, 4] rfl ?_
      exact H26 _ _ _ _ _ _ hX
    · have hX := z_it hc52 hX
      refine z_iload (pc := 55) G 3 dX0_look_55 rfl ?_
      refine z_iload (pc := 57) G 5 dX0_look_57 rfl ?_
      refine z_ishr (pc := 59) G dX0_look_59 ?_
      refine z_iconst (pc := 60) (v := 1) G dX0_look_60 (by decide) ?_
      refine z_iand (pc := 61) G dX0_look_61 ?_
      refine z_if_ne (pc := 62) (tgt := 78) G dX0_look_62 (by decide) (fun hc62 => ?_) (fun hc62 => ?_)
      · have hX := z_if hc62 hX
        refine z_iincw (pc := 78) (w := 1) (lv2 := [(0, .ref l0), (1, .ref l1), (2, .int l2), (5, .int l5), (6, .int (l6 + 1)), (7, .int x41)]) G 4 dX0_look_78 rfl (by decide) (by decide) rfl rfl ?_
        refine z_goto (pc := 81) (tgt := 26) G dX0_look_81 (by decide) ?_
        refine z_drop (lv2 := [(0, .ref l0), (1, .ref l1), (2, .int l2), (5, .int l5), (6, .int (l6 + 1))]) [0, 1, 2, 3, 4] rfl ?_
        exact H26 _ _ _ _ _ _ hX
      · have hX := z_it hc62 hX
        refine z_aload_n (pc := 65) G 0 dX0_look_65 rfl rfl ?_
        refine z_dup (pc := 66) G dX0_look_66 rfl ?_
        obtain ⟨x67, hv67, hX⟩ := z_bd hX
        refine z_getI (pc := 67) G kK0 (k := 0) (by decide) kt_283 dX0_look_67 hv67 ?_
        refine z_iconst (pc := 70) (v := 1) G dX0_look_70 (by decide) ?_
        refine z_iload (pc := 71) G 5 dX0_look_71 rfl ?_
        refine z_ishl (pc := 73) G dX0_look_73 ?_
        refine z_ior (pc := 74) G dX0_look_74 ?_
        obtain ⟨h75, hv75, hX⟩ := z_bd hX
        refine z_putF (pc := 75) G kK0 (k := 0) (by decide) kt_283 (Or.inl rfl) rfl rfl dX0_look_75 hv75 ?_
        refine z_iincw (pc := 78) (w := 1) (lv2 := [(0, .ref l0), (1, .ref l1), (2, .int l2), (5, .int l5), (6, .int (l6 + 1)), (7, .int x41)]) G 4 dX0_look_78 rfl (by decide) (by decide) rfl rfl ?_
        refine z_goto (pc := 81) (tgt := 26) G dX0_look_81 (by decide) ?_
        refine z_drop (lv2 := [(0, .ref l0), (1, .ref l1), (2, .int l2), (5, .int l5), (6, .int (l6 + 1))]) [0, 1, 2, 3, 4] rfl ?_
        exact H26 _ _ _ _ _ _ hX
set_option maxHeartbeats 4000000 in
set_option maxRecDepth 100000 in
theorem wX0_look_L26 {Γ : ZG} {p : Program} {l : Launch} {e : Env} {s : State} {m : MethodId} {args : Array Value} {below : List Frame} {meth : Method} {c : Code} (hO : z_OK Γ) (G : z_GG Γ p s m args meth c cX0_look 8 RX0) (hr : meth.sig.returnType = none) (hnm : meth.name = "look") {r : ZH} : ∀ (nn : Nat) (l0 : Nat) (l1 : Nat) (l2 : Int32) (l5 : Int32) (l6 : Int32) (h : ZH), xX0_look_L26  nn l0 l1 l2 l5 l6 h = some r → z_W Γ p l e rmX0_look s m args below meth c 8 0 0 (MQ below (z_Qc Γ none r) args s rmX0_look.cells rmX0_look.slots (z_A Γ)) 26 [(0, .ref l0), (1, .ref l1), (2, .int l2), (5, .int l5), (6, .int l6)] [] h := by
  intro nn
  induction nn with
  | zero => intro l0 l1 l2 l5 l6 h hX; cases hX
  | succ nn ih => intro l0 l1 l2 l5 l6 h hX; exact wX0_look_B26 hO G hr hnm  ih l0 l1 l2 l5 l6 h hX
noncomputable def xX0_look (l0 : Nat) (l1 : Nat) (l2 : Int32) (l3 : Int32) (l4 : Int32) (h : ZH) : Option ZH := ((z_gR h l1 5 0).bind fun x2 => (z_gu (z_is h l0 0) ((xX0_setOrder l0 x2 l3 l4 h).bind fun h8 => (z_gu (z_is h8 l1 5) ((xX5_ownedBits l1 l2 h8).bind fun r13 => ((z_sF r13.2 l0 0 0 (.int (0 : Int32))).bind fun h20 => xX0_look_L26 zFU l0 l1 l2 r13.1 (0 : Int32) h20))))))
set_option maxHeartbeats 4000000 in
set_option maxRecDepth 100000 in
theorem lX0_look {Γ : ZG} {l : Launch} (hO : z_OK Γ) {l0 : Nat} {l1 : Nat} {l2 : Int32} {l3 : Int32} {l4 : Int32} {h : ZH} {r : ZH} (hX : xX0_look l0 l1 l2 l3 l4 h = some r) : z_M Γ l yX0_look (z_ws1 yX0_look cX0_look 8 none) rmX0_look [.ref l0, .ref l1, .int l2, .int l3, .int l4] h none r := by
  refine z_start hO (plainFor_of_name (by decide)) (Nat.le_of_ble_eq_true rfl) ?_
  intro p e s m args below meth c G hr hnm
  refine z_lvc (lv2 := [(0, .ref l0), (1, .ref l1), (2, .int l2), (3, .int l3), (4, .int l4)]) rfl ?_
  refine z_aload_n (pc := 0) G 0 dX0_look_0 rfl rfl ?_
  refine z_aload_n (pc := 1) G 1 dX0_look_1 rfl rfl ?_
  obtain ⟨x2, hv2, hX⟩ := z_bd hX
  refine z_getR (pc := 2) G kK5 (k := 0) (by decide) kt_189 dX0_look_2 hv2 ?_
  refine z_iload_n (pc := 5) G 3 dX0_look_5 rfl rfl ?_
  refine z_iload (pc := 6) G 4 dX0_look_6 rfl ?_
  obtain ⟨hi8, hX⟩ := z_gu_s hX
  obtain ⟨h8, hv8, hX⟩ := z_bd hX
  refine z_cVV (pc := 8) (As := [.ref x2, .int l3, .int l4]) (c2 := 0) (s2 := 0) G kK0 (lX0_setOrder hO hv8) hi8 kt_863 kt_5 kt_860 kt_861 kt_862 ydX0_setOrder ⟨by decide, by decide⟩ rfl (Nat.le_of_ble_eq_true rfl) ⟨rfl, rfl⟩ ⟨by decide, by decide⟩ rfl dX0_look_8 ?_
  refine z_aload_n (pc := 11) G 1 dX0_look_11 rfl rfl ?_
  refine z_iload_n (pc := 12) G 2 dX0_look_12 rfl rfl ?_
  obtain ⟨hi13, hX⟩ := z_gu_s hX
  obtain ⟨r13, hv13, hX⟩ := z_bd hX
  refine z_cVI (pc := 13) (As := [.int l2]) (c2 := 0) (s2 := 0) G kK5 (lX5_ownedBits hO hv13) hi13 kt_871 kt_4 kt_868 kt_869 kt_870 ydX5_ownedBits ⟨by decide, by decide⟩ rfl (Nat.le_of_ble_eq_true rfl) ⟨rfl, rfl⟩ ⟨by decide, by decide⟩ rfl dX0_look_13 ?_
  refine z_istore (pc := 16) (lv2 := [(0, .ref l0), (1, .ref l1), (2, .int l2), (3, .int l3), (4, .int l4), (5, .int r13.1)]) G dX0_look_16 (by decide) rfl rfl ?_
  refine z_aload_n (pc := 18) G 0 dX0_look_18 rfl rfl ?_
  refine z_iconst (pc := 19) (v := 0) G dX0_look_19 (by decide) ?_
  obtain ⟨h20, hv20, hX⟩ := z_bd hX
  refine z_putF (pc := 20) G kK0 (k := 0) (by decide) kt_283 (Or.inl rfl) rfl rfl dX0_look_20 hv20 ?_
  refine z_iconst (pc := 23) (v := 0) G dX0_look_23 (by decide) ?_
  refine z_istore (pc := 24) (lv2 := [(0, .ref l0), (1, .ref l1), (2, .int l2), (3, .int l3), (4, .int l4), (5, .int r13.1), (6, .int (0 : Int32))]) G dX0_look_24 (by decide) rfl rfl ?_
  refine z_drop (lv2 := [(0, .ref l0), (1, .ref l1), (2, .int l2), (5, .int r13.1), (6, .int (0 : Int32))]) [0, 1, 2, 5, 6] rfl ?_
  exact wX0_look_L26 hO G hr hnm zFU _ _ _ _ _ _ hX
theorem dX5_drawSeed_0 : decode cX5_drawSeed 0 = .ok (.aload_n 0, 1) := by decide +kernel
theorem dX5_drawSeed_1 : decode cX5_drawSeed 1 = .ok (.aload_n 0, 1) := by decide +kernel
theorem dX5_drawSeed_2 : decode cX5_drawSeed 2 = .ok (.getfield 84, 3) := by decide +kernel
theorem dX5_drawSeed_5 : decode cX5_drawSeed 5 = .ok (.sipush 137, 3) := by decide +kernel
theorem dX5_drawSeed_8 : decode cX5_drawSeed 8 = .ok (.imul, 1) := by decide +kernel
theorem dX5_drawSeed_9 : decode cX5_drawSeed 9 = .ok (.bipush 71, 2) := by decide +kernel
theorem dX5_drawSeed_11 : decode cX5_drawSeed 11 = .ok (.iadd, 1) := by decide +kernel
theorem dX5_drawSeed_12 : decode cX5_drawSeed 12 = .ok (.sipush 1000, 3) := by decide +kernel
theorem dX5_drawSeed_15 : decode cX5_drawSeed 15 = .ok (.irem, 1) := by decide +kernel
theorem dX5_drawSeed_16 : decode cX5_drawSeed 16 = .ok (.putfield 84, 3) := by decide +kernel
theorem dX5_drawSeed_19 : decode cX5_drawSeed 19 = .ok (.aload_n 0, 1) := by decide +kernel
theorem dX5_drawSeed_20 : decode cX5_drawSeed 20 = .ok (.getfield 84, 3) := by decide +kernel
theorem dX5_drawSeed_23 : decode cX5_drawSeed 23 = .ok (.ireturn, 1) := by decide +kernel
theorem ydX5_drawSeed : z_yd yX5_drawSeed 0 := ⟨by decide, by decide, by decide +kernel⟩
abbrev rmX5_drawSeed : Room := { frames := 0, cells := 0, slots := 0, locals := 0 }
noncomputable def xX5_drawSeed (l0 : Nat) (h : ZH) : Option (Int32 × ZH) := ((z_gI h l0 5 17).bind fun x2 => ((z_sF h l0 5 17 (.int (((x2 * (137 : Int32)) + (71 : Int32)) - ((x2 * (137 : Int32)) + (71 : Int32)) / (1000 : Int32) * (1000 : Int32)))).bind fun h16 => ((z_gI h16 l0 5 17).bind fun x20 => some (x20, h16))))
set_option maxHeartbeats 4000000 in
set_option maxRecDepth 100000 in
theorem lX5_drawSeed {Γ : ZG} {l : Launch} (hO : z_OK Γ) {l0 : Nat} {h : ZH} {r : (Int32 × ZH)} (hX : xX5_drawSeed l0 h = some r) : z_M Γ l yX5_drawSeed (z_ws1 yX5_drawSeed cX5_drawSeed 1 (some .int)) rmX5_drawSeed [.ref l0] h (some (.int r.1)) r.2 := by
  refine z_start hO (plainFor_of_name (by decide)) (Nat.le_of_ble_eq_true rfl) ?_
  intro p e s m args below meth c G hr hnm
  refine z_lvc (lv2 := [(0, .ref l0)]) rfl ?_
  refine z_aload_n (pc := 0) G 0 dX5_drawSeed_0 rfl rfl ?_
  refine z_aload_n (pc := 1) G 0 dX5_drawSeed_1 rfl rfl ?_
  obtain ⟨x2, hv2, hX⟩ := z_bd hX
  refine z_getI (pc := 2) G kK5 (k := 17) (by decide) kt_238 dX5_drawSeed_2 hv2 ?_
  refine z_sipush (pc := 5) (v := 137) G dX5_drawSeed_5 (by decide) ?_
  refine z_imul (pc := 8) G dX5_drawSeed_8 ?_
  refine z_bipush (pc := 9) (v := 71) G dX5_drawSeed_9 (by decide) ?_
  refine z_iadd (pc := 11) G dX5_drawSeed_11 ?_
  refine z_sipush (pc := 12) (v := 1000) G dX5_drawSeed_12 (by decide) ?_
  refine z_irem (pc := 15) G dX5_drawSeed_15 (by decide) ?_
  obtain ⟨h16, hv16, hX⟩ := z_bd hX
  refine z_putF (pc := 16) G kK5 (k := 17) (by decide) kt_238 (Or.inl rfl) rfl rfl dX5_drawSeed_16 hv16 ?_
  refine z_aload_n (pc := 19) G 0 dX5_drawSeed_19 rfl rfl ?_
  obtain ⟨x20, hv20, hX⟩ := z_bd hX
  refine z_getI (pc := 20) G kK5 (k := 17) (by decide) kt_238 dX5_drawSeed_20 hv20 ?_
  exact z_iretX (pc := 23) hX G hr dX5_drawSeed_23 (by decide) (by decide)
theorem dX5_drawLeft_0 : decode cX5_drawLeft 0 = .ok (.aload_n 0, 1) := by decide +kernel
theorem dX5_drawLeft_1 : decode cX5_drawLeft 1 = .ok (.invokevirtual 155, 3) := by decide +kernel
theorem dX5_drawLeft_4 : decode cX5_drawLeft 4 = .ok (.istore_n 1, 1) := by decide +kernel
theorem dX5_drawLeft_5 : decode cX5_drawLeft 5 = .ok (.aload_n 0, 1) := by decide +kernel
theorem dX5_drawLeft_6 : decode cX5_drawLeft 6 = .ok (.getfield 48, 3) := by decide +kernel
theorem dX5_drawLeft_9 : decode cX5_drawLeft 9 = .ok (.getfield 159, 3) := by decide +kernel
theorem dX5_drawLeft_12 : decode cX5_drawLeft 12 = .ok (.iconst 1, 1) := by decide +kernel
theorem dX5_drawLeft_13 : decode cX5_drawLeft 13 = .ok (.if_icmp .ge 7, 3) := by decide +kernel
theorem dX5_drawLeft_16 : decode cX5_drawLeft 16 = .ok (.iconst 1, 1) := by decide +kernel
theorem dX5_drawLeft_17 : decode cX5_drawLeft 17 = .ok (.goto 14, 3) := by decide +kernel
theorem dX5_drawLeft_20 : decode cX5_drawLeft 20 = .ok (.iconst 1, 1) := by decide +kernel
theorem dX5_drawLeft_21 : decode cX5_drawLeft 21 = .ok (.iload_n 1, 1) := by decide +kernel
theorem dX5_drawLeft_22 : decode cX5_drawLeft 22 = .ok (.aload_n 0, 1) := by decide +kernel
theorem dX5_drawLeft_23 : decode cX5_drawLeft 23 = .ok (.getfield 48, 3) := by decide +kernel
theorem dX5_drawLeft_26 : decode cX5_drawLeft 26 = .ok (.getfield 159, 3) := by decide +kernel
theorem dX5_drawLeft_29 : decode cX5_drawLeft 29 = .ok (.irem, 1) := by decide +kernel
theorem dX5_drawLeft_30 : decode cX5_drawLeft 30 = .ok (.iadd, 1) := by decide +kernel
theorem dX5_drawLeft_31 : decode cX5_drawLeft 31 = .ok (.ireturn, 1) := by decide +kernel
theorem ydX5_drawLeft : z_yd yX5_drawLeft 0 := ⟨by decide, by decide, by decide +kernel⟩
abbrev rmX5_drawLeft : Room := { frames := 1, cells := 0, slots := 0, locals := 20 }
noncomputable def xX5_drawLeft (l0 : Nat) (h : ZH) : Option (Int32 × ZH) := (z_gu (z_is h l0 5) ((xX5_drawSeed l0 h).bind fun r1 => ((z_gR r1.2 l0 5 0).bind fun x6 => ((z_gI r1.2 x6 2 4).bind fun x9 => (if (1 : Int32) ≤ x9 then ((z_gR r1.2 l0 5 0).bind fun x23 => ((z_gI r1.2 x23 2 4).bind fun x26 => (if x26 = 0 then none else some (((1 : Int32) + (r1.1 - r1.1 / x26 * x26)), r1.2)))) else some ((1 : Int32), r1.2))))))
set_option maxHeartbeats 4000000 in
set_option maxRecDepth 100000 in
theorem lX5_drawLeft {Γ : ZG} {l : Launch} (hO : z_OK Γ) {l0 : Nat} {h : ZH} {r : (Int32 × ZH)} (hX : xX5_drawLeft l0 h = some r) : z_M Γ l yX5_drawLeft (z_ws1 yX5_drawLeft cX5_drawLeft 2 (some .int)) rmX5_drawLeft [.ref l0] h (some (.int r.1)) r.2 := by
  refine z_start hO (plainFor_of_name (by decide)) (Nat.le_of_ble_eq_true rfl) ?_
  intro p e s m args below meth c G hr hnm
  refine z_lvc (lv2 := [(0, .ref l0)]) rfl ?_
  refine z_aload_n (pc := 0) G 0 dX5_drawLeft_0 rfl rfl ?_
  obtain ⟨hi1, hX⟩ := z_gu_s hX
  obtain ⟨r1, hv1, hX⟩ := z_bd hX
  refine z_cVI (pc := 1) (As := []) (c2 := 0) (s2 := 0) G kK5 (lX5_drawSeed hO hv1) hi1 kt_851 kt_4 kt_884 kt_849 kt_850 ydX5_drawSeed ⟨by decide, by decide⟩ rfl (Nat.le_of_ble_eq_true rfl) ⟨rfl, rfl⟩ ⟨by decide, by decide⟩ rfl dX5_drawLeft_1 ?_
  refine z_istore_n (pc := 4) (lv2 := [(0, .ref l0), (1, .int r1.1)]) G dX5_drawLeft_4 rfl (by decide) rfl rfl ?_
  refine z_aload_n (pc := 5) G 0 dX5_drawLeft_5 rfl rfl ?_
  obtain ⟨x6, hv6, hX⟩ := z_bd hX
  refine z_getR (pc := 6) G kK5 (k := 0) (by decide) kt_188 dX5_drawLeft_6 hv6 ?_
  obtain ⟨x9, hv9, hX⟩ := z_bd hX
  refine z_getI (pc := 9) G kK2 (k := 4) (by decide) kt_59 dX5_drawLeft_9 hv9 ?_
  refine z_iconst (pc := 12) (v := 1) G dX5_drawLeft_12 (by decide) ?_
  refine z_icmp_ge (pc := 13) (tgt := 20) G dX5_drawLeft_13 (by decide) (fun hc13 => ?_) (fun hc13 => ?_)
  · have hX := z_it hc13 hX
    refine z_iconst (pc := 20) (v := 1) G dX5_drawLeft_20 (by decide) ?_
    refine z_iload_n (pc := 21) G 1 dX5_drawLeft_21 rfl rfl ?_
    refine z_aload_n (pc := 22) G 0 dX5_drawLeft_22 rfl rfl ?_
    obtain ⟨x23, hv23, hX⟩ := z_bd hX
    refine z_getR (pc := 23) G kK5 (k := 0) (by decide) kt_188 dX5_drawLeft_23 hv23 ?_
    obtain ⟨x26, hv26, hX⟩ := z_bd hX
    refine z_getI (pc := 26) G kK2 (k := 4) (by decide) kt_59 dX5_drawLeft_26 hv26 ?_
    obtain ⟨hn29, hX⟩ := z_ng hX
    refine z_irem (pc := 29) G dX5_drawLeft_29 hn29 ?_
    refine z_iadd (pc := 30) G dX5_drawLeft_30 ?_
    exact z_iretX (pc := 31) hX G hr dX5_drawLeft_31 (by decide) (by decide)
  · have hX := z_if hc13 hX
    refine z_iconst (pc := 16) (v := 1) G dX5_drawLeft_16 (by decide) ?_
    refine z_goto (pc := 17) (tgt := 31) G dX5_drawLeft_17 (by decide) ?_
    exact z_iretX (pc := 31) hX G hr dX5_drawLeft_31 (by decide) (by decide)
theorem dX0_choose_0 : decode cX0_choose 0 = .ok (.aload_n 0, 1) := by decide +kernel
theorem dX0_choose_1 : decode cX0_choose 1 = .ok (.aload_n 1, 1) := by decide +kernel
theorem dX0_choose_2 : decode cX0_choose 2 = .ok (.iload_n 2, 1) := by decide +kernel
theorem dX0_choose_3 : decode cX0_choose 3 = .ok (.iload_n 3, 1) := by decide +kernel
theorem dX0_choose_4 : decode cX0_choose 4 = .ok (.aload_n 1, 1) := by decide +kernel
theorem dX0_choose_5 : decode cX0_choose 5 = .ok (.getfield 33, 3) := by decide +kernel
theorem dX0_choose_8 : decode cX0_choose 8 = .ok (.getfield 80, 3) := by decide +kernel
theorem dX0_choose_11 : decode cX0_choose 11 = .ok (.invokevirtual 83, 3) := by decide +kernel
theorem dX0_choose_14 : decode cX0_choose 14 = .ok (.aload_n 0, 1) := by decide +kernel
theorem dX0_choose_15 : decode cX0_choose 15 = .ok (.getfield 47, 3) := by decide +kernel
theorem dX0_choose_18 : decode cX0_choose 18 = .ok (.invokestatic 53, 3) := by decide +kernel
theorem dX0_choose_21 : decode cX0_choose 21 = .ok (.istore 4, 2) := by decide +kernel
theorem dX0_choose_23 : decode cX0_choose 23 = .ok (.iload 4, 2) := by decide +kernel
theorem dX0_choose_25 : decode cX0_choose 25 = .ok (.ifCond .ne 5, 3) := by decide +kernel
theorem dX0_choose_28 : decode cX0_choose 28 = .ok (.iconst 0, 1) := by decide +kernel
theorem dX0_choose_29 : decode cX0_choose 29 = .ok (.ireturn, 1) := by decide +kernel
theorem dX0_choose_30 : decode cX0_choose 30 = .ok (.aload_n 1, 1) := by decide +kernel
theorem dX0_choose_31 : decode cX0_choose 31 = .ok (.invokevirtual 87, 3) := by decide +kernel
theorem dX0_choose_34 : decode cX0_choose 34 = .ok (.iload 4, 2) := by decide +kernel
theorem dX0_choose_36 : decode cX0_choose 36 = .ok (.irem, 1) := by decide +kernel
theorem dX0_choose_37 : decode cX0_choose 37 = .ok (.istore 5, 2) := by decide +kernel
theorem dX0_choose_39 : decode cX0_choose 39 = .ok (.iconst 0, 1) := by decide +kernel
theorem dX0_choose_40 : decode cX0_choose 40 = .ok (.istore 6, 2) := by decide +kernel
theorem dX0_choose_42 : decode cX0_choose 42 = .ok (.iload 6, 2) := by decide +kernel
theorem dX0_choose_44 : decode cX0_choose 44 = .ok (.aload_n 0, 1) := by decide +kernel
theorem dX0_choose_45 : decode cX0_choose 45 = .ok (.getfield 15, 3) := by decide +kernel
theorem dX0_choose_48 : decode cX0_choose 48 = .ok (.if_icmp .ge 49, 3) := by decide +kernel
theorem dX0_choose_51 : decode cX0_choose 51 = .ok (.aload_n 0, 1) := by decide +kernel
theorem dX0_choose_52 : decode cX0_choose 52 = .ok (.getfield 47, 3) := by decide +kernel
theorem dX0_choose_55 : decode cX0_choose 55 = .ok (.aload_n 0, 1) := by decide +kernel
theorem dX0_choose_56 : decode cX0_choose 56 = .ok (.getfield 9, 3) := by decide +kernel
theorem dX0_choose_59 : decode cX0_choose 59 = .ok (.iload 6, 2) := by decide +kernel
theorem dX0_choose_61 : decode cX0_choose 61 = .ok (.iaload, 1) := by decide +kernel
theorem dX0_choose_62 : decode cX0_choose 62 = .ok (.ishr, 1) := by decide +kernel
theorem dX0_choose_63 : decode cX0_choose 63 = .ok (.iconst 1, 1) := by decide +kernel
theorem dX0_choose_64 : decode cX0_choose 64 = .ok (.iand, 1) := by decide +kernel
theorem dX0_choose_65 : decode cX0_choose 65 = .ok (.iconst 1, 1) := by decide +kernel
theorem dX0_choose_66 : decode cX0_choose 66 = .ok (.if_icmp .ne 25, 3) := by decide +kernel
theorem dX0_choose_69 : decode cX0_choose 69 = .ok (.iload 5, 2) := by decide +kernel
theorem dX0_choose_71 : decode cX0_choose 71 = .ok (.ifCond .ne 17, 3) := by decide +kernel
theorem dX0_choose_74 : decode cX0_choose 74 = .ok (.aload_n 0, 1) := by decide +kernel
theorem dX0_choose_75 : decode cX0_choose 75 = .ok (.aload_n 0, 1) := by decide +kernel
theorem dX0_choose_76 : decode cX0_choose 76 = .ok (.getfield 9, 3) := by decide +kernel
theorem dX0_choose_79 : decode cX0_choose 79 = .ok (.iload 6, 2) := by decide +kernel
theorem dX0_choose_81 : decode cX0_choose 81 = .ok (.iaload, 1) := by decide +kernel
theorem dX0_choose_82 : decode cX0_choose 82 = .ok (.putfield 91, 3) := by decide +kernel
theorem dX0_choose_85 : decode cX0_choose 85 = .ok (.goto 12, 3) := by decide +kernel
theorem dX0_choose_88 : decode cX0_choose 88 = .ok (.iinc 5 (-1), 3) := by decide +kernel
theorem dX0_choose_91 : decode cX0_choose 91 = .ok (.iinc 6 1, 3) := by decide +kernel
theorem dX0_choose_94 : decode cX0_choose 94 = .ok (.goto (-52), 3) := by decide +kernel
theorem dX0_choose_97 : decode cX0_choose 97 = .ok (.aload_n 0, 1) := by decide +kernel
theorem dX0_choose_98 : decode cX0_choose 98 = .ok (.aload_n 1, 1) := by decide +kernel
theorem dX0_choose_99 : decode cX0_choose 99 = .ok (.invokevirtual 94, 3) := by decide +kernel
theorem dX0_choose_102 : decode cX0_choose 102 = .ok (.putfield 97, 3) := by decide +kernel
theorem dX0_choose_105 : decode cX0_choose 105 = .ok (.iconst 1, 1) := by decide +kernel
theorem dX0_choose_106 : decode cX0_choose 106 = .ok (.ireturn, 1) := by decide +kernel
theorem ydX0_choose : z_yd yX0_choose 3 := ⟨by decide, by decide, by decide +kernel⟩
abbrev rmX0_choose : Room := { frames := 3, cells := 0, slots := 0, locals := 79 }
noncomputable def xX0_choose_B97 (l0 : Nat) (l1 : Nat) (h : ZH) : Option (Int32 × ZH) := (z_gu (z_is h l1 5) ((xX5_drawLeft l1 h).bind fun r99 => ((z_sF r99.2 l0 0 2 (.int r99.1)).bind fun h102 => some ((1 : Int32), h102))))
set_option maxHeartbeats 4000000 in
set_option maxRecDepth 100000 in
theorem wX0_choose_B97 {Γ : ZG} {p : Program} {l : Launch} {e : Env} {s : State} {m : MethodId} {args : Array Value} {below : List Frame} {meth : Method} {c : Code} (hO : z_OK Γ) (G : z_GG Γ p s m args meth c cX0_choose 7 RX0) (hr : meth.sig.returnType = (some .boolean)) (hnm : meth.name = "choose") {r : (Int32 × ZH)} : ∀ (l0 : Nat) (l1 : Nat) (h : ZH), xX0_choose_B97  l0 l1 h = some r → z_W Γ p l e rmX0_choose s m args below meth c 7 0 0 (MQ below (z_Qc Γ (some (.int r.1)) r.2) args s rmX0_choose.cells rmX0_choose.slots (z_A Γ)) 97 [(0, .ref l0), (1, .ref l1)] [] h := by
  intro l0 l1 h hX
  refine z_aload_n (pc := 97) G 0 dX0_choose_97 rfl rfl ?_
  refine z_aload_n (pc := 98) G 1 dX0_choose_98 rfl rfl ?_
  obtain ⟨hi99, hX⟩ := z_gu_s hX
  obtain ⟨r99, hv99, hX⟩ := z_bd hX
  refine z_cVI (pc := 99) (As := []) (c2 := 0) (s2 := 0) G kK5 (lX5_drawLeft hO hv99) hi99 kt_883 kt_4 kt_880 kt_881 kt_882 ydX5_drawLeft ⟨by decide, by decide⟩ rfl (Nat.le_of_ble_eq_true rfl) ⟨rfl, rfl⟩ ⟨by decide, by decide⟩ rfl dX0_choose_99 ?_
  obtain ⟨h102, hv102, hX⟩ := z_bd hX
  refine z_putF (pc := 102) G kK0 (k := 2) (by decide) kt_288 (Or.inl rfl) rfl rfl dX0_choose_102 hv102 ?_
  refine z_iconst (pc := 105) (v := 1) G dX0_choose_105 (by decide) ?_
  exact z_zretX (pc := 106) hX G hr rfl dX0_choose_106 (by decide) (by decide)
noncomputable def xX0_choose_B74 (l0 : Nat) (l1 : Nat) (l6 : Int32) (h : ZH) : Option (Int32 × ZH) := ((z_gR h l0 0 3).bind fun x76 => ((z_aI h x76 l6).bind fun x81 => ((z_sF h l0 0 1 (.int x81)).bind fun h82 => xX0_choose_B97 l0 l1 h82)))
set_option maxHeartbeats 4000000 in
set_option maxRecDepth 100000 in
theorem wX0_choose_B74 {Γ : ZG} {p : Program} {l : Launch} {e : Env} {s : State} {m : MethodId} {args : Array Value} {below : List Frame} {meth : Method} {c : Code} (hO : z_OK Γ) (G : z_GG Γ p s m args meth c cX0_choose 7 RX0) (hr : meth.sig.returnType = (some .boolean)) (hnm : meth.name = "choose") {r : (Int32 × ZH)} : ∀ (l0 : Nat) (l1 : Nat) (l6 : Int32) (h : ZH), xX0_choose_B74  l0 l1 l6 h = some r → z_W Γ p l e rmX0_choose s m args below meth c 7 0 0 (MQ below (z_Qc Γ (some (.int r.1)) r.2) args s rmX0_choose.cells rmX0_choose.slots (z_A Γ)) 74 [(0, .ref l0), (1, .ref l1), (6, .int l6)] [] h := by
  intro l0 l1 l6 h hX
  refine z_aload_n (pc := 74) G 0 dX0_choose_74 rfl rfl ?_
  refine z_aload_n (pc := 75) G 0 dX0_choose_75 rfl rfl ?_
  obtain ⟨x76, hv76, hX⟩ := z_bd hX
  refine z_getR (pc := 76) G kK0 (k := 3) (by decide) kt_289 dX0_choose_76 hv76 ?_
  refine z_iload (pc := 79) G 2 dX0_choose_79 rfl ?_
  obtain ⟨x81, hv81, hX⟩ := z_bd hX
  refine z_iald (pc := 81) G dX0_choose_81 hv81 ?_
  obtain ⟨h82, hv82, hX⟩ := z_bd hX
  refine z_putF (pc := 82) G kK0 (k := 1) (by decide) kt_286 (Or.inl rfl) rfl rfl dX0_choose_82 hv82 ?_
  refine z_goto (pc := 85) (tgt := 97) G dX0_choose_85 (by decide) ?_
  refine z_drop (lv2 := [(0, .ref l0), (1, .ref l1)]) [0, 1] rfl ?_
  exact wX0_choose_B97 hO G hr hnm _ _ _ hX
noncomputable def xX0_choose_B42 (r42 : Nat → Nat → Int32 → Int32 → ZH → Option (Int32 × ZH)) (l0 : Nat) (l1 : Nat) (l5 : Int32) (l6 : Int32) (h : ZH) : Option (Int32 × ZH) := ((z_gI h l0 0 4).bind fun x45 => (if x45 ≤ l6 then xX0_choose_B97 l0 l1 h else ((z_gI h l0 0 0).bind fun x52 => ((z_gR h l0 0 3).bind fun x56 => ((z_aI h x56 l6).bind fun x61 => (if ((x52 >>> (x61 &&& 31)) &&& (1 : Int32)) = (1 : Int32) then (if l5 = 0 then xX0_choose_B74 l0 l1 l6 h else r42 l0 l1 (l5 + (-1)) (l6 + 1) h) else r42 l0 l1 l5 (l6 + 1) h))))))
noncomputable def xX0_choose_L42 (n : Nat) : Nat → Nat → Int32 → Int32 → ZH → Option (Int32 × ZH) := Nat.rec (motive := fun _ => Nat → Nat → Int32 → Int32 → ZH → Option (Int32 × ZH)) (fun _ _ _ _ _ => none) (fun _ rec => xX0_choose_B42  rec) n
set_option maxHeartbeats 4000000 in
set_option maxRecDepth 100000 in
theorem wX0_choose_B42 {Γ : ZG} {p : Program} {l : Launch} {e : Env} {s : State} {m : MethodId} {args : Array Value} {below : List Frame} {meth : Method} {c : Code} (hO : z_OK Γ) (G : z_GG Γ p s m args meth c cX0_choose 7 RX0) (hr : meth.sig.returnType = (some .boolean)) (hnm : meth.name = "choose") {r : (Int32 × ZH)} {r42 : Nat → Nat → Int32 → Int32 → ZH → Option (Int32 × ZH)} (H42 : ∀ (l0 : Nat) (l1 : Nat) (l5 : Int32) (l6 : Int32) (h : ZH), r42 l0 l1 l5 l6 h = some r → z_W Γ p l e rmX0_choose s m args below meth c 7 0 0 (MQ below (z_Qc Γ (some (.int r.1)) r.2) args s rmX0_choose.cells rmX0_choose.slots (z_A Γ)) 42 [(0, .ref l0), (1, .ref l1), (5, .int l5), (6, .int l6)] [] h) : ∀ (l0 : Nat) (l1 : Nat) (l5 : Int32) (l6 : Int32) (h : ZH), xX0_choose_B42  r42 l0 l1 l5 l6 h = some r → z_W Γ p l e rmX0_choose s m args below meth c 7 0 0 (MQ below (z_Qc Γ (some (.int r.1)) r.2) args s rmX0_choose.cells rmX0_choose.slots (z_A Γ)) 42 [(0, .ref l0), (1, .ref l1), (5, .int l5), (6, .int l6)] [] h := by
  intro l0 l1 l5 l6 h hX
  refine z_iload (pc := 42) G 3 dX0_choose_42 rfl ?_
  refine z_aload_n (pc := 44) G 0 dX0_choose_44 rfl rfl ?_
  obtain ⟨x45, hv45, hX⟩ := z_bd hX
  refine z_getI (pc := 45) G kK0 (k := 4) (by decide) kt_290 dX0_choose_45 hv45 ?_
  refine z_icmp_ge (pc := 48) (tgt := 97) G dX0_choose_48 (by decide) (fun hc48 => ?_) (fun hc48 => ?_)
  · have hX := z_it hc48 hX
    refine z_drop (lv2 := [(0, .ref l0), (1, .ref l1)]) [0, 1] rfl ?_
    exact wX0_choose_B97 hO G hr hnm _ _ _ hX
  · have hX := z_if hc48 hX
    refine z_aload_n (pc := 51) G 0 dX0_choose_51 rfl rfl ?_
    obtain ⟨x52, hv52, hX⟩ := z_bd hX
    refine z_getI (pc := 52) G kK0 (k := 0) (by decide) kt_283 dX0_choose_52 hv52 ?_
    refine z_aload_n (pc := 55) G 0 dX0_choose_55 rfl rfl ?_
    obtain ⟨x56, hv56, hX⟩ := z_bd hX
    refine z_getR (pc := 56) G kK0 (k := 3) (by decide) kt_289 dX0_choose_56 hv56 ?_
    refine z_iload (pc := 59) G 3 dX0_choose_59 rfl ?_
    obtain ⟨x61, hv61, hX⟩ := z_bd hX
    refine z_iald (pc := 61) G dX0_choose_61 hv61 ?_
    refine z_ishr (pc := 62) G dX0_choose_62 ?_
    refine z_iconst (pc := 63) (v := 1) G dX0_choose_63 (by decide) ?_
    refine z_iand (pc := 64) G dX0_choose_64 ?_
    refine z_iconst (pc := 65) (v := 1) G dX0_choose_65 (by decide) ?_
    refine z_icmp_ne (pc := 66) (tgt := 91) G dX0_choose_66 (by decide) (fun hc66 => ?_) (fun hc66 => ?_)
    · have hX := z_if hc66 hX
      refine z_iincw (pc := 91) (w := 1) (lv2 := [(0, .ref l0), (1, .ref l1), (5, .int l5), (6, .int (l6 + 1))]) G 3 dX0_choose_91 rfl (by decide) (by decide) rfl rfl ?_
      refine z_goto (pc := 94) (tgt := 42) G dX0_choose_94 (by decide) ?_
      exact H42 _ _ _ _ _ hX
    · have hX := z_it hc66 hX
      refine z_iload (pc := 69) G 2 dX0_choose_69 rfl ?_
      refine z_if_ne (pc := 71) (tgt := 88) G dX0_choose_71 (by decide) (fun hc71 => ?_) (fun hc71 => ?_)
      · have hX := z_if hc71 hX
        refine z_iincw (pc := 88) (w := (-1)) (lv2 := [(0, .ref l0), (1, .ref l1), (5, .int (l5 + (-1))), (6, .int l6)]) G 2 dX0_choose_88 rfl (by decide) (by decide) rfl rfl ?_
        refine z_iincw (pc := 91) (w := 1) (lv2 := [(0, .ref l0), (1, .ref l1), (5, .int (l5 + (-1))), (6, .int (l6 + 1))]) G 3 dX0_choose_91 rfl (by decide) (by decide) rfl rfl ?_
        refine z_goto (pc := 94) (tgt := 42) G dX0_choose_94 (by decide) ?_
        exact H42 _ _ _ _ _ hX
      · have hX := z_it hc71 hX
        refine z_drop (lv2 := [(0, .ref l0), (1, .ref l1), (6, .int l6)]) [0, 1, 3] rfl ?_
        exact wX0_choose_B74 hO G hr hnm _ _ _ _ hX
set_option maxHeartbeats 4000000 in
set_option maxRecDepth 100000 in
theorem wX0_choose_L42 {Γ : ZG} {p : Program} {l : Launch} {e : Env} {s : State} {m : MethodId} {args : Array Value} {below : List Frame} {meth : Method} {c : Code} (hO : z_OK Γ) (G : z_GG Γ p s m args meth c cX0_choose 7 RX0) (hr : meth.sig.returnType = (some .boolean)) (hnm : meth.name = "choose") {r : (Int32 × ZH)} : ∀ (nn : Nat) (l0 : Nat) (l1 : Nat) (l5 : Int32) (l6 : Int32) (h : ZH), xX0_choose_L42  nn l0 l1 l5 l6 h = some r → z_W Γ p l e rmX0_choose s m args below meth c 7 0 0 (MQ below (z_Qc Γ (some (.int r.1)) r.2) args s rmX0_choose.cells rmX0_choose.slots (z_A Γ)) 42 [(0, .ref l0), (1, .ref l1), (5, .int l5), (6, .int l6)] [] h := by
  intro nn
  induction nn with
  | zero => intro l0 l1 l5 l6 h hX; cases hX
  | succ nn ih => intro l0 l1 l5 l6 h hX; exact wX0_choose_B42 hO G hr hnm  ih l0 l1 l5 l6 h hX
noncomputable def xX0_choose (l0 : Nat) (l1 : Nat) (l2 : Int32) (l3 : Int32) (h : ZH) : Option (Int32 × ZH) := ((z_gR h l1 5 0).bind fun x5 => ((z_gI h x5 2 2).bind fun x8 => (z_gu (z_is h l0 0) ((xX0_look l0 l1 l2 l3 x8 h).bind fun h11 => ((z_gI h11 l0 0 0).bind fun x15 => ((xJ6_bitCount_0f7a4 x15 h11).bind fun r18 => (if r18.1 = 0 then some ((0 : Int32), r18.2) else (z_gu (z_is r18.2 l1 5) ((xX5_drawSeed l1 r18.2).bind fun r31 => (if r18.1 = 0 then none else xX0_choose_L42 zFU l0 l1 (r31.1 - r31.1 / r18.1 * r18.1) (0 : Int32) r31.2))))))))))
set_option maxHeartbeats 4000000 in
set_option maxRecDepth 100000 in
theorem lX0_choose {Γ : ZG} {l : Launch} (hO : z_OK Γ) {l0 : Nat} {l1 : Nat} {l2 : Int32} {l3 : Int32} {h : ZH} {r : (Int32 × ZH)} (hX : xX0_choose l0 l1 l2 l3 h = some r) : z_M Γ l yX0_choose (z_ws1 yX0_choose cX0_choose 7 (some .boolean)) rmX0_choose [.ref l0, .ref l1, .int l2, .int l3] h (some (.int r.1)) r.2 := by
  refine z_start hO (plainFor_of_name (by decide)) (Nat.le_of_ble_eq_true rfl) ?_
  intro p e s m args below meth c G hr hnm
  refine z_lvc (lv2 := [(0, .ref l0), (1, .ref l1), (2, .int l2), (3, .int l3)]) rfl ?_
  refine z_aload_n (pc := 0) G 0 dX0_choose_0 rfl rfl ?_
  refine z_aload_n (pc := 1) G 1 dX0_choose_1 rfl rfl ?_
  refine z_iload_n (pc := 2) G 2 dX0_choose_2 rfl rfl ?_
  refine z_iload_n (pc := 3) G 3 dX0_choose_3 rfl rfl ?_
  refine z_aload_n (pc := 4) G 1 dX0_choose_4 rfl rfl ?_
  obtain ⟨x5, hv5, hX⟩ := z_bd hX
  refine z_getR (pc := 5) G kK5 (k := 0) (by decide) kt_189 dX0_choose_5 hv5 ?_
  obtain ⟨x8, hv8, hX⟩ := z_bd hX
  refine z_getI (pc := 8) G kK2 (k := 2) (by decide) kt_52 dX0_choose_8 hv8 ?_
  obtain ⟨hi11, hX⟩ := z_gu_s hX
  obtain ⟨h11, hv11, hX⟩ := z_bd hX
  refine z_cVV (pc := 11) (As := [.ref l1, .int l2, .int l3, .int x8]) (c2 := 0) (s2 := 0) G kK0 (lX0_look hO hv11) hi11 kt_859 kt_5 kt_856 kt_857 kt_858 ydX0_look ⟨by decide, by decide⟩ rfl (Nat.le_of_ble_eq_true rfl) ⟨rfl, rfl⟩ ⟨by decide, by decide⟩ rfl dX0_choose_11 ?_
  refine z_aload_n (pc := 14) G 0 dX0_choose_14 rfl rfl ?_
  obtain ⟨x15, hv15, hX⟩ := z_bd hX
  refine z_getI (pc := 15) G kK0 (k := 0) (by decide) kt_283 dX0_choose_15 hv15 ?_
  obtain ⟨r18, hv18, hX⟩ := z_bd hX
  refine z_cSI (pc := 18) (As := [.int x15]) (c2 := 0) (s2 := 0) G (lJ6_bitCount_0f7a4 hO hv18) kt_751 kt_18 kt_873 kt_750 ydJ6_bitCount_0f7a4 ⟨by decide, by decide⟩ rfl (Nat.le_of_ble_eq_true rfl) ⟨rfl, rfl⟩ ⟨by decide, by decide⟩ rfl dX0_choose_18 ?_
  refine z_istore (pc := 21) (lv2 := [(0, .ref l0), (1, .ref l1), (2, .int l2), (3, .int l3), (4, .int r18.1)]) G dX0_choose_21 (by decide) rfl rfl ?_
  refine z_iload (pc := 23) G 4 dX0_choose_23 rfl ?_
  refine z_if_ne (pc := 25) (tgt := 30) G dX0_choose_25 (by decide) (fun hc25 => ?_) (fun hc25 => ?_)
  · have hX := z_if hc25 hX
    refine z_aload_n (pc := 30) G 1 dX0_choose_30 rfl rfl ?_
    obtain ⟨hi31, hX⟩ := z_gu_s hX
    obtain ⟨r31, hv31, hX⟩ := z_bd hX
    refine z_cVI (pc := 31) (As := []) (c2 := 0) (s2 := 0) G kK5 (lX5_drawSeed hO hv31) hi31 kt_851 kt_4 kt_879 kt_849 kt_850 ydX5_drawSeed ⟨by decide, by decide⟩ rfl (Nat.le_of_ble_eq_true rfl) ⟨rfl, rfl⟩ ⟨by decide, by decide⟩ rfl dX0_choose_31 ?_
    refine z_iload (pc := 34) G 4 dX0_choose_34 rfl ?_
    obtain ⟨hn36, hX⟩ := z_ng hX
    refine z_irem (pc := 36) G dX0_choose_36 hn36 ?_
    refine z_istore (pc := 37) (lv2 := [(0, .ref l0), (1, .ref l1), (2, .int l2), (3, .int l3), (4, .int r18.1), (5, .int (r31.1 - r31.1 / r18.1 * r18.1))]) G dX0_choose_37 (by decide) rfl rfl ?_
    refine z_iconst (pc := 39) (v := 0) G dX0_choose_39 (by decide) ?_
    refine z_istore (pc := 40) (lv2 := [(0, .ref l0), (1, .ref l1), (2, .int l2), (3, .int l3), (4, .int r18.1), (5, .int (r31.1 - r31.1 / r18.1 * r18.1)), (6, .int (0 : Int32))]) G dX0_choose_40 (by decide) rfl rfl ?_
    refine z_drop (lv2 := [(0, .ref l0), (1, .ref l1), (5, .int (r31.1 - r31.1 / r18.1 * r18.1)), (6, .int (0 : Int32))]) [0, 1, 5, 6] rfl ?_
    exact wX0_choose_L42 hO G hr hnm zFU _ _ _ _ _ hX
  · have hX := z_it hc25 hX
    refine z_iconst (pc := 28) (v := 0) G dX0_choose_28 (by decide) ?_
    exact z_zretX (pc := 29) hX G hr rfl dX0_choose_29 (by decide) (by decide)
theorem dX1_init_0 : decode cX1_init 0 = .ok (.aload_n 0, 1) := by decide +kernel
theorem dX1_init_1 : decode cX1_init 1 = .ok (.invokespecial 1, 3) := by decide +kernel
theorem dX1_init_4 : decode cX1_init 4 = .ok (.aload_n 0, 1) := by decide +kernel
theorem dX1_init_5 : decode cX1_init 5 = .ok (.bipush 40, 2) := by decide +kernel
theorem dX1_init_7 : decode cX1_init 7 = .ok (.anewarray 9, 3) := by decide +kernel
theorem dX1_init_10 : decode cX1_init 10 = .ok (.putfield 11, 3) := by decide +kernel
theorem dX1_init_13 : decode cX1_init 13 = .ok (.aload_n 0, 1) := by decide +kernel
theorem dX1_init_14 : decode cX1_init 14 = .ok (.aload_n 1, 1) := by decide +kernel
theorem dX1_init_15 : decode cX1_init 15 = .ok (.putfield 15, 3) := by decide +kernel
theorem dX1_init_18 : decode cX1_init 18 = .ok (.return_, 1) := by decide +kernel
theorem ydX1_init : z_yd yX1_init 1 := ⟨by decide, by decide, by decide +kernel⟩
abbrev rmX1_init : Room := { frames := 1, cells := 1, slots := 40, locals := 12 }
noncomputable def xX1_init (l0 : Nat) (l1 : Nat) (h : ZH) : Option ZH := ((z_nw h (.inr (.inr (.inr (List.replicate 40 none))))).bind fun q7 => ((z_sF q7.2 l0 1 1 (.ref q7.1)).bind fun h10 => ((z_sF h10 l0 1 0 (.ref l1)).bind fun h15 => some h15)))
set_option maxHeartbeats 4000000 in
set_option maxRecDepth 100000 in
theorem lX1_init {Γ : ZG} {l : Launch} (hO : z_OK Γ) {l0 : Nat} {l1 : Nat} {h : ZH} {r : ZH} (hX : xX1_init l0 l1 h = some r) : z_M Γ l yX1_init (z_ws1 yX1_init cX1_init 2 none) rmX1_init [.ref l0, .ref l1] h none r := by
  refine z_start hO (plainFor_of_name (by decide)) (Nat.le_of_ble_eq_true rfl) ?_
  intro p e s m args below meth c G hr hnm
  refine z_lvc (lv2 := [(0, .ref l0), (1, .ref l1)]) rfl ?_
  refine z_aload_n (pc := 0) G 0 dX1_init_0 rfl rfl ?_
  refine z_obj (pc := 1) G kt_347 kt_25 kt_26 (by decide) (Nat.le_of_ble_eq_true rfl) dX1_init_1 ?_
  refine z_aload_n (pc := 4) G 0 dX1_init_4 rfl rfl ?_
  refine z_bipush (pc := 5) (v := 40) G dX1_init_5 (by decide) ?_
  obtain ⟨q7, hv7, hX⟩ := z_bd hX
  refine z_nQ (pc := 7) (N := 40) (c2 := 1) (s2 := 40) G kt_348 (by decide) (by decide) (by decide) ⟨rfl, rfl⟩ ⟨by decide, by decide⟩ dX1_init_7 hv7 ?_
  obtain ⟨h10, hv10, hX⟩ := z_bd hX
  refine z_putF (pc := 10) G kK1 (k := 1) (by decide) kt_351 (Or.inr ⟨rfl, hnm, rfl⟩) rfl rfl dX1_init_10 hv10 ?_
  refine z_aload_n (pc := 13) G 0 dX1_init_13 rfl rfl ?_
  refine z_aload_n (pc := 14) G 1 dX1_init_14 rfl rfl ?_
  obtain ⟨h15, hv15, hX⟩ := z_bd hX
  refine z_putF (pc := 15) G kK1 (k := 0) (by decide) kt_350 (Or.inr ⟨rfl, hnm, rfl⟩) rfl rfl dX1_init_15 hv15 ?_
  exact z_vretX (pc := 18) hX G hr dX1_init_18 (by decide) (by decide)
theorem dX1_forget_0 : decode cX1_forget 0 = .ok (.aload_n 0, 1) := by decide +kernel
theorem dX1_forget_1 : decode cX1_forget 1 = .ok (.iconst 0, 1) := by decide +kernel
theorem dX1_forget_2 : decode cX1_forget 2 = .ok (.putfield 19, 3) := by decide +kernel
theorem dX1_forget_5 : decode cX1_forget 5 = .ok (.aload_n 0, 1) := by decide +kernel
theorem dX1_forget_6 : decode cX1_forget 6 = .ok (.iconst 0, 1) := by decide +kernel
theorem dX1_forget_7 : decode cX1_forget 7 = .ok (.putfield 23, 3) := by decide +kernel
theorem dX1_forget_10 : decode cX1_forget 10 = .ok (.return_, 1) := by decide +kernel
theorem ydX1_forget : z_yd yX1_forget 0 := ⟨by decide, by decide, by decide +kernel⟩
abbrev rmX1_forget : Room := { frames := 0, cells := 0, slots := 0, locals := 0 }
noncomputable def xX1_forget (l0 : Nat) (h : ZH) : Option ZH := ((z_sF h l0 1 2 (.int (0 : Int32))).bind fun h2 => ((z_sF h2 l0 1 3 (.int (0 : Int32))).bind fun h7 => some h7))
set_option maxHeartbeats 4000000 in
set_option maxRecDepth 100000 in
theorem lX1_forget {Γ : ZG} {l : Launch} (hO : z_OK Γ) {l0 : Nat} {h : ZH} {r : ZH} (hX : xX1_forget l0 h = some r) : z_M Γ l yX1_forget (z_ws1 yX1_forget cX1_forget 1 none) rmX1_forget [.ref l0] h none r := by
  refine z_start hO (plainFor_of_name (by decide)) (Nat.le_of_ble_eq_true rfl) ?_
  intro p e s m args below meth c G hr hnm
  refine z_lvc (lv2 := [(0, .ref l0)]) rfl ?_
  refine z_aload_n (pc := 0) G 0 dX1_forget_0 rfl rfl ?_
  refine z_iconst (pc := 1) (v := 0) G dX1_forget_1 (by decide) ?_
  obtain ⟨h2, hv2, hX⟩ := z_bd hX
  refine z_putF (pc := 2) G kK1 (k := 2) (by decide) kt_352 (Or.inl rfl) rfl rfl dX1_forget_2 hv2 ?_
  refine z_aload_n (pc := 5) G 0 dX1_forget_5 rfl rfl ?_
  refine z_iconst (pc := 6) (v := 0) G dX1_forget_6 (by decide) ?_
  obtain ⟨h7, hv7, hX⟩ := z_bd hX
  refine z_putF (pc := 7) G kK1 (k := 3) (by decide) kt_354 (Or.inl rfl) rfl rfl dX1_forget_7 hv7 ?_
  exact z_vretX (pc := 10) hX G hr dX1_forget_10 (by decide) (by decide)
theorem dX1_dropOldest_0 : decode cX1_dropOldest 0 = .ok (.aload_n 0, 1) := by decide +kernel
theorem dX1_dropOldest_1 : decode cX1_dropOldest 1 = .ok (.getfield 11, 3) := by decide +kernel
theorem dX1_dropOldest_4 : decode cX1_dropOldest 4 = .ok (.iconst 0, 1) := by decide +kernel
theorem dX1_dropOldest_5 : decode cX1_dropOldest 5 = .ok (.aaload, 1) := by decide +kernel
theorem dX1_dropOldest_6 : decode cX1_dropOldest 6 = .ok (.astore_n 1, 1) := by decide +kernel
theorem dX1_dropOldest_7 : decode cX1_dropOldest 7 = .ok (.iconst 1, 1) := by decide +kernel
theorem dX1_dropOldest_8 : decode cX1_dropOldest 8 = .ok (.istore_n 2, 1) := by decide +kernel
theorem dX1_dropOldest_9 : decode cX1_dropOldest 9 = .ok (.iload_n 2, 1) := by decide +kernel
theorem dX1_dropOldest_10 : decode cX1_dropOldest 10 = .ok (.bipush 40, 2) := by decide +kernel
theorem dX1_dropOldest_12 : decode cX1_dropOldest 12 = .ok (.if_icmp .ge 23, 3) := by decide +kernel
theorem dX1_dropOldest_15 : decode cX1_dropOldest 15 = .ok (.aload_n 0, 1) := by decide +kernel
theorem dX1_dropOldest_16 : decode cX1_dropOldest 16 = .ok (.getfield 11, 3) := by decide +kernel
theorem dX1_dropOldest_19 : decode cX1_dropOldest 19 = .ok (.iload_n 2, 1) := by decide +kernel
theorem dX1_dropOldest_20 : decode cX1_dropOldest 20 = .ok (.iconst 1, 1) := by decide +kernel
theorem dX1_dropOldest_21 : decode cX1_dropOldest 21 = .ok (.isub, 1) := by decide +kernel
theorem dX1_dropOldest_22 : decode cX1_dropOldest 22 = .ok (.aload_n 0, 1) := by decide +kernel
theorem dX1_dropOldest_23 : decode cX1_dropOldest 23 = .ok (.getfield 11, 3) := by decide +kernel
theorem dX1_dropOldest_26 : decode cX1_dropOldest 26 = .ok (.iload_n 2, 1) := by decide +kernel
theorem dX1_dropOldest_27 : decode cX1_dropOldest 27 = .ok (.aaload, 1) := by decide +kernel
theorem dX1_dropOldest_28 : decode cX1_dropOldest 28 = .ok (.aastore, 1) := by decide +kernel
theorem dX1_dropOldest_29 : decode cX1_dropOldest 29 = .ok (.iinc 2 1, 3) := by decide +kernel
theorem dX1_dropOldest_32 : decode cX1_dropOldest 32 = .ok (.goto (-23), 3) := by decide +kernel
theorem dX1_dropOldest_35 : decode cX1_dropOldest 35 = .ok (.aload_n 0, 1) := by decide +kernel
theorem dX1_dropOldest_36 : decode cX1_dropOldest 36 = .ok (.getfield 11, 3) := by decide +kernel
theorem dX1_dropOldest_39 : decode cX1_dropOldest 39 = .ok (.bipush 39, 2) := by decide +kernel
theorem dX1_dropOldest_41 : decode cX1_dropOldest 41 = .ok (.aload_n 1, 1) := by decide +kernel
theorem dX1_dropOldest_42 : decode cX1_dropOldest 42 = .ok (.aastore, 1) := by decide +kernel
theorem dX1_dropOldest_43 : decode cX1_dropOldest 43 = .ok (.aload_n 0, 1) := by decide +kernel
theorem dX1_dropOldest_44 : decode cX1_dropOldest 44 = .ok (.dup, 1) := by decide +kernel
theorem dX1_dropOldest_45 : decode cX1_dropOldest 45 = .ok (.getfield 19, 3) := by decide +kernel
theorem dX1_dropOldest_48 : decode cX1_dropOldest 48 = .ok (.iconst 1, 1) := by decide +kernel
theorem dX1_dropOldest_49 : decode cX1_dropOldest 49 = .ok (.isub, 1) := by decide +kernel
theorem dX1_dropOldest_50 : decode cX1_dropOldest 50 = .ok (.putfield 19, 3) := by decide +kernel
theorem dX1_dropOldest_53 : decode cX1_dropOldest 53 = .ok (.return_, 1) := by decide +kernel
theorem ydX1_dropOldest : z_yd yX1_dropOldest 0 := ⟨by decide, by decide, by decide +kernel⟩
abbrev rmX1_dropOldest : Room := { frames := 0, cells := 0, slots := 0, locals := 0 }
noncomputable def xX1_dropOldest_B35 (l0 : Nat) (l1 : Nat) (h : ZH) : Option ZH := ((z_gR h l0 1 1).bind fun x36 => ((z_uQ h x36 (39 : Int32) l1).bind fun h42 => ((z_gI h42 l0 1 2).bind fun x45 => ((z_sF h42 l0 1 2 (.int (x45 - (1 : Int32)))).bind fun h50 => some h50))))
set_option maxHeartbeats 4000000 in
set_option maxRecDepth 100000 in
theorem wX1_dropOldest_B35 {Γ : ZG} {p : Program} {l : Launch} {e : Env} {s : State} {m : MethodId} {args : Array Value} {below : List Frame} {meth : Method} {c : Code} (hO : z_OK Γ) (G : z_GG Γ p s m args meth c cX1_dropOldest 3 RX1) (hr : meth.sig.returnType = none) (hnm : meth.name = "dropOldest") {r : ZH} : ∀ (l0 : Nat) (l1 : Nat) (h : ZH), xX1_dropOldest_B35  l0 l1 h = some r → z_W Γ p l e rmX1_dropOldest s m args below meth c 3 0 0 (MQ below (z_Qc Γ none r) args s rmX1_dropOldest.cells rmX1_dropOldest.slots (z_A Γ)) 35 [(0, .ref l0), (1, .ref l1)] [] h := by
  intro l0 l1 h hX
  refine z_aload_n (pc := 35) G 0 dX1_dropOldest_35 rfl rfl ?_
  obtain ⟨x36, hv36, hX⟩ := z_bd hX
  refine z_getR (pc := 36) G kK1 (k := 1) (by decide) kt_351 dX1_dropOldest_36 hv36 ?_
  refine z_bipush (pc := 39) (v := 39) G dX1_dropOldest_39 (by decide) ?_
  refine z_aload_n (pc := 41) G 1 dX1_dropOldest_41 rfl rfl ?_
  obtain ⟨h42, hv42, hX⟩ := z_bd hX
  refine z_aast (pc := 42) G dX1_dropOldest_42 hv42 ?_
  refine z_aload_n (pc := 43) G 0 dX1_dropOldest_43 rfl rfl ?_
  refine z_dup (pc := 44) G dX1_dropOldest_44 rfl ?_
  obtain ⟨x45, hv45, hX⟩ := z_bd hX
  refine z_getI (pc := 45) G kK1 (k := 2) (by decide) kt_352 dX1_dropOldest_45 hv45 ?_
  refine z_iconst (pc := 48) (v := 1) G dX1_dropOldest_48 (by decide) ?_
  refine z_isub (pc := 49) G dX1_dropOldest_49 ?_
  obtain ⟨h50, hv50, hX⟩ := z_bd hX
  refine z_putF (pc := 50) G kK1 (k := 2) (by decide) kt_352 (Or.inl rfl) rfl rfl dX1_dropOldest_50 hv50 ?_
  exact z_vretX (pc := 53) hX G hr dX1_dropOldest_53 (by decide) (by decide)
noncomputable def xX1_dropOldest_B9 (r9 : Nat → Nat → Int32 → ZH → Option ZH) (l0 : Nat) (l1 : Nat) (l2 : Int32) (h : ZH) : Option ZH := (if (40 : Int32) ≤ l2 then xX1_dropOldest_B35 l0 l1 h else ((z_gR h l0 1 1).bind fun x16 => ((z_gR h l0 1 1).bind fun x23 => ((z_aQ h x23 l2).bind fun x27 => match x27 with | none => none | some y27 => ((z_uQ h x16 (l2 - (1 : Int32)) y27).bind fun h28 => r9 l0 l1 (l2 + 1) h28)))))
noncomputable def xX1_dropOldest_L9 (n : Nat) : Nat → Nat → Int32 → ZH → Option ZH := Nat.rec (motive := fun _ => Nat → Nat → Int32 → ZH → Option ZH) (fun _ _ _ _ => none) (fun _ rec => xX1_dropOldest_B9  rec) n
set_option maxHeartbeats 4000000 in
set_option maxRecDepth 100000 in
theorem wX1_dropOldest_B9 {Γ : ZG} {p : Program} {l : Launch} {e : Env} {s : State} {m : MethodId} {args : Array Value} {below : List Frame} {meth : Method} {c : Code} (hO : z_OK Γ) (G : z_GG Γ p s m args meth c cX1_dropOldest 3 RX1) (hr : meth.sig.returnType = none) (hnm : meth.name = "dropOldest") {r : ZH} {r9 : Nat → Nat → Int32 → ZH → Option ZH} (H9 : ∀ (l0 : Nat) (l1 : Nat) (l2 : Int32) (h : ZH), r9 l0 l1 l2 h = some r → z_W Γ p l e rmX1_dropOldest s m args below meth c 3 0 0 (MQ below (z_Qc Γ none r) args s rmX1_dropOldest.cells rmX1_dropOldest.slots (z_A Γ)) 9 [(0, .ref l0), (1, .ref l1), (2, .int l2)] [] h) : ∀ (l0 : Nat) (l1 : Nat) (l2 : Int32) (h : ZH), xX1_dropOldest_B9  r9 l0 l1 l2 h = some r → z_W Γ p l e rmX1_dropOldest s m args below meth c 3 0 0 (MQ below (z_Qc Γ none r) args s rmX1_dropOldest.cells rmX1_dropOldest.slots (z_A Γ)) 9 [(0, .ref l0), (1, .ref l1), (2, .int l2)] [] h := by
  intro l0 l1 l2 h hX
  refine z_iload_n (pc := 9) G 2 dX1_dropOldest_9 rfl rfl ?_
  refine z_bipush (pc := 10) (v := 40) G dX1_dropOldest_10 (by decide) ?_
  refine z_icmp_ge (pc := 12) (tgt := 35) G dX1_dropOldest_12 (by decide) (fun hc12 => ?_) (fun hc12 => ?_)
  · have hX := z_it hc12 hX
    refine z_drop (lv2 := [(0, .ref l0), (1, .ref l1)]) [0, 1] rfl ?_
    exact wX1_dropOldest_B35 hO G hr hnm _ _ _ hX
  · have hX := z_if hc12 hX
    refine z_aload_n (pc := 15) G 0 dX1_dropOldest_15 rfl rfl ?_
    obtain ⟨x16, hv16, hX⟩ := z_bd hX
    refine z_getR (pc := 16) G kK1 (k := 1) (by decide) kt_351 dX1_dropOldest_16 hv16 ?_
    refine z_iload_n (pc := 19) G 2 dX1_dropOldest_19 rfl rfl ?_
    refine z_iconst (pc := 20) (v := 1) G dX1_dropOldest_20 (by decide) ?_
    refine z_isub (pc := 21) G dX1_dropOldest_21 ?_
    refine z_aload_n (pc := 22) G 0 dX1_dropOldest_22 rfl rfl ?_
    obtain ⟨x23, hv23, hX⟩ := z_bd hX
    refine z_getR (pc := 23) G kK1 (k := 1) (by decide) kt_351 dX1_dropOldest_23 hv23 ?_
    refine z_iload_n (pc := 26) G 2 dX1_dropOldest_26 rfl rfl ?_
    obtain ⟨x27, hv27, hX⟩ := z_bd hX
    refine z_aald (pc := 27) G dX1_dropOldest_27 hv27 ?_
    cases x27 with
    | none =>
      cases hX
    | some y27 =>
      obtain ⟨h28, hv28, hX⟩ := z_bd hX
      refine z_aast (pc := 28) G dX1_dropOldest_28 hv28 ?_
      refine z_iincw (pc := 29) (w := 1) (lv2 := [(0, .ref l0), (1, .ref l1), (2, .int (l2 + 1))]) G 2 dX1_dropOldest_29 rfl (by decide) (by decide) rfl rfl ?_
      refine z_goto (pc := 32) (tgt := 9) G dX1_dropOldest_32 (by decide) ?_
      exact H9 _ _ _ _ hX
set_option maxHeartbeats 4000000 in
set_option maxRecDepth 100000 in
theorem wX1_dropOldest_L9 {Γ : ZG} {p : Program} {l : Launch} {e : Env} {s : State} {m : MethodId} {args : Array Value} {below : List Frame} {meth : Method} {c : Code} (hO : z_OK Γ) (G : z_GG Γ p s m args meth c cX1_dropOldest 3 RX1) (hr : meth.sig.returnType = none) (hnm : meth.name = "dropOldest") {r : ZH} : ∀ (nn : Nat) (l0 : Nat) (l1 : Nat) (l2 : Int32) (h : ZH), xX1_dropOldest_L9  nn l0 l1 l2 h = some r → z_W Γ p l e rmX1_dropOldest s m args below meth c 3 0 0 (MQ below (z_Qc Γ none r) args s rmX1_dropOldest.cells rmX1_dropOldest.slots (z_A Γ)) 9 [(0, .ref l0), (1, .ref l1), (2, .int l2)] [] h := by
  intro nn
  induction nn with
  | zero => intro l0 l1 l2 h hX; cases hX
  | succ nn ih => intro l0 l1 l2 h hX; exact wX1_dropOldest_B9 hO G hr hnm  ih l0 l1 l2 h hX
noncomputable def xX1_dropOldest (l0 : Nat) (h : ZH) : Option ZH := ((z_gR h l0 1 1).bind fun x1 => ((z_aQ h x1 (0 : Int32)).bind fun x5 => match x5 with | none => none | some y5 => xX1_dropOldest_L9 zFU l0 y5 (1 : Int32) h))
set_option maxHeartbeats 4000000 in
set_option maxRecDepth 100000 in
theorem lX1_dropOldest {Γ : ZG} {l : Launch} (hO : z_OK Γ) {l0 : Nat} {h : ZH} {r : ZH} (hX : xX1_dropOldest l0 h = some r) : z_M Γ l yX1_dropOldest (z_ws1 yX1_dropOldest cX1_dropOldest 3 none) rmX1_dropOldest [.ref l0] h none r := by
  refine z_start hO (plainFor_of_name (by decide)) (Nat.le_of_ble_eq_true rfl) ?_
  intro p e s m args below meth c G hr hnm
  refine z_lvc (lv2 := [(0, .ref l0)]) rfl ?_
  refine z_aload_n (pc := 0) G 0 dX1_dropOldest_0 rfl rfl ?_
  obtain ⟨x1, hv1, hX⟩ := z_bd hX
  refine z_getR (pc := 1) G kK1 (k := 1) (by decide) kt_351 dX1_dropOldest_1 hv1 ?_
  refine z_iconst (pc := 4) (v := 0) G dX1_dropOldest_4 (by decide) ?_
  obtain ⟨x5, hv5, hX⟩ := z_bd hX
  refine z_aald (pc := 5) G dX1_dropOldest_5 hv5 ?_
  cases x5 with
  | none =>
    cases hX
  | some y5 =>
    refine z_astore_n (pc := 6) (lv2 := [(0, .ref l0), (1, .ref y5)]) G dX1_dropOldest_6 rfl (by decide) rfl rfl ?_
    refine z_iconst (pc := 7) (v := 1) G dX1_dropOldest_7 (by decide) ?_
    refine z_istore_n (pc := 8) (lv2 := [(0, .ref l0), (1, .ref y5), (2, .int (1 : Int32))]) G dX1_dropOldest_8 rfl (by decide) rfl rfl ?_
    exact wX1_dropOldest_L9 hO G hr hnm zFU _ _ _ _ hX
theorem dX5_init_0 : decode cX5_init 0 = .ok (.aload_n 0, 1) := by decide +kernel
theorem dX5_init_1 : decode cX5_init 1 = .ok (.invokespecial 3, 3) := by decide +kernel
theorem dX5_init_4 : decode cX5_init 4 = .ok (.aload_n 0, 1) := by decide +kernel
theorem dX5_init_5 : decode cX5_init 5 = .ok (.bipush 6, 2) := by decide +kernel
theorem dX5_init_7 : decode cX5_init 7 = .ok (.newarray .int, 2) := by decide +kernel
theorem dX5_init_9 : decode cX5_init 9 = .ok (.putfield 9, 3) := by decide +kernel
theorem dX5_init_12 : decode cX5_init 12 = .ok (.aload_n 0, 1) := by decide +kernel
theorem dX5_init_13 : decode cX5_init 13 = .ok (.bipush 6, 2) := by decide +kernel
theorem dX5_init_15 : decode cX5_init 15 = .ok (.newarray .int, 2) := by decide +kernel
theorem dX5_init_17 : decode cX5_init 17 = .ok (.putfield 15, 3) := by decide +kernel
theorem dX5_init_20 : decode cX5_init 20 = .ok (.aload_n 0, 1) := by decide +kernel
theorem dX5_init_21 : decode cX5_init 21 = .ok (.bipush 6, 2) := by decide +kernel
theorem dX5_init_23 : decode cX5_init 23 = .ok (.newarray .int, 2) := by decide +kernel
theorem dX5_init_25 : decode cX5_init 25 = .ok (.putfield 18, 3) := by decide +kernel
theorem dX5_init_28 : decode cX5_init 28 = .ok (.aload_n 0, 1) := by decide +kernel
theorem dX5_init_29 : decode cX5_init 29 = .ok (.bipush 6, 2) := by decide +kernel
theorem dX5_init_31 : decode cX5_init 31 = .ok (.newarray .int, 2) := by decide +kernel
theorem dX5_init_33 : decode cX5_init 33 = .ok (.putfield 21, 3) := by decide +kernel
theorem dX5_init_36 : decode cX5_init 36 = .ok (.aload_n 0, 1) := by decide +kernel
theorem dX5_init_37 : decode cX5_init 37 = .ok (.bipush 6, 2) := by decide +kernel
theorem dX5_init_39 : decode cX5_init 39 = .ok (.newarray .int, 2) := by decide +kernel
theorem dX5_init_41 : decode cX5_init 41 = .ok (.putfield 24, 3) := by decide +kernel
theorem dX5_init_44 : decode cX5_init 44 = .ok (.aload_n 0, 1) := by decide +kernel
theorem dX5_init_45 : decode cX5_init 45 = .ok (.bipush 18, 2) := by decide +kernel
theorem dX5_init_47 : decode cX5_init 47 = .ok (.newarray .int, 2) := by decide +kernel
theorem dX5_init_49 : decode cX5_init 49 = .ok (.putfield 27, 3) := by decide +kernel
theorem dX5_init_52 : decode cX5_init 52 = .ok (.aload_n 0, 1) := by decide +kernel
theorem dX5_init_53 : decode cX5_init 53 = .ok (.bipush 18, 2) := by decide +kernel
theorem dX5_init_55 : decode cX5_init 55 = .ok (.newarray .int, 2) := by decide +kernel
theorem dX5_init_57 : decode cX5_init 57 = .ok (.putfield 30, 3) := by decide +kernel
theorem dX5_init_60 : decode cX5_init 60 = .ok (.aload_n 0, 1) := by decide +kernel
theorem dX5_init_61 : decode cX5_init 61 = .ok (.bipush 18, 2) := by decide +kernel
theorem dX5_init_63 : decode cX5_init 63 = .ok (.newarray .int, 2) := by decide +kernel
theorem dX5_init_65 : decode cX5_init 65 = .ok (.putfield 33, 3) := by decide +kernel
theorem dX5_init_68 : decode cX5_init 68 = .ok (.aload_n 0, 1) := by decide +kernel
theorem dX5_init_69 : decode cX5_init 69 = .ok (.sipush 180, 3) := by decide +kernel
theorem dX5_init_72 : decode cX5_init 72 = .ok (.newarray .int, 2) := by decide +kernel
theorem dX5_init_74 : decode cX5_init 74 = .ok (.putfield 36, 3) := by decide +kernel
theorem dX5_init_77 : decode cX5_init 77 = .ok (.aload_n 0, 1) := by decide +kernel
theorem dX5_init_78 : decode cX5_init 78 = .ok (.sipush 180, 3) := by decide +kernel
theorem dX5_init_81 : decode cX5_init 81 = .ok (.newarray .int, 2) := by decide +kernel
theorem dX5_init_83 : decode cX5_init 83 = .ok (.putfield 39, 3) := by decide +kernel
theorem dX5_init_86 : decode cX5_init 86 = .ok (.aload_n 0, 1) := by decide +kernel
theorem dX5_init_87 : decode cX5_init 87 = .ok (.bipush 36, 2) := by decide +kernel
theorem dX5_init_89 : decode cX5_init 89 = .ok (.newarray .int, 2) := by decide +kernel
theorem dX5_init_91 : decode cX5_init 91 = .ok (.putfield 42, 3) := by decide +kernel
theorem dX5_init_94 : decode cX5_init 94 = .ok (.aload_n 0, 1) := by decide +kernel
theorem dX5_init_95 : decode cX5_init 95 = .ok (.bipush 36, 2) := by decide +kernel
theorem dX5_init_97 : decode cX5_init 97 = .ok (.newarray .int, 2) := by decide +kernel
theorem dX5_init_99 : decode cX5_init 99 = .ok (.putfield 45, 3) := by decide +kernel
theorem dX5_init_102 : decode cX5_init 102 = .ok (.aload_n 0, 1) := by decide +kernel
theorem dX5_init_103 : decode cX5_init 103 = .ok (.aload_n 1, 1) := by decide +kernel
theorem dX5_init_104 : decode cX5_init 104 = .ok (.putfield 48, 3) := by decide +kernel
theorem dX5_init_107 : decode cX5_init 107 = .ok (.return_, 1) := by decide +kernel
theorem ydX5_init : z_yd yX5_init 1 := ⟨by decide, by decide, by decide +kernel⟩
abbrev rmX5_init : Room := { frames := 1, cells := 12, slots := 516, locals := 12 }
noncomputable def xX5_init (l0 : Nat) (l1 : Nat) (h : ZH) : Option ZH := ((z_nw h (.inr (.inl (0, List.replicate 6 0)))).bind fun q7 => ((z_sF q7.2 l0 5 1 (.ref q7.1)).bind fun h9 => ((z_nw h9 (.inr (.inl (0, List.replicate 6 0)))).bind fun q15 => ((z_sF q15.2 l0 5 2 (.ref q15.1)).bind fun h17 => ((z_nw h17 (.inr (.inl (0, List.replicate 6 0)))).bind fun q23 => ((z_sF q23.2 l0 5 3 (.ref q23.1)).bind fun h25 => ((z_nw h25 (.inr (.inl (0, List.replicate 6 0)))).bind fun q31 => ((z_sF q31.2 l0 5 4 (.ref q31.1)).bind fun h33 => ((z_nw h33 (.inr (.inl (0, List.replicate 6 0)))).bind fun q39 => ((z_sF q39.2 l0 5 5 (.ref q39.1)).bind fun h41 => ((z_nw h41 (.inr (.inl (0, List.replicate 18 0)))).bind fun q47 => ((z_sF q47.2 l0 5 6 (.ref q47.1)).bind fun h49 => ((z_nw h49 (.inr (.inl (0, List.replicate 18 0)))).bind fun q55 => ((z_sF q55.2 l0 5 7 (.ref q55.1)).bind fun h57 => ((z_nw h57 (.inr (.inl (0, List.replicate 18 0)))).bind fun q63 => ((z_sF q63.2 l0 5 8 (.ref q63.1)).bind fun h65 => ((z_nw h65 (.inr (.inl (0, List.replicate 180 0)))).bind fun q72 => ((z_sF q72.2 l0 5 9 (.ref q72.1)).bind fun h74 => ((z_nw h74 (.inr (.inl (0, List.replicate 180 0)))).bind fun q81 => ((z_sF q81.2 l0 5 10 (.ref q81.1)).bind fun h83 => ((z_nw h83 (.inr (.inl (0, List.replicate 36 0)))).bind fun q89 => ((z_sF q89.2 l0 5 11 (.ref q89.1)).bind fun h91 => ((z_nw h91 (.inr (.inl (0, List.replicate 36 0)))).bind fun q97 => ((z_sF q97.2 l0 5 12 (.ref q97.1)).bind fun h99 => ((z_sF h99 l0 5 0 (.ref l1)).bind fun h104 => some h104)))))))))))))))))))))))))
set_option maxHeartbeats 4000000 in
set_option maxRecDepth 100000 in
theorem lX5_init {Γ : ZG} {l : Launch} (hO : z_OK Γ) {l0 : Nat} {l1 : Nat} {h : ZH} {r : ZH} (hX : xX5_init l0 l1 h = some r) : z_M Γ l yX5_init (z_ws1 yX5_init cX5_init 2 none) rmX5_init [.ref l0, .ref l1] h none r := by
  refine z_start hO (plainFor_of_name (by decide)) (Nat.le_of_ble_eq_true rfl) ?_
  intro p e s m args below meth c G hr hnm
  refine z_lvc (lv2 := [(0, .ref l0), (1, .ref l1)]) rfl ?_
  refine z_aload_n (pc := 0) G 0 dX5_init_0 rfl rfl ?_
  refine z_obj (pc := 1) G kt_187 kt_25 kt_26 (by decide) (Nat.le_of_ble_eq_true rfl) dX5_init_1 ?_
  refine z_aload_n (pc := 4) G 0 dX5_init_4 rfl rfl ?_
  refine z_bipush (pc := 5) (v := 6) G dX5_init_5 (by decide) ?_
  obtain ⟨q7, hv7, hX⟩ := z_bd hX
  refine z_nI (pc := 7) (atype := .int) (t := 0) (N := 6) (c2 := 1) (s2 := 6) G kt_136 rfl (by decide) rfl (fun _ z => by cases z) (by decide) (by decide) (by decide) ⟨rfl, rfl⟩ ⟨by decide, by decide⟩ dX5_init_7 hv7 ?_
  obtain ⟨h9, hv9, hX⟩ := z_bd hX
  refine z_putF (pc := 9) G kK5 (k := 1) (by decide) kt_191 (Or.inr ⟨rfl, hnm, rfl⟩) rfl rfl dX5_init_9 hv9 ?_
  refine z_aload_n (pc := 12) G 0 dX5_init_12 rfl rfl ?_
  refine z_bipush (pc := 13) (v := 6) G dX5_init_13 (by decide) ?_
  obtain ⟨q15, hv15, hX⟩ := z_bd hX
  refine z_nI (pc := 15) (atype := .int) (t := 0) (N := 6) (c2 := 2) (s2 := 12) G kt_136 rfl (by decide) rfl (fun _ z => by cases z) (by decide) (by decide) (by decide) ⟨rfl, rfl⟩ ⟨by decide, by decide⟩ dX5_init_15 hv15 ?_
  obtain ⟨h17, hv17, hX⟩ := z_bd hX
  refine z_putF (pc := 17) G kK5 (k := 2) (by decide) kt_195 (Or.inr ⟨rfl, hnm, rfl⟩) rfl rfl dX5_init_17 hv17 ?_
  refine z_aload_n (pc := 20) G 0 dX5_init_20 rfl rfl ?_
  refine z_bipush (pc := 21) (v := 6) G dX5_init_21 (by decide) ?_
  obtain ⟨q23, hv23, hX⟩ := z_bd hX
  refine z_nI (pc := 23) (atype := .int) (t := 0) (N := 6) (c2 := 3) (s2 := 18) G kt_136 rfl (by decide) rfl (fun _ z => by cases z) (by decide) (by decide) (by decide) ⟨rfl, rfl⟩ ⟨by decide, by decide⟩ dX5_init_23 hv23 ?_
  obtain ⟨h25, hv25, hX⟩ := z_bd hX
  refine z_putF (pc := 25) G kK5 (k := 3) (by decide) kt_199 (Or.inr ⟨rfl, hnm, rfl⟩) rfl rfl dX5_init_25 hv25 ?_
  refine z_aload_n (pc := 28) G 0 dX5_init_28 rfl rfl ?_
  refine z_bipush (pc := 29) (v := 6) G dX5_init_29 (by decide) ?_
  obtain ⟨q31, hv31, hX⟩ := z_bd hX
  refine z_nI (pc := 31) (atype := .int) (t := 0) (N := 6) (c2 := 4) (s2 := 24) G kt_136 rfl (by decide) rfl (fun _ z => by cases z) (by decide) (by decide) (by decide) ⟨rfl, rfl⟩ ⟨by decide, by decide⟩ dX5_init_31 hv31 ?_
  obtain ⟨h33, hv33, hX⟩ := z_bd hX
  refine z_putF (pc := 33) G kK5 (k := 4) (by decide) kt_201 (Or.inr ⟨rfl, hnm, rfl⟩) rfl rfl dX5_init_33 hv33 ?_
  refine z_aload_n (pc := 36) G 0 dX5_init_36 rfl rfl ?_
  refine z_bipush (pc := 37) (v := 6) G dX5_init_37 (by decide) ?_
  obtain ⟨q39, hv39, hX⟩ := z_bd hX
  refine z_nI (pc := 39) (atype := .int) (t := 0) (N := 6) (c2 := 5) (s2 := 30) G kt_136 rfl (by decide) rfl (fun _ z => by cases z) (by decide) (by decide) (by decide) ⟨rfl, rfl⟩ ⟨by decide, by decide⟩ dX5_init_39 hv39 ?_
  obtain ⟨h41, hv41, hX⟩ := z_bd hX
  refine z_putF (pc := 41) G kK5 (k := 5) (by decide) kt_203 (Or.inr ⟨rfl, hnm, rfl⟩) rfl rfl dX5_init_41 hv41 ?_
  refine z_aload_n (pc := 44) G 0 dX5_init_44 rfl rfl ?_
  refine z_bipush (pc := 45) (v := 18) G dX5_init_45 (by decide) ?_
  obtain ⟨q47, hv47, hX⟩ := z_bd hX
  refine z_nI (pc := 47) (atype := .int) (t := 0) (N := 18) (c2 := 6) (s2 := 48) G kt_136 rfl (by decide) rfl (fun _ z => by cases z) (by decide) (by decide) (by decide) ⟨rfl, rfl⟩ ⟨by decide, by decide⟩ dX5_init_47 hv47 ?_
  obtain ⟨h49, hv49, hX⟩ := z_bd hX
  refine z_putF (pc := 49) G kK5 (k := 6) (by decide) kt_206 (Or.inr ⟨rfl, hnm, rfl⟩) rfl rfl dX5_init_49 hv49 ?_
  refine z_aload_n (pc := 52) G 0 dX5_init_52 rfl rfl ?_
  refine z_bipush (pc := 53) (v := 18) G dX5_init_53 (by decide) ?_
  obtain ⟨q55, hv55, hX⟩ := z_bd hX
  refine z_nI (pc := 55) (atype := .int) (t := 0) (N := 18) (c2 := 7) (s2 := 66) G kt_136 rfl (by decide) rfl (fun _ z => by cases z) (by decide) (by decide) (by decide) ⟨rfl, rfl⟩ ⟨by decide, by decide⟩ dX5_init_55 hv55 ?_
  obtain ⟨h57, hv57, hX⟩ := z_bd hX
  refine z_putF (pc := 57) G kK5 (k := 7) (by decide) kt_209 (Or.inr ⟨rfl, hnm, rfl⟩) rfl rfl dX5_init_57 hv57 ?_
  refine z_aload_n (pc := 60) G 0 dX5_init_60 rfl rfl ?_
  refine z_bipush (pc := 61) (v := 18) G dX5_init_61 (by decide) ?_
  obtain ⟨q63, hv63, hX⟩ := z_bd hX
  refine z_nI (pc := 63) (atype := .int) (t := 0) (N := 18) (c2 := 8) (s2 := 84) G kt_136 rfl (by decide) rfl (fun _ z => by cases z) (by decide) (by decide) (by decide) ⟨rfl, rfl⟩ ⟨by decide, by decide⟩ dX5_init_63 hv63 ?_
  obtain ⟨h65, hv65, hX⟩ := z_bd hX
  refine z_putF (pc := 65) G kK5 (k := 8) (by decide) kt_212 (Or.inr ⟨rfl, hnm, rfl⟩) rfl rfl dX5_init_65 hv65 ?_
  refine z_aload_n (pc := 68) G 0 dX5_init_68 rfl rfl ?_
  refine z_sipush (pc := 69) (v := 180) G dX5_init_69 (by decide) ?_
  obtain ⟨q72, hv72, hX⟩ := z_bd hX
  refine z_nI (pc := 72) (atype := .int) (t := 0) (N := 180) (c2 := 9) (s2 := 264) G kt_136 rfl (by decide) rfl (fun _ z => by cases z) (by decide) (by decide) (by decide) ⟨rfl, rfl⟩ ⟨by decide, by decide⟩ dX5_init_72 hv72 ?_
  obtain ⟨h74, hv74, hX⟩ := z_bd hX
  refine z_putF (pc := 74) G kK5 (k := 9) (by decide) kt_215 (Or.inr ⟨rfl, hnm, rfl⟩) rfl rfl dX5_init_74 hv74 ?_
  refine z_aload_n (pc := 77) G 0 dX5_init_77 rfl rfl ?_
  refine z_sipush (pc := 78) (v := 180) G dX5_init_78 (by decide) ?_
  obtain ⟨q81, hv81, hX⟩ := z_bd hX
  refine z_nI (pc := 81) (atype := .int) (t := 0) (N := 180) (c2 := 10) (s2 := 444) G kt_136 rfl (by decide) rfl (fun _ z => by cases z) (by decide) (by decide) (by decide) ⟨rfl, rfl⟩ ⟨by decide, by decide⟩ dX5_init_81 hv81 ?_
  obtain ⟨h83, hv83, hX⟩ := z_bd hX
  refine z_putF (pc := 83) G kK5 (k := 10) (by decide) kt_217 (Or.inr ⟨rfl, hnm, rfl⟩) rfl rfl dX5_init_83 hv83 ?_
  refine z_aload_n (pc := 86) G 0 dX5_init_86 rfl rfl ?_
  refine z_bipush (pc := 87) (v := 36) G dX5_init_87 (by decide) ?_
  obtain ⟨q89, hv89, hX⟩ := z_bd hX
  refine z_nI (pc := 89) (atype := .int) (t := 0) (N := 36) (c2 := 11) (s2 := 480) G kt_136 rfl (by decide) rfl (fun _ z => by cases z) (by decide) (by decide) (by decide) ⟨rfl, rfl⟩ ⟨by decide, by decide⟩ dX5_init_89 hv89 ?_
  obtain ⟨h91, hv91, hX⟩ := z_bd hX
  refine z_putF (pc := 91) G kK5 (k := 11) (by decide) kt_219 (Or.inr ⟨rfl, hnm, rfl⟩) rfl rfl dX5_init_91 hv91 ?_
  refine z_aload_n (pc := 94) G 0 dX5_init_94 rfl rfl ?_
  refine z_bipush (pc := 95) (v := 36) G dX5_init_95 (by decide) ?_
  obtain ⟨q97, hv97, hX⟩ := z_bd hX
  refine z_nI (pc := 97) (atype := .int) (t := 0) (N := 36) (c2 := 12) (s2 := 516) G kt_136 rfl (by decide) rfl (fun _ z => by cases z) (by decide) (by decide) (by decide) ⟨rfl, rfl⟩ ⟨by decide, by decide⟩ dX5_init_97 hv97 ?_
  obtain ⟨h99, hv99, hX⟩ := z_bd hX
  refine z_putF (pc := 99) G kK5 (k := 12) (by decide) kt_223 (Or.inr ⟨rfl, hnm, rfl⟩) rfl rfl dX5_init_99 hv99 ?_
  refine z_aload_n (pc := 102) G 0 dX5_init_102 rfl rfl ?_
  refine z_aload_n (pc := 103) G 1 dX5_init_103 rfl rfl ?_
  obtain ⟨h104, hv104, hX⟩ := z_bd hX
  refine z_putF (pc := 104) G kK5 (k := 0) (by decide) kt_188 (Or.inr ⟨rfl, hnm, rfl⟩) rfl rfl dX5_init_104 hv104 ?_
  exact z_vretX (pc := 107) hX G hr dX5_init_107 (by decide) (by decide)
theorem dX5_copy_0 : decode cX5_copy 0 = .ok (.aload_n 1, 1) := by decide +kernel
theorem dX5_copy_1 : decode cX5_copy 1 = .ok (.getfield 9, 3) := by decide +kernel
theorem dX5_copy_4 : decode cX5_copy 4 = .ok (.iconst 0, 1) := by decide +kernel
theorem dX5_copy_5 : decode cX5_copy 5 = .ok (.aload_n 0, 1) := by decide +kernel
theorem dX5_copy_6 : decode cX5_copy 6 = .ok (.getfield 9, 3) := by decide +kernel
theorem dX5_copy_9 : decode cX5_copy 9 = .ok (.iconst 0, 1) := by decide +kernel
theorem dX5_copy_10 : decode cX5_copy 10 = .ok (.bipush 6, 2) := by decide +kernel
theorem dX5_copy_12 : decode cX5_copy 12 = .ok (.invokestatic 55, 3) := by decide +kernel
theorem dX5_copy_15 : decode cX5_copy 15 = .ok (.aload_n 1, 1) := by decide +kernel
theorem dX5_copy_16 : decode cX5_copy 16 = .ok (.getfield 15, 3) := by decide +kernel
theorem dX5_copy_19 : decode cX5_copy 19 = .ok (.iconst 0, 1) := by decide +kernel
theorem dX5_copy_20 : decode cX5_copy 20 = .ok (.aload_n 0, 1) := by decide +kernel
theorem dX5_copy_21 : decode cX5_copy 21 = .ok (.getfield 15, 3) := by decide +kernel
theorem dX5_copy_24 : decode cX5_copy 24 = .ok (.iconst 0, 1) := by decide +kernel
theorem dX5_copy_25 : decode cX5_copy 25 = .ok (.bipush 6, 2) := by decide +kernel
theorem dX5_copy_27 : decode cX5_copy 27 = .ok (.invokestatic 55, 3) := by decide +kernel
theorem dX5_copy_30 : decode cX5_copy 30 = .ok (.aload_n 1, 1) := by decide +kernel
theorem dX5_copy_31 : decode cX5_copy 31 = .ok (.getfield 18, 3) := by decide +kernel
theorem dX5_copy_34 : decode cX5_copy 34 = .ok (.iconst 0, 1) := by decide +kernel
theorem dX5_copy_35 : decode cX5_copy 35 = .ok (.aload_n 0, 1) := by decide +kernel
theorem dX5_copy_36 : decode cX5_copy 36 = .ok (.getfield 18, 3) := by decide +kernel
theorem dX5_copy_39 : decode cX5_copy 39 = .ok (.iconst 0, 1) := by decide +kernel
theorem dX5_copy_40 : decode cX5_copy 40 = .ok (.bipush 6, 2) := by decide +kernel
theorem dX5_copy_42 : decode cX5_copy 42 = .ok (.invokestatic 55, 3) := by decide +kernel
theorem dX5_copy_45 : decode cX5_copy 45 = .ok (.aload_n 1, 1) := by decide +kernel
theorem dX5_copy_46 : decode cX5_copy 46 = .ok (.getfield 21, 3) := by decide +kernel
theorem dX5_copy_49 : decode cX5_copy 49 = .ok (.iconst 0, 1) := by decide +kernel
theorem dX5_copy_50 : decode cX5_copy 50 = .ok (.aload_n 0, 1) := by decide +kernel
theorem dX5_copy_51 : decode cX5_copy 51 = .ok (.getfield 21, 3) := by decide +kernel
theorem dX5_copy_54 : decode cX5_copy 54 = .ok (.iconst 0, 1) := by decide +kernel
theorem dX5_copy_55 : decode cX5_copy 55 = .ok (.bipush 6, 2) := by decide +kernel
theorem dX5_copy_57 : decode cX5_copy 57 = .ok (.invokestatic 55, 3) := by decide +kernel
theorem dX5_copy_60 : decode cX5_copy 60 = .ok (.aload_n 1, 1) := by decide +kernel
theorem dX5_copy_61 : decode cX5_copy 61 = .ok (.getfield 24, 3) := by decide +kernel
theorem dX5_copy_64 : decode cX5_copy 64 = .ok (.iconst 0, 1) := by decide +kernel
theorem dX5_copy_65 : decode cX5_copy 65 = .ok (.aload_n 0, 1) := by decide +kernel
theorem dX5_copy_66 : decode cX5_copy 66 = .ok (.getfield 24, 3) := by decide +kernel
theorem dX5_copy_69 : decode cX5_copy 69 = .ok (.iconst 0, 1) := by decide +kernel
theorem dX5_copy_70 : decode cX5_copy 70 = .ok (.bipush 6, 2) := by decide +kernel
theorem dX5_copy_72 : decode cX5_copy 72 = .ok (.invokestatic 55, 3) := by decide +kernel
theorem dX5_copy_75 : decode cX5_copy 75 = .ok (.aload_n 1, 1) := by decide +kernel
theorem dX5_copy_76 : decode cX5_copy 76 = .ok (.getfield 27, 3) := by decide +kernel
theorem dX5_copy_79 : decode cX5_copy 79 = .ok (.iconst 0, 1) := by decide +kernel
theorem dX5_copy_80 : decode cX5_copy 80 = .ok (.aload_n 0, 1) := by decide +kernel
theorem dX5_copy_81 : decode cX5_copy 81 = .ok (.getfield 27, 3) := by decide +kernel
theorem dX5_copy_84 : decode cX5_copy 84 = .ok (.iconst 0, 1) := by decide +kernel
theorem dX5_copy_85 : decode cX5_copy 85 = .ok (.bipush 18, 2) := by decide +kernel
theorem dX5_copy_87 : decode cX5_copy 87 = .ok (.invokestatic 55, 3) := by decide +kernel
theorem dX5_copy_90 : decode cX5_copy 90 = .ok (.aload_n 1, 1) := by decide +kernel
theorem dX5_copy_91 : decode cX5_copy 91 = .ok (.getfield 30, 3) := by decide +kernel
theorem dX5_copy_94 : decode cX5_copy 94 = .ok (.iconst 0, 1) := by decide +kernel
theorem dX5_copy_95 : decode cX5_copy 95 = .ok (.aload_n 0, 1) := by decide +kernel
theorem dX5_copy_96 : decode cX5_copy 96 = .ok (.getfield 30, 3) := by decide +kernel
theorem dX5_copy_99 : decode cX5_copy 99 = .ok (.iconst 0, 1) := by decide +kernel
theorem dX5_copy_100 : decode cX5_copy 100 = .ok (.bipush 18, 2) := by decide +kernel
theorem dX5_copy_102 : decode cX5_copy 102 = .ok (.invokestatic 55, 3) := by decide +kernel
theorem dX5_copy_105 : decode cX5_copy 105 = .ok (.aload_n 1, 1) := by decide +kernel
theorem dX5_copy_106 : decode cX5_copy 106 = .ok (.getfield 33, 3) := by decide +kernel
theorem dX5_copy_109 : decode cX5_copy 109 = .ok (.iconst 0, 1) := by decide +kernel
theorem dX5_copy_110 : decode cX5_copy 110 = .ok (.aload_n 0, 1) := by decide +kernel
theorem dX5_copy_111 : decode cX5_copy 111 = .ok (.getfield 33, 3) := by decide +kernel
theorem dX5_copy_114 : decode cX5_copy 114 = .ok (.iconst 0, 1) := by decide +kernel
theorem dX5_copy_115 : decode cX5_copy 115 = .ok (.bipush 18, 2) := by decide +kernel
theorem dX5_copy_117 : decode cX5_copy 117 = .ok (.invokestatic 55, 3) := by decide +kernel
theorem dX5_copy_120 : decode cX5_copy 120 = .ok (.aload_n 1, 1) := by decide +kernel
theorem dX5_copy_121 : decode cX5_copy 121 = .ok (.getfield 36, 3) := by decide +kernel
theorem dX5_copy_124 : decode cX5_copy 124 = .ok (.iconst 0, 1) := by decide +kernel
theorem dX5_copy_125 : decode cX5_copy 125 = .ok (.aload_n 0, 1) := by decide +kernel
theorem dX5_copy_126 : decode cX5_copy 126 = .ok (.getfield 36, 3) := by decide +kernel
theorem dX5_copy_129 : decode cX5_copy 129 = .ok (.iconst 0, 1) := by decide +kernel
theorem dX5_copy_130 : decode cX5_copy 130 = .ok (.sipush 180, 3) := by decide +kernel
theorem dX5_copy_133 : decode cX5_copy 133 = .ok (.invokestatic 55, 3) := by decide +kernel
theorem dX5_copy_136 : decode cX5_copy 136 = .ok (.aload_n 1, 1) := by decide +kernel
theorem dX5_copy_137 : decode cX5_copy 137 = .ok (.getfield 39, 3) := by decide +kernel
theorem dX5_copy_140 : decode cX5_copy 140 = .ok (.iconst 0, 1) := by decide +kernel
theorem dX5_copy_141 : decode cX5_copy 141 = .ok (.aload_n 0, 1) := by decide +kernel
theorem dX5_copy_142 : decode cX5_copy 142 = .ok (.getfield 39, 3) := by decide +kernel
theorem dX5_copy_145 : decode cX5_copy 145 = .ok (.iconst 0, 1) := by decide +kernel
theorem dX5_copy_146 : decode cX5_copy 146 = .ok (.sipush 180, 3) := by decide +kernel
theorem dX5_copy_149 : decode cX5_copy 149 = .ok (.invokestatic 55, 3) := by decide +kernel
theorem dX5_copy_152 : decode cX5_copy 152 = .ok (.aload_n 1, 1) := by decide +kernel
theorem dX5_copy_153 : decode cX5_copy 153 = .ok (.getfield 42, 3) := by decide +kernel
theorem dX5_copy_156 : decode cX5_copy 156 = .ok (.iconst 0, 1) := by decide +kernel
theorem dX5_copy_157 : decode cX5_copy 157 = .ok (.aload_n 0, 1) := by decide +kernel
theorem dX5_copy_158 : decode cX5_copy 158 = .ok (.getfield 42, 3) := by decide +kernel
theorem dX5_copy_161 : decode cX5_copy 161 = .ok (.iconst 0, 1) := by decide +kernel
theorem dX5_copy_162 : decode cX5_copy 162 = .ok (.bipush 36, 2) := by decide +kernel
theorem dX5_copy_164 : decode cX5_copy 164 = .ok (.invokestatic 55, 3) := by decide +kernel
theorem dX5_copy_167 : decode cX5_copy 167 = .ok (.aload_n 1, 1) := by decide +kernel
theorem dX5_copy_168 : decode cX5_copy 168 = .ok (.getfield 45, 3) := by decide +kernel
theorem dX5_copy_171 : decode cX5_copy 171 = .ok (.iconst 0, 1) := by decide +kernel
theorem dX5_copy_172 : decode cX5_copy 172 = .ok (.aload_n 0, 1) := by decide +kernel
theorem dX5_copy_173 : decode cX5_copy 173 = .ok (.getfield 45, 3) := by decide +kernel
theorem dX5_copy_176 : decode cX5_copy 176 = .ok (.iconst 0, 1) := by decide +kernel
theorem dX5_copy_177 : decode cX5_copy 177 = .ok (.bipush 36, 2) := by decide +kernel
theorem dX5_copy_179 : decode cX5_copy 179 = .ok (.invokestatic 55, 3) := by decide +kernel
theorem dX5_copy_182 : decode cX5_copy 182 = .ok (.aload_n 0, 1) := by decide +kernel
theorem dX5_copy_183 : decode cX5_copy 183 = .ok (.aload_n 1, 1) := by decide +kernel
theorem dX5_copy_184 : decode cX5_copy 184 = .ok (.getfield 68, 3) := by decide +kernel
theorem dX5_copy_187 : decode cX5_copy 187 = .ok (.putfield 68, 3) := by decide +kernel
theorem dX5_copy_190 : decode cX5_copy 190 = .ok (.aload_n 0, 1) := by decide +kernel
theorem dX5_copy_191 : decode cX5_copy 191 = .ok (.aload_n 1, 1) := by decide +kernel
theorem dX5_copy_192 : decode cX5_copy 192 = .ok (.getfield 72, 3) := by decide +kernel
theorem dX5_copy_195 : decode cX5_copy 195 = .ok (.putfield 72, 3) := by decide +kernel
theorem dX5_copy_198 : decode cX5_copy 198 = .ok (.aload_n 0, 1) := by decide +kernel
theorem dX5_copy_199 : decode cX5_copy 199 = .ok (.aload_n 1, 1) := by decide +kernel
theorem dX5_copy_200 : decode cX5_copy 200 = .ok (.getfield 75, 3) := by decide +kernel
theorem dX5_copy_203 : decode cX5_copy 203 = .ok (.putfield 75, 3) := by decide +kernel
theorem dX5_copy_206 : decode cX5_copy 206 = .ok (.aload_n 0, 1) := by decide +kernel
theorem dX5_copy_207 : decode cX5_copy 207 = .ok (.aload_n 1, 1) := by decide +kernel
theorem dX5_copy_208 : decode cX5_copy 208 = .ok (.getfield 78, 3) := by decide +kernel
theorem dX5_copy_211 : decode cX5_copy 211 = .ok (.putfield 78, 3) := by decide +kernel
theorem dX5_copy_214 : decode cX5_copy 214 = .ok (.aload_n 0, 1) := by decide +kernel
theorem dX5_copy_215 : decode cX5_copy 215 = .ok (.aload_n 1, 1) := by decide +kernel
theorem dX5_copy_216 : decode cX5_copy 216 = .ok (.getfield 84, 3) := by decide +kernel
theorem dX5_copy_219 : decode cX5_copy 219 = .ok (.putfield 84, 3) := by decide +kernel
theorem dX5_copy_222 : decode cX5_copy 222 = .ok (.return_, 1) := by decide +kernel
theorem ydX5_copy : z_yd yX5_copy 1 := ⟨by decide, by decide, by decide +kernel⟩
abbrev rmX5_copy : Room := { frames := 1, cells := 0, slots := 0, locals := 60 }
noncomputable def xX5_copy (l0 : Nat) (l1 : Nat) (h : ZH) : Option ZH := ((z_gR h l1 5 1).bind fun x1 => ((z_gR h l0 5 1).bind fun x6 => ((z_cp h x1 x6 (6 : Int32)).bind fun h12 => ((z_gR h12 l1 5 2).bind fun x16 => ((z_gR h12 l0 5 2).bind fun x21 => ((z_cp h12 x16 x21 (6 : Int32)).bind fun h27 => ((z_gR h27 l1 5 3).bind fun x31 => ((z_gR h27 l0 5 3).bind fun x36 => ((z_cp h27 x31 x36 (6 : Int32)).bind fun h42 => ((z_gR h42 l1 5 4).bind fun x46 => ((z_gR h42 l0 5 4).bind fun x51 => ((z_cp h42 x46 x51 (6 : Int32)).bind fun h57 => ((z_gR h57 l1 5 5).bind fun x61 => ((z_gR h57 l0 5 5).bind fun x66 => ((z_cp h57 x61 x66 (6 : Int32)).bind fun h72 => ((z_gR h72 l1 5 6).bind fun x76 => ((z_gR h72 l0 5 6).bind fun x81 => ((z_cp h72 x76 x81 (18 : Int32)).bind fun h87 => ((z_gR h87 l1 5 7).bind fun x91 => ((z_gR h87 l0 5 7).bind fun x96 => ((z_cp h87 x91 x96 (18 : Int32)).bind fun h102 => ((z_gR h102 l1 5 8).bind fun x106 => ((z_gR h102 l0 5 8).bind fun x111 => ((z_cp h102 x106 x111 (18 : Int32)).bind fun h117 => ((z_gR h117 l1 5 9).bind fun x121 => ((z_gR h117 l0 5 9).bind fun x126 => ((z_cp h117 x121 x126 (180 : Int32)).bind fun h133 => ((z_gR h133 l1 5 10).bind fun x137 => ((z_gR h133 l0 5 10).bind fun x142 => ((z_cp h133 x137 x142 (180 : Int32)).bind fun h149 => ((z_gR h149 l1 5 11).bind fun x153 => ((z_gR h149 l0 5 11).bind fun x158 => ((z_cp h149 x153 x158 (36 : Int32)).bind fun h164 => ((z_gR h164 l1 5 12).bind fun x168 => ((z_gR h164 l0 5 12).bind fun x173 => ((z_cp h164 x168 x173 (36 : Int32)).bind fun h179 => ((z_gI h179 l1 5 13).bind fun x184 => ((z_sF h179 l0 5 13 (.int x184)).bind fun h187 => ((z_gI h187 l1 5 14).bind fun x192 => ((z_sF h187 l0 5 14 (.int x192)).bind fun h195 => ((z_gI h195 l1 5 15).bind fun x200 => ((z_sF h195 l0 5 15 (.int x200)).bind fun h203 => ((z_gI h203 l1 5 16).bind fun x208 => ((z_sF h203 l0 5 16 (.int x208)).bind fun h211 => ((z_gI h211 l1 5 17).bind fun x216 => ((z_sF h211 l0 5 17 (.int x216)).bind fun h219 => some h219))))))))))))))))))))))))))))))))))))))))))))))
set_option maxHeartbeats 4000000 in
set_option maxRecDepth 100000 in
theorem lX5_copy {Γ : ZG} {l : Launch} (hO : z_OK Γ) {l0 : Nat} {l1 : Nat} {h : ZH} {r : ZH} (hX : xX5_copy l0 l1 h = some r) : z_M Γ l yX5_copy (z_ws1 yX5_copy cX5_copy 2 none) rmX5_copy [.ref l0, .ref l1] h none r := by
  refine z_start hO (plainFor_of_name (by decide)) (Nat.le_of_ble_eq_true rfl) ?_
  intro p e s m args below meth c G hr hnm
  refine z_lvc (lv2 := [(0, .ref l0), (1, .ref l1)]) rfl ?_
  refine z_aload_n (pc := 0) G 1 dX5_copy_0 rfl rfl ?_
  obtain ⟨x1, hv1, hX⟩ := z_bd hX
  refine z_getR (pc := 1) G kK5 (k := 1) (by decide) kt_191 dX5_copy_1 hv1 ?_
  refine z_iconst (pc := 4) (v := 0) G dX5_copy_4 (by decide) ?_
  refine z_aload_n (pc := 5) G 0 dX5_copy_5 rfl rfl ?_
  obtain ⟨x6, hv6, hX⟩ := z_bd hX
  refine z_getR (pc := 6) G kK5 (k := 1) (by decide) kt_191 dX5_copy_6 hv6 ?_
  refine z_iconst (pc := 9) (v := 0) G dX5_copy_9 (by decide) ?_
  refine z_bipush (pc := 10) (v := 6) G dX5_copy_10 (by decide) ?_
  obtain ⟨h12, hv12, hX⟩ := z_bd hX
  refine z_copy (pc := 12) G kt_413 kt_415 kt_414 kt_10 hv12 (by decide) (by decide) dX5_copy_12 ?_
  refine z_aload_n (pc := 15) G 1 dX5_copy_15 rfl rfl ?_
  obtain ⟨x16, hv16, hX⟩ := z_bd hX
  refine z_getR (pc := 16) G kK5 (k := 2) (by decide) kt_195 dX5_copy_16 hv16 ?_
  refine z_iconst (pc := 19) (v := 0) G dX5_copy_19 (by decide) ?_
  refine z_aload_n (pc := 20) G 0 dX5_copy_20 rfl rfl ?_
  obtain ⟨x21, hv21, hX⟩ := z_bd hX
  refine z_getR (pc := 21) G kK5 (k := 2) (by decide) kt_195 dX5_copy_21 hv21 ?_
  refine z_iconst (pc := 24) (v := 0) G dX5_copy_24 (by decide) ?_
  refine z_bipush (pc := 25) (v := 6) G dX5_copy_25 (by decide) ?_
  obtain ⟨h27, hv27, hX⟩ := z_bd hX
  refine z_copy (pc := 27) G kt_413 kt_415 kt_414 kt_10 hv27 (by decide) (by decide) dX5_copy_27 ?_
  refine z_aload_n (pc := 30) G 1 dX5_copy_30 rfl rfl ?_
  obtain ⟨x31, hv31, hX⟩ := z_bd hX
  refine z_getR (pc := 31) G kK5 (k := 3) (by decide) kt_199 dX5_copy_31 hv31 ?_
  refine z_iconst (pc := 34) (v := 0) G dX5_copy_34 (by decide) ?_
  refine z_aload_n (pc := 35) G 0 dX5_copy_35 rfl rfl ?_
  obtain ⟨x36, hv36, hX⟩ := z_bd hX
  refine z_getR (pc := 36) G kK5 (k := 3) (by decide) kt_199 dX5_copy_36 hv36 ?_
  refine z_iconst (pc := 39) (v := 0) G dX5_copy_39 (by decide) ?_
  refine z_bipush (pc := 40) (v := 6) G dX5_copy_40 (by decide) ?_
  obtain ⟨h42, hv42, hX⟩ := z_bd hX
  refine z_copy (pc := 42) G kt_413 kt_415 kt_414 kt_10 hv42 (by decide) (by decide) dX5_copy_42 ?_
  refine z_aload_n (pc := 45) G 1 dX5_copy_45 rfl rfl ?_
  obtain ⟨x46, hv46, hX⟩ := z_bd hX
  refine z_getR (pc := 46) G kK5 (k := 4) (by decide) kt_201 dX5_copy_46 hv46 ?_
  refine z_iconst (pc := 49) (v := 0) G dX5_copy_49 (by decide) ?_
  refine z_aload_n (pc := 50) G 0 dX5_copy_50 rfl rfl ?_
  obtain ⟨x51, hv51, hX⟩ := z_bd hX
  refine z_getR (pc := 51) G kK5 (k := 4) (by decide) kt_201 dX5_copy_51 hv51 ?_
  refine z_iconst (pc := 54) (v := 0) G dX5_copy_54 (by decide) ?_
  refine z_bipush (pc := 55) (v := 6) G dX5_copy_55 (by decide) ?_
  obtain ⟨h57, hv57, hX⟩ := z_bd hX
  refine z_copy (pc := 57) G kt_413 kt_415 kt_414 kt_10 hv57 (by decide) (by decide) dX5_copy_57 ?_
  refine z_aload_n (pc := 60) G 1 dX5_copy_60 rfl rfl ?_
  obtain ⟨x61, hv61, hX⟩ := z_bd hX
  refine z_getR (pc := 61) G kK5 (k := 5) (by decide) kt_203 dX5_copy_61 hv61 ?_
  refine z_iconst (pc := 64) (v := 0) G dX5_copy_64 (by decide) ?_
  refine z_aload_n (pc := 65) G 0 dX5_copy_65 rfl rfl ?_
  obtain ⟨x66, hv66, hX⟩ := z_bd hX
  refine z_getR (pc := 66) G kK5 (k := 5) (by decide) kt_203 dX5_copy_66 hv66 ?_
  refine z_iconst (pc := 69) (v := 0) G dX5_copy_69 (by decide) ?_
  refine z_bipush (pc := 70) (v := 6) G dX5_copy_70 (by decide) ?_
  obtain ⟨h72, hv72, hX⟩ := z_bd hX
  refine z_copy (pc := 72) G kt_413 kt_415 kt_414 kt_10 hv72 (by decide) (by decide) dX5_copy_72 ?_
  refine z_aload_n (pc := 75) G 1 dX5_copy_75 rfl rfl ?_
  obtain ⟨x76, hv76, hX⟩ := z_bd hX
  refine z_getR (pc := 76) G kK5 (k := 6) (by decide) kt_206 dX5_copy_76 hv76 ?_
  refine z_iconst (pc := 79) (v := 0) G dX5_copy_79 (by decide) ?_
  refine z_aload_n (pc := 80) G 0 dX5_copy_80 rfl rfl ?_
  obtain ⟨x81, hv81, hX⟩ := z_bd hX
  refine z_getR (pc := 81) G kK5 (k := 6) (by decide) kt_206 dX5_copy_81 hv81 ?_
  refine z_iconst (pc := 84) (v := 0) G dX5_copy_84 (by decide) ?_
  refine z_bipush (pc := 85) (v := 18) G dX5_copy_85 (by decide) ?_
  obtain ⟨h87, hv87, hX⟩ := z_bd hX
  refine z_copy (pc := 87) G kt_413 kt_415 kt_414 kt_10 hv87 (by decide) (by decide) dX5_copy_87 ?_
  refine z_aload_n (pc := 90) G 1 dX5_copy_90 rfl rfl ?_
  obtain ⟨x91, hv91, hX⟩ := z_bd hX
  refine z_getR (pc := 91) G kK5 (k := 7) (by decide) kt_209 dX5_copy_91 hv91 ?_
  refine z_iconst (pc := 94) (v := 0) G dX5_copy_94 (by decide) ?_
  refine z_aload_n (pc := 95) G 0 dX5_copy_95 rfl rfl ?_
  obtain ⟨x96, hv96, hX⟩ := z_bd hX
  refine z_getR (pc := 96) G kK5 (k := 7) (by decide) kt_209 dX5_copy_96 hv96 ?_
  refine z_iconst (pc := 99) (v := 0) G dX5_copy_99 (by decide) ?_
  refine z_bipush (pc := 100) (v := 18) G dX5_copy_100 (by decide) ?_
  obtain ⟨h102, hv102, hX⟩ := z_bd hX
  refine z_copy (pc := 102) G kt_413 kt_415 kt_414 kt_10 hv102 (by decide) (by decide) dX5_copy_102 ?_
  refine z_aload_n (pc := 105) G 1 dX5_copy_105 rfl rfl ?_
  obtain ⟨x106, hv106, hX⟩ := z_bd hX
  refine z_getR (pc := 106) G kK5 (k := 8) (by decide) kt_212 dX5_copy_106 hv106 ?_
  refine z_iconst (pc := 109) (v := 0) G dX5_copy_109 (by decide) ?_
  refine z_aload_n (pc := 110) G 0 dX5_copy_110 rfl rfl ?_
  obtain ⟨x111, hv111, hX⟩ := z_bd hX
  refine z_getR (pc := 111) G kK5 (k := 8) (by decide) kt_212 dX5_copy_111 hv111 ?_
  refine z_iconst (pc := 114) (v := 0) G dX5_copy_114 (by decide) ?_
  refine z_bipush (pc := 115) (v := 18) G dX5_copy_115 (by decide) ?_
  obtain ⟨h117, hv117, hX⟩ := z_bd hX
  refine z_copy (pc := 117) G kt_413 kt_415 kt_414 kt_10 hv117 (by decide) (by decide) dX5_copy_117 ?_
  refine z_aload_n (pc := 120) G 1 dX5_copy_120 rfl rfl ?_
  obtain ⟨x121, hv121, hX⟩ := z_bd hX
  refine z_getR (pc := 121) G kK5 (k := 9) (by decide) kt_215 dX5_copy_121 hv121 ?_
  refine z_iconst (pc := 124) (v := 0) G dX5_copy_124 (by decide) ?_
  refine z_aload_n (pc := 125) G 0 dX5_copy_125 rfl rfl ?_
  obtain ⟨x126, hv126, hX⟩ := z_bd hX
  refine z_getR (pc := 126) G kK5 (k := 9) (by decide) kt_215 dX5_copy_126 hv126 ?_
  refine z_iconst (pc := 129) (v := 0) G dX5_copy_129 (by decide) ?_
  refine z_sipush (pc := 130) (v := 180) G dX5_copy_130 (by decide) ?_
  obtain ⟨h133, hv133, hX⟩ := z_bd hX
  refine z_copy (pc := 133) G kt_413 kt_415 kt_414 kt_10 hv133 (by decide) (by decide) dX5_copy_133 ?_
  refine z_aload_n (pc := 136) G 1 dX5_copy_136 rfl rfl ?_
  obtain ⟨x137, hv137, hX⟩ := z_bd hX
  refine z_getR (pc := 137) G kK5 (k := 10) (by decide) kt_217 dX5_copy_137 hv137 ?_
  refine z_iconst (pc := 140) (v := 0) G dX5_copy_140 (by decide) ?_
  refine z_aload_n (pc := 141) G 0 dX5_copy_141 rfl rfl ?_
  obtain ⟨x142, hv142, hX⟩ := z_bd hX
  refine z_getR (pc := 142) G kK5 (k := 10) (by decide) kt_217 dX5_copy_142 hv142 ?_
  refine z_iconst (pc := 145) (v := 0) G dX5_copy_145 (by decide) ?_
  refine z_sipush (pc := 146) (v := 180) G dX5_copy_146 (by decide) ?_
  obtain ⟨h149, hv149, hX⟩ := z_bd hX
  refine z_copy (pc := 149) G kt_413 kt_415 kt_414 kt_10 hv149 (by decide) (by decide) dX5_copy_149 ?_
  refine z_aload_n (pc := 152) G 1 dX5_copy_152 rfl rfl ?_
  obtain ⟨x153, hv153, hX⟩ := z_bd hX
  refine z_getR (pc := 153) G kK5 (k := 11) (by decide) kt_219 dX5_copy_153 hv153 ?_
  refine z_iconst (pc := 156) (v := 0) G dX5_copy_156 (by decide) ?_
  refine z_aload_n (pc := 157) G 0 dX5_copy_157 rfl rfl ?_
  obtain ⟨x158, hv158, hX⟩ := z_bd hX
  refine z_getR (pc := 158) G kK5 (k := 11) (by decide) kt_219 dX5_copy_158 hv158 ?_
  refine z_iconst (pc := 161) (v := 0) G dX5_copy_161 (by decide) ?_
  refine z_bipush (pc := 162) (v := 36) G dX5_copy_162 (by decide) ?_
  obtain ⟨h164, hv164, hX⟩ := z_bd hX
  refine z_copy (pc := 164) G kt_413 kt_415 kt_414 kt_10 hv164 (by decide) (by decide) dX5_copy_164 ?_
  refine z_aload_n (pc := 167) G 1 dX5_copy_167 rfl rfl ?_
  obtain ⟨x168, hv168, hX⟩ := z_bd hX
  refine z_getR (pc := 168) G kK5 (k := 12) (by decide) kt_223 dX5_copy_168 hv168 ?_
  refine z_iconst (pc := 171) (v := 0) G dX5_copy_171 (by decide) ?_
  refine z_aload_n (pc := 172) G 0 dX5_copy_172 rfl rfl ?_
  obtain ⟨x173, hv173, hX⟩ := z_bd hX
  refine z_getR (pc := 173) G kK5 (k := 12) (by decide) kt_223 dX5_copy_173 hv173 ?_
  refine z_iconst (pc := 176) (v := 0) G dX5_copy_176 (by decide) ?_
  refine z_bipush (pc := 177) (v := 36) G dX5_copy_177 (by decide) ?_
  obtain ⟨h179, hv179, hX⟩ := z_bd hX
  refine z_copy (pc := 179) G kt_413 kt_415 kt_414 kt_10 hv179 (by decide) (by decide) dX5_copy_179 ?_
  refine z_aload_n (pc := 182) G 0 dX5_copy_182 rfl rfl ?_
  refine z_aload_n (pc := 183) G 1 dX5_copy_183 rfl rfl ?_
  obtain ⟨x184, hv184, hX⟩ := z_bd hX
  refine z_getI (pc := 184) G kK5 (k := 13) (by decide) kt_227 dX5_copy_184 hv184 ?_
  obtain ⟨h187, hv187, hX⟩ := z_bd hX
  refine z_putF (pc := 187) G kK5 (k := 13) (by decide) kt_227 (Or.inl rfl) rfl rfl dX5_copy_187 hv187 ?_
  refine z_aload_n (pc := 190) G 0 dX5_copy_190 rfl rfl ?_
  refine z_aload_n (pc := 191) G 1 dX5_copy_191 rfl rfl ?_
  obtain ⟨x192, hv192, hX⟩ := z_bd hX
  refine z_getI (pc := 192) G kK5 (k := 14) (by decide) kt_229 dX5_copy_192 hv192 ?_
  obtain ⟨h195, hv195, hX⟩ := z_bd hX
  refine z_putF (pc := 195) G kK5 (k := 14) (by decide) kt_229 (Or.inl rfl) rfl rfl dX5_copy_195 hv195 ?_
  refine z_aload_n (pc := 198) G 0 dX5_copy_198 rfl rfl ?_
  refine z_aload_n (pc := 199) G 1 dX5_copy_199 rfl rfl ?_
  obtain ⟨x200, hv200, hX⟩ := z_bd hX
  refine z_getI (pc := 200) G kK5 (k := 15) (by decide) kt_232 dX5_copy_200 hv200 ?_
  obtain ⟨h203, hv203, hX⟩ := z_bd hX
  refine z_putF (pc := 203) G kK5 (k := 15) (by decide) kt_232 (Or.inl rfl) rfl rfl dX5_copy_203 hv203 ?_
  refine z_aload_n (pc := 206) G 0 dX5_copy_206 rfl rfl ?_
  refine z_aload_n (pc := 207) G 1 dX5_copy_207 rfl rfl ?_
  obtain ⟨x208, hv208, hX⟩ := z_bd hX
  refine z_getI (pc := 208) G kK5 (k := 16) (by decide) kt_236 dX5_copy_208 hv208 ?_
  obtain ⟨h211, hv211, hX⟩ := z_bd hX
  refine z_putF (pc := 211) G kK5 (k := 16) (by decide) kt_236 (Or.inl rfl) rfl rfl dX5_copy_211 hv211 ?_
  refine z_aload_n (pc := 214) G 0 dX5_copy_214 rfl rfl ?_
  refine z_aload_n (pc := 215) G 1 dX5_copy_215 rfl rfl ?_
  obtain ⟨x216, hv216, hX⟩ := z_bd hX
  refine z_getI (pc := 216) G kK5 (k := 17) (by decide) kt_238 dX5_copy_216 hv216 ?_
  obtain ⟨h219, hv219, hX⟩ := z_bd hX
  refine z_putF (pc := 219) G kK5 (k := 17) (by decide) kt_238 (Or.inl rfl) rfl rfl dX5_copy_219 hv219 ?_
  exact z_vretX (pc := 222) hX G hr dX5_copy_222 (by decide) (by decide)
theorem dX1_keep_0 : decode cX1_keep 0 = .ok (.aload_n 0, 1) := by decide +kernel
theorem dX1_keep_1 : decode cX1_keep 1 = .ok (.getfield 19, 3) := by decide +kernel
theorem dX1_keep_4 : decode cX1_keep 4 = .ok (.bipush 40, 2) := by decide +kernel
theorem dX1_keep_6 : decode cX1_keep 6 = .ok (.if_icmp .ne 7, 3) := by decide +kernel
theorem dX1_keep_9 : decode cX1_keep 9 = .ok (.aload_n 0, 1) := by decide +kernel
theorem dX1_keep_10 : decode cX1_keep 10 = .ok (.invokevirtual 26, 3) := by decide +kernel
theorem dX1_keep_13 : decode cX1_keep 13 = .ok (.aload_n 0, 1) := by decide +kernel
theorem dX1_keep_14 : decode cX1_keep 14 = .ok (.getfield 11, 3) := by decide +kernel
theorem dX1_keep_17 : decode cX1_keep 17 = .ok (.aload_n 0, 1) := by decide +kernel
theorem dX1_keep_18 : decode cX1_keep 18 = .ok (.getfield 19, 3) := by decide +kernel
theorem dX1_keep_21 : decode cX1_keep 21 = .ok (.aaload, 1) := by decide +kernel
theorem dX1_keep_22 : decode cX1_keep 22 = .ok (.astore_n 2, 1) := by decide +kernel
theorem dX1_keep_23 : decode cX1_keep 23 = .ok (.aload_n 2, 1) := by decide +kernel
theorem dX1_keep_24 : decode cX1_keep 24 = .ok (.ifnonnull 25, 3) := by decide +kernel
theorem dX1_keep_27 : decode cX1_keep 27 = .ok (.new 9, 3) := by decide +kernel
theorem dX1_keep_30 : decode cX1_keep 30 = .ok (.dup, 1) := by decide +kernel
theorem dX1_keep_31 : decode cX1_keep 31 = .ok (.aload_n 0, 1) := by decide +kernel
theorem dX1_keep_32 : decode cX1_keep 32 = .ok (.getfield 15, 3) := by decide +kernel
theorem dX1_keep_35 : decode cX1_keep 35 = .ok (.invokespecial 29, 3) := by decide +kernel
theorem dX1_keep_38 : decode cX1_keep 38 = .ok (.astore_n 2, 1) := by decide +kernel
theorem dX1_keep_39 : decode cX1_keep 39 = .ok (.aload_n 0, 1) := by decide +kernel
theorem dX1_keep_40 : decode cX1_keep 40 = .ok (.getfield 11, 3) := by decide +kernel
theorem dX1_keep_43 : decode cX1_keep 43 = .ok (.aload_n 0, 1) := by decide +kernel
theorem dX1_keep_44 : decode cX1_keep 44 = .ok (.getfield 19, 3) := by decide +kernel
theorem dX1_keep_47 : decode cX1_keep 47 = .ok (.aload_n 2, 1) := by decide +kernel
theorem dX1_keep_48 : decode cX1_keep 48 = .ok (.aastore, 1) := by decide +kernel
theorem dX1_keep_49 : decode cX1_keep 49 = .ok (.aload_n 2, 1) := by decide +kernel
theorem dX1_keep_50 : decode cX1_keep 50 = .ok (.aload_n 1, 1) := by decide +kernel
theorem dX1_keep_51 : decode cX1_keep 51 = .ok (.invokevirtual 32, 3) := by decide +kernel
theorem dX1_keep_54 : decode cX1_keep 54 = .ok (.aload_n 0, 1) := by decide +kernel
theorem dX1_keep_55 : decode cX1_keep 55 = .ok (.dup, 1) := by decide +kernel
theorem dX1_keep_56 : decode cX1_keep 56 = .ok (.getfield 19, 3) := by decide +kernel
theorem dX1_keep_59 : decode cX1_keep 59 = .ok (.iconst 1, 1) := by decide +kernel
theorem dX1_keep_60 : decode cX1_keep 60 = .ok (.iadd, 1) := by decide +kernel
theorem dX1_keep_61 : decode cX1_keep 61 = .ok (.putfield 19, 3) := by decide +kernel
theorem dX1_keep_64 : decode cX1_keep 64 = .ok (.aload_n 0, 1) := by decide +kernel
theorem dX1_keep_65 : decode cX1_keep 65 = .ok (.iconst 0, 1) := by decide +kernel
theorem dX1_keep_66 : decode cX1_keep 66 = .ok (.putfield 23, 3) := by decide +kernel
theorem dX1_keep_69 : decode cX1_keep 69 = .ok (.return_, 1) := by decide +kernel
theorem ydX1_keep : z_yd yX1_keep 1 := ⟨by decide, by decide, by decide +kernel⟩
abbrev rmX1_keep : Room := { frames := 2, cells := 13, slots := 534, locals := 81 }
noncomputable def xX1_keep_B49 (l0 : Nat) (l1 : Nat) (l2 : Nat) (h : ZH) : Option ZH := (z_gu (z_is h l2 5) ((xX5_copy l2 l1 h).bind fun h51 => ((z_gI h51 l0 1 2).bind fun x56 => ((z_sF h51 l0 1 2 (.int (x56 + (1 : Int32)))).bind fun h61 => ((z_sF h61 l0 1 3 (.int (0 : Int32))).bind fun h66 => some h66)))))
set_option maxHeartbeats 4000000 in
set_option maxRecDepth 100000 in
theorem wX1_keep_B49 {Γ : ZG} {p : Program} {l : Launch} {e : Env} {s : State} {m : MethodId} {args : Array Value} {below : List Frame} {meth : Method} {c : Code} (hO : z_OK Γ) (G : z_GG Γ p s m args meth c cX1_keep 3 RX1) (hr : meth.sig.returnType = none) (hnm : meth.name = "keep") {r : ZH} : ∀ (l0 : Nat) (l1 : Nat) (l2 : Nat) (h : ZH), xX1_keep_B49  l0 l1 l2 h = some r → z_W Γ p l e rmX1_keep s m args below meth c 3 13 534 (MQ below (z_Qc Γ none r) args s rmX1_keep.cells rmX1_keep.slots (z_A Γ)) 49 [(0, .ref l0), (1, .ref l1), (2, .ref l2)] [] h := by
  intro l0 l1 l2 h hX
  refine z_aload_n (pc := 49) G 2 dX1_keep_49 rfl rfl ?_
  refine z_aload_n (pc := 50) G 1 dX1_keep_50 rfl rfl ?_
  obtain ⟨hi51, hX⟩ := z_gu_s hX
  obtain ⟨h51, hv51, hX⟩ := z_bd hX
  refine z_cVV (pc := 51) (As := [.ref l1]) (c2 := 13) (s2 := 534) G kK5 (lX5_copy hO hv51) hi51 kt_803 kt_4 kt_800 kt_801 kt_802 ydX5_copy ⟨by decide, by decide⟩ rfl (Nat.le_of_ble_eq_true rfl) ⟨rfl, rfl⟩ ⟨by decide, by decide⟩ rfl dX1_keep_51 ?_
  refine z_aload_n (pc := 54) G 0 dX1_keep_54 rfl rfl ?_
  refine z_dup (pc := 55) G dX1_keep_55 rfl ?_
  obtain ⟨x56, hv56, hX⟩ := z_bd hX
  refine z_getI (pc := 56) G kK1 (k := 2) (by decide) kt_352 dX1_keep_56 hv56 ?_
  refine z_iconst (pc := 59) (v := 1) G dX1_keep_59 (by decide) ?_
  refine z_iadd (pc := 60) G dX1_keep_60 ?_
  obtain ⟨h61, hv61, hX⟩ := z_bd hX
  refine z_putF (pc := 61) G kK1 (k := 2) (by decide) kt_352 (Or.inl rfl) rfl rfl dX1_keep_61 hv61 ?_
  refine z_aload_n (pc := 64) G 0 dX1_keep_64 rfl rfl ?_
  refine z_iconst (pc := 65) (v := 0) G dX1_keep_65 (by decide) ?_
  obtain ⟨h66, hv66, hX⟩ := z_bd hX
  refine z_putF (pc := 66) G kK1 (k := 3) (by decide) kt_354 (Or.inl rfl) rfl rfl dX1_keep_66 hv66 ?_
  exact z_vretX (pc := 69) hX G hr dX1_keep_69 (by decide) (by decide)
noncomputable def xX1_keep_B13 (l0 : Nat) (l1 : Nat) (h : ZH) : Option ZH := ((z_gR h l0 1 1).bind fun x14 => ((z_gI h l0 1 2).bind fun x18 => ((z_aQ h x14 x18).bind fun x21 => match x21 with | none => ((z_nw h (.inl (5, [.null, .null, .null, .null, .null, .null, .null, .null, .null, .null, .null, .null, .null, .int 0, .int 0, .int 0, .int 0, .int 0]))).bind fun q27 => ((z_gR q27.2 l0 1 0).bind fun x32 => ((xX5_init q27.1 x32 q27.2).bind fun h35 => ((z_gR h35 l0 1 1).bind fun x40 => ((z_gI h35 l0 1 2).bind fun x44 => ((z_uQ h35 x40 x44 q27.1).bind fun h48 => xX1_keep_B49 l0 l1 q27.1 h48)))))) | some y21 => xX1_keep_B49 l0 l1 y21 h)))
set_option maxHeartbeats 4000000 in
set_option maxRecDepth 100000 in
theorem wX1_keep_B13 {Γ : ZG} {p : Program} {l : Launch} {e : Env} {s : State} {m : MethodId} {args : Array Value} {below : List Frame} {meth : Method} {c : Code} (hO : z_OK Γ) (G : z_GG Γ p s m args meth c cX1_keep 3 RX1) (hr : meth.sig.returnType = none) (hnm : meth.name = "keep") {r : ZH} : ∀ (l0 : Nat) (l1 : Nat) (h : ZH), xX1_keep_B13  l0 l1 h = some r → z_W Γ p l e rmX1_keep s m args below meth c 3 0 0 (MQ below (z_Qc Γ none r) args s rmX1_keep.cells rmX1_keep.slots (z_A Γ)) 13 [(0, .ref l0), (1, .ref l1)] [] h := by
  intro l0 l1 h hX
  refine z_aload_n (pc := 13) G 0 dX1_keep_13 rfl rfl ?_
  obtain ⟨x14, hv14, hX⟩ := z_bd hX
  refine z_getR (pc := 14) G kK1 (k := 1) (by decide) kt_351 dX1_keep_14 hv14 ?_
  refine z_aload_n (pc := 17) G 0 dX1_keep_17 rfl rfl ?_
  obtain ⟨x18, hv18, hX⟩ := z_bd hX
  refine z_getI (pc := 18) G kK1 (k := 2) (by decide) kt_352 dX1_keep_18 hv18 ?_
  obtain ⟨x21, hv21, hX⟩ := z_bd hX
  refine z_aald (pc := 21) G dX1_keep_21 hv21 ?_
  cases x21 with
  | none =>
    refine z_astore_nN (pc := 22) (lv2 := [(0, .ref l0), (1, .ref l1), (2, .null)]) G dX1_keep_22 rfl (by decide) rfl rfl ?_
    refine z_aload_nN (pc := 23) G 2 dX1_keep_23 rfl rfl ?_
    refine z_ifnonnullN (pc := 24) G dX1_keep_24 ?_
    obtain ⟨q27, hv27, hX⟩ := z_bd hX
    refine z_nO (pc := 27) (c2 := 1) (s2 := 18) G kK5 kt_348 kt_183 kt_4 (fun j hj => by rcases (show j = 0 ∨ j = 1 ∨ j = 2 ∨ j = 3 ∨ j = 4 ∨ j = 5 ∨ j = 6 ∨ j = 7 ∨ j = 8 ∨ j = 9 ∨ j = 10 ∨ j = 11 ∨ j = 12 ∨ j = 13 ∨ j = 14 ∨ j = 15 ∨ j = 16 ∨ j = 17 by omega) with rfl | rfl | rfl | rfl | rfl | rfl | rfl | rfl | rfl | rfl | rfl | rfl | rfl | rfl | rfl | rfl | rfl | rfl <;> rfl) ⟨rfl, rfl⟩ ⟨by decide, by decide⟩ dX1_keep_27 hv27 ?_
    refine z_dup (pc := 30) G dX1_keep_30 rfl ?_
    refine z_aload_n (pc := 31) G 0 dX1_keep_31 rfl rfl ?_
    obtain ⟨x32, hv32, hX⟩ := z_bd hX
    refine z_getR (pc := 32) G kK1 (k := 0) (by decide) kt_350 dX1_keep_32 hv32 ?_
    obtain ⟨h35, hv35, hX⟩ := z_bd hX
    refine z_cI (pc := 35) (As := [.ref x32]) (c2 := 13) (s2 := 534) G (lX5_init hO hv35) kt_186 kt_4 kt_799 kt_185 rfl ydX5_init ⟨by decide, by decide⟩ rfl (Nat.le_of_ble_eq_true rfl) ⟨rfl, rfl⟩ ⟨by decide, by decide⟩ rfl dX1_keep_35 ?_
    refine z_astore_n (pc := 38) (lv2 := [(0, .ref l0), (1, .ref l1), (2, .ref q27.1)]) G dX1_keep_38 rfl (by decide) rfl rfl ?_
    refine z_aload_n (pc := 39) G 0 dX1_keep_39 rfl rfl ?_
    obtain ⟨x40, hv40, hX⟩ := z_bd hX
    refine z_getR (pc := 40) G kK1 (k := 1) (by decide) kt_351 dX1_keep_40 hv40 ?_
    refine z_aload_n (pc := 43) G 0 dX1_keep_43 rfl rfl ?_
    obtain ⟨x44, hv44, hX⟩ := z_bd hX
    refine z_getI (pc := 44) G kK1 (k := 2) (by decide) kt_352 dX1_keep_44 hv44 ?_
    refine z_aload_n (pc := 47) G 2 dX1_keep_47 rfl rfl ?_
    obtain ⟨h48, hv48, hX⟩ := z_bd hX
    refine z_aast (pc := 48) G dX1_keep_48 hv48 ?_
    exact wX1_keep_B49 hO G hr hnm _ _ _ _ hX
  | some y21 =>
    refine z_astore_n (pc := 22) (lv2 := [(0, .ref l0), (1, .ref l1), (2, .ref y21)]) G dX1_keep_22 rfl (by decide) rfl rfl ?_
    refine z_aload_n (pc := 23) G 2 dX1_keep_23 rfl rfl ?_
    refine z_ifnonnull (pc := 24) (tgt := 49) G dX1_keep_24 (by decide) ?_
    refine z_wid (k := 13) (n := 534) (by decide) (by decide) ?_
    exact wX1_keep_B49 hO G hr hnm _ _ _ _ hX
noncomputable def xX1_keep (l0 : Nat) (l1 : Nat) (h : ZH) : Option ZH := ((z_gI h l0 1 2).bind fun x1 => (if x1 = (40 : Int32) then (z_gu (z_is h l0 1) ((xX1_dropOldest l0 h).bind fun h10 => xX1_keep_B13 l0 l1 h10)) else xX1_keep_B13 l0 l1 h))
set_option maxHeartbeats 4000000 in
set_option maxRecDepth 100000 in
theorem lX1_keep {Γ : ZG} {l : Launch} (hO : z_OK Γ) {l0 : Nat} {l1 : Nat} {h : ZH} {r : ZH} (hX : xX1_keep l0 l1 h = some r) : z_M Γ l yX1_keep (z_ws1 yX1_keep cX1_keep 3 none) rmX1_keep [.ref l0, .ref l1] h none r := by
  refine z_start hO (plainFor_of_name (by decide)) (Nat.le_of_ble_eq_true rfl) ?_
  intro p e s m args below meth c G hr hnm
  refine z_lvc (lv2 := [(0, .ref l0), (1, .ref l1)]) rfl ?_
  refine z_aload_n (pc := 0) G 0 dX1_keep_0 rfl rfl ?_
  obtain ⟨x1, hv1, hX⟩ := z_bd hX
  refine z_getI (pc := 1) G kK1 (k := 2) (by decide) kt_352 dX1_keep_1 hv1 ?_
  refine z_bipush (pc := 4) (v := 40) G dX1_keep_4 (by decide) ?_
  refine z_icmp_ne (pc := 6) (tgt := 13) G dX1_keep_6 (by decide) (fun hc6 => ?_) (fun hc6 => ?_)
  · have hX := z_if hc6 hX
    exact wX1_keep_B13 hO G hr hnm _ _ _ hX
  · have hX := z_it hc6 hX
    refine z_aload_n (pc := 9) G 0 dX1_keep_9 rfl rfl ?_
    obtain ⟨hi10, hX⟩ := z_gu_s hX
    obtain ⟨h10, hv10, hX⟩ := z_bd hX
    refine z_cVV (pc := 10) (As := []) (c2 := 0) (s2 := 0) G kK1 (lX1_dropOldest hO hv10) hi10 kt_798 kt_8 kt_795 kt_797 ks_19 ydX1_dropOldest ⟨by decide, by decide⟩ rfl (Nat.le_of_ble_eq_true rfl) ⟨rfl, rfl⟩ ⟨by decide, by decide⟩ rfl dX1_keep_10 ?_
    exact wX1_keep_B13 hO G hr hnm _ _ _ hX
theorem dX1_exchange_0 : decode cX1_exchange 0 = .ok (.aload_n 0, 1) := by decide +kernel
theorem dX1_exchange_1 : decode cX1_exchange 1 = .ok (.getfield 11, 3) := by decide +kernel
theorem dX1_exchange_4 : decode cX1_exchange 4 = .ok (.iload_n 1, 1) := by decide +kernel
theorem dX1_exchange_5 : decode cX1_exchange 5 = .ok (.aaload, 1) := by decide +kernel
theorem dX1_exchange_6 : decode cX1_exchange 6 = .ok (.astore_n 3, 1) := by decide +kernel
theorem dX1_exchange_7 : decode cX1_exchange 7 = .ok (.aload_n 3, 1) := by decide +kernel
theorem dX1_exchange_8 : decode cX1_exchange 8 = .ok (.ifnonnull 5, 3) := by decide +kernel
theorem dX1_exchange_11 : decode cX1_exchange 11 = .ok (.aload_n 2, 1) := by decide +kernel
theorem dX1_exchange_12 : decode cX1_exchange 12 = .ok (.areturn, 1) := by decide +kernel
theorem dX1_exchange_13 : decode cX1_exchange 13 = .ok (.aload_n 0, 1) := by decide +kernel
theorem dX1_exchange_14 : decode cX1_exchange 14 = .ok (.getfield 11, 3) := by decide +kernel
theorem dX1_exchange_17 : decode cX1_exchange 17 = .ok (.iload_n 1, 1) := by decide +kernel
theorem dX1_exchange_18 : decode cX1_exchange 18 = .ok (.aload_n 2, 1) := by decide +kernel
theorem dX1_exchange_19 : decode cX1_exchange 19 = .ok (.aastore, 1) := by decide +kernel
theorem dX1_exchange_20 : decode cX1_exchange 20 = .ok (.aload_n 3, 1) := by decide +kernel
theorem dX1_exchange_21 : decode cX1_exchange 21 = .ok (.areturn, 1) := by decide +kernel
theorem ydX1_exchange : z_yd yX1_exchange 2 := ⟨by decide, by decide, by decide +kernel⟩
abbrev rmX1_exchange : Room := { frames := 0, cells := 0, slots := 0, locals := 0 }
noncomputable def xX1_exchange (l0 : Nat) (l1 : Int32) (l2 : Nat) (h : ZH) : Option (Nat × ZH) := ((z_gR h l0 1 1).bind fun x1 => ((z_aQ h x1 l1).bind fun x5 => match x5 with | none => some (l2, h) | some y5 => ((z_gR h l0 1 1).bind fun x14 => ((z_uQ h x14 l1 l2).bind fun h19 => some (y5, h19)))))
set_option maxHeartbeats 4000000 in
set_option maxRecDepth 100000 in
theorem lX1_exchange {Γ : ZG} {l : Launch} (hO : z_OK Γ) {l0 : Nat} {l1 : Int32} {l2 : Nat} {h : ZH} {r : (Nat × ZH)} (hX : xX1_exchange l0 l1 l2 h = some r) : z_M Γ l yX1_exchange (z_ws1 yX1_exchange cX1_exchange 4 (some (.object "SlotFleet$State"))) rmX1_exchange [.ref l0, .int l1, .ref l2] h (some (.ref r.1)) r.2 := by
  refine z_start hO (plainFor_of_name (by decide)) (Nat.le_of_ble_eq_true rfl) ?_
  intro p e s m args below meth c G hr hnm
  refine z_lvc (lv2 := [(0, .ref l0), (1, .int l1), (2, .ref l2)]) rfl ?_
  refine z_aload_n (pc := 0) G 0 dX1_exchange_0 rfl rfl ?_
  obtain ⟨x1, hv1, hX⟩ := z_bd hX
  refine z_getR (pc := 1) G kK1 (k := 1) (by decide) kt_351 dX1_exchange_1 hv1 ?_
  refine z_iload_n (pc := 4) G 1 dX1_exchange_4 rfl rfl ?_
  obtain ⟨x5, hv5, hX⟩ := z_bd hX
  refine z_aald (pc := 5) G dX1_exchange_5 hv5 ?_
  cases x5 with
  | none =>
    refine z_astore_nN (pc := 6) (lv2 := [(0, .ref l0), (1, .int l1), (2, .ref l2), (3, .null)]) G dX1_exchange_6 rfl (by decide) rfl rfl ?_
    refine z_aload_nN (pc := 7) G 3 dX1_exchange_7 rfl rfl ?_
    refine z_ifnonnullN (pc := 8) G dX1_exchange_8 ?_
    refine z_aload_n (pc := 11) G 2 dX1_exchange_11 rfl rfl ?_
    exact z_aretX (pc := 12) hX G hr dX1_exchange_12 (by decide) (by decide)
  | some y5 =>
    refine z_astore_n (pc := 6) (lv2 := [(0, .ref l0), (1, .int l1), (2, .ref l2), (3, .ref y5)]) G dX1_exchange_6 rfl (by decide) rfl rfl ?_
    refine z_aload_n (pc := 7) G 3 dX1_exchange_7 rfl rfl ?_
    refine z_ifnonnull (pc := 8) (tgt := 13) G dX1_exchange_8 (by decide) ?_
    refine z_aload_n (pc := 13) G 0 dX1_exchange_13 rfl rfl ?_
    obtain ⟨x14, hv14, hX⟩ := z_bd hX
    refine z_getR (pc := 14) G kK1 (k := 1) (by decide) kt_351 dX1_exchange_14 hv14 ?_
    refine z_iload_n (pc := 17) G 1 dX1_exchange_17 rfl rfl ?_
    refine z_aload_n (pc := 18) G 2 dX1_exchange_18 rfl rfl ?_
    obtain ⟨h19, hv19, hX⟩ := z_bd hX
    refine z_aast (pc := 19) G dX1_exchange_19 hv19 ?_
    refine z_aload_n (pc := 20) G 3 dX1_exchange_20 rfl rfl ?_
    exact z_aretX (pc := 21) hX G hr dX1_exchange_21 (by decide) (by decide)
theorem dX1_takeBack_0 : decode cX1_takeBack 0 = .ok (.aload_n 0, 1) := by decide +kernel
theorem dX1_takeBack_1 : decode cX1_takeBack 1 = .ok (.getfield 19, 3) := by decide +kernel
theorem dX1_takeBack_4 : decode cX1_takeBack 4 = .ok (.ifCond .ne 5, 3) := by decide +kernel
theorem dX1_takeBack_7 : decode cX1_takeBack 7 = .ok (.aload_n 1, 1) := by decide +kernel
theorem dX1_takeBack_8 : decode cX1_takeBack 8 = .ok (.areturn, 1) := by decide +kernel
theorem dX1_takeBack_9 : decode cX1_takeBack 9 = .ok (.aload_n 0, 1) := by decide +kernel
theorem dX1_takeBack_10 : decode cX1_takeBack 10 = .ok (.dup, 1) := by decide +kernel
theorem dX1_takeBack_11 : decode cX1_takeBack 11 = .ok (.getfield 19, 3) := by decide +kernel
theorem dX1_takeBack_14 : decode cX1_takeBack 14 = .ok (.iconst 1, 1) := by decide +kernel
theorem dX1_takeBack_15 : decode cX1_takeBack 15 = .ok (.isub, 1) := by decide +kernel
theorem dX1_takeBack_16 : decode cX1_takeBack 16 = .ok (.putfield 19, 3) := by decide +kernel
theorem dX1_takeBack_19 : decode cX1_takeBack 19 = .ok (.aload_n 0, 1) := by decide +kernel
theorem dX1_takeBack_20 : decode cX1_takeBack 20 = .ok (.dup, 1) := by decide +kernel
theorem dX1_takeBack_21 : decode cX1_takeBack 21 = .ok (.getfield 23, 3) := by decide +kernel
theorem dX1_takeBack_24 : decode cX1_takeBack 24 = .ok (.iconst 1, 1) := by decide +kernel
theorem dX1_takeBack_25 : decode cX1_takeBack 25 = .ok (.iadd, 1) := by decide +kernel
theorem dX1_takeBack_26 : decode cX1_takeBack 26 = .ok (.putfield 23, 3) := by decide +kernel
theorem dX1_takeBack_29 : decode cX1_takeBack 29 = .ok (.aload_n 0, 1) := by decide +kernel
theorem dX1_takeBack_30 : decode cX1_takeBack 30 = .ok (.aload_n 0, 1) := by decide +kernel
theorem dX1_takeBack_31 : decode cX1_takeBack 31 = .ok (.getfield 19, 3) := by decide +kernel
theorem dX1_takeBack_34 : decode cX1_takeBack 34 = .ok (.aload_n 1, 1) := by decide +kernel
theorem dX1_takeBack_35 : decode cX1_takeBack 35 = .ok (.invokevirtual 36, 3) := by decide +kernel
theorem dX1_takeBack_38 : decode cX1_takeBack 38 = .ok (.areturn, 1) := by decide +kernel
theorem ydX1_takeBack : z_yd yX1_takeBack 1 := ⟨by decide, by decide, by decide +kernel⟩
abbrev rmX1_takeBack : Room := { frames := 1, cells := 0, slots := 0, locals := 23 }
noncomputable def xX1_takeBack (l0 : Nat) (l1 : Nat) (h : ZH) : Option (Nat × ZH) := ((z_gI h l0 1 2).bind fun x1 => (if x1 = 0 then some (l1, h) else ((z_gI h l0 1 2).bind fun x11 => ((z_sF h l0 1 2 (.int (x11 - (1 : Int32)))).bind fun h16 => ((z_gI h16 l0 1 3).bind fun x21 => ((z_sF h16 l0 1 3 (.int (x21 + (1 : Int32)))).bind fun h26 => ((z_gI h26 l0 1 2).bind fun x31 => (z_gu (z_is h26 l0 1) ((xX1_exchange l0 x31 l1 h26).bind fun r35 => some (r35.1, r35.2))))))))))
set_option maxHeartbeats 4000000 in
set_option maxRecDepth 100000 in
theorem lX1_takeBack {Γ : ZG} {l : Launch} (hO : z_OK Γ) {l0 : Nat} {l1 : Nat} {h : ZH} {r : (Nat × ZH)} (hX : xX1_takeBack l0 l1 h = some r) : z_M Γ l yX1_takeBack (z_ws1 yX1_takeBack cX1_takeBack 2 (some (.object "SlotFleet$State"))) rmX1_takeBack [.ref l0, .ref l1] h (some (.ref r.1)) r.2 := by
  refine z_start hO (plainFor_of_name (by decide)) (Nat.le_of_ble_eq_true rfl) ?_
  intro p e s m args below meth c G hr hnm
  refine z_lvc (lv2 := [(0, .ref l0), (1, .ref l1)]) rfl ?_
  refine z_aload_n (pc := 0) G 0 dX1_takeBack_0 rfl rfl ?_
  obtain ⟨x1, hv1, hX⟩ := z_bd hX
  refine z_getI (pc := 1) G kK1 (k := 2) (by decide) kt_352 dX1_takeBack_1 hv1 ?_
  refine z_if_ne (pc := 4) (tgt := 9) G dX1_takeBack_4 (by decide) (fun hc4 => ?_) (fun hc4 => ?_)
  · have hX := z_if hc4 hX
    refine z_aload_n (pc := 9) G 0 dX1_takeBack_9 rfl rfl ?_
    refine z_dup (pc := 10) G dX1_takeBack_10 rfl ?_
    obtain ⟨x11, hv11, hX⟩ := z_bd hX
    refine z_getI (pc := 11) G kK1 (k := 2) (by decide) kt_352 dX1_takeBack_11 hv11 ?_
    refine z_iconst (pc := 14) (v := 1) G dX1_takeBack_14 (by decide) ?_
    refine z_isub (pc := 15) G dX1_takeBack_15 ?_
    obtain ⟨h16, hv16, hX⟩ := z_bd hX
    refine z_putF (pc := 16) G kK1 (k := 2) (by decide) kt_352 (Or.inl rfl) rfl rfl dX1_takeBack_16 hv16 ?_
    refine z_aload_n (pc := 19) G 0 dX1_takeBack_19 rfl rfl ?_
    refine z_dup (pc := 20) G dX1_takeBack_20 rfl ?_
    obtain ⟨x21, hv21, hX⟩ := z_bd hX
    refine z_getI (pc := 21) G kK1 (k := 3) (by decide) kt_354 dX1_takeBack_21 hv21 ?_
    refine z_iconst (pc := 24) (v := 1) G dX1_takeBack_24 (by decide) ?_
    refine z_iadd (pc := 25) G dX1_takeBack_25 ?_
    obtain ⟨h26, hv26, hX⟩ := z_bd hX
    refine z_putF (pc := 26) G kK1 (k := 3) (by decide) kt_354 (Or.inl rfl) rfl rfl dX1_takeBack_26 hv26 ?_
    refine z_aload_n (pc := 29) G 0 dX1_takeBack_29 rfl rfl ?_
    refine z_aload_n (pc := 30) G 0 dX1_takeBack_30 rfl rfl ?_
    obtain ⟨x31, hv31, hX⟩ := z_bd hX
    refine z_getI (pc := 31) G kK1 (k := 2) (by decide) kt_352 dX1_takeBack_31 hv31 ?_
    refine z_aload_n (pc := 34) G 1 dX1_takeBack_34 rfl rfl ?_
    obtain ⟨hi35, hX⟩ := z_gu_s hX
    obtain ⟨r35, hv35, hX⟩ := z_bd hX
    refine z_cVR (pc := 35) (As := [.int x31, .ref l1]) (c2 := 0) (s2 := 0) G kK1 (lX1_exchange hO hv35) hi35 kt_938 kt_8 kt_935 kt_937 ks_26 ydX1_exchange ⟨by decide, by decide⟩ rfl (Nat.le_of_ble_eq_true rfl) ⟨rfl, rfl⟩ ⟨by decide, by decide⟩ rfl dX1_takeBack_35 ?_
    exact z_aretX (pc := 38) hX G hr dX1_takeBack_38 (by decide) (by decide)
  · have hX := z_it hc4 hX
    refine z_aload_n (pc := 7) G 1 dX1_takeBack_7 rfl rfl ?_
    exact z_aretX (pc := 8) hX G hr dX1_takeBack_8 (by decide) (by decide)
theorem dX1_doAgain_0 : decode cX1_doAgain 0 = .ok (.aload_n 0, 1) := by decide +kernel
theorem dX1_doAgain_1 : decode cX1_doAgain 1 = .ok (.getfield 23, 3) := by decide +kernel
theorem dX1_doAgain_4 : decode cX1_doAgain 4 = .ok (.ifCond .ne 5, 3) := by decide +kernel
theorem dX1_doAgain_7 : decode cX1_doAgain 7 = .ok (.aload_n 1, 1) := by decide +kernel
theorem dX1_doAgain_8 : decode cX1_doAgain 8 = .ok (.areturn, 1) := by decide +kernel
theorem dX1_doAgain_9 : decode cX1_doAgain 9 = .ok (.aload_n 0, 1) := by decide +kernel
theorem dX1_doAgain_10 : decode cX1_doAgain 10 = .ok (.dup, 1) := by decide +kernel
theorem dX1_doAgain_11 : decode cX1_doAgain 11 = .ok (.getfield 23, 3) := by decide +kernel
theorem dX1_doAgain_14 : decode cX1_doAgain 14 = .ok (.iconst 1, 1) := by decide +kernel
theorem dX1_doAgain_15 : decode cX1_doAgain 15 = .ok (.isub, 1) := by decide +kernel
theorem dX1_doAgain_16 : decode cX1_doAgain 16 = .ok (.putfield 23, 3) := by decide +kernel
theorem dX1_doAgain_19 : decode cX1_doAgain 19 = .ok (.aload_n 0, 1) := by decide +kernel
theorem dX1_doAgain_20 : decode cX1_doAgain 20 = .ok (.dup, 1) := by decide +kernel
theorem dX1_doAgain_21 : decode cX1_doAgain 21 = .ok (.getfield 19, 3) := by decide +kernel
theorem dX1_doAgain_24 : decode cX1_doAgain 24 = .ok (.iconst 1, 1) := by decide +kernel
theorem dX1_doAgain_25 : decode cX1_doAgain 25 = .ok (.iadd, 1) := by decide +kernel
theorem dX1_doAgain_26 : decode cX1_doAgain 26 = .ok (.putfield 19, 3) := by decide +kernel
theorem dX1_doAgain_29 : decode cX1_doAgain 29 = .ok (.aload_n 0, 1) := by decide +kernel
theorem dX1_doAgain_30 : decode cX1_doAgain 30 = .ok (.aload_n 0, 1) := by decide +kernel
theorem dX1_doAgain_31 : decode cX1_doAgain 31 = .ok (.getfield 19, 3) := by decide +kernel
theorem dX1_doAgain_34 : decode cX1_doAgain 34 = .ok (.iconst 1, 1) := by decide +kernel
theorem dX1_doAgain_35 : decode cX1_doAgain 35 = .ok (.isub, 1) := by decide +kernel
theorem dX1_doAgain_36 : decode cX1_doAgain 36 = .ok (.aload_n 1, 1) := by decide +kernel
theorem dX1_doAgain_37 : decode cX1_doAgain 37 = .ok (.invokevirtual 36, 3) := by decide +kernel
theorem dX1_doAgain_40 : decode cX1_doAgain 40 = .ok (.areturn, 1) := by decide +kernel
theorem ydX1_doAgain : z_yd yX1_doAgain 1 := ⟨by decide, by decide, by decide +kernel⟩
abbrev rmX1_doAgain : Room := { frames := 1, cells := 0, slots := 0, locals := 23 }
noncomputable def xX1_doAgain (l0 : Nat) (l1 : Nat) (h : ZH) : Option (Nat × ZH) := ((z_gI h l0 1 3).bind fun x1 => (if x1 = 0 then some (l1, h) else ((z_gI h l0 1 3).bind fun x11 => ((z_sF h l0 1 3 (.int (x11 - (1 : Int32)))).bind fun h16 => ((z_gI h16 l0 1 2).bind fun x21 => ((z_sF h16 l0 1 2 (.int (x21 + (1 : Int32)))).bind fun h26 => ((z_gI h26 l0 1 2).bind fun x31 => (z_gu (z_is h26 l0 1) ((xX1_exchange l0 (x31 - (1 : Int32)) l1 h26).bind fun r37 => some (r37.1, r37.2))))))))))
set_option maxHeartbeats 4000000 in
set_option maxRecDepth 100000 in
theorem lX1_doAgain {Γ : ZG} {l : Launch} (hO : z_OK Γ) {l0 : Nat} {l1 : Nat} {h : ZH} {r : (Nat × ZH)} (hX : xX1_doAgain l0 l1 h = some r) : z_M Γ l yX1_doAgain (z_ws1 yX1_doAgain cX1_doAgain 2 (some (.object "SlotFleet$State"))) rmX1_doAgain [.ref l0, .ref l1] h (some (.ref r.1)) r.2 := by
  refine z_start hO (plainFor_of_name (by decide)) (Nat.le_of_ble_eq_true rfl) ?_
  intro p e s m args below meth c G hr hnm
  refine z_lvc (lv2 := [(0, .ref l0), (1, .ref l1)]) rfl ?_
  refine z_aload_n (pc := 0) G 0 dX1_doAgain_0 rfl rfl ?_
  obtain ⟨x1, hv1, hX⟩ := z_bd hX
  refine z_getI (pc := 1) G kK1 (k := 3) (by decide) kt_354 dX1_doAgain_1 hv1 ?_
  refine z_if_ne (pc := 4) (tgt := 9) G dX1_doAgain_4 (by decide) (fun hc4 => ?_) (fun hc4 => ?_)
  · have hX := z_if hc4 hX
    refine z_aload_n (pc := 9) G 0 dX1_doAgain_9 rfl rfl ?_
    refine z_dup (pc := 10) G dX1_doAgain_10 rfl ?_
    obtain ⟨x11, hv11, hX⟩ := z_bd hX
    refine z_getI (pc := 11) G kK1 (k := 3) (by decide) kt_354 dX1_doAgain_11 hv11 ?_
    refine z_iconst (pc := 14) (v := 1) G dX1_doAgain_14 (by decide) ?_
    refine z_isub (pc := 15) G dX1_doAgain_15 ?_
    obtain ⟨h16, hv16, hX⟩ := z_bd hX
    refine z_putF (pc := 16) G kK1 (k := 3) (by decide) kt_354 (Or.inl rfl) rfl rfl dX1_doAgain_16 hv16 ?_
    refine z_aload_n (pc := 19) G 0 dX1_doAgain_19 rfl rfl ?_
    refine z_dup (pc := 20) G dX1_doAgain_20 rfl ?_
    obtain ⟨x21, hv21, hX⟩ := z_bd hX
    refine z_getI (pc := 21) G kK1 (k := 2) (by decide) kt_352 dX1_doAgain_21 hv21 ?_
    refine z_iconst (pc := 24) (v := 1) G dX1_doAgain_24 (by decide) ?_
    refine z_iadd (pc := 25) G dX1_doAgain_25 ?_
    obtain ⟨h26, hv26, hX⟩ := z_bd hX
    refine z_putF (pc := 26) G kK1 (k := 2) (by decide) kt_352 (Or.inl rfl) rfl rfl dX1_doAgain_26 hv26 ?_
    refine z_aload_n (pc := 29) G 0 dX1_doAgain_29 rfl rfl ?_
    refine z_aload_n (pc := 30) G 0 dX1_doAgain_30 rfl rfl ?_
    obtain ⟨x31, hv31, hX⟩ := z_bd hX
    refine z_getI (pc := 31) G kK1 (k := 2) (by decide) kt_352 dX1_doAgain_31 hv31 ?_
    refine z_iconst (pc := 34) (v := 1) G dX1_doAgain_34 (by decide) ?_
    refine z_isub (pc := 35) G dX1_doAgain_35 ?_
    refine z_aload_n (pc := 36) G 1 dX1_doAgain_36 rfl rfl ?_
    obtain ⟨hi37, hX⟩ := z_gu_s hX
    obtain ⟨r37, hv37, hX⟩ := z_bd hX
    refine z_cVR (pc := 37) (As := [.int (x31 - (1 : Int32)), .ref l1]) (c2 := 0) (s2 := 0) G kK1 (lX1_exchange hO hv37) hi37 kt_938 kt_8 kt_935 kt_937 ks_26 ydX1_exchange ⟨by decide, by decide⟩ rfl (Nat.le_of_ble_eq_true rfl) ⟨rfl, rfl⟩ ⟨by decide, by decide⟩ rfl dX1_doAgain_37 ?_
    exact z_aretX (pc := 40) hX G hr dX1_doAgain_40 (by decide) (by decide)
  · have hX := z_it hc4 hX
    refine z_aload_n (pc := 7) G 1 dX1_doAgain_7 rfl rfl ?_
    exact z_aretX (pc := 8) hX G hr dX1_doAgain_8 (by decide) (by decide)
theorem dX2_init_0 : decode cX2_init 0 = .ok (.aload_n 0, 1) := by decide +kernel
theorem dX2_init_1 : decode cX2_init 1 = .ok (.invokespecial 3, 3) := by decide +kernel
theorem dX2_init_4 : decode cX2_init 4 = .ok (.aload_n 0, 1) := by decide +kernel
theorem dX2_init_5 : decode cX2_init 5 = .ok (.bipush 12, 2) := by decide +kernel
theorem dX2_init_7 : decode cX2_init 7 = .ok (.putfield 9, 3) := by decide +kernel
theorem dX2_init_10 : decode cX2_init 10 = .ok (.aload_n 0, 1) := by decide +kernel
theorem dX2_init_11 : decode cX2_init 11 = .ok (.bipush 30, 2) := by decide +kernel
theorem dX2_init_13 : decode cX2_init 13 = .ok (.putfield 15, 3) := by decide +kernel
theorem dX2_init_16 : decode cX2_init 16 = .ok (.aload_n 0, 1) := by decide +kernel
theorem dX2_init_17 : decode cX2_init 17 = .ok (.iconst 2, 1) := by decide +kernel
theorem dX2_init_18 : decode cX2_init 18 = .ok (.putfield 18, 3) := by decide +kernel
theorem dX2_init_21 : decode cX2_init 21 = .ok (.aload_n 0, 1) := by decide +kernel
theorem dX2_init_22 : decode cX2_init 22 = .ok (.iconst 2, 1) := by decide +kernel
theorem dX2_init_23 : decode cX2_init 23 = .ok (.putfield 21, 3) := by decide +kernel
theorem dX2_init_26 : decode cX2_init 26 = .ok (.aload_n 0, 1) := by decide +kernel
theorem dX2_init_27 : decode cX2_init 27 = .ok (.iconst 3, 1) := by decide +kernel
theorem dX2_init_28 : decode cX2_init 28 = .ok (.putfield 24, 3) := by decide +kernel
theorem dX2_init_31 : decode cX2_init 31 = .ok (.aload_n 0, 1) := by decide +kernel
theorem dX2_init_32 : decode cX2_init 32 = .ok (.bipush 6, 2) := by decide +kernel
theorem dX2_init_34 : decode cX2_init 34 = .ok (.newarray .int, 2) := by decide +kernel
theorem dX2_init_36 : decode cX2_init 36 = .ok (.putfield 27, 3) := by decide +kernel
theorem dX2_init_39 : decode cX2_init 39 = .ok (.aload_n 0, 1) := by decide +kernel
theorem dX2_init_40 : decode cX2_init 40 = .ok (.bipush 6, 2) := by decide +kernel
theorem dX2_init_42 : decode cX2_init 42 = .ok (.newarray .int, 2) := by decide +kernel
theorem dX2_init_44 : decode cX2_init 44 = .ok (.putfield 31, 3) := by decide +kernel
theorem dX2_init_47 : decode cX2_init 47 = .ok (.aload_n 0, 1) := by decide +kernel
theorem dX2_init_48 : decode cX2_init 48 = .ok (.bipush 6, 2) := by decide +kernel
theorem dX2_init_50 : decode cX2_init 50 = .ok (.newarray .int, 2) := by decide +kernel
theorem dX2_init_52 : decode cX2_init 52 = .ok (.putfield 34, 3) := by decide +kernel
theorem dX2_init_55 : decode cX2_init 55 = .ok (.aload_n 0, 1) := by decide +kernel
theorem dX2_init_56 : decode cX2_init 56 = .ok (.bipush 6, 2) := by decide +kernel
theorem dX2_init_58 : decode cX2_init 58 = .ok (.newarray .int, 2) := by decide +kernel
theorem dX2_init_60 : decode cX2_init 60 = .ok (.putfield 37, 3) := by decide +kernel
theorem dX2_init_63 : decode cX2_init 63 = .ok (.aload_n 0, 1) := by decide +kernel
theorem dX2_init_64 : decode cX2_init 64 = .ok (.bipush 6, 2) := by decide +kernel
theorem dX2_init_66 : decode cX2_init 66 = .ok (.newarray .int, 2) := by decide +kernel
theorem dX2_init_68 : decode cX2_init 68 = .ok (.putfield 40, 3) := by decide +kernel
theorem dX2_init_71 : decode cX2_init 71 = .ok (.aload_n 0, 1) := by decide +kernel
theorem dX2_init_72 : decode cX2_init 72 = .ok (.sipush 280, 3) := by decide +kernel
theorem dX2_init_75 : decode cX2_init 75 = .ok (.newarray .int, 2) := by decide +kernel
theorem dX2_init_77 : decode cX2_init 77 = .ok (.putfield 43, 3) := by decide +kernel
theorem dX2_init_80 : decode cX2_init 80 = .ok (.aload_n 0, 1) := by decide +kernel
theorem dX2_init_81 : decode cX2_init 81 = .ok (.bipush 32, 2) := by decide +kernel
theorem dX2_init_83 : decode cX2_init 83 = .ok (.newarray .int, 2) := by decide +kernel
theorem dX2_init_85 : decode cX2_init 85 = .ok (.putfield 46, 3) := by decide +kernel
theorem dX2_init_88 : decode cX2_init 88 = .ok (.return_, 1) := by decide +kernel
theorem ydX2_init : z_yd yX2_init 0 := ⟨by decide, by decide, by decide +kernel⟩
abbrev rmX2_init : Room := { frames := 1, cells := 7, slots := 342, locals := 12 }
noncomputable def xX2_init (l0 : Nat) (h : ZH) : Option ZH := ((z_sF h l0 2 0 (.int (12 : Int32))).bind fun h7 => ((z_sF h7 l0 2 1 (.int (30 : Int32))).bind fun h13 => ((z_sF h13 l0 2 2 (.int (2 : Int32))).bind fun h18 => ((z_sF h18 l0 2 3 (.int (2 : Int32))).bind fun h23 => ((z_sF h23 l0 2 4 (.int (3 : Int32))).bind fun h28 => ((z_nw h28 (.inr (.inl (0, List.replicate 6 0)))).bind fun q34 => ((z_sF q34.2 l0 2 9 (.ref q34.1)).bind fun h36 => ((z_nw h36 (.inr (.inl (0, List.replicate 6 0)))).bind fun q42 => ((z_sF q42.2 l0 2 10 (.ref q42.1)).bind fun h44 => ((z_nw h44 (.inr (.inl (0, List.replicate 6 0)))).bind fun q50 => ((z_sF q50.2 l0 2 11 (.ref q50.1)).bind fun h52 => ((z_nw h52 (.inr (.inl (0, List.replicate 6 0)))).bind fun q58 => ((z_sF q58.2 l0 2 12 (.ref q58.1)).bind fun h60 => ((z_nw h60 (.inr (.inl (0, List.replicate 6 0)))).bind fun q66 => ((z_sF q66.2 l0 2 13 (.ref q66.1)).bind fun h68 => ((z_nw h68 (.inr (.inl (0, List.replicate 280 0)))).bind fun q75 => ((z_sF q75.2 l0 2 14 (.ref q75.1)).bind fun h77 => ((z_nw h77 (.inr (.inl (0, List.replicate 32 0)))).bind fun q83 => ((z_sF q83.2 l0 2 16 (.ref q83.1)).bind fun h85 => some h85)))))))))))))))))))
set_option maxHeartbeats 4000000 in
set_option maxRecDepth 100000 in
theorem lX2_init {Γ : ZG} {l : Launch} (hO : z_OK Γ) {l0 : Nat} {h : ZH} {r : ZH} (hX : xX2_init l0 h = some r) : z_M Γ l yX2_init (z_ws1 yX2_init cX2_init 1 none) rmX2_init [.ref l0] h none r := by
  refine z_start hO (plainFor_of_name (by decide)) (Nat.le_of_ble_eq_true rfl) ?_
  intro p e s m args below meth c G hr hnm
  refine z_lvc (lv2 := [(0, .ref l0)]) rfl ?_
  refine z_aload_n (pc := 0) G 0 dX2_init_0 rfl rfl ?_
  refine z_obj (pc := 1) G kt_38 kt_25 kt_26 (by decide) (Nat.le_of_ble_eq_true rfl) dX2_init_1 ?_
  refine z_aload_n (pc := 4) G 0 dX2_init_4 rfl rfl ?_
  refine z_bipush (pc := 5) (v := 12) G dX2_init_5 (by decide) ?_
  obtain ⟨h7, hv7, hX⟩ := z_bd hX
  refine z_putF (pc := 7) G kK2 (k := 0) (by decide) kt_39 (Or.inl rfl) rfl rfl dX2_init_7 hv7 ?_
  refine z_aload_n (pc := 10) G 0 dX2_init_10 rfl rfl ?_
  refine z_bipush (pc := 11) (v := 30) G dX2_init_11 (by decide) ?_
  obtain ⟨h13, hv13, hX⟩ := z_bd hX
  refine z_putF (pc := 13) G kK2 (k := 1) (by decide) kt_45 (Or.inl rfl) rfl rfl dX2_init_13 hv13 ?_
  refine z_aload_n (pc := 16) G 0 dX2_init_16 rfl rfl ?_
  refine z_iconst (pc := 17) (v := 2) G dX2_init_17 (by decide) ?_
  obtain ⟨h18, hv18, hX⟩ := z_bd hX
  refine z_putF (pc := 18) G kK2 (k := 2) (by decide) kt_50 (Or.inl rfl) rfl rfl dX2_init_18 hv18 ?_
  refine z_aload_n (pc := 21) G 0 dX2_init_21 rfl rfl ?_
  refine z_iconst (pc := 22) (v := 2) G dX2_init_22 (by decide) ?_
  obtain ⟨h23, hv23, hX⟩ := z_bd hX
  refine z_putF (pc := 23) G kK2 (k := 3) (by decide) kt_54 (Or.inl rfl) rfl rfl dX2_init_23 hv23 ?_
  refine z_aload_n (pc := 26) G 0 dX2_init_26 rfl rfl ?_
  refine z_iconst (pc := 27) (v := 3) G dX2_init_27 (by decide) ?_
  obtain ⟨h28, hv28, hX⟩ := z_bd hX
  refine z_putF (pc := 28) G kK2 (k := 4) (by decide) kt_57 (Or.inl rfl) rfl rfl dX2_init_28 hv28 ?_
  refine z_aload_n (pc := 31) G 0 dX2_init_31 rfl rfl ?_
  refine z_bipush (pc := 32) (v := 6) G dX2_init_32 (by decide) ?_
  obtain ⟨q34, hv34, hX⟩ := z_bd hX
  refine z_nI (pc := 34) (atype := .int) (t := 0) (N := 6) (c2 := 1) (s2 := 6) G kt_136 rfl (by decide) rfl (fun _ z => by cases z) (by decide) (by decide) (by decide) ⟨rfl, rfl⟩ ⟨by decide, by decide⟩ dX2_init_34 hv34 ?_
  obtain ⟨h36, hv36, hX⟩ := z_bd hX
  refine z_putF (pc := 36) G kK2 (k := 9) (by decide) kt_76 (Or.inr ⟨rfl, hnm, rfl⟩) rfl rfl dX2_init_36 hv36 ?_
  refine z_aload_n (pc := 39) G 0 dX2_init_39 rfl rfl ?_
  refine z_bipush (pc := 40) (v := 6) G dX2_init_40 (by decide) ?_
  obtain ⟨q42, hv42, hX⟩ := z_bd hX
  refine z_nI (pc := 42) (atype := .int) (t := 0) (N := 6) (c2 := 2) (s2 := 12) G kt_136 rfl (by decide) rfl (fun _ z => by cases z) (by decide) (by decide) (by decide) ⟨rfl, rfl⟩ ⟨by decide, by decide⟩ dX2_init_42 hv42 ?_
  obtain ⟨h44, hv44, hX⟩ := z_bd hX
  refine z_putF (pc := 44) G kK2 (k := 10) (by decide) kt_80 (Or.inr ⟨rfl, hnm, rfl⟩) rfl rfl dX2_init_44 hv44 ?_
  refine z_aload_n (pc := 47) G 0 dX2_init_47 rfl rfl ?_
  refine z_bipush (pc := 48) (v := 6) G dX2_init_48 (by decide) ?_
  obtain ⟨q50, hv50, hX⟩ := z_bd hX
  refine z_nI (pc := 50) (atype := .int) (t := 0) (N := 6) (c2 := 3) (s2 := 18) G kt_136 rfl (by decide) rfl (fun _ z => by cases z) (by decide) (by decide) (by decide) ⟨rfl, rfl⟩ ⟨by decide, by decide⟩ dX2_init_50 hv50 ?_
  obtain ⟨h52, hv52, hX⟩ := z_bd hX
  refine z_putF (pc := 52) G kK2 (k := 11) (by decide) kt_84 (Or.inr ⟨rfl, hnm, rfl⟩) rfl rfl dX2_init_52 hv52 ?_
  refine z_aload_n (pc := 55) G 0 dX2_init_55 rfl rfl ?_
  refine z_bipush (pc := 56) (v := 6) G dX2_init_56 (by decide) ?_
  obtain ⟨q58, hv58, hX⟩ := z_bd hX
  refine z_nI (pc := 58) (atype := .int) (t := 0) (N := 6) (c2 := 4) (s2 := 24) G kt_136 rfl (by decide) rfl (fun _ z => by cases z) (by decide) (by decide) (by decide) ⟨rfl, rfl⟩ ⟨by decide, by decide⟩ dX2_init_58 hv58 ?_
  obtain ⟨h60, hv60, hX⟩ := z_bd hX
  refine z_putF (pc := 60) G kK2 (k := 12) (by decide) kt_88 (Or.inr ⟨rfl, hnm, rfl⟩) rfl rfl dX2_init_60 hv60 ?_
  refine z_aload_n (pc := 63) G 0 dX2_init_63 rfl rfl ?_
  refine z_bipush (pc := 64) (v := 6) G dX2_init_64 (by decide) ?_
  obtain ⟨q66, hv66, hX⟩ := z_bd hX
  refine z_nI (pc := 66) (atype := .int) (t := 0) (N := 6) (c2 := 5) (s2 := 30) G kt_136 rfl (by decide) rfl (fun _ z => by cases z) (by decide) (by decide) (by decide) ⟨rfl, rfl⟩ ⟨by decide, by decide⟩ dX2_init_66 hv66 ?_
  obtain ⟨h68, hv68, hX⟩ := z_bd hX
  refine z_putF (pc := 68) G kK2 (k := 13) (by decide) kt_92 (Or.inr ⟨rfl, hnm, rfl⟩) rfl rfl dX2_init_68 hv68 ?_
  refine z_aload_n (pc := 71) G 0 dX2_init_71 rfl rfl ?_
  refine z_sipush (pc := 72) (v := 280) G dX2_init_72 (by decide) ?_
  obtain ⟨q75, hv75, hX⟩ := z_bd hX
  refine z_nI (pc := 75) (atype := .int) (t := 0) (N := 280) (c2 := 6) (s2 := 310) G kt_136 rfl (by decide) rfl (fun _ z => by cases z) (by decide) (by decide) (by decide) ⟨rfl, rfl⟩ ⟨by decide, by decide⟩ dX2_init_75 hv75 ?_
  obtain ⟨h77, hv77, hX⟩ := z_bd hX
  refine z_putF (pc := 77) G kK2 (k := 14) (by decide) kt_96 (Or.inr ⟨rfl, hnm, rfl⟩) rfl rfl dX2_init_77 hv77 ?_
  refine z_aload_n (pc := 80) G 0 dX2_init_80 rfl rfl ?_
  refine z_bipush (pc := 81) (v := 32) G dX2_init_81 (by decide) ?_
  obtain ⟨q83, hv83, hX⟩ := z_bd hX
  refine z_nI (pc := 83) (atype := .int) (t := 0) (N := 32) (c2 := 7) (s2 := 342) G kt_136 rfl (by decide) rfl (fun _ z => by cases z) (by decide) (by decide) (by decide) ⟨rfl, rfl⟩ ⟨by decide, by decide⟩ dX2_init_83 hv83 ?_
  obtain ⟨h85, hv85, hX⟩ := z_bd hX
  refine z_putF (pc := 85) G kK2 (k := 16) (by decide) kt_99 (Or.inr ⟨rfl, hnm, rfl⟩) rfl rfl dX2_init_85 hv85 ?_
  exact z_vretX (pc := 88) hX G hr dX2_init_88 (by decide) (by decide)
theorem dX2_clear_0 : decode cX2_clear 0 = .ok (.aload_n 0, 1) := by decide +kernel
theorem dX2_clear_1 : decode cX2_clear 1 = .ok (.bipush 12, 2) := by decide +kernel
theorem dX2_clear_3 : decode cX2_clear 3 = .ok (.putfield 9, 3) := by decide +kernel
theorem dX2_clear_6 : decode cX2_clear 6 = .ok (.aload_n 0, 1) := by decide +kernel
theorem dX2_clear_7 : decode cX2_clear 7 = .ok (.bipush 30, 2) := by decide +kernel
theorem dX2_clear_9 : decode cX2_clear 9 = .ok (.putfield 15, 3) := by decide +kernel
theorem dX2_clear_12 : decode cX2_clear 12 = .ok (.aload_n 0, 1) := by decide +kernel
theorem dX2_clear_13 : decode cX2_clear 13 = .ok (.iconst 2, 1) := by decide +kernel
theorem dX2_clear_14 : decode cX2_clear 14 = .ok (.putfield 18, 3) := by decide +kernel
theorem dX2_clear_17 : decode cX2_clear 17 = .ok (.aload_n 0, 1) := by decide +kernel
theorem dX2_clear_18 : decode cX2_clear 18 = .ok (.iconst 2, 1) := by decide +kernel
theorem dX2_clear_19 : decode cX2_clear 19 = .ok (.putfield 21, 3) := by decide +kernel
theorem dX2_clear_22 : decode cX2_clear 22 = .ok (.aload_n 0, 1) := by decide +kernel
theorem dX2_clear_23 : decode cX2_clear 23 = .ok (.iconst 3, 1) := by decide +kernel
theorem dX2_clear_24 : decode cX2_clear 24 = .ok (.putfield 24, 3) := by decide +kernel
theorem dX2_clear_27 : decode cX2_clear 27 = .ok (.aload_n 0, 1) := by decide +kernel
theorem dX2_clear_28 : decode cX2_clear 28 = .ok (.iconst 0, 1) := by decide +kernel
theorem dX2_clear_29 : decode cX2_clear 29 = .ok (.putfield 49, 3) := by decide +kernel
theorem dX2_clear_32 : decode cX2_clear 32 = .ok (.aload_n 0, 1) := by decide +kernel
theorem dX2_clear_33 : decode cX2_clear 33 = .ok (.iconst 0, 1) := by decide +kernel
theorem dX2_clear_34 : decode cX2_clear 34 = .ok (.putfield 52, 3) := by decide +kernel
theorem dX2_clear_37 : decode cX2_clear 37 = .ok (.aload_n 0, 1) := by decide +kernel
theorem dX2_clear_38 : decode cX2_clear 38 = .ok (.iconst 0, 1) := by decide +kernel
theorem dX2_clear_39 : decode cX2_clear 39 = .ok (.putfield 55, 3) := by decide +kernel
theorem dX2_clear_42 : decode cX2_clear 42 = .ok (.aload_n 0, 1) := by decide +kernel
theorem dX2_clear_43 : decode cX2_clear 43 = .ok (.iconst 0, 1) := by decide +kernel
theorem dX2_clear_44 : decode cX2_clear 44 = .ok (.putfield 58, 3) := by decide +kernel
theorem dX2_clear_47 : decode cX2_clear 47 = .ok (.aload_n 0, 1) := by decide +kernel
theorem dX2_clear_48 : decode cX2_clear 48 = .ok (.iconst 0, 1) := by decide +kernel
theorem dX2_clear_49 : decode cX2_clear 49 = .ok (.putfield 61, 3) := by decide +kernel
theorem dX2_clear_52 : decode cX2_clear 52 = .ok (.return_, 1) := by decide +kernel
theorem ydX2_clear : z_yd yX2_clear 0 := ⟨by decide, by decide, by decide +kernel⟩
abbrev rmX2_clear : Room := { frames := 0, cells := 0, slots := 0, locals := 0 }
noncomputable def xX2_clear (l0 : Nat) (h : ZH) : Option ZH := ((z_sF h l0 2 0 (.int (12 : Int32))).bind fun h3 => ((z_sF h3 l0 2 1 (.int (30 : Int32))).bind fun h9 => ((z_sF h9 l0 2 2 (.int (2 : Int32))).bind fun h14 => ((z_sF h14 l0 2 3 (.int (2 : Int32))).bind fun h19 => ((z_sF h19 l0 2 4 (.int (3 : Int32))).bind fun h24 => ((z_sF h24 l0 2 5 (.int (0 : Int32))).bind fun h29 => ((z_sF h29 l0 2 6 (.int (0 : Int32))).bind fun h34 => ((z_sF h34 l0 2 7 (.int (0 : Int32))).bind fun h39 => ((z_sF h39 l0 2 8 (.int (0 : Int32))).bind fun h44 => ((z_sF h44 l0 2 15 (.int (0 : Int32))).bind fun h49 => some h49))))))))))
set_option maxHeartbeats 4000000 in
set_option maxRecDepth 100000 in
theorem lX2_clear {Γ : ZG} {l : Launch} (hO : z_OK Γ) {l0 : Nat} {h : ZH} {r : ZH} (hX : xX2_clear l0 h = some r) : z_M Γ l yX2_clear (z_ws1 yX2_clear cX2_clear 1 none) rmX2_clear [.ref l0] h none r := by
  refine z_start hO (plainFor_of_name (by decide)) (Nat.le_of_ble_eq_true rfl) ?_
  intro p e s m args below meth c G hr hnm
  refine z_lvc (lv2 := [(0, .ref l0)]) rfl ?_
  refine z_aload_n (pc := 0) G 0 dX2_clear_0 rfl rfl ?_
  refine z_bipush (pc := 1) (v := 12) G dX2_clear_1 (by decide) ?_
  obtain ⟨h3, hv3, hX⟩ := z_bd hX
  refine z_putF (pc := 3) G kK2 (k := 0) (by decide) kt_39 (Or.inl rfl) rfl rfl dX2_clear_3 hv3 ?_
  refine z_aload_n (pc := 6) G 0 dX2_clear_6 rfl rfl ?_
  refine z_bipush (pc := 7) (v := 30) G dX2_clear_7 (by decide) ?_
  obtain ⟨h9, hv9, hX⟩ := z_bd hX
  refine z_putF (pc := 9) G kK2 (k := 1) (by decide) kt_45 (Or.inl rfl) rfl rfl dX2_clear_9 hv9 ?_
  refine z_aload_n (pc := 12) G 0 dX2_clear_12 rfl rfl ?_
  refine z_iconst (pc := 13) (v := 2) G dX2_clear_13 (by decide) ?_
  obtain ⟨h14, hv14, hX⟩ := z_bd hX
  refine z_putF (pc := 14) G kK2 (k := 2) (by decide) kt_50 (Or.inl rfl) rfl rfl dX2_clear_14 hv14 ?_
  refine z_aload_n (pc := 17) G 0 dX2_clear_17 rfl rfl ?_
  refine z_iconst (pc := 18) (v := 2) G dX2_clear_18 (by decide) ?_
  obtain ⟨h19, hv19, hX⟩ := z_bd hX
  refine z_putF (pc := 19) G kK2 (k := 3) (by decide) kt_54 (Or.inl rfl) rfl rfl dX2_clear_19 hv19 ?_
  refine z_aload_n (pc := 22) G 0 dX2_clear_22 rfl rfl ?_
  refine z_iconst (pc := 23) (v := 3) G dX2_clear_23 (by decide) ?_
  obtain ⟨h24, hv24, hX⟩ := z_bd hX
  refine z_putF (pc := 24) G kK2 (k := 4) (by decide) kt_57 (Or.inl rfl) rfl rfl dX2_clear_24 hv24 ?_
  refine z_aload_n (pc := 27) G 0 dX2_clear_27 rfl rfl ?_
  refine z_iconst (pc := 28) (v := 0) G dX2_clear_28 (by decide) ?_
  obtain ⟨h29, hv29, hX⟩ := z_bd hX
  refine z_putF (pc := 29) G kK2 (k := 5) (by decide) kt_60 (Or.inl rfl) rfl rfl dX2_clear_29 hv29 ?_
  refine z_aload_n (pc := 32) G 0 dX2_clear_32 rfl rfl ?_
  refine z_iconst (pc := 33) (v := 0) G dX2_clear_33 (by decide) ?_
  obtain ⟨h34, hv34, hX⟩ := z_bd hX
  refine z_putF (pc := 34) G kK2 (k := 6) (by decide) kt_64 (Or.inl rfl) rfl rfl dX2_clear_34 hv34 ?_
  refine z_aload_n (pc := 37) G 0 dX2_clear_37 rfl rfl ?_
  refine z_iconst (pc := 38) (v := 0) G dX2_clear_38 (by decide) ?_
  obtain ⟨h39, hv39, hX⟩ := z_bd hX
  refine z_putF (pc := 39) G kK2 (k := 7) (by decide) kt_67 (Or.inl rfl) rfl rfl dX2_clear_39 hv39 ?_
  refine z_aload_n (pc := 42) G 0 dX2_clear_42 rfl rfl ?_
  refine z_iconst (pc := 43) (v := 0) G dX2_clear_43 (by decide) ?_
  obtain ⟨h44, hv44, hX⟩ := z_bd hX
  refine z_putF (pc := 44) G kK2 (k := 8) (by decide) kt_73 (Or.inl rfl) rfl rfl dX2_clear_44 hv44 ?_
  refine z_aload_n (pc := 47) G 0 dX2_clear_47 rfl rfl ?_
  refine z_iconst (pc := 48) (v := 0) G dX2_clear_48 (by decide) ?_
  obtain ⟨h49, hv49, hX⟩ := z_bd hX
  refine z_putF (pc := 49) G kK2 (k := 15) (by decide) kt_97 (Or.inl rfl) rfl rfl dX2_clear_49 hv49 ?_
  exact z_vretX (pc := 52) hX G hr dX2_clear_52 (by decide) (by decide)
theorem dX2_copy_0 : decode cX2_copy 0 = .ok (.aload_n 0, 1) := by decide +kernel
theorem dX2_copy_1 : decode cX2_copy 1 = .ok (.aload_n 1, 1) := by decide +kernel
theorem dX2_copy_2 : decode cX2_copy 2 = .ok (.getfield 9, 3) := by decide +kernel
theorem dX2_copy_5 : decode cX2_copy 5 = .ok (.putfield 9, 3) := by decide +kernel
theorem dX2_copy_8 : decode cX2_copy 8 = .ok (.aload_n 0, 1) := by decide +kernel
theorem dX2_copy_9 : decode cX2_copy 9 = .ok (.aload_n 1, 1) := by decide +kernel
theorem dX2_copy_10 : decode cX2_copy 10 = .ok (.getfield 15, 3) := by decide +kernel
theorem dX2_copy_13 : decode cX2_copy 13 = .ok (.putfield 15, 3) := by decide +kernel
theorem dX2_copy_16 : decode cX2_copy 16 = .ok (.aload_n 0, 1) := by decide +kernel
theorem dX2_copy_17 : decode cX2_copy 17 = .ok (.aload_n 1, 1) := by decide +kernel
theorem dX2_copy_18 : decode cX2_copy 18 = .ok (.getfield 18, 3) := by decide +kernel
theorem dX2_copy_21 : decode cX2_copy 21 = .ok (.putfield 18, 3) := by decide +kernel
theorem dX2_copy_24 : decode cX2_copy 24 = .ok (.aload_n 0, 1) := by decide +kernel
theorem dX2_copy_25 : decode cX2_copy 25 = .ok (.aload_n 1, 1) := by decide +kernel
theorem dX2_copy_26 : decode cX2_copy 26 = .ok (.getfield 21, 3) := by decide +kernel
theorem dX2_copy_29 : decode cX2_copy 29 = .ok (.putfield 21, 3) := by decide +kernel
theorem dX2_copy_32 : decode cX2_copy 32 = .ok (.aload_n 0, 1) := by decide +kernel
theorem dX2_copy_33 : decode cX2_copy 33 = .ok (.aload_n 1, 1) := by decide +kernel
theorem dX2_copy_34 : decode cX2_copy 34 = .ok (.getfield 24, 3) := by decide +kernel
theorem dX2_copy_37 : decode cX2_copy 37 = .ok (.putfield 24, 3) := by decide +kernel
theorem dX2_copy_40 : decode cX2_copy 40 = .ok (.aload_n 0, 1) := by decide +kernel
theorem dX2_copy_41 : decode cX2_copy 41 = .ok (.aload_n 1, 1) := by decide +kernel
theorem dX2_copy_42 : decode cX2_copy 42 = .ok (.getfield 49, 3) := by decide +kernel
theorem dX2_copy_45 : decode cX2_copy 45 = .ok (.putfield 49, 3) := by decide +kernel
theorem dX2_copy_48 : decode cX2_copy 48 = .ok (.aload_n 0, 1) := by decide +kernel
theorem dX2_copy_49 : decode cX2_copy 49 = .ok (.aload_n 1, 1) := by decide +kernel
theorem dX2_copy_50 : decode cX2_copy 50 = .ok (.getfield 52, 3) := by decide +kernel
theorem dX2_copy_53 : decode cX2_copy 53 = .ok (.putfield 52, 3) := by decide +kernel
theorem dX2_copy_56 : decode cX2_copy 56 = .ok (.aload_n 0, 1) := by decide +kernel
theorem dX2_copy_57 : decode cX2_copy 57 = .ok (.aload_n 1, 1) := by decide +kernel
theorem dX2_copy_58 : decode cX2_copy 58 = .ok (.getfield 55, 3) := by decide +kernel
theorem dX2_copy_61 : decode cX2_copy 61 = .ok (.putfield 55, 3) := by decide +kernel
theorem dX2_copy_64 : decode cX2_copy 64 = .ok (.aload_n 0, 1) := by decide +kernel
theorem dX2_copy_65 : decode cX2_copy 65 = .ok (.aload_n 1, 1) := by decide +kernel
theorem dX2_copy_66 : decode cX2_copy 66 = .ok (.getfield 58, 3) := by decide +kernel
theorem dX2_copy_69 : decode cX2_copy 69 = .ok (.putfield 58, 3) := by decide +kernel
theorem dX2_copy_72 : decode cX2_copy 72 = .ok (.aload_n 0, 1) := by decide +kernel
theorem dX2_copy_73 : decode cX2_copy 73 = .ok (.aload_n 1, 1) := by decide +kernel
theorem dX2_copy_74 : decode cX2_copy 74 = .ok (.getfield 61, 3) := by decide +kernel
theorem dX2_copy_77 : decode cX2_copy 77 = .ok (.putfield 61, 3) := by decide +kernel
theorem dX2_copy_80 : decode cX2_copy 80 = .ok (.aload_n 1, 1) := by decide +kernel
theorem dX2_copy_81 : decode cX2_copy 81 = .ok (.getfield 27, 3) := by decide +kernel
theorem dX2_copy_84 : decode cX2_copy 84 = .ok (.iconst 0, 1) := by decide +kernel
theorem dX2_copy_85 : decode cX2_copy 85 = .ok (.aload_n 0, 1) := by decide +kernel
theorem dX2_copy_86 : decode cX2_copy 86 = .ok (.getfield 27, 3) := by decide +kernel
theorem dX2_copy_89 : decode cX2_copy 89 = .ok (.iconst 0, 1) := by decide +kernel
theorem dX2_copy_90 : decode cX2_copy 90 = .ok (.bipush 6, 2) := by decide +kernel
theorem dX2_copy_92 : decode cX2_copy 92 = .ok (.invokestatic 64, 3) := by decide +kernel
theorem dX2_copy_95 : decode cX2_copy 95 = .ok (.aload_n 1, 1) := by decide +kernel
theorem dX2_copy_96 : decode cX2_copy 96 = .ok (.getfield 31, 3) := by decide +kernel
theorem dX2_copy_99 : decode cX2_copy 99 = .ok (.iconst 0, 1) := by decide +kernel
theorem dX2_copy_100 : decode cX2_copy 100 = .ok (.aload_n 0, 1) := by decide +kernel
theorem dX2_copy_101 : decode cX2_copy 101 = .ok (.getfield 31, 3) := by decide +kernel
theorem dX2_copy_104 : decode cX2_copy 104 = .ok (.iconst 0, 1) := by decide +kernel
theorem dX2_copy_105 : decode cX2_copy 105 = .ok (.bipush 6, 2) := by decide +kernel
theorem dX2_copy_107 : decode cX2_copy 107 = .ok (.invokestatic 64, 3) := by decide +kernel
theorem dX2_copy_110 : decode cX2_copy 110 = .ok (.aload_n 1, 1) := by decide +kernel
theorem dX2_copy_111 : decode cX2_copy 111 = .ok (.getfield 34, 3) := by decide +kernel
theorem dX2_copy_114 : decode cX2_copy 114 = .ok (.iconst 0, 1) := by decide +kernel
theorem dX2_copy_115 : decode cX2_copy 115 = .ok (.aload_n 0, 1) := by decide +kernel
theorem dX2_copy_116 : decode cX2_copy 116 = .ok (.getfield 34, 3) := by decide +kernel
theorem dX2_copy_119 : decode cX2_copy 119 = .ok (.iconst 0, 1) := by decide +kernel
theorem dX2_copy_120 : decode cX2_copy 120 = .ok (.bipush 6, 2) := by decide +kernel
theorem dX2_copy_122 : decode cX2_copy 122 = .ok (.invokestatic 64, 3) := by decide +kernel
theorem dX2_copy_125 : decode cX2_copy 125 = .ok (.aload_n 1, 1) := by decide +kernel
theorem dX2_copy_126 : decode cX2_copy 126 = .ok (.getfield 37, 3) := by decide +kernel
theorem dX2_copy_129 : decode cX2_copy 129 = .ok (.iconst 0, 1) := by decide +kernel
theorem dX2_copy_130 : decode cX2_copy 130 = .ok (.aload_n 0, 1) := by decide +kernel
theorem dX2_copy_131 : decode cX2_copy 131 = .ok (.getfield 37, 3) := by decide +kernel
theorem dX2_copy_134 : decode cX2_copy 134 = .ok (.iconst 0, 1) := by decide +kernel
theorem dX2_copy_135 : decode cX2_copy 135 = .ok (.bipush 6, 2) := by decide +kernel
theorem dX2_copy_137 : decode cX2_copy 137 = .ok (.invokestatic 64, 3) := by decide +kernel
theorem dX2_copy_140 : decode cX2_copy 140 = .ok (.aload_n 1, 1) := by decide +kernel
theorem dX2_copy_141 : decode cX2_copy 141 = .ok (.getfield 40, 3) := by decide +kernel
theorem dX2_copy_144 : decode cX2_copy 144 = .ok (.iconst 0, 1) := by decide +kernel
theorem dX2_copy_145 : decode cX2_copy 145 = .ok (.aload_n 0, 1) := by decide +kernel
theorem dX2_copy_146 : decode cX2_copy 146 = .ok (.getfield 40, 3) := by decide +kernel
theorem dX2_copy_149 : decode cX2_copy 149 = .ok (.iconst 0, 1) := by decide +kernel
theorem dX2_copy_150 : decode cX2_copy 150 = .ok (.bipush 6, 2) := by decide +kernel
theorem dX2_copy_152 : decode cX2_copy 152 = .ok (.invokestatic 64, 3) := by decide +kernel
theorem dX2_copy_155 : decode cX2_copy 155 = .ok (.aload_n 1, 1) := by decide +kernel
theorem dX2_copy_156 : decode cX2_copy 156 = .ok (.getfield 43, 3) := by decide +kernel
theorem dX2_copy_159 : decode cX2_copy 159 = .ok (.iconst 0, 1) := by decide +kernel
theorem dX2_copy_160 : decode cX2_copy 160 = .ok (.aload_n 0, 1) := by decide +kernel
theorem dX2_copy_161 : decode cX2_copy 161 = .ok (.getfield 43, 3) := by decide +kernel
theorem dX2_copy_164 : decode cX2_copy 164 = .ok (.iconst 0, 1) := by decide +kernel
theorem dX2_copy_165 : decode cX2_copy 165 = .ok (.sipush 280, 3) := by decide +kernel
theorem dX2_copy_168 : decode cX2_copy 168 = .ok (.invokestatic 64, 3) := by decide +kernel
theorem dX2_copy_171 : decode cX2_copy 171 = .ok (.return_, 1) := by decide +kernel
theorem ydX2_copy : z_yd yX2_copy 1 := ⟨by decide, by decide, by decide +kernel⟩
abbrev rmX2_copy : Room := { frames := 1, cells := 0, slots := 0, locals := 60 }
noncomputable def xX2_copy (l0 : Nat) (l1 : Nat) (h : ZH) : Option ZH := ((z_gI h l1 2 0).bind fun x2 => ((z_sF h l0 2 0 (.int x2)).bind fun h5 => ((z_gI h5 l1 2 1).bind fun x10 => ((z_sF h5 l0 2 1 (.int x10)).bind fun h13 => ((z_gI h13 l1 2 2).bind fun x18 => ((z_sF h13 l0 2 2 (.int x18)).bind fun h21 => ((z_gI h21 l1 2 3).bind fun x26 => ((z_sF h21 l0 2 3 (.int x26)).bind fun h29 => ((z_gI h29 l1 2 4).bind fun x34 => ((z_sF h29 l0 2 4 (.int x34)).bind fun h37 => ((z_gI h37 l1 2 5).bind fun x42 => ((z_sF h37 l0 2 5 (.int x42)).bind fun h45 => ((z_gI h45 l1 2 6).bind fun x50 => ((z_sF h45 l0 2 6 (.int x50)).bind fun h53 => ((z_gI h53 l1 2 7).bind fun x58 => ((z_sF h53 l0 2 7 (.int x58)).bind fun h61 => ((z_gI h61 l1 2 8).bind fun x66 => ((z_sF h61 l0 2 8 (.int x66)).bind fun h69 => ((z_gI h69 l1 2 15).bind fun x74 => ((z_sF h69 l0 2 15 (.int x74)).bind fun h77 => ((z_gR h77 l1 2 9).bind fun x81 => ((z_gR h77 l0 2 9).bind fun x86 => ((z_cp h77 x81 x86 (6 : Int32)).bind fun h92 => ((z_gR h92 l1 2 10).bind fun x96 => ((z_gR h92 l0 2 10).bind fun x101 => ((z_cp h92 x96 x101 (6 : Int32)).bind fun h107 => ((z_gR h107 l1 2 11).bind fun x111 => ((z_gR h107 l0 2 11).bind fun x116 => ((z_cp h107 x111 x116 (6 : Int32)).bind fun h122 => ((z_gR h122 l1 2 12).bind fun x126 => ((z_gR h122 l0 2 12).bind fun x131 => ((z_cp h122 x126 x131 (6 : Int32)).bind fun h137 => ((z_gR h137 l1 2 13).bind fun x141 => ((z_gR h137 l0 2 13).bind fun x146 => ((z_cp h137 x141 x146 (6 : Int32)).bind fun h152 => ((z_gR h152 l1 2 14).bind fun x156 => ((z_gR h152 l0 2 14).bind fun x161 => ((z_cp h152 x156 x161 (280 : Int32)).bind fun h168 => some h168))))))))))))))))))))))))))))))))))))))
set_option maxHeartbeats 4000000 in
set_option maxRecDepth 100000 in
theorem lX2_copy {Γ : ZG} {l : Launch} (hO : z_OK Γ) {l0 : Nat} {l1 : Nat} {h : ZH} {r : ZH} (hX : xX2_copy l0 l1 h = some r) : z_M Γ l yX2_copy (z_ws1 yX2_copy cX2_copy 2 none) rmX2_copy [.ref l0, .ref l1] h none r := by
  refine z_start hO (plainFor_of_name (by decide)) (Nat.le_of_ble_eq_true rfl) ?_
  intro p e s m args below meth c G hr hnm
  refine z_lvc (lv2 := [(0, .ref l0), (1, .ref l1)]) rfl ?_
  refine z_aload_n (pc := 0) G 0 dX2_copy_0 rfl rfl ?_
  refine z_aload_n (pc := 1) G 1 dX2_copy_1 rfl rfl ?_
  obtain ⟨x2, hv2, hX⟩ := z_bd hX
  refine z_getI (pc := 2) G kK2 (k := 0) (by decide) kt_39 dX2_copy_2 hv2 ?_
  obtain ⟨h5, hv5, hX⟩ := z_bd hX
  refine z_putF (pc := 5) G kK2 (k := 0) (by decide) kt_39 (Or.inl rfl) rfl rfl dX2_copy_5 hv5 ?_
  refine z_aload_n (pc := 8) G 0 dX2_copy_8 rfl rfl ?_
  refine z_aload_n (pc := 9) G 1 dX2_copy_9 rfl rfl ?_
  obtain ⟨x10, hv10, hX⟩ := z_bd hX
  refine z_getI (pc := 10) G kK2 (k := 1) (by decide) kt_45 dX2_copy_10 hv10 ?_
  obtain ⟨h13, hv13, hX⟩ := z_bd hX
  refine z_putF (pc := 13) G kK2 (k := 1) (by decide) kt_45 (Or.inl rfl) rfl rfl dX2_copy_13 hv13 ?_
  refine z_aload_n (pc := 16) G 0 dX2_copy_16 rfl rfl ?_
  refine z_aload_n (pc := 17) G 1 dX2_copy_17 rfl rfl ?_
  obtain ⟨x18, hv18, hX⟩ := z_bd hX
  refine z_getI (pc := 18) G kK2 (k := 2) (by decide) kt_50 dX2_copy_18 hv18 ?_
  obtain ⟨h21, hv21, hX⟩ := z_bd hX
  refine z_putF (pc := 21) G kK2 (k := 2) (by decide) kt_50 (Or.inl rfl) rfl rfl dX2_copy_21 hv21 ?_
  refine z_aload_n (pc := 24) G 0 dX2_copy_24 rfl rfl ?_
  refine z_aload_n (pc := 25) G 1 dX2_copy_25 rfl rfl ?_
  obtain ⟨x26, hv26, hX⟩ := z_bd hX
  refine z_getI (pc := 26) G kK2 (k := 3) (by decide) kt_54 dX2_copy_26 hv26 ?_
  obtain ⟨h29, hv29, hX⟩ := z_bd hX
  refine z_putF (pc := 29) G kK2 (k := 3) (by decide) kt_54 (Or.inl rfl) rfl rfl dX2_copy_29 hv29 ?_
  refine z_aload_n (pc := 32) G 0 dX2_copy_32 rfl rfl ?_
  refine z_aload_n (pc := 33) G 1 dX2_copy_33 rfl rfl ?_
  obtain ⟨x34, hv34, hX⟩ := z_bd hX
  refine z_getI (pc := 34) G kK2 (k := 4) (by decide) kt_57 dX2_copy_34 hv34 ?_
  obtain ⟨h37, hv37, hX⟩ := z_bd hX
  refine z_putF (pc := 37) G kK2 (k := 4) (by decide) kt_57 (Or.inl rfl) rfl rfl dX2_copy_37 hv37 ?_
  refine z_aload_n (pc := 40) G 0 dX2_copy_40 rfl rfl ?_
  refine z_aload_n (pc := 41) G 1 dX2_copy_41 rfl rfl ?_
  obtain ⟨x42, hv42, hX⟩ := z_bd hX
  refine z_getI (pc := 42) G kK2 (k := 5) (by decide) kt_60 dX2_copy_42 hv42 ?_
  obtain ⟨h45, hv45, hX⟩ := z_bd hX
  refine z_putF (pc := 45) G kK2 (k := 5) (by decide) kt_60 (Or.inl rfl) rfl rfl dX2_copy_45 hv45 ?_
  refine z_aload_n (pc := 48) G 0 dX2_copy_48 rfl rfl ?_
  refine z_aload_n (pc := 49) G 1 dX2_copy_49 rfl rfl ?_
  obtain ⟨x50, hv50, hX⟩ := z_bd hX
  refine z_getI (pc := 50) G kK2 (k := 6) (by decide) kt_64 dX2_copy_50 hv50 ?_
  obtain ⟨h53, hv53, hX⟩ := z_bd hX
  refine z_putF (pc := 53) G kK2 (k := 6) (by decide) kt_64 (Or.inl rfl) rfl rfl dX2_copy_53 hv53 ?_
  refine z_aload_n (pc := 56) G 0 dX2_copy_56 rfl rfl ?_
  refine z_aload_n (pc := 57) G 1 dX2_copy_57 rfl rfl ?_
  obtain ⟨x58, hv58, hX⟩ := z_bd hX
  refine z_getI (pc := 58) G kK2 (k := 7) (by decide) kt_67 dX2_copy_58 hv58 ?_
  obtain ⟨h61, hv61, hX⟩ := z_bd hX
  refine z_putF (pc := 61) G kK2 (k := 7) (by decide) kt_67 (Or.inl rfl) rfl rfl dX2_copy_61 hv61 ?_
  refine z_aload_n (pc := 64) G 0 dX2_copy_64 rfl rfl ?_
  refine z_aload_n (pc := 65) G 1 dX2_copy_65 rfl rfl ?_
  obtain ⟨x66, hv66, hX⟩ := z_bd hX
  refine z_getI (pc := 66) G kK2 (k := 8) (by decide) kt_73 dX2_copy_66 hv66 ?_
  obtain ⟨h69, hv69, hX⟩ := z_bd hX
  refine z_putF (pc := 69) G kK2 (k := 8) (by decide) kt_73 (Or.inl rfl) rfl rfl dX2_copy_69 hv69 ?_
  refine z_aload_n (pc := 72) G 0 dX2_copy_72 rfl rfl ?_
  refine z_aload_n (pc := 73) G 1 dX2_copy_73 rfl rfl ?_
  obtain ⟨x74, hv74, hX⟩ := z_bd hX
  refine z_getI (pc := 74) G kK2 (k := 15) (by decide) kt_97 dX2_copy_74 hv74 ?_
  obtain ⟨h77, hv77, hX⟩ := z_bd hX
  refine z_putF (pc := 77) G kK2 (k := 15) (by decide) kt_97 (Or.inl rfl) rfl rfl dX2_copy_77 hv77 ?_
  refine z_aload_n (pc := 80) G 1 dX2_copy_80 rfl rfl ?_
  obtain ⟨x81, hv81, hX⟩ := z_bd hX
  refine z_getR (pc := 81) G kK2 (k := 9) (by decide) kt_76 dX2_copy_81 hv81 ?_
  refine z_iconst (pc := 84) (v := 0) G dX2_copy_84 (by decide) ?_
  refine z_aload_n (pc := 85) G 0 dX2_copy_85 rfl rfl ?_
  obtain ⟨x86, hv86, hX⟩ := z_bd hX
  refine z_getR (pc := 86) G kK2 (k := 9) (by decide) kt_76 dX2_copy_86 hv86 ?_
  refine z_iconst (pc := 89) (v := 0) G dX2_copy_89 (by decide) ?_
  refine z_bipush (pc := 90) (v := 6) G dX2_copy_90 (by decide) ?_
  obtain ⟨h92, hv92, hX⟩ := z_bd hX
  refine z_copy (pc := 92) G kt_707 kt_415 kt_414 kt_10 hv92 (by decide) (by decide) dX2_copy_92 ?_
  refine z_aload_n (pc := 95) G 1 dX2_copy_95 rfl rfl ?_
  obtain ⟨x96, hv96, hX⟩ := z_bd hX
  refine z_getR (pc := 96) G kK2 (k := 10) (by decide) kt_80 dX2_copy_96 hv96 ?_
  refine z_iconst (pc := 99) (v := 0) G dX2_copy_99 (by decide) ?_
  refine z_aload_n (pc := 100) G 0 dX2_copy_100 rfl rfl ?_
  obtain ⟨x101, hv101, hX⟩ := z_bd hX
  refine z_getR (pc := 101) G kK2 (k := 10) (by decide) kt_80 dX2_copy_101 hv101 ?_
  refine z_iconst (pc := 104) (v := 0) G dX2_copy_104 (by decide) ?_
  refine z_bipush (pc := 105) (v := 6) G dX2_copy_105 (by decide) ?_
  obtain ⟨h107, hv107, hX⟩ := z_bd hX
  refine z_copy (pc := 107) G kt_707 kt_415 kt_414 kt_10 hv107 (by decide) (by decide) dX2_copy_107 ?_
  refine z_aload_n (pc := 110) G 1 dX2_copy_110 rfl rfl ?_
  obtain ⟨x111, hv111, hX⟩ := z_bd hX
  refine z_getR (pc := 111) G kK2 (k := 11) (by decide) kt_84 dX2_copy_111 hv111 ?_
  refine z_iconst (pc := 114) (v := 0) G dX2_copy_114 (by decide) ?_
  refine z_aload_n (pc := 115) G 0 dX2_copy_115 rfl rfl ?_
  obtain ⟨x116, hv116, hX⟩ := z_bd hX
  refine z_getR (pc := 116) G kK2 (k := 11) (by decide) kt_84 dX2_copy_116 hv116 ?_
  refine z_iconst (pc := 119) (v := 0) G dX2_copy_119 (by decide) ?_
  refine z_bipush (pc := 120) (v := 6) G dX2_copy_120 (by decide) ?_
  obtain ⟨h122, hv122, hX⟩ := z_bd hX
  refine z_copy (pc := 122) G kt_707 kt_415 kt_414 kt_10 hv122 (by decide) (by decide) dX2_copy_122 ?_
  refine z_aload_n (pc := 125) G 1 dX2_copy_125 rfl rfl ?_
  obtain ⟨x126, hv126, hX⟩ := z_bd hX
  refine z_getR (pc := 126) G kK2 (k := 12) (by decide) kt_88 dX2_copy_126 hv126 ?_
  refine z_iconst (pc := 129) (v := 0) G dX2_copy_129 (by decide) ?_
  refine z_aload_n (pc := 130) G 0 dX2_copy_130 rfl rfl ?_
  obtain ⟨x131, hv131, hX⟩ := z_bd hX
  refine z_getR (pc := 131) G kK2 (k := 12) (by decide) kt_88 dX2_copy_131 hv131 ?_
  refine z_iconst (pc := 134) (v := 0) G dX2_copy_134 (by decide) ?_
  refine z_bipush (pc := 135) (v := 6) G dX2_copy_135 (by decide) ?_
  obtain ⟨h137, hv137, hX⟩ := z_bd hX
  refine z_copy (pc := 137) G kt_707 kt_415 kt_414 kt_10 hv137 (by decide) (by decide) dX2_copy_137 ?_
  refine z_aload_n (pc := 140) G 1 dX2_copy_140 rfl rfl ?_
  obtain ⟨x141, hv141, hX⟩ := z_bd hX
  refine z_getR (pc := 141) G kK2 (k := 13) (by decide) kt_92 dX2_copy_141 hv141 ?_
  refine z_iconst (pc := 144) (v := 0) G dX2_copy_144 (by decide) ?_
  refine z_aload_n (pc := 145) G 0 dX2_copy_145 rfl rfl ?_
  obtain ⟨x146, hv146, hX⟩ := z_bd hX
  refine z_getR (pc := 146) G kK2 (k := 13) (by decide) kt_92 dX2_copy_146 hv146 ?_
  refine z_iconst (pc := 149) (v := 0) G dX2_copy_149 (by decide) ?_
  refine z_bipush (pc := 150) (v := 6) G dX2_copy_150 (by decide) ?_
  obtain ⟨h152, hv152, hX⟩ := z_bd hX
  refine z_copy (pc := 152) G kt_707 kt_415 kt_414 kt_10 hv152 (by decide) (by decide) dX2_copy_152 ?_
  refine z_aload_n (pc := 155) G 1 dX2_copy_155 rfl rfl ?_
  obtain ⟨x156, hv156, hX⟩ := z_bd hX
  refine z_getR (pc := 156) G kK2 (k := 14) (by decide) kt_96 dX2_copy_156 hv156 ?_
  refine z_iconst (pc := 159) (v := 0) G dX2_copy_159 (by decide) ?_
  refine z_aload_n (pc := 160) G 0 dX2_copy_160 rfl rfl ?_
  obtain ⟨x161, hv161, hX⟩ := z_bd hX
  refine z_getR (pc := 161) G kK2 (k := 14) (by decide) kt_96 dX2_copy_161 hv161 ?_
  refine z_iconst (pc := 164) (v := 0) G dX2_copy_164 (by decide) ?_
  refine z_sipush (pc := 165) (v := 280) G dX2_copy_165 (by decide) ?_
  obtain ⟨h168, hv168, hX⟩ := z_bd hX
  refine z_copy (pc := 168) G kt_707 kt_415 kt_414 kt_10 hv168 (by decide) (by decide) dX2_copy_168 ?_
  exact z_vretX (pc := 171) hX G hr dX2_copy_171 (by decide) (by decide)
theorem dX2_isShip_0 : decode cX2_isShip 0 = .ok (.iload_n 1, 1) := by decide +kernel
theorem dX2_isShip_1 : decode cX2_isShip 1 = .ok (.ifCond .lt 15, 3) := by decide +kernel
theorem dX2_isShip_4 : decode cX2_isShip 4 = .ok (.iload_n 1, 1) := by decide +kernel
theorem dX2_isShip_5 : decode cX2_isShip 5 = .ok (.aload_n 0, 1) := by decide +kernel
theorem dX2_isShip_6 : decode cX2_isShip 6 = .ok (.getfield 55, 3) := by decide +kernel
theorem dX2_isShip_9 : decode cX2_isShip 9 = .ok (.if_icmp .ge 7, 3) := by decide +kernel
theorem dX2_isShip_12 : decode cX2_isShip 12 = .ok (.iconst 1, 1) := by decide +kernel
theorem dX2_isShip_13 : decode cX2_isShip 13 = .ok (.goto 4, 3) := by decide +kernel
theorem dX2_isShip_16 : decode cX2_isShip 16 = .ok (.iconst 0, 1) := by decide +kernel
theorem dX2_isShip_17 : decode cX2_isShip 17 = .ok (.ireturn, 1) := by decide +kernel
theorem ydX2_isShip : z_yd yX2_isShip 1 := ⟨by decide, by decide, by decide +kernel⟩
abbrev rmX2_isShip : Room := { frames := 0, cells := 0, slots := 0, locals := 0 }
noncomputable def xX2_isShip (l0 : Nat) (l1 : Int32) (h : ZH) : Option (Int32 × ZH) := (if l1 < 0 then some ((0 : Int32), h) else ((z_gI h l0 2 7).bind fun x6 => (if x6 ≤ l1 then some ((0 : Int32), h) else some ((1 : Int32), h))))
set_option maxHeartbeats 4000000 in
set_option maxRecDepth 100000 in
theorem lX2_isShip {Γ : ZG} {l : Launch} (hO : z_OK Γ) {l0 : Nat} {l1 : Int32} {h : ZH} {r : (Int32 × ZH)} (hX : xX2_isShip l0 l1 h = some r) : z_M Γ l yX2_isShip (z_ws1 yX2_isShip cX2_isShip 2 (some .boolean)) rmX2_isShip [.ref l0, .int l1] h (some (.int r.1)) r.2 := by
  refine z_start hO (plainFor_of_name (by decide)) (Nat.le_of_ble_eq_true rfl) ?_
  intro p e s m args below meth c G hr hnm
  refine z_lvc (lv2 := [(0, .ref l0), (1, .int l1)]) rfl ?_
  refine z_iload_n (pc := 0) G 1 dX2_isShip_0 rfl rfl ?_
  refine z_if_lt (pc := 1) (tgt := 16) G dX2_isShip_1 (by decide) (fun hc1 => ?_) (fun hc1 => ?_)
  · have hX := z_it hc1 hX
    refine z_iconst (pc := 16) (v := 0) G dX2_isShip_16 (by decide) ?_
    exact z_zretX (pc := 17) hX G hr rfl dX2_isShip_17 (by decide) (by decide)
  · have hX := z_if hc1 hX
    refine z_iload_n (pc := 4) G 1 dX2_isShip_4 rfl rfl ?_
    refine z_aload_n (pc := 5) G 0 dX2_isShip_5 rfl rfl ?_
    obtain ⟨x6, hv6, hX⟩ := z_bd hX
    refine z_getI (pc := 6) G kK2 (k := 7) (by decide) kt_67 dX2_isShip_6 hv6 ?_
    refine z_icmp_ge (pc := 9) (tgt := 16) G dX2_isShip_9 (by decide) (fun hc9 => ?_) (fun hc9 => ?_)
    · have hX := z_it hc9 hX
      refine z_iconst (pc := 16) (v := 0) G dX2_isShip_16 (by decide) ?_
      exact z_zretX (pc := 17) hX G hr rfl dX2_isShip_17 (by decide) (by decide)
    · have hX := z_if hc9 hX
      refine z_iconst (pc := 12) (v := 1) G dX2_isShip_12 (by decide) ?_
      refine z_goto (pc := 13) (tgt := 17) G dX2_isShip_13 (by decide) ?_
      exact z_zretX (pc := 17) hX G hr rfl dX2_isShip_17 (by decide) (by decide)
