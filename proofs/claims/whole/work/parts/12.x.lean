theorem dX2_areTwo_0 : decode cX2_areTwo 0 = .ok (.aload_n 0, 1) := by decide +kernel
theorem dX2_areTwo_1 : decode cX2_areTwo 1 = .ok (.iload_n 1, 1) := by decide +kernel
theorem dX2_areTwo_2 : decode cX2_areTwo 2 = .ok (.invokevirtual 70, 3) := by decide +kernel
theorem dX2_areTwo_5 : decode cX2_areTwo 5 = .ok (.ifCond .eq 20, 3) := by decide +kernel
theorem dX2_areTwo_8 : decode cX2_areTwo 8 = .ok (.aload_n 0, 1) := by decide +kernel
theorem dX2_areTwo_9 : decode cX2_areTwo 9 = .ok (.iload_n 2, 1) := by decide +kernel
theorem dX2_areTwo_10 : decode cX2_areTwo 10 = .ok (.invokevirtual 70, 3) := by decide +kernel
theorem dX2_areTwo_13 : decode cX2_areTwo 13 = .ok (.ifCond .eq 12, 3) := by decide +kernel
theorem dX2_areTwo_16 : decode cX2_areTwo 16 = .ok (.iload_n 1, 1) := by decide +kernel
theorem dX2_areTwo_17 : decode cX2_areTwo 17 = .ok (.iload_n 2, 1) := by decide +kernel
theorem dX2_areTwo_18 : decode cX2_areTwo 18 = .ok (.if_icmp .eq 7, 3) := by decide +kernel
theorem dX2_areTwo_21 : decode cX2_areTwo 21 = .ok (.iconst 1, 1) := by decide +kernel
theorem dX2_areTwo_22 : decode cX2_areTwo 22 = .ok (.goto 4, 3) := by decide +kernel
theorem dX2_areTwo_25 : decode cX2_areTwo 25 = .ok (.iconst 0, 1) := by decide +kernel
theorem dX2_areTwo_26 : decode cX2_areTwo 26 = .ok (.ireturn, 1) := by decide +kernel
theorem ydX2_areTwo : z_yd yX2_areTwo 2 := ⟨by decide, by decide, by decide +kernel⟩
abbrev rmX2_areTwo : Room := { frames := 1, cells := 0, slots := 0, locals := 21 }
noncomputable def xX2_areTwo (l0 : Nat) (l1 : Int32) (l2 : Int32) (h : ZH) : Option (Int32 × ZH) := (z_gu (z_is h l0 2) ((xX2_isShip l0 l1 h).bind fun r2 => (if r2.1 = 0 then some ((0 : Int32), r2.2) else (z_gu (z_is r2.2 l0 2) ((xX2_isShip l0 l2 r2.2).bind fun r10 => (if r10.1 = 0 then some ((0 : Int32), r10.2) else (if l1 = l2 then some ((0 : Int32), r10.2) else some ((1 : Int32), r10.2))))))))
set_option maxHeartbeats 4000000 in
set_option maxRecDepth 100000 in
theorem lX2_areTwo {Γ : ZG} {l : Launch} (hO : z_OK Γ) {l0 : Nat} {l1 : Int32} {l2 : Int32} {h : ZH} {r : (Int32 × ZH)} (hX : xX2_areTwo l0 l1 l2 h = some r) : z_M Γ l yX2_areTwo (z_ws1 yX2_areTwo cX2_areTwo 3 (some .boolean)) rmX2_areTwo [.ref l0, .int l1, .int l2] h (some (.int r.1)) r.2 := by
  refine z_start hO (plainFor_of_name (by decide)) (Nat.le_of_ble_eq_true rfl) ?_
  intro p e s m args below meth c G hr hnm
  refine z_lvc (lv2 := [(0, .ref l0), (1, .int l1), (2, .int l2)]) rfl ?_
  refine z_aload_n (pc := 0) G 0 dX2_areTwo_0 rfl rfl ?_
  refine z_iload_n (pc := 1) G 1 dX2_areTwo_1 rfl rfl ?_
  obtain ⟨hi2, hX⟩ := z_gu_s hX
  obtain ⟨r2, hv2, hX⟩ := z_bd hX
  refine z_cVI (pc := 2) (As := [.int l1]) (c2 := 0) (s2 := 0) G kK2 (lX2_isShip hO hv2) hi2 kt_727 kt_3 kt_775 kt_725 kt_726 ydX2_isShip ⟨by decide, by decide⟩ rfl (Nat.le_of_ble_eq_true rfl) ⟨rfl, rfl⟩ ⟨by decide, by decide⟩ rfl dX2_areTwo_2 ?_
  refine z_if_eq (pc := 5) (tgt := 25) G dX2_areTwo_5 (by decide) (fun hc5 => ?_) (fun hc5 => ?_)
  · have hX := z_it hc5 hX
    refine z_iconst (pc := 25) (v := 0) G dX2_areTwo_25 (by decide) ?_
    exact z_zretX (pc := 26) hX G hr rfl dX2_areTwo_26 (by decide) (by decide)
  · have hX := z_if hc5 hX
    refine z_aload_n (pc := 8) G 0 dX2_areTwo_8 rfl rfl ?_
    refine z_iload_n (pc := 9) G 2 dX2_areTwo_9 rfl rfl ?_
    obtain ⟨hi10, hX⟩ := z_gu_s hX
    obtain ⟨r10, hv10, hX⟩ := z_bd hX
    refine z_cVI (pc := 10) (As := [.int l2]) (c2 := 0) (s2 := 0) G kK2 (lX2_isShip hO hv10) hi10 kt_727 kt_3 kt_775 kt_725 kt_726 ydX2_isShip ⟨by decide, by decide⟩ rfl (Nat.le_of_ble_eq_true rfl) ⟨rfl, rfl⟩ ⟨by decide, by decide⟩ rfl dX2_areTwo_10 ?_
    refine z_if_eq (pc := 13) (tgt := 25) G dX2_areTwo_13 (by decide) (fun hc13 => ?_) (fun hc13 => ?_)
    · have hX := z_it hc13 hX
      refine z_iconst (pc := 25) (v := 0) G dX2_areTwo_25 (by decide) ?_
      exact z_zretX (pc := 26) hX G hr rfl dX2_areTwo_26 (by decide) (by decide)
    · have hX := z_if hc13 hX
      refine z_iload_n (pc := 16) G 1 dX2_areTwo_16 rfl rfl ?_
      refine z_iload_n (pc := 17) G 2 dX2_areTwo_17 rfl rfl ?_
      refine z_icmp_eq (pc := 18) (tgt := 25) G dX2_areTwo_18 (by decide) (fun hc18 => ?_) (fun hc18 => ?_)
      · have hX := z_it hc18 hX
        refine z_iconst (pc := 25) (v := 0) G dX2_areTwo_25 (by decide) ?_
        exact z_zretX (pc := 26) hX G hr rfl dX2_areTwo_26 (by decide) (by decide)
      · have hX := z_if hc18 hX
        refine z_iconst (pc := 21) (v := 1) G dX2_areTwo_21 (by decide) ?_
        refine z_goto (pc := 22) (tgt := 26) G dX2_areTwo_22 (by decide) ?_
        exact z_zretX (pc := 26) hX G hr rfl dX2_areTwo_26 (by decide) (by decide)
theorem dX2_isSlot_0 : decode cX2_isSlot 0 = .ok (.iload_n 1, 1) := by decide +kernel
theorem dX2_isSlot_1 : decode cX2_isSlot 1 = .ok (.ifCond .lt 15, 3) := by decide +kernel
theorem dX2_isSlot_4 : decode cX2_isSlot 4 = .ok (.iload_n 1, 1) := by decide +kernel
theorem dX2_isSlot_5 : decode cX2_isSlot 5 = .ok (.aload_n 0, 1) := by decide +kernel
theorem dX2_isSlot_6 : decode cX2_isSlot 6 = .ok (.getfield 9, 3) := by decide +kernel
theorem dX2_isSlot_9 : decode cX2_isSlot 9 = .ok (.if_icmp .ge 7, 3) := by decide +kernel
theorem dX2_isSlot_12 : decode cX2_isSlot 12 = .ok (.iconst 1, 1) := by decide +kernel
theorem dX2_isSlot_13 : decode cX2_isSlot 13 = .ok (.goto 4, 3) := by decide +kernel
theorem dX2_isSlot_16 : decode cX2_isSlot 16 = .ok (.iconst 0, 1) := by decide +kernel
theorem dX2_isSlot_17 : decode cX2_isSlot 17 = .ok (.ireturn, 1) := by decide +kernel
theorem ydX2_isSlot : z_yd yX2_isSlot 1 := ⟨by decide, by decide, by decide +kernel⟩
abbrev rmX2_isSlot : Room := { frames := 0, cells := 0, slots := 0, locals := 0 }
noncomputable def xX2_isSlot (l0 : Nat) (l1 : Int32) (h : ZH) : Option (Int32 × ZH) := (if l1 < 0 then some ((0 : Int32), h) else ((z_gI h l0 2 0).bind fun x6 => (if x6 ≤ l1 then some ((0 : Int32), h) else some ((1 : Int32), h))))
set_option maxHeartbeats 4000000 in
set_option maxRecDepth 100000 in
theorem lX2_isSlot {Γ : ZG} {l : Launch} (hO : z_OK Γ) {l0 : Nat} {l1 : Int32} {h : ZH} {r : (Int32 × ZH)} (hX : xX2_isSlot l0 l1 h = some r) : z_M Γ l yX2_isSlot (z_ws1 yX2_isSlot cX2_isSlot 2 (some .boolean)) rmX2_isSlot [.ref l0, .int l1] h (some (.int r.1)) r.2 := by
  refine z_start hO (plainFor_of_name (by decide)) (Nat.le_of_ble_eq_true rfl) ?_
  intro p e s m args below meth c G hr hnm
  refine z_lvc (lv2 := [(0, .ref l0), (1, .int l1)]) rfl ?_
  refine z_iload_n (pc := 0) G 1 dX2_isSlot_0 rfl rfl ?_
  refine z_if_lt (pc := 1) (tgt := 16) G dX2_isSlot_1 (by decide) (fun hc1 => ?_) (fun hc1 => ?_)
  · have hX := z_it hc1 hX
    refine z_iconst (pc := 16) (v := 0) G dX2_isSlot_16 (by decide) ?_
    exact z_zretX (pc := 17) hX G hr rfl dX2_isSlot_17 (by decide) (by decide)
  · have hX := z_if hc1 hX
    refine z_iload_n (pc := 4) G 1 dX2_isSlot_4 rfl rfl ?_
    refine z_aload_n (pc := 5) G 0 dX2_isSlot_5 rfl rfl ?_
    obtain ⟨x6, hv6, hX⟩ := z_bd hX
    refine z_getI (pc := 6) G kK2 (k := 0) (by decide) kt_39 dX2_isSlot_6 hv6 ?_
    refine z_icmp_ge (pc := 9) (tgt := 16) G dX2_isSlot_9 (by decide) (fun hc9 => ?_) (fun hc9 => ?_)
    · have hX := z_it hc9 hX
      refine z_iconst (pc := 16) (v := 0) G dX2_isSlot_16 (by decide) ?_
      exact z_zretX (pc := 17) hX G hr rfl dX2_isSlot_17 (by decide) (by decide)
    · have hX := z_if hc9 hX
      refine z_iconst (pc := 12) (v := 1) G dX2_isSlot_12 (by decide) ?_
      refine z_goto (pc := 13) (tgt := 17) G dX2_isSlot_13 (by decide) ?_
      exact z_zretX (pc := 17) hX G hr rfl dX2_isSlot_17 (by decide) (by decide)
theorem dX2_addToFormula_0 : decode cX2_addToFormula 0 = .ok (.aload_n 0, 1) := by decide +kernel
theorem dX2_addToFormula_1 : decode cX2_addToFormula 1 = .ok (.getfield 61, 3) := by decide +kernel
theorem dX2_addToFormula_4 : decode cX2_addToFormula 4 = .ok (.sipush 280, 3) := by decide +kernel
theorem dX2_addToFormula_7 : decode cX2_addToFormula 7 = .ok (.if_icmp .lt 4, 3) := by decide +kernel
theorem dX2_addToFormula_10 : decode cX2_addToFormula 10 = .ok (.return_, 1) := by decide +kernel
theorem dX2_addToFormula_11 : decode cX2_addToFormula 11 = .ok (.aload_n 0, 1) := by decide +kernel
theorem dX2_addToFormula_12 : decode cX2_addToFormula 12 = .ok (.getfield 43, 3) := by decide +kernel
theorem dX2_addToFormula_15 : decode cX2_addToFormula 15 = .ok (.aload_n 0, 1) := by decide +kernel
theorem dX2_addToFormula_16 : decode cX2_addToFormula 16 = .ok (.getfield 61, 3) := by decide +kernel
theorem dX2_addToFormula_19 : decode cX2_addToFormula 19 = .ok (.iload_n 1, 1) := by decide +kernel
theorem dX2_addToFormula_20 : decode cX2_addToFormula 20 = .ok (.iastore, 1) := by decide +kernel
theorem dX2_addToFormula_21 : decode cX2_addToFormula 21 = .ok (.aload_n 0, 1) := by decide +kernel
theorem dX2_addToFormula_22 : decode cX2_addToFormula 22 = .ok (.dup, 1) := by decide +kernel
theorem dX2_addToFormula_23 : decode cX2_addToFormula 23 = .ok (.getfield 61, 3) := by decide +kernel
theorem dX2_addToFormula_26 : decode cX2_addToFormula 26 = .ok (.iconst 1, 1) := by decide +kernel
theorem dX2_addToFormula_27 : decode cX2_addToFormula 27 = .ok (.iadd, 1) := by decide +kernel
theorem dX2_addToFormula_28 : decode cX2_addToFormula 28 = .ok (.putfield 61, 3) := by decide +kernel
theorem dX2_addToFormula_31 : decode cX2_addToFormula 31 = .ok (.return_, 1) := by decide +kernel
theorem ydX2_addToFormula : z_yd yX2_addToFormula 1 := ⟨by decide, by decide, by decide +kernel⟩
abbrev rmX2_addToFormula : Room := { frames := 0, cells := 0, slots := 0, locals := 0 }
noncomputable def xX2_addToFormula (l0 : Nat) (l1 : Int32) (h : ZH) : Option ZH := ((z_gI h l0 2 15).bind fun x1 => (if x1 < (280 : Int32) then ((z_gR h l0 2 14).bind fun x12 => ((z_gI h l0 2 15).bind fun x16 => ((z_uI h x12 x16 l1).bind fun h20 => ((z_gI h20 l0 2 15).bind fun x23 => ((z_sF h20 l0 2 15 (.int (x23 + (1 : Int32)))).bind fun h28 => some h28))))) else some h))
set_option maxHeartbeats 4000000 in
set_option maxRecDepth 100000 in
theorem lX2_addToFormula {Γ : ZG} {l : Launch} (hO : z_OK Γ) {l0 : Nat} {l1 : Int32} {h : ZH} {r : ZH} (hX : xX2_addToFormula l0 l1 h = some r) : z_M Γ l yX2_addToFormula (z_ws1 yX2_addToFormula cX2_addToFormula 2 none) rmX2_addToFormula [.ref l0, .int l1] h none r := by
  refine z_start hO (plainFor_of_name (by decide)) (Nat.le_of_ble_eq_true rfl) ?_
  intro p e s m args below meth c G hr hnm
  refine z_lvc (lv2 := [(0, .ref l0), (1, .int l1)]) rfl ?_
  refine z_aload_n (pc := 0) G 0 dX2_addToFormula_0 rfl rfl ?_
  obtain ⟨x1, hv1, hX⟩ := z_bd hX
  refine z_getI (pc := 1) G kK2 (k := 15) (by decide) kt_97 dX2_addToFormula_1 hv1 ?_
  refine z_sipush (pc := 4) (v := 280) G dX2_addToFormula_4 (by decide) ?_
  refine z_icmp_lt (pc := 7) (tgt := 11) G dX2_addToFormula_7 (by decide) (fun hc7 => ?_) (fun hc7 => ?_)
  · have hX := z_it hc7 hX
    refine z_aload_n (pc := 11) G 0 dX2_addToFormula_11 rfl rfl ?_
    obtain ⟨x12, hv12, hX⟩ := z_bd hX
    refine z_getR (pc := 12) G kK2 (k := 14) (by decide) kt_96 dX2_addToFormula_12 hv12 ?_
    refine z_aload_n (pc := 15) G 0 dX2_addToFormula_15 rfl rfl ?_
    obtain ⟨x16, hv16, hX⟩ := z_bd hX
    refine z_getI (pc := 16) G kK2 (k := 15) (by decide) kt_97 dX2_addToFormula_16 hv16 ?_
    refine z_iload_n (pc := 19) G 1 dX2_addToFormula_19 rfl rfl ?_
    obtain ⟨h20, hv20, hX⟩ := z_bd hX
    refine z_iast (pc := 20) G dX2_addToFormula_20 hv20 ?_
    refine z_aload_n (pc := 21) G 0 dX2_addToFormula_21 rfl rfl ?_
    refine z_dup (pc := 22) G dX2_addToFormula_22 rfl ?_
    obtain ⟨x23, hv23, hX⟩ := z_bd hX
    refine z_getI (pc := 23) G kK2 (k := 15) (by decide) kt_97 dX2_addToFormula_23 hv23 ?_
    refine z_iconst (pc := 26) (v := 1) G dX2_addToFormula_26 (by decide) ?_
    refine z_iadd (pc := 27) G dX2_addToFormula_27 ?_
    obtain ⟨h28, hv28, hX⟩ := z_bd hX
    refine z_putF (pc := 28) G kK2 (k := 15) (by decide) kt_97 (Or.inl rfl) rfl rfl dX2_addToFormula_28 hv28 ?_
    exact z_vretX (pc := 31) hX G hr dX2_addToFormula_31 (by decide) (by decide)
  · have hX := z_if hc7 hX
    exact z_vretX (pc := 10) hX G hr dX2_addToFormula_10 (by decide) (by decide)
theorem dX2_truth_0 : decode cX2_truth 0 = .ok (.iload_n 0, 1) := by decide +kernel
theorem dX2_truth_1 : decode cX2_truth 1 = .ok (.ifCond .eq 7, 3) := by decide +kernel
theorem dX2_truth_4 : decode cX2_truth 4 = .ok (.iconst 1, 1) := by decide +kernel
theorem dX2_truth_5 : decode cX2_truth 5 = .ok (.goto 4, 3) := by decide +kernel
theorem dX2_truth_8 : decode cX2_truth 8 = .ok (.iconst 0, 1) := by decide +kernel
theorem dX2_truth_9 : decode cX2_truth 9 = .ok (.ireturn, 1) := by decide +kernel
theorem ydX2_truth : z_yd yX2_truth 1 := ⟨by decide, by decide, by decide +kernel⟩
abbrev rmX2_truth : Room := { frames := 0, cells := 0, slots := 0, locals := 0 }
noncomputable def xX2_truth (l0 : Int32) (h : ZH) : Option (Int32 × ZH) := (if l0 = 0 then some ((0 : Int32), h) else some ((1 : Int32), h))
set_option maxHeartbeats 4000000 in
set_option maxRecDepth 100000 in
theorem lX2_truth {Γ : ZG} {l : Launch} (hO : z_OK Γ) {l0 : Int32} {h : ZH} {r : (Int32 × ZH)} (hX : xX2_truth l0 h = some r) : z_M Γ l yX2_truth (z_ws1 yX2_truth cX2_truth 1 (some .int)) rmX2_truth [.int l0] h (some (.int r.1)) r.2 := by
  refine z_start hO (plainFor_of_name (by decide)) (Nat.le_of_ble_eq_true rfl) ?_
  intro p e s m args below meth c G hr hnm
  refine z_lvc (lv2 := [(0, .int l0)]) rfl ?_
  refine z_iload_n (pc := 0) G 0 dX2_truth_0 rfl rfl ?_
  refine z_if_eq (pc := 1) (tgt := 8) G dX2_truth_1 (by decide) (fun hc1 => ?_) (fun hc1 => ?_)
  · have hX := z_it hc1 hX
    refine z_iconst (pc := 8) (v := 0) G dX2_truth_8 (by decide) ?_
    exact z_iretX (pc := 9) hX G hr dX2_truth_9 (by decide) (by decide)
  · have hX := z_if hc1 hX
    refine z_iconst (pc := 4) (v := 1) G dX2_truth_4 (by decide) ?_
    refine z_goto (pc := 5) (tgt := 9) G dX2_truth_5 (by decide) ?_
    exact z_iretX (pc := 9) hX G hr dX2_truth_9 (by decide) (by decide)
theorem dX2_join_0 : decode cX2_join 0 = .ok (.iload_n 0, 1) := by decide +kernel
theorem dX2_join_1 : decode cX2_join 1 = .ok (.tableswitch 155 (-10) (-1) #[143, 139, 135, 131, 117, 103, 89, 155, 72, 55], 55) := by decide +kernel
theorem dX2_join_56 : decode cX2_join 56 = .ok (.iload_n 1, 1) := by decide +kernel
theorem dX2_join_57 : decode cX2_join 57 = .ok (.ifCond .ne 7, 3) := by decide +kernel
theorem dX2_join_60 : decode cX2_join 60 = .ok (.iload_n 2, 1) := by decide +kernel
theorem dX2_join_61 : decode cX2_join 61 = .ok (.ifCond .eq 7, 3) := by decide +kernel
theorem dX2_join_64 : decode cX2_join 64 = .ok (.iconst 1, 1) := by decide +kernel
theorem dX2_join_65 : decode cX2_join 65 = .ok (.goto 4, 3) := by decide +kernel
theorem dX2_join_68 : decode cX2_join 68 = .ok (.iconst 0, 1) := by decide +kernel
theorem dX2_join_69 : decode cX2_join 69 = .ok (.invokestatic 78, 3) := by decide +kernel
theorem dX2_join_72 : decode cX2_join 72 = .ok (.ireturn, 1) := by decide +kernel
theorem dX2_join_73 : decode cX2_join 73 = .ok (.iload_n 1, 1) := by decide +kernel
theorem dX2_join_74 : decode cX2_join 74 = .ok (.ifCond .eq 11, 3) := by decide +kernel
theorem dX2_join_77 : decode cX2_join 77 = .ok (.iload_n 2, 1) := by decide +kernel
theorem dX2_join_78 : decode cX2_join 78 = .ok (.ifCond .eq 7, 3) := by decide +kernel
theorem dX2_join_81 : decode cX2_join 81 = .ok (.iconst 1, 1) := by decide +kernel
theorem dX2_join_82 : decode cX2_join 82 = .ok (.goto 4, 3) := by decide +kernel
theorem dX2_join_85 : decode cX2_join 85 = .ok (.iconst 0, 1) := by decide +kernel
theorem dX2_join_86 : decode cX2_join 86 = .ok (.invokestatic 78, 3) := by decide +kernel
theorem dX2_join_89 : decode cX2_join 89 = .ok (.ireturn, 1) := by decide +kernel
theorem dX2_join_90 : decode cX2_join 90 = .ok (.iload_n 1, 1) := by decide +kernel
theorem dX2_join_91 : decode cX2_join 91 = .ok (.iload_n 2, 1) := by decide +kernel
theorem dX2_join_92 : decode cX2_join 92 = .ok (.if_icmp .ge 7, 3) := by decide +kernel
theorem dX2_join_95 : decode cX2_join 95 = .ok (.iconst 1, 1) := by decide +kernel
theorem dX2_join_96 : decode cX2_join 96 = .ok (.goto 4, 3) := by decide +kernel
theorem dX2_join_99 : decode cX2_join 99 = .ok (.iconst 0, 1) := by decide +kernel
theorem dX2_join_100 : decode cX2_join 100 = .ok (.invokestatic 78, 3) := by decide +kernel
theorem dX2_join_103 : decode cX2_join 103 = .ok (.ireturn, 1) := by decide +kernel
theorem dX2_join_104 : decode cX2_join 104 = .ok (.iload_n 1, 1) := by decide +kernel
theorem dX2_join_105 : decode cX2_join 105 = .ok (.iload_n 2, 1) := by decide +kernel
theorem dX2_join_106 : decode cX2_join 106 = .ok (.if_icmp .le 7, 3) := by decide +kernel
theorem dX2_join_109 : decode cX2_join 109 = .ok (.iconst 1, 1) := by decide +kernel
theorem dX2_join_110 : decode cX2_join 110 = .ok (.goto 4, 3) := by decide +kernel
theorem dX2_join_113 : decode cX2_join 113 = .ok (.iconst 0, 1) := by decide +kernel
theorem dX2_join_114 : decode cX2_join 114 = .ok (.invokestatic 78, 3) := by decide +kernel
theorem dX2_join_117 : decode cX2_join 117 = .ok (.ireturn, 1) := by decide +kernel
theorem dX2_join_118 : decode cX2_join 118 = .ok (.iload_n 1, 1) := by decide +kernel
theorem dX2_join_119 : decode cX2_join 119 = .ok (.iload_n 2, 1) := by decide +kernel
theorem dX2_join_120 : decode cX2_join 120 = .ok (.if_icmp .ne 7, 3) := by decide +kernel
theorem dX2_join_123 : decode cX2_join 123 = .ok (.iconst 1, 1) := by decide +kernel
theorem dX2_join_124 : decode cX2_join 124 = .ok (.goto 4, 3) := by decide +kernel
theorem dX2_join_127 : decode cX2_join 127 = .ok (.iconst 0, 1) := by decide +kernel
theorem dX2_join_128 : decode cX2_join 128 = .ok (.invokestatic 78, 3) := by decide +kernel
theorem dX2_join_131 : decode cX2_join 131 = .ok (.ireturn, 1) := by decide +kernel
theorem dX2_join_132 : decode cX2_join 132 = .ok (.iload_n 1, 1) := by decide +kernel
theorem dX2_join_133 : decode cX2_join 133 = .ok (.iload_n 2, 1) := by decide +kernel
theorem dX2_join_134 : decode cX2_join 134 = .ok (.iadd, 1) := by decide +kernel
theorem dX2_join_135 : decode cX2_join 135 = .ok (.ireturn, 1) := by decide +kernel
theorem dX2_join_136 : decode cX2_join 136 = .ok (.iload_n 1, 1) := by decide +kernel
theorem dX2_join_137 : decode cX2_join 137 = .ok (.iload_n 2, 1) := by decide +kernel
theorem dX2_join_138 : decode cX2_join 138 = .ok (.isub, 1) := by decide +kernel
theorem dX2_join_139 : decode cX2_join 139 = .ok (.ireturn, 1) := by decide +kernel
theorem dX2_join_140 : decode cX2_join 140 = .ok (.iload_n 1, 1) := by decide +kernel
theorem dX2_join_141 : decode cX2_join 141 = .ok (.iload_n 2, 1) := by decide +kernel
theorem dX2_join_142 : decode cX2_join 142 = .ok (.imul, 1) := by decide +kernel
theorem dX2_join_143 : decode cX2_join 143 = .ok (.ireturn, 1) := by decide +kernel
theorem dX2_join_144 : decode cX2_join 144 = .ok (.iload_n 2, 1) := by decide +kernel
theorem dX2_join_145 : decode cX2_join 145 = .ok (.ifCond .ne 7, 3) := by decide +kernel
theorem dX2_join_148 : decode cX2_join 148 = .ok (.iconst 0, 1) := by decide +kernel
theorem dX2_join_149 : decode cX2_join 149 = .ok (.goto 6, 3) := by decide +kernel
theorem dX2_join_152 : decode cX2_join 152 = .ok (.iload_n 1, 1) := by decide +kernel
theorem dX2_join_153 : decode cX2_join 153 = .ok (.iload_n 2, 1) := by decide +kernel
theorem dX2_join_154 : decode cX2_join 154 = .ok (.idiv, 1) := by decide +kernel
theorem dX2_join_155 : decode cX2_join 155 = .ok (.ireturn, 1) := by decide +kernel
theorem dX2_join_156 : decode cX2_join 156 = .ok (.iload_n 2, 1) := by decide +kernel
theorem dX2_join_157 : decode cX2_join 157 = .ok (.ifCond .ne 7, 3) := by decide +kernel
theorem dX2_join_160 : decode cX2_join 160 = .ok (.iconst 0, 1) := by decide +kernel
theorem dX2_join_161 : decode cX2_join 161 = .ok (.goto 6, 3) := by decide +kernel
theorem dX2_join_164 : decode cX2_join 164 = .ok (.iload_n 1, 1) := by decide +kernel
theorem dX2_join_165 : decode cX2_join 165 = .ok (.iload_n 2, 1) := by decide +kernel
theorem dX2_join_166 : decode cX2_join 166 = .ok (.irem, 1) := by decide +kernel
theorem dX2_join_167 : decode cX2_join 167 = .ok (.ireturn, 1) := by decide +kernel
theorem ydX2_join : z_yd yX2_join 3 := ⟨by decide, by decide, by decide +kernel⟩
abbrev rmX2_join : Room := { frames := 1, cells := 0, slots := 0, locals := 20 }
noncomputable def xX2_join (l0 : Int32) (l1 : Int32) (l2 : Int32) (h : ZH) : Option (Int32 × ZH) := (if l0 = (-10) then (if l2 = 0 then some ((0 : Int32), h) else (if l2 = 0 then none else some ((l1 / l2), h))) else (if l0 = (-9) then some ((l1 * l2), h) else (if l0 = (-8) then some ((l1 - l2), h) else (if l0 = (-7) then some ((l1 + l2), h) else (if l0 = (-6) then (if l1 = l2 then ((xX2_truth (1 : Int32) h).bind fun r128 => some (r128.1, r128.2)) else ((xX2_truth (0 : Int32) h).bind fun r128 => some (r128.1, r128.2))) else (if l0 = (-5) then (if l1 ≤ l2 then ((xX2_truth (0 : Int32) h).bind fun r114 => some (r114.1, r114.2)) else ((xX2_truth (1 : Int32) h).bind fun r114 => some (r114.1, r114.2))) else (if l0 = (-4) then (if l2 ≤ l1 then ((xX2_truth (0 : Int32) h).bind fun r100 => some (r100.1, r100.2)) else ((xX2_truth (1 : Int32) h).bind fun r100 => some (r100.1, r100.2))) else (if l0 = (-3) then (if l2 = 0 then some ((0 : Int32), h) else (if l2 = 0 then none else some ((l1 - l1 / l2 * l2), h))) else (if l0 = (-2) then (if l1 = 0 then ((xX2_truth (0 : Int32) h).bind fun r86 => some (r86.1, r86.2)) else (if l2 = 0 then ((xX2_truth (0 : Int32) h).bind fun r86 => some (r86.1, r86.2)) else ((xX2_truth (1 : Int32) h).bind fun r86 => some (r86.1, r86.2)))) else (if l0 = (-1) then (if l1 = 0 then (if l2 = 0 then ((xX2_truth (0 : Int32) h).bind fun r69 => some (r69.1, r69.2)) else ((xX2_truth (1 : Int32) h).bind fun r69 => some (r69.1, r69.2))) else ((xX2_truth (1 : Int32) h).bind fun r69 => some (r69.1, r69.2))) else (if l2 = 0 then some ((0 : Int32), h) else (if l2 = 0 then none else some ((l1 - l1 / l2 * l2), h)))))))))))))
set_option maxHeartbeats 4000000 in
set_option maxRecDepth 100000 in
theorem lX2_join {Γ : ZG} {l : Launch} (hO : z_OK Γ) {l0 : Int32} {l1 : Int32} {l2 : Int32} {h : ZH} {r : (Int32 × ZH)} (hX : xX2_join l0 l1 l2 h = some r) : z_M Γ l yX2_join (z_ws1 yX2_join cX2_join 3 (some .int)) rmX2_join [.int l0, .int l1, .int l2] h (some (.int r.1)) r.2 := by
  refine z_start hO (plainFor_of_name (by decide)) (Nat.le_of_ble_eq_true rfl) ?_
  intro p e s m args below meth c G hr hnm
  refine z_lvc (lv2 := [(0, .int l0), (1, .int l1), (2, .int l2)]) rfl ?_
  refine z_iload_n (pc := 0) G 0 dX2_join_0 rfl rfl ?_
  by_cases hs1_0 : l0 = (-10)
  · have hX := z_it hs1_0 hX
    refine z_tableIn (pc := 1) (off := 143) (tgt := 144) G dX2_join_1 (by rw [hs1_0]; decide) (by rw [hs1_0]; decide) (by rw [hs1_0]; decide) (by decide) ?_
    refine z_iload_n (pc := 144) G 2 dX2_join_144 rfl rfl ?_
    refine z_if_ne (pc := 145) (tgt := 152) G dX2_join_145 (by decide) (fun hc145 => ?_) (fun hc145 => ?_)
    · have hX := z_if hc145 hX
      refine z_iload_n (pc := 152) G 1 dX2_join_152 rfl rfl ?_
      refine z_iload_n (pc := 153) G 2 dX2_join_153 rfl rfl ?_
      obtain ⟨hn154, hX⟩ := z_ng hX
      refine z_idiv (pc := 154) G dX2_join_154 hn154 ?_
      exact z_iretX (pc := 155) hX G hr dX2_join_155 (by decide) (by decide)
    · have hX := z_it hc145 hX
      refine z_iconst (pc := 148) (v := 0) G dX2_join_148 (by decide) ?_
      refine z_goto (pc := 149) (tgt := 155) G dX2_join_149 (by decide) ?_
      exact z_iretX (pc := 155) hX G hr dX2_join_155 (by decide) (by decide)
  have hX := z_if hs1_0 hX
  by_cases hs1_1 : l0 = (-9)
  · have hX := z_it hs1_1 hX
    refine z_tableIn (pc := 1) (off := 139) (tgt := 140) G dX2_join_1 (by rw [hs1_1]; decide) (by rw [hs1_1]; decide) (by rw [hs1_1]; decide) (by decide) ?_
    refine z_iload_n (pc := 140) G 1 dX2_join_140 rfl rfl ?_
    refine z_iload_n (pc := 141) G 2 dX2_join_141 rfl rfl ?_
    refine z_imul (pc := 142) G dX2_join_142 ?_
    exact z_iretX (pc := 143) hX G hr dX2_join_143 (by decide) (by decide)
  have hX := z_if hs1_1 hX
  by_cases hs1_2 : l0 = (-8)
  · have hX := z_it hs1_2 hX
    refine z_tableIn (pc := 1) (off := 135) (tgt := 136) G dX2_join_1 (by rw [hs1_2]; decide) (by rw [hs1_2]; decide) (by rw [hs1_2]; decide) (by decide) ?_
    refine z_iload_n (pc := 136) G 1 dX2_join_136 rfl rfl ?_
    refine z_iload_n (pc := 137) G 2 dX2_join_137 rfl rfl ?_
    refine z_isub (pc := 138) G dX2_join_138 ?_
    exact z_iretX (pc := 139) hX G hr dX2_join_139 (by decide) (by decide)
  have hX := z_if hs1_2 hX
  by_cases hs1_3 : l0 = (-7)
  · have hX := z_it hs1_3 hX
    refine z_tableIn (pc := 1) (off := 131) (tgt := 132) G dX2_join_1 (by rw [hs1_3]; decide) (by rw [hs1_3]; decide) (by rw [hs1_3]; decide) (by decide) ?_
    refine z_iload_n (pc := 132) G 1 dX2_join_132 rfl rfl ?_
    refine z_iload_n (pc := 133) G 2 dX2_join_133 rfl rfl ?_
    refine z_iadd (pc := 134) G dX2_join_134 ?_
    exact z_iretX (pc := 135) hX G hr dX2_join_135 (by decide) (by decide)
  have hX := z_if hs1_3 hX
  by_cases hs1_4 : l0 = (-6)
  · have hX := z_it hs1_4 hX
    refine z_tableIn (pc := 1) (off := 117) (tgt := 118) G dX2_join_1 (by rw [hs1_4]; decide) (by rw [hs1_4]; decide) (by rw [hs1_4]; decide) (by decide) ?_
    refine z_iload_n (pc := 118) G 1 dX2_join_118 rfl rfl ?_
    refine z_iload_n (pc := 119) G 2 dX2_join_119 rfl rfl ?_
    refine z_icmp_ne (pc := 120) (tgt := 127) G dX2_join_120 (by decide) (fun hc120 => ?_) (fun hc120 => ?_)
    · have hX := z_if hc120 hX
      refine z_iconst (pc := 127) (v := 0) G dX2_join_127 (by decide) ?_
      obtain ⟨r128, hv128, hX⟩ := z_bd hX
      refine z_cSI (pc := 128) (As := [.int (0 : Int32)]) (c2 := 0) (s2 := 0) G (lX2_truth hO hv128) kt_843 kt_3 kt_841 kt_842 ydX2_truth ⟨by decide, by decide⟩ rfl (Nat.le_of_ble_eq_true rfl) ⟨rfl, rfl⟩ ⟨by decide, by decide⟩ rfl dX2_join_128 ?_
      exact z_iretX (pc := 131) hX G hr dX2_join_131 (by decide) (by decide)
    · have hX := z_it hc120 hX
      refine z_iconst (pc := 123) (v := 1) G dX2_join_123 (by decide) ?_
      refine z_goto (pc := 124) (tgt := 128) G dX2_join_124 (by decide) ?_
      obtain ⟨r128, hv128, hX⟩ := z_bd hX
      refine z_cSI (pc := 128) (As := [.int (1 : Int32)]) (c2 := 0) (s2 := 0) G (lX2_truth hO hv128) kt_843 kt_3 kt_841 kt_842 ydX2_truth ⟨by decide, by decide⟩ rfl (Nat.le_of_ble_eq_true rfl) ⟨rfl, rfl⟩ ⟨by decide, by decide⟩ rfl dX2_join_128 ?_
      exact z_iretX (pc := 131) hX G hr dX2_join_131 (by decide) (by decide)
  have hX := z_if hs1_4 hX
  by_cases hs1_5 : l0 = (-5)
  · have hX := z_it hs1_5 hX
    refine z_tableIn (pc := 1) (off := 103) (tgt := 104) G dX2_join_1 (by rw [hs1_5]; decide) (by rw [hs1_5]; decide) (by rw [hs1_5]; decide) (by decide) ?_
    refine z_iload_n (pc := 104) G 1 dX2_join_104 rfl rfl ?_
    refine z_iload_n (pc := 105) G 2 dX2_join_105 rfl rfl ?_
    refine z_icmp_le (pc := 106) (tgt := 113) G dX2_join_106 (by decide) (fun hc106 => ?_) (fun hc106 => ?_)
    · have hX := z_it hc106 hX
      refine z_iconst (pc := 113) (v := 0) G dX2_join_113 (by decide) ?_
      obtain ⟨r114, hv114, hX⟩ := z_bd hX
      refine z_cSI (pc := 114) (As := [.int (0 : Int32)]) (c2 := 0) (s2 := 0) G (lX2_truth hO hv114) kt_843 kt_3 kt_841 kt_842 ydX2_truth ⟨by decide, by decide⟩ rfl (Nat.le_of_ble_eq_true rfl) ⟨rfl, rfl⟩ ⟨by decide, by decide⟩ rfl dX2_join_114 ?_
      exact z_iretX (pc := 117) hX G hr dX2_join_117 (by decide) (by decide)
    · have hX := z_if hc106 hX
      refine z_iconst (pc := 109) (v := 1) G dX2_join_109 (by decide) ?_
      refine z_goto (pc := 110) (tgt := 114) G dX2_join_110 (by decide) ?_
      obtain ⟨r114, hv114, hX⟩ := z_bd hX
      refine z_cSI (pc := 114) (As := [.int (1 : Int32)]) (c2 := 0) (s2 := 0) G (lX2_truth hO hv114) kt_843 kt_3 kt_841 kt_842 ydX2_truth ⟨by decide, by decide⟩ rfl (Nat.le_of_ble_eq_true rfl) ⟨rfl, rfl⟩ ⟨by decide, by decide⟩ rfl dX2_join_114 ?_
      exact z_iretX (pc := 117) hX G hr dX2_join_117 (by decide) (by decide)
  have hX := z_if hs1_5 hX
  by_cases hs1_6 : l0 = (-4)
  · have hX := z_it hs1_6 hX
    refine z_tableIn (pc := 1) (off := 89) (tgt := 90) G dX2_join_1 (by rw [hs1_6]; decide) (by rw [hs1_6]; decide) (by rw [hs1_6]; decide) (by decide) ?_
    refine z_iload_n (pc := 90) G 1 dX2_join_90 rfl rfl ?_
    refine z_iload_n (pc := 91) G 2 dX2_join_91 rfl rfl ?_
    refine z_icmp_ge (pc := 92) (tgt := 99) G dX2_join_92 (by decide) (fun hc92 => ?_) (fun hc92 => ?_)
    · have hX := z_it hc92 hX
      refine z_iconst (pc := 99) (v := 0) G dX2_join_99 (by decide) ?_
      obtain ⟨r100, hv100, hX⟩ := z_bd hX
      refine z_cSI (pc := 100) (As := [.int (0 : Int32)]) (c2 := 0) (s2 := 0) G (lX2_truth hO hv100) kt_843 kt_3 kt_841 kt_842 ydX2_truth ⟨by decide, by decide⟩ rfl (Nat.le_of_ble_eq_true rfl) ⟨rfl, rfl⟩ ⟨by decide, by decide⟩ rfl dX2_join_100 ?_
      exact z_iretX (pc := 103) hX G hr dX2_join_103 (by decide) (by decide)
    · have hX := z_if hc92 hX
      refine z_iconst (pc := 95) (v := 1) G dX2_join_95 (by decide) ?_
      refine z_goto (pc := 96) (tgt := 100) G dX2_join_96 (by decide) ?_
      obtain ⟨r100, hv100, hX⟩ := z_bd hX
      refine z_cSI (pc := 100) (As := [.int (1 : Int32)]) (c2 := 0) (s2 := 0) G (lX2_truth hO hv100) kt_843 kt_3 kt_841 kt_842 ydX2_truth ⟨by decide, by decide⟩ rfl (Nat.le_of_ble_eq_true rfl) ⟨rfl, rfl⟩ ⟨by decide, by decide⟩ rfl dX2_join_100 ?_
      exact z_iretX (pc := 103) hX G hr dX2_join_103 (by decide) (by decide)
  have hX := z_if hs1_6 hX
  by_cases hs1_7 : l0 = (-3)
  · have hX := z_it hs1_7 hX
    refine z_tableIn (pc := 1) (off := 155) (tgt := 156) G dX2_join_1 (by rw [hs1_7]; decide) (by rw [hs1_7]; decide) (by rw [hs1_7]; decide) (by decide) ?_
    refine z_iload_n (pc := 156) G 2 dX2_join_156 rfl rfl ?_
    refine z_if_ne (pc := 157) (tgt := 164) G dX2_join_157 (by decide) (fun hc157 => ?_) (fun hc157 => ?_)
    · have hX := z_if hc157 hX
      refine z_iload_n (pc := 164) G 1 dX2_join_164 rfl rfl ?_
      refine z_iload_n (pc := 165) G 2 dX2_join_165 rfl rfl ?_
      obtain ⟨hn166, hX⟩ := z_ng hX
      refine z_irem (pc := 166) G dX2_join_166 hn166 ?_
      exact z_iretX (pc := 167) hX G hr dX2_join_167 (by decide) (by decide)
    · have hX := z_it hc157 hX
      refine z_iconst (pc := 160) (v := 0) G dX2_join_160 (by decide) ?_
      refine z_goto (pc := 161) (tgt := 167) G dX2_join_161 (by decide) ?_
      exact z_iretX (pc := 167) hX G hr dX2_join_167 (by decide) (by decide)
  have hX := z_if hs1_7 hX
  by_cases hs1_8 : l0 = (-2)
  · have hX := z_it hs1_8 hX
    refine z_tableIn (pc := 1) (off := 72) (tgt := 73) G dX2_join_1 (by rw [hs1_8]; decide) (by rw [hs1_8]; decide) (by rw [hs1_8]; decide) (by decide) ?_
    refine z_iload_n (pc := 73) G 1 dX2_join_73 rfl rfl ?_
    refine z_if_eq (pc := 74) (tgt := 85) G dX2_join_74 (by decide) (fun hc74 => ?_) (fun hc74 => ?_)
    · have hX := z_it hc74 hX
      refine z_iconst (pc := 85) (v := 0) G dX2_join_85 (by decide) ?_
      obtain ⟨r86, hv86, hX⟩ := z_bd hX
      refine z_cSI (pc := 86) (As := [.int (0 : Int32)]) (c2 := 0) (s2 := 0) G (lX2_truth hO hv86) kt_843 kt_3 kt_841 kt_842 ydX2_truth ⟨by decide, by decide⟩ rfl (Nat.le_of_ble_eq_true rfl) ⟨rfl, rfl⟩ ⟨by decide, by decide⟩ rfl dX2_join_86 ?_
      exact z_iretX (pc := 89) hX G hr dX2_join_89 (by decide) (by decide)
    · have hX := z_if hc74 hX
      refine z_iload_n (pc := 77) G 2 dX2_join_77 rfl rfl ?_
      refine z_if_eq (pc := 78) (tgt := 85) G dX2_join_78 (by decide) (fun hc78 => ?_) (fun hc78 => ?_)
      · have hX := z_it hc78 hX
        refine z_iconst (pc := 85) (v := 0) G dX2_join_85 (by decide) ?_
        obtain ⟨r86, hv86, hX⟩ := z_bd hX
        refine z_cSI (pc := 86) (As := [.int (0 : Int32)]) (c2 := 0) (s2 := 0) G (lX2_truth hO hv86) kt_843 kt_3 kt_841 kt_842 ydX2_truth ⟨by decide, by decide⟩ rfl (Nat.le_of_ble_eq_true rfl) ⟨rfl, rfl⟩ ⟨by decide, by decide⟩ rfl dX2_join_86 ?_
        exact z_iretX (pc := 89) hX G hr dX2_join_89 (by decide) (by decide)
      · have hX := z_if hc78 hX
        refine z_iconst (pc := 81) (v := 1) G dX2_join_81 (by decide) ?_
        refine z_goto (pc := 82) (tgt := 86) G dX2_join_82 (by decide) ?_
        obtain ⟨r86, hv86, hX⟩ := z_bd hX
        refine z_cSI (pc := 86) (As := [.int (1 : Int32)]) (c2 := 0) (s2 := 0) G (lX2_truth hO hv86) kt_843 kt_3 kt_841 kt_842 ydX2_truth ⟨by decide, by decide⟩ rfl (Nat.le_of_ble_eq_true rfl) ⟨rfl, rfl⟩ ⟨by decide, by decide⟩ rfl dX2_join_86 ?_
        exact z_iretX (pc := 89) hX G hr dX2_join_89 (by decide) (by decide)
  have hX := z_if hs1_8 hX
  by_cases hs1_9 : l0 = (-1)
  · have hX := z_it hs1_9 hX
    refine z_tableIn (pc := 1) (off := 55) (tgt := 56) G dX2_join_1 (by rw [hs1_9]; decide) (by rw [hs1_9]; decide) (by rw [hs1_9]; decide) (by decide) ?_
    refine z_iload_n (pc := 56) G 1 dX2_join_56 rfl rfl ?_
    refine z_if_ne (pc := 57) (tgt := 64) G dX2_join_57 (by decide) (fun hc57 => ?_) (fun hc57 => ?_)
    · have hX := z_if hc57 hX
      refine z_iconst (pc := 64) (v := 1) G dX2_join_64 (by decide) ?_
      refine z_goto (pc := 65) (tgt := 69) G dX2_join_65 (by decide) ?_
      obtain ⟨r69, hv69, hX⟩ := z_bd hX
      refine z_cSI (pc := 69) (As := [.int (1 : Int32)]) (c2 := 0) (s2 := 0) G (lX2_truth hO hv69) kt_843 kt_3 kt_841 kt_842 ydX2_truth ⟨by decide, by decide⟩ rfl (Nat.le_of_ble_eq_true rfl) ⟨rfl, rfl⟩ ⟨by decide, by decide⟩ rfl dX2_join_69 ?_
      exact z_iretX (pc := 72) hX G hr dX2_join_72 (by decide) (by decide)
    · have hX := z_it hc57 hX
      refine z_iload_n (pc := 60) G 2 dX2_join_60 rfl rfl ?_
      refine z_if_eq (pc := 61) (tgt := 68) G dX2_join_61 (by decide) (fun hc61 => ?_) (fun hc61 => ?_)
      · have hX := z_it hc61 hX
        refine z_iconst (pc := 68) (v := 0) G dX2_join_68 (by decide) ?_
        obtain ⟨r69, hv69, hX⟩ := z_bd hX
        refine z_cSI (pc := 69) (As := [.int (0 : Int32)]) (c2 := 0) (s2 := 0) G (lX2_truth hO hv69) kt_843 kt_3 kt_841 kt_842 ydX2_truth ⟨by decide, by decide⟩ rfl (Nat.le_of_ble_eq_true rfl) ⟨rfl, rfl⟩ ⟨by decide, by decide⟩ rfl dX2_join_69 ?_
        exact z_iretX (pc := 72) hX G hr dX2_join_72 (by decide) (by decide)
      · have hX := z_if hc61 hX
        refine z_iconst (pc := 64) (v := 1) G dX2_join_64 (by decide) ?_
        refine z_goto (pc := 65) (tgt := 69) G dX2_join_65 (by decide) ?_
        obtain ⟨r69, hv69, hX⟩ := z_bd hX
        refine z_cSI (pc := 69) (As := [.int (1 : Int32)]) (c2 := 0) (s2 := 0) G (lX2_truth hO hv69) kt_843 kt_3 kt_841 kt_842 ydX2_truth ⟨by decide, by decide⟩ rfl (Nat.le_of_ble_eq_true rfl) ⟨rfl, rfl⟩ ⟨by decide, by decide⟩ rfl dX2_join_69 ?_
        exact z_iretX (pc := 72) hX G hr dX2_join_72 (by decide) (by decide)
  have hX := z_if hs1_9 hX
  refine z_tableOut (pc := 1) (tgt := 156) G dX2_join_1 (z_tout 10 (by decide) (fun j hj => by
    rcases (show j = 0 ∨ j = 1 ∨ j = 2 ∨ j = 3 ∨ j = 4 ∨ j = 5 ∨ j = 6 ∨ j = 7 ∨ j = 8 ∨ j = 9 by omega) with rfl | rfl | rfl | rfl | rfl | rfl | rfl | rfl | rfl | rfl
    · exact fun z => hs1_0 (z.trans (by decide))
    · exact fun z => hs1_1 (z.trans (by decide))
    · exact fun z => hs1_2 (z.trans (by decide))
    · exact fun z => hs1_3 (z.trans (by decide))
    · exact fun z => hs1_4 (z.trans (by decide))
    · exact fun z => hs1_5 (z.trans (by decide))
    · exact fun z => hs1_6 (z.trans (by decide))
    · exact fun z => hs1_7 (z.trans (by decide))
    · exact fun z => hs1_8 (z.trans (by decide))
    · exact fun z => hs1_9 (z.trans (by decide)))) (by decide) ?_
  refine z_iload_n (pc := 156) G 2 dX2_join_156 rfl rfl ?_
  refine z_if_ne (pc := 157) (tgt := 164) G dX2_join_157 (by decide) (fun hc157 => ?_) (fun hc157 => ?_)
  · have hX := z_if hc157 hX
    refine z_iload_n (pc := 164) G 1 dX2_join_164 rfl rfl ?_
    refine z_iload_n (pc := 165) G 2 dX2_join_165 rfl rfl ?_
    obtain ⟨hn166, hX⟩ := z_ng hX
    refine z_irem (pc := 166) G dX2_join_166 hn166 ?_
    exact z_iretX (pc := 167) hX G hr dX2_join_167 (by decide) (by decide)
  · have hX := z_it hc157 hX
    refine z_iconst (pc := 160) (v := 0) G dX2_join_160 (by decide) ?_
    refine z_goto (pc := 161) (tgt := 167) G dX2_join_161 (by decide) ?_
    exact z_iretX (pc := 167) hX G hr dX2_join_167 (by decide) (by decide)
theorem dX2_pick_0 : decode cX2_pick 0 = .ok (.iload_n 0, 1) := by decide +kernel
theorem dX2_pick_1 : decode cX2_pick 1 = .ok (.tableswitch 33 (-14) (-12) #[31, 29, 27], 27) := by decide +kernel
theorem dX2_pick_28 : decode cX2_pick 28 = .ok (.iload_n 1, 1) := by decide +kernel
theorem dX2_pick_29 : decode cX2_pick 29 = .ok (.ireturn, 1) := by decide +kernel
theorem dX2_pick_30 : decode cX2_pick 30 = .ok (.iload_n 2, 1) := by decide +kernel
theorem dX2_pick_31 : decode cX2_pick 31 = .ok (.ireturn, 1) := by decide +kernel
theorem dX2_pick_32 : decode cX2_pick 32 = .ok (.iload_n 3, 1) := by decide +kernel
theorem dX2_pick_33 : decode cX2_pick 33 = .ok (.ireturn, 1) := by decide +kernel
theorem dX2_pick_34 : decode cX2_pick 34 = .ok (.iload 4, 2) := by decide +kernel
theorem dX2_pick_36 : decode cX2_pick 36 = .ok (.ireturn, 1) := by decide +kernel
theorem ydX2_pick : z_yd yX2_pick 5 := ⟨by decide, by decide, by decide +kernel⟩
abbrev rmX2_pick : Room := { frames := 0, cells := 0, slots := 0, locals := 0 }
noncomputable def xX2_pick (l0 : Int32) (l1 : Int32) (l2 : Int32) (l3 : Int32) (l4 : Int32) (h : ZH) : Option (Int32 × ZH) := (if l0 = (-14) then some (l3, h) else (if l0 = (-13) then some (l2, h) else (if l0 = (-12) then some (l1, h) else some (l4, h))))
set_option maxHeartbeats 4000000 in
set_option maxRecDepth 100000 in
theorem lX2_pick {Γ : ZG} {l : Launch} (hO : z_OK Γ) {l0 : Int32} {l1 : Int32} {l2 : Int32} {l3 : Int32} {l4 : Int32} {h : ZH} {r : (Int32 × ZH)} (hX : xX2_pick l0 l1 l2 l3 l4 h = some r) : z_M Γ l yX2_pick (z_ws1 yX2_pick cX2_pick 5 (some .int)) rmX2_pick [.int l0, .int l1, .int l2, .int l3, .int l4] h (some (.int r.1)) r.2 := by
  refine z_start hO (plainFor_of_name (by decide)) (Nat.le_of_ble_eq_true rfl) ?_
  intro p e s m args below meth c G hr hnm
  refine z_lvc (lv2 := [(0, .int l0), (1, .int l1), (2, .int l2), (3, .int l3), (4, .int l4)]) rfl ?_
  refine z_iload_n (pc := 0) G 0 dX2_pick_0 rfl rfl ?_
  by_cases hs1_0 : l0 = (-14)
  · have hX := z_it hs1_0 hX
    refine z_tableIn (pc := 1) (off := 31) (tgt := 32) G dX2_pick_1 (by rw [hs1_0]; decide) (by rw [hs1_0]; decide) (by rw [hs1_0]; decide) (by decide) ?_
    refine z_iload_n (pc := 32) G 3 dX2_pick_32 rfl rfl ?_
    exact z_iretX (pc := 33) hX G hr dX2_pick_33 (by decide) (by decide)
  have hX := z_if hs1_0 hX
  by_cases hs1_1 : l0 = (-13)
  · have hX := z_it hs1_1 hX
    refine z_tableIn (pc := 1) (off := 29) (tgt := 30) G dX2_pick_1 (by rw [hs1_1]; decide) (by rw [hs1_1]; decide) (by rw [hs1_1]; decide) (by decide) ?_
    refine z_iload_n (pc := 30) G 2 dX2_pick_30 rfl rfl ?_
    exact z_iretX (pc := 31) hX G hr dX2_pick_31 (by decide) (by decide)
  have hX := z_if hs1_1 hX
  by_cases hs1_2 : l0 = (-12)
  · have hX := z_it hs1_2 hX
    refine z_tableIn (pc := 1) (off := 27) (tgt := 28) G dX2_pick_1 (by rw [hs1_2]; decide) (by rw [hs1_2]; decide) (by rw [hs1_2]; decide) (by decide) ?_
    refine z_iload_n (pc := 28) G 1 dX2_pick_28 rfl rfl ?_
    exact z_iretX (pc := 29) hX G hr dX2_pick_29 (by decide) (by decide)
  have hX := z_if hs1_2 hX
  refine z_tableOut (pc := 1) (tgt := 34) G dX2_pick_1 (z_tout 3 (by decide) (fun j hj => by
    rcases (show j = 0 ∨ j = 1 ∨ j = 2 by omega) with rfl | rfl | rfl
    · exact fun z => hs1_0 (z.trans (by decide))
    · exact fun z => hs1_1 (z.trans (by decide))
    · exact fun z => hs1_2 (z.trans (by decide)))) (by decide) ?_
  refine z_iload (pc := 34) G 4 dX2_pick_34 rfl ?_
  exact z_iretX (pc := 36) hX G hr dX2_pick_36 (by decide) (by decide)
theorem dX2_workOut_0 : decode cX2_workOut 0 = .ok (.iconst 0, 1) := by decide +kernel
theorem dX2_workOut_1 : decode cX2_workOut 1 = .ok (.istore 5, 2) := by decide +kernel
theorem dX2_workOut_3 : decode cX2_workOut 3 = .ok (.iconst 0, 1) := by decide +kernel
theorem dX2_workOut_4 : decode cX2_workOut 4 = .ok (.istore 6, 2) := by decide +kernel
theorem dX2_workOut_6 : decode cX2_workOut 6 = .ok (.iload 6, 2) := by decide +kernel
theorem dX2_workOut_8 : decode cX2_workOut 8 = .ok (.aload_n 0, 1) := by decide +kernel
theorem dX2_workOut_9 : decode cX2_workOut 9 = .ok (.getfield 61, 3) := by decide +kernel
theorem dX2_workOut_12 : decode cX2_workOut 12 = .ok (.if_icmp .ge 160, 3) := by decide +kernel
theorem dX2_workOut_15 : decode cX2_workOut 15 = .ok (.aload_n 0, 1) := by decide +kernel
theorem dX2_workOut_16 : decode cX2_workOut 16 = .ok (.getfield 43, 3) := by decide +kernel
theorem dX2_workOut_19 : decode cX2_workOut 19 = .ok (.iload 6, 2) := by decide +kernel
theorem dX2_workOut_21 : decode cX2_workOut 21 = .ok (.iaload, 1) := by decide +kernel
theorem dX2_workOut_22 : decode cX2_workOut 22 = .ok (.istore 7, 2) := by decide +kernel
theorem dX2_workOut_24 : decode cX2_workOut 24 = .ok (.iload 7, 2) := by decide +kernel
theorem dX2_workOut_26 : decode cX2_workOut 26 = .ok (.ifCond .ge 10, 3) := by decide +kernel
theorem dX2_workOut_29 : decode cX2_workOut 29 = .ok (.iload 7, 2) := by decide +kernel
theorem dX2_workOut_31 : decode cX2_workOut 31 = .ok (.bipush (-12), 2) := by decide +kernel
theorem dX2_workOut_33 : decode cX2_workOut 33 = .ok (.if_icmp .gt 45, 3) := by decide +kernel
theorem dX2_workOut_36 : decode cX2_workOut 36 = .ok (.iload 5, 2) := by decide +kernel
theorem dX2_workOut_38 : decode cX2_workOut 38 = .ok (.bipush 32, 2) := by decide +kernel
theorem dX2_workOut_40 : decode cX2_workOut 40 = .ok (.if_icmp .lt 5, 3) := by decide +kernel
theorem dX2_workOut_43 : decode cX2_workOut 43 = .ok (.iconst 0, 1) := by decide +kernel
theorem dX2_workOut_44 : decode cX2_workOut 44 = .ok (.ireturn, 1) := by decide +kernel
theorem dX2_workOut_45 : decode cX2_workOut 45 = .ok (.aload_n 0, 1) := by decide +kernel
theorem dX2_workOut_46 : decode cX2_workOut 46 = .ok (.getfield 46, 3) := by decide +kernel
theorem dX2_workOut_49 : decode cX2_workOut 49 = .ok (.iload 5, 2) := by decide +kernel
theorem dX2_workOut_51 : decode cX2_workOut 51 = .ok (.iload 7, 2) := by decide +kernel
theorem dX2_workOut_53 : decode cX2_workOut 53 = .ok (.ifCond .lt 8, 3) := by decide +kernel
theorem dX2_workOut_56 : decode cX2_workOut 56 = .ok (.iload 7, 2) := by decide +kernel
theorem dX2_workOut_58 : decode cX2_workOut 58 = .ok (.goto 13, 3) := by decide +kernel
theorem dX2_workOut_61 : decode cX2_workOut 61 = .ok (.iload 7, 2) := by decide +kernel
theorem dX2_workOut_63 : decode cX2_workOut 63 = .ok (.iload_n 1, 1) := by decide +kernel
theorem dX2_workOut_64 : decode cX2_workOut 64 = .ok (.iload_n 2, 1) := by decide +kernel
theorem dX2_workOut_65 : decode cX2_workOut 65 = .ok (.iload_n 3, 1) := by decide +kernel
theorem dX2_workOut_66 : decode cX2_workOut 66 = .ok (.iload 4, 2) := by decide +kernel
theorem dX2_workOut_68 : decode cX2_workOut 68 = .ok (.invokestatic 74, 3) := by decide +kernel
theorem dX2_workOut_71 : decode cX2_workOut 71 = .ok (.iastore, 1) := by decide +kernel
theorem dX2_workOut_72 : decode cX2_workOut 72 = .ok (.iinc 5 1, 3) := by decide +kernel
theorem dX2_workOut_75 : decode cX2_workOut 75 = .ok (.goto 91, 3) := by decide +kernel
theorem dX2_workOut_78 : decode cX2_workOut 78 = .ok (.iload 7, 2) := by decide +kernel
theorem dX2_workOut_80 : decode cX2_workOut 80 = .ok (.bipush (-3), 2) := by decide +kernel
theorem dX2_workOut_82 : decode cX2_workOut 82 = .ok (.if_icmp .ne 43, 3) := by decide +kernel
theorem dX2_workOut_85 : decode cX2_workOut 85 = .ok (.iload 5, 2) := by decide +kernel
theorem dX2_workOut_87 : decode cX2_workOut 87 = .ok (.iconst 1, 1) := by decide +kernel
theorem dX2_workOut_88 : decode cX2_workOut 88 = .ok (.if_icmp .ge 5, 3) := by decide +kernel
theorem dX2_workOut_91 : decode cX2_workOut 91 = .ok (.iconst 0, 1) := by decide +kernel
theorem dX2_workOut_92 : decode cX2_workOut 92 = .ok (.ireturn, 1) := by decide +kernel
theorem dX2_workOut_93 : decode cX2_workOut 93 = .ok (.aload_n 0, 1) := by decide +kernel
theorem dX2_workOut_94 : decode cX2_workOut 94 = .ok (.getfield 46, 3) := by decide +kernel
theorem dX2_workOut_97 : decode cX2_workOut 97 = .ok (.iload 5, 2) := by decide +kernel
theorem dX2_workOut_99 : decode cX2_workOut 99 = .ok (.iconst 1, 1) := by decide +kernel
theorem dX2_workOut_100 : decode cX2_workOut 100 = .ok (.isub, 1) := by decide +kernel
theorem dX2_workOut_101 : decode cX2_workOut 101 = .ok (.aload_n 0, 1) := by decide +kernel
theorem dX2_workOut_102 : decode cX2_workOut 102 = .ok (.getfield 46, 3) := by decide +kernel
theorem dX2_workOut_105 : decode cX2_workOut 105 = .ok (.iload 5, 2) := by decide +kernel
theorem dX2_workOut_107 : decode cX2_workOut 107 = .ok (.iconst 1, 1) := by decide +kernel
theorem dX2_workOut_108 : decode cX2_workOut 108 = .ok (.isub, 1) := by decide +kernel
theorem dX2_workOut_109 : decode cX2_workOut 109 = .ok (.iaload, 1) := by decide +kernel
theorem dX2_workOut_110 : decode cX2_workOut 110 = .ok (.ifCond .ne 7, 3) := by decide +kernel
theorem dX2_workOut_113 : decode cX2_workOut 113 = .ok (.iconst 1, 1) := by decide +kernel
theorem dX2_workOut_114 : decode cX2_workOut 114 = .ok (.goto 4, 3) := by decide +kernel
theorem dX2_workOut_117 : decode cX2_workOut 117 = .ok (.iconst 0, 1) := by decide +kernel
theorem dX2_workOut_118 : decode cX2_workOut 118 = .ok (.invokestatic 78, 3) := by decide +kernel
theorem dX2_workOut_121 : decode cX2_workOut 121 = .ok (.iastore, 1) := by decide +kernel
theorem dX2_workOut_122 : decode cX2_workOut 122 = .ok (.goto 44, 3) := by decide +kernel
theorem dX2_workOut_125 : decode cX2_workOut 125 = .ok (.iload 5, 2) := by decide +kernel
theorem dX2_workOut_127 : decode cX2_workOut 127 = .ok (.iconst 2, 1) := by decide +kernel
theorem dX2_workOut_128 : decode cX2_workOut 128 = .ok (.if_icmp .ge 5, 3) := by decide +kernel
theorem dX2_workOut_131 : decode cX2_workOut 131 = .ok (.iconst 0, 1) := by decide +kernel
theorem dX2_workOut_132 : decode cX2_workOut 132 = .ok (.ireturn, 1) := by decide +kernel
theorem dX2_workOut_133 : decode cX2_workOut 133 = .ok (.iinc 5 (-1), 3) := by decide +kernel
theorem dX2_workOut_136 : decode cX2_workOut 136 = .ok (.aload_n 0, 1) := by decide +kernel
theorem dX2_workOut_137 : decode cX2_workOut 137 = .ok (.getfield 46, 3) := by decide +kernel
theorem dX2_workOut_140 : decode cX2_workOut 140 = .ok (.iload 5, 2) := by decide +kernel
theorem dX2_workOut_142 : decode cX2_workOut 142 = .ok (.iconst 1, 1) := by decide +kernel
theorem dX2_workOut_143 : decode cX2_workOut 143 = .ok (.isub, 1) := by decide +kernel
theorem dX2_workOut_144 : decode cX2_workOut 144 = .ok (.iload 7, 2) := by decide +kernel
theorem dX2_workOut_146 : decode cX2_workOut 146 = .ok (.aload_n 0, 1) := by decide +kernel
theorem dX2_workOut_147 : decode cX2_workOut 147 = .ok (.getfield 46, 3) := by decide +kernel
theorem dX2_workOut_150 : decode cX2_workOut 150 = .ok (.iload 5, 2) := by decide +kernel
theorem dX2_workOut_152 : decode cX2_workOut 152 = .ok (.iconst 1, 1) := by decide +kernel
theorem dX2_workOut_153 : decode cX2_workOut 153 = .ok (.isub, 1) := by decide +kernel
theorem dX2_workOut_154 : decode cX2_workOut 154 = .ok (.iaload, 1) := by decide +kernel
theorem dX2_workOut_155 : decode cX2_workOut 155 = .ok (.aload_n 0, 1) := by decide +kernel
theorem dX2_workOut_156 : decode cX2_workOut 156 = .ok (.getfield 46, 3) := by decide +kernel
theorem dX2_workOut_159 : decode cX2_workOut 159 = .ok (.iload 5, 2) := by decide +kernel
theorem dX2_workOut_161 : decode cX2_workOut 161 = .ok (.iaload, 1) := by decide +kernel
theorem dX2_workOut_162 : decode cX2_workOut 162 = .ok (.invokestatic 82, 3) := by decide +kernel
theorem dX2_workOut_165 : decode cX2_workOut 165 = .ok (.iastore, 1) := by decide +kernel
theorem dX2_workOut_166 : decode cX2_workOut 166 = .ok (.iinc 6 1, 3) := by decide +kernel
theorem dX2_workOut_169 : decode cX2_workOut 169 = .ok (.goto (-163), 3) := by decide +kernel
theorem dX2_workOut_172 : decode cX2_workOut 172 = .ok (.aload_n 0, 1) := by decide +kernel
theorem dX2_workOut_173 : decode cX2_workOut 173 = .ok (.getfield 46, 3) := by decide +kernel
theorem dX2_workOut_176 : decode cX2_workOut 176 = .ok (.iconst 0, 1) := by decide +kernel
theorem dX2_workOut_177 : decode cX2_workOut 177 = .ok (.iaload, 1) := by decide +kernel
theorem dX2_workOut_178 : decode cX2_workOut 178 = .ok (.ireturn, 1) := by decide +kernel
theorem ydX2_workOut : z_yd yX2_workOut 4 := ⟨by decide, by decide, by decide +kernel⟩
abbrev rmX2_workOut : Room := { frames := 2, cells := 0, slots := 0, locals := 42 }
noncomputable def xX2_workOut_B36 (r6 : Nat → Int32 → Int32 → Int32 → Int32 → Int32 → Int32 → ZH → Option (Int32 × ZH)) (l0 : Nat) (l1 : Int32) (l2 : Int32) (l3 : Int32) (l4 : Int32) (l5 : Int32) (l6 : Int32) (l7 : Int32) (h : ZH) : Option (Int32 × ZH) := (if l5 < (32 : Int32) then ((z_gR h l0 2 16).bind fun x46 => (if l7 < 0 then ((xX2_pick l7 l1 l2 l3 l4 h).bind fun r68 => ((z_uI r68.2 x46 l5 r68.1).bind fun h71 => r6 l0 l1 l2 l3 l4 (l5 + 1) (l6 + 1) h71)) else ((z_uI h x46 l5 l7).bind fun h71 => r6 l0 l1 l2 l3 l4 (l5 + 1) (l6 + 1) h71))) else some ((0 : Int32), h))
set_option maxHeartbeats 4000000 in
set_option maxRecDepth 100000 in
theorem wX2_workOut_B36 {Γ : ZG} {p : Program} {l : Launch} {e : Env} {s : State} {m : MethodId} {args : Array Value} {below : List Frame} {meth : Method} {c : Code} (hO : z_OK Γ) (G : z_GG Γ p s m args meth c cX2_workOut 8 RX2) (hr : meth.sig.returnType = (some .int)) (hnm : meth.name = "workOut") {r : (Int32 × ZH)} {r6 : Nat → Int32 → Int32 → Int32 → Int32 → Int32 → Int32 → ZH → Option (Int32 × ZH)} (H6 : ∀ (l0 : Nat) (l1 : Int32) (l2 : Int32) (l3 : Int32) (l4 : Int32) (l5 : Int32) (l6 : Int32) (h : ZH), r6 l0 l1 l2 l3 l4 l5 l6 h = some r → z_W Γ p l e rmX2_workOut s m args below meth c 8 0 0 (MQ below (z_Qc Γ (some (.int r.1)) r.2) args s rmX2_workOut.cells rmX2_workOut.slots (z_A Γ)) 6 [(0, .ref l0), (1, .int l1), (2, .int l2), (3, .int l3), (4, .int l4), (5, .int l5), (6, .int l6)] [] h) : ∀ (l0 : Nat) (l1 : Int32) (l2 : Int32) (l3 : Int32) (l4 : Int32) (l5 : Int32) (l6 : Int32) (l7 : Int32) (h : ZH), xX2_workOut_B36  r6 l0 l1 l2 l3 l4 l5 l6 l7 h = some r → z_W Γ p l e rmX2_workOut s m args below meth c 8 0 0 (MQ below (z_Qc Γ (some (.int r.1)) r.2) args s rmX2_workOut.cells rmX2_workOut.slots (z_A Γ)) 36 [(0, .ref l0), (1, .int l1), (2, .int l2), (3, .int l3), (4, .int l4), (5, .int l5), (6, .int l6), (7, .int l7)] [] h := by
  intro l0 l1 l2 l3 l4 l5 l6 l7 h hX
  refine z_iload (pc := 36) G 5 dX2_workOut_36 rfl ?_
  refine z_bipush (pc := 38) (v := 32) G dX2_workOut_38 (by decide) ?_
  refine z_icmp_lt (pc := 40) (tgt := 45) G dX2_workOut_40 (by decide) (fun hc40 => ?_) (fun hc40 => ?_)
  · have hX := z_it hc40 hX
    refine z_aload_n (pc := 45) G 0 dX2_workOut_45 rfl rfl ?_
    obtain ⟨x46, hv46, hX⟩ := z_bd hX
    refine z_getR (pc := 46) G kK2 (k := 16) (by decide) kt_99 dX2_workOut_46 hv46 ?_
    refine z_iload (pc := 49) G 5 dX2_workOut_49 rfl ?_
    refine z_iload (pc := 51) G 7 dX2_workOut_51 rfl ?_
    refine z_if_lt (pc := 53) (tgt := 61) G dX2_workOut_53 (by decide) (fun hc53 => ?_) (fun hc53 => ?_)
    · have hX := z_it hc53 hX
      refine z_iload (pc := 61) G 7 dX2_workOut_61 rfl ?_
      refine z_iload_n (pc := 63) G 1 dX2_workOut_63 rfl rfl ?_
      refine z_iload_n (pc := 64) G 2 dX2_workOut_64 rfl rfl ?_
      refine z_iload_n (pc := 65) G 3 dX2_workOut_65 rfl rfl ?_
      refine z_iload (pc := 66) G 4 dX2_workOut_66 rfl ?_
      obtain ⟨r68, hv68, hX⟩ := z_bd hX
      refine z_cSI (pc := 68) (As := [.int l7, .int l1, .int l2, .int l3, .int l4]) (c2 := 0) (s2 := 0) G (lX2_pick hO hv68) kt_840 kt_3 kt_838 kt_839 ydX2_pick ⟨by decide, by decide⟩ rfl (Nat.le_of_ble_eq_true rfl) ⟨rfl, rfl⟩ ⟨by decide, by decide⟩ rfl dX2_workOut_68 ?_
      obtain ⟨h71, hv71, hX⟩ := z_bd hX
      refine z_iast (pc := 71) G dX2_workOut_71 hv71 ?_
      refine z_iincw (pc := 72) (w := 1) (lv2 := [(0, .ref l0), (1, .int l1), (2, .int l2), (3, .int l3), (4, .int l4), (5, .int (l5 + 1)), (6, .int l6), (7, .int l7)]) G 5 dX2_workOut_72 rfl (by decide) (by decide) rfl rfl ?_
      refine z_goto (pc := 75) (tgt := 166) G dX2_workOut_75 (by decide) ?_
      refine z_iincw (pc := 166) (w := 1) (lv2 := [(0, .ref l0), (1, .int l1), (2, .int l2), (3, .int l3), (4, .int l4), (5, .int (l5 + 1)), (6, .int (l6 + 1)), (7, .int l7)]) G 6 dX2_workOut_166 rfl (by decide) (by decide) rfl rfl ?_
      refine z_goto (pc := 169) (tgt := 6) G dX2_workOut_169 (by decide) ?_
      refine z_drop (lv2 := [(0, .ref l0), (1, .int l1), (2, .int l2), (3, .int l3), (4, .int l4), (5, .int (l5 + 1)), (6, .int (l6 + 1))]) [0, 1, 2, 3, 4, 5, 6] rfl ?_
      exact H6 _ _ _ _ _ _ _ _ hX
    · have hX := z_if hc53 hX
      refine z_iload (pc := 56) G 7 dX2_workOut_56 rfl ?_
      refine z_goto (pc := 58) (tgt := 71) G dX2_workOut_58 (by decide) ?_
      obtain ⟨h71, hv71, hX⟩ := z_bd hX
      refine z_iast (pc := 71) G dX2_workOut_71 hv71 ?_
      refine z_iincw (pc := 72) (w := 1) (lv2 := [(0, .ref l0), (1, .int l1), (2, .int l2), (3, .int l3), (4, .int l4), (5, .int (l5 + 1)), (6, .int l6), (7, .int l7)]) G 5 dX2_workOut_72 rfl (by decide) (by decide) rfl rfl ?_
      refine z_goto (pc := 75) (tgt := 166) G dX2_workOut_75 (by decide) ?_
      refine z_iincw (pc := 166) (w := 1) (lv2 := [(0, .ref l0), (1, .int l1), (2, .int l2), (3, .int l3), (4, .int l4), (5, .int (l5 + 1)), (6, .int (l6 + 1)), (7, .int l7)]) G 6 dX2_workOut_166 rfl (by decide) (by decide) rfl rfl ?_
      refine z_goto (pc := 169) (tgt := 6) G dX2_workOut_169 (by decide) ?_
      refine z_drop (lv2 := [(0, .ref l0), (1, .int l1), (2, .int l2), (3, .int l3), (4, .int l4), (5, .int (l5 + 1)), (6, .int (l6 + 1))]) [0, 1, 2, 3, 4, 5, 6] rfl ?_
      exact H6 _ _ _ _ _ _ _ _ hX
  · have hX := z_if hc40 hX
    refine z_iconst (pc := 43) (v := 0) G dX2_workOut_43 (by decide) ?_
    exact z_iretX (pc := 44) hX G hr dX2_workOut_44 (by decide) (by decide)
noncomputable def xX2_workOut_B6 (r6 : Nat → Int32 → Int32 → Int32 → Int32 → Int32 → Int32 → ZH → Option (Int32 × ZH)) (l0 : Nat) (l1 : Int32) (l2 : Int32) (l3 : Int32) (l4 : Int32) (l5 : Int32) (l6 : Int32) (h : ZH) : Option (Int32 × ZH) := ((z_gI h l0 2 15).bind fun x9 => (if x9 ≤ l6 then ((z_gR h l0 2 16).bind fun x173 => ((z_aI h x173 (0 : Int32)).bind fun x177 => some (x177, h))) else ((z_gR h l0 2 14).bind fun x16 => ((z_aI h x16 l6).bind fun x21 => (if 0 ≤ x21 then xX2_workOut_B36 r6 l0 l1 l2 l3 l4 l5 l6 x21 h else (if (-12 : Int32) < x21 then (if x21 = (-3 : Int32) then (if (1 : Int32) ≤ l5 then ((z_gR h l0 2 16).bind fun x94 => ((z_gR h l0 2 16).bind fun x102 => ((z_aI h x102 (l5 - (1 : Int32))).bind fun x109 => (if x109 = 0 then ((xX2_truth (1 : Int32) h).bind fun r118 => ((z_uI r118.2 x94 (l5 - (1 : Int32)) r118.1).bind fun h121 => r6 l0 l1 l2 l3 l4 l5 (l6 + 1) h121)) else ((xX2_truth (0 : Int32) h).bind fun r118 => ((z_uI r118.2 x94 (l5 - (1 : Int32)) r118.1).bind fun h121 => r6 l0 l1 l2 l3 l4 l5 (l6 + 1) h121)))))) else some ((0 : Int32), h)) else (if (2 : Int32) ≤ l5 then ((z_gR h l0 2 16).bind fun x137 => ((z_gR h l0 2 16).bind fun x147 => ((z_aI h x147 ((l5 + (-1)) - (1 : Int32))).bind fun x154 => ((z_gR h l0 2 16).bind fun x156 => ((z_aI h x156 (l5 + (-1))).bind fun x161 => ((xX2_join x21 x154 x161 h).bind fun r162 => ((z_uI r162.2 x137 ((l5 + (-1)) - (1 : Int32)) r162.1).bind fun h165 => r6 l0 l1 l2 l3 l4 (l5 + (-1)) (l6 + 1) h165))))))) else some ((0 : Int32), h))) else xX2_workOut_B36 r6 l0 l1 l2 l3 l4 l5 l6 x21 h))))))
noncomputable def xX2_workOut_L6 (n : Nat) : Nat → Int32 → Int32 → Int32 → Int32 → Int32 → Int32 → ZH → Option (Int32 × ZH) := Nat.rec (motive := fun _ => Nat → Int32 → Int32 → Int32 → Int32 → Int32 → Int32 → ZH → Option (Int32 × ZH)) (fun _ _ _ _ _ _ _ _ => none) (fun _ rec => xX2_workOut_B6  rec) n
set_option maxHeartbeats 4000000 in
set_option maxRecDepth 100000 in
theorem wX2_workOut_B6 {Γ : ZG} {p : Program} {l : Launch} {e : Env} {s : State} {m : MethodId} {args : Array Value} {below : List Frame} {meth : Method} {c : Code} (hO : z_OK Γ) (G : z_GG Γ p s m args meth c cX2_workOut 8 RX2) (hr : meth.sig.returnType = (some .int)) (hnm : meth.name = "workOut") {r : (Int32 × ZH)} {r6 : Nat → Int32 → Int32 → Int32 → Int32 → Int32 → Int32 → ZH → Option (Int32 × ZH)} (H6 : ∀ (l0 : Nat) (l1 : Int32) (l2 : Int32) (l3 : Int32) (l4 : Int32) (l5 : Int32) (l6 : Int32) (h : ZH), r6 l0 l1 l2 l3 l4 l5 l6 h = some r → z_W Γ p l e rmX2_workOut s m args below meth c 8 0 0 (MQ below (z_Qc Γ (some (.int r.1)) r.2) args s rmX2_workOut.cells rmX2_workOut.slots (z_A Γ)) 6 [(0, .ref l0), (1, .int l1), (2, .int l2), (3, .int l3), (4, .int l4), (5, .int l5), (6, .int l6)] [] h) : ∀ (l0 : Nat) (l1 : Int32) (l2 : Int32) (l3 : Int32) (l4 : Int32) (l5 : Int32) (l6 : Int32) (h : ZH), xX2_workOut_B6  r6 l0 l1 l2 l3 l4 l5 l6 h = some r → z_W Γ p l e rmX2_workOut s m args below meth c 8 0 0 (MQ below (z_Qc Γ (some (.int r.1)) r.2) args s rmX2_workOut.cells rmX2_workOut.slots (z_A Γ)) 6 [(0, .ref l0), (1, .int l1), (2, .int l2), (3, .int l3), (4, .int l4), (5, .int l5), (6, .int l6)] [] h := by
  intro l0 l1 l2 l3 l4 l5 l6 h hX
  refine z_iload (pc := 6) G 6 dX2_workOut_6 rfl ?_
  refine z_aload_n (pc := 8) G 0 dX2_workOut_8 rfl rfl ?_
  obtain ⟨x9, hv9, hX⟩ := z_bd hX
  refine z_getI (pc := 9) G kK2 (k := 15) (by decide) kt_97 dX2_workOut_9 hv9 ?_
  refine z_icmp_ge (pc := 12) (tgt := 172) G dX2_workOut_12 (by decide) (fun hc12 => ?_) (fun hc12 => ?_)
  · have hX := z_it hc12 hX
    refine z_aload_n (pc := 172) G 0 dX2_workOut_172 rfl rfl ?_
    obtain ⟨x173, hv173, hX⟩ := z_bd hX
    refine z_getR (pc := 173) G kK2 (k := 16) (by decide) kt_99 dX2_workOut_173 hv173 ?_
    refine z_iconst (pc := 176) (v := 0) G dX2_workOut_176 (by decide) ?_
    obtain ⟨x177, hv177, hX⟩ := z_bd hX
    refine z_iald (pc := 177) G dX2_workOut_177 hv177 ?_
    exact z_iretX (pc := 178) hX G hr dX2_workOut_178 (by decide) (by decide)
  · have hX := z_if hc12 hX
    refine z_aload_n (pc := 15) G 0 dX2_workOut_15 rfl rfl ?_
    obtain ⟨x16, hv16, hX⟩ := z_bd hX
    refine z_getR (pc := 16) G kK2 (k := 14) (by decide) kt_96 dX2_workOut_16 hv16 ?_
    refine z_iload (pc := 19) G 6 dX2_workOut_19 rfl ?_
    obtain ⟨x21, hv21, hX⟩ := z_bd hX
    refine z_iald (pc := 21) G dX2_workOut_21 hv21 ?_
    refine z_istore (pc := 22) (lv2 := [(0, .ref l0), (1, .int l1), (2, .int l2), (3, .int l3), (4, .int l4), (5, .int l5), (6, .int l6), (7, .int x21)]) G dX2_workOut_22 (by decide) rfl rfl ?_
    refine z_iload (pc := 24) G 7 dX2_workOut_24 rfl ?_
    refine z_if_ge (pc := 26) (tgt := 36) G dX2_workOut_26 (by decide) (fun hc26 => ?_) (fun hc26 => ?_)
    · have hX := z_it hc26 hX
      exact wX2_workOut_B36 hO G hr hnm H6 _ _ _ _ _ _ _ _ _ hX
    · have hX := z_if hc26 hX
      refine z_iload (pc := 29) G 7 dX2_workOut_29 rfl ?_
      refine z_bipush (pc := 31) (v := (-12)) G dX2_workOut_31 (by decide) ?_
      refine z_icmp_gt (pc := 33) (tgt := 78) G dX2_workOut_33 (by decide) (fun hc33 => ?_) (fun hc33 => ?_)
      · have hX := z_it hc33 hX
        refine z_iload (pc := 78) G 7 dX2_workOut_78 rfl ?_
        refine z_bipush (pc := 80) (v := (-3)) G dX2_workOut_80 (by decide) ?_
        refine z_icmp_ne (pc := 82) (tgt := 125) G dX2_workOut_82 (by decide) (fun hc82 => ?_) (fun hc82 => ?_)
        · have hX := z_if hc82 hX
          refine z_iload (pc := 125) G 5 dX2_workOut_125 rfl ?_
          refine z_iconst (pc := 127) (v := 2) G dX2_workOut_127 (by decide) ?_
          refine z_icmp_ge (pc := 128) (tgt := 133) G dX2_workOut_128 (by decide) (fun hc128 => ?_) (fun hc128 => ?_)
          · have hX := z_it hc128 hX
            refine z_iincw (pc := 133) (w := (-1)) (lv2 := [(0, .ref l0), (1, .int l1), (2, .int l2), (3, .int l3), (4, .int l4), (5, .int (l5 + (-1))), (6, .int l6), (7, .int x21)]) G 5 dX2_workOut_133 rfl (by decide) (by decide) rfl rfl ?_
            refine z_aload_n (pc := 136) G 0 dX2_workOut_136 rfl rfl ?_
            obtain ⟨x137, hv137, hX⟩ := z_bd hX
            refine z_getR (pc := 137) G kK2 (k := 16) (by decide) kt_99 dX2_workOut_137 hv137 ?_
            refine z_iload (pc := 140) G 5 dX2_workOut_140 rfl ?_
            refine z_iconst (pc := 142) (v := 1) G dX2_workOut_142 (by decide) ?_
            refine z_isub (pc := 143) G dX2_workOut_143 ?_
            refine z_iload (pc := 144) G 7 dX2_workOut_144 rfl ?_
            refine z_aload_n (pc := 146) G 0 dX2_workOut_146 rfl rfl ?_
            obtain ⟨x147, hv147, hX⟩ := z_bd hX
            refine z_getR (pc := 147) G kK2 (k := 16) (by decide) kt_99 dX2_workOut_147 hv147 ?_
            refine z_iload (pc := 150) G 5 dX2_workOut_150 rfl ?_
            refine z_iconst (pc := 152) (v := 1) G dX2_workOut_152 (by decide) ?_
            refine z_isub (pc := 153) G dX2_workOut_153 ?_
            obtain ⟨x154, hv154, hX⟩ := z_bd hX
            refine z_iald (pc := 154) G dX2_workOut_154 hv154 ?_
            refine z_aload_n (pc := 155) G 0 dX2_workOut_155 rfl rfl ?_
            obtain ⟨x156, hv156, hX⟩ := z_bd hX
            refine z_getR (pc := 156) G kK2 (k := 16) (by decide) kt_99 dX2_workOut_156 hv156 ?_
            refine z_iload (pc := 159) G 5 dX2_workOut_159 rfl ?_
            obtain ⟨x161, hv161, hX⟩ := z_bd hX
            refine z_iald (pc := 161) G dX2_workOut_161 hv161 ?_
            obtain ⟨r162, hv162, hX⟩ := z_bd hX
            refine z_cSI (pc := 162) (As := [.int x21, .int x154, .int x161]) (c2 := 0) (s2 := 0) G (lX2_join hO hv162) kt_846 kt_3 kt_844 kt_845 ydX2_join ⟨by decide, by decide⟩ rfl (Nat.le_of_ble_eq_true rfl) ⟨rfl, rfl⟩ ⟨by decide, by decide⟩ rfl dX2_workOut_162 ?_
            obtain ⟨h165, hv165, hX⟩ := z_bd hX
            refine z_iast (pc := 165) G dX2_workOut_165 hv165 ?_
            refine z_iincw (pc := 166) (w := 1) (lv2 := [(0, .ref l0), (1, .int l1), (2, .int l2), (3, .int l3), (4, .int l4), (5, .int (l5 + (-1))), (6, .int (l6 + 1)), (7, .int x21)]) G 6 dX2_workOut_166 rfl (by decide) (by decide) rfl rfl ?_
            refine z_goto (pc := 169) (tgt := 6) G dX2_workOut_169 (by decide) ?_
            refine z_drop (lv2 := [(0, .ref l0), (1, .int l1), (2, .int l2), (3, .int l3), (4, .int l4), (5, .int (l5 + (-1))), (6, .int (l6 + 1))]) [0, 1, 2, 3, 4, 5, 6] rfl ?_
            exact H6 _ _ _ _ _ _ _ _ hX
          · have hX := z_if hc128 hX
            refine z_iconst (pc := 131) (v := 0) G dX2_workOut_131 (by decide) ?_
            exact z_iretX (pc := 132) hX G hr dX2_workOut_132 (by decide) (by decide)
        · have hX := z_it hc82 hX
          refine z_iload (pc := 85) G 5 dX2_workOut_85 rfl ?_
          refine z_iconst (pc := 87) (v := 1) G dX2_workOut_87 (by decide) ?_
          refine z_icmp_ge (pc := 88) (tgt := 93) G dX2_workOut_88 (by decide) (fun hc88 => ?_) (fun hc88 => ?_)
          · have hX := z_it hc88 hX
            refine z_aload_n (pc := 93) G 0 dX2_workOut_93 rfl rfl ?_
            obtain ⟨x94, hv94, hX⟩ := z_bd hX
            refine z_getR (pc := 94) G kK2 (k := 16) (by decide) kt_99 dX2_workOut_94 hv94 ?_
            refine z_iload (pc := 97) G 5 dX2_workOut_97 rfl ?_
            refine z_iconst (pc := 99) (v := 1) G dX2_workOut_99 (by decide) ?_
            refine z_isub (pc := 100) G dX2_workOut_100 ?_
            refine z_aload_n (pc := 101) G 0 dX2_workOut_101 rfl rfl ?_
            obtain ⟨x102, hv102, hX⟩ := z_bd hX
            refine z_getR (pc := 102) G kK2 (k := 16) (by decide) kt_99 dX2_workOut_102 hv102 ?_
            refine z_iload (pc := 105) G 5 dX2_workOut_105 rfl ?_
            refine z_iconst (pc := 107) (v := 1) G dX2_workOut_107 (by decide) ?_
            refine z_isub (pc := 108) G dX2_workOut_108 ?_
            obtain ⟨x109, hv109, hX⟩ := z_bd hX
            refine z_iald (pc := 109) G dX2_workOut_109 hv109 ?_
            refine z_if_ne (pc := 110) (tgt := 117) G dX2_workOut_110 (by decide) (fun hc110 => ?_) (fun hc110 => ?_)
            · have hX := z_if hc110 hX
              refine z_iconst (pc := 117) (v := 0) G dX2_workOut_117 (by decide) ?_
              obtain ⟨r118, hv118, hX⟩ := z_bd hX
              refine z_cSI (pc := 118) (As := [.int (0 : Int32)]) (c2 := 0) (s2 := 0) G (lX2_truth hO hv118) kt_843 kt_3 kt_841 kt_842 ydX2_truth ⟨by decide, by decide⟩ rfl (Nat.le_of_ble_eq_true rfl) ⟨rfl, rfl⟩ ⟨by decide, by decide⟩ rfl dX2_workOut_118 ?_
              obtain ⟨h121, hv121, hX⟩ := z_bd hX
              refine z_iast (pc := 121) G dX2_workOut_121 hv121 ?_
              refine z_goto (pc := 122) (tgt := 166) G dX2_workOut_122 (by decide) ?_
              refine z_iincw (pc := 166) (w := 1) (lv2 := [(0, .ref l0), (1, .int l1), (2, .int l2), (3, .int l3), (4, .int l4), (5, .int l5), (6, .int (l6 + 1)), (7, .int x21)]) G 6 dX2_workOut_166 rfl (by decide) (by decide) rfl rfl ?_
              refine z_goto (pc := 169) (tgt := 6) G dX2_workOut_169 (by decide) ?_
              refine z_drop (lv2 := [(0, .ref l0), (1, .int l1), (2, .int l2), (3, .int l3), (4, .int l4), (5, .int l5), (6, .int (l6 + 1))]) [0, 1, 2, 3, 4, 5, 6] rfl ?_
              exact H6 _ _ _ _ _ _ _ _ hX
            · have hX := z_it hc110 hX
              refine z_iconst (pc := 113) (v := 1) G dX2_workOut_113 (by decide) ?_
              refine z_goto (pc := 114) (tgt := 118) G dX2_workOut_114 (by decide) ?_
              obtain ⟨r118, hv118, hX⟩ := z_bd hX
              refine z_cSI (pc := 118) (As := [.int (1 : Int32)]) (c2 := 0) (s2 := 0) G (lX2_truth hO hv118) kt_843 kt_3 kt_841 kt_842 ydX2_truth ⟨by decide, by decide⟩ rfl (Nat.le_of_ble_eq_true rfl) ⟨rfl, rfl⟩ ⟨by decide, by decide⟩ rfl dX2_workOut_118 ?_
              obtain ⟨h121, hv121, hX⟩ := z_bd hX
              refine z_iast (pc := 121) G dX2_workOut_121 hv121 ?_
              refine z_goto (pc := 122) (tgt := 166) G dX2_workOut_122 (by decide) ?_
              refine z_iincw (pc := 166) (w := 1) (lv2 := [(0, .ref l0), (1, .int l1), (2, .int l2), (3, .int l3), (4, .int l4), (5, .int l5), (6, .int (l6 + 1)), (7, .int x21)]) G 6 dX2_workOut_166 rfl (by decide) (by decide) rfl rfl ?_
              refine z_goto (pc := 169) (tgt := 6) G dX2_workOut_169 (by decide) ?_
              refine z_drop (lv2 := [(0, .ref l0), (1, .int l1), (2, .int l2), (3, .int l3), (4, .int l4), (5, .int l5), (6, .int (l6 + 1))]) [0, 1, 2, 3, 4, 5, 6] rfl ?_
              exact H6 _ _ _ _ _ _ _ _ hX
          · have hX := z_if hc88 hX
            refine z_iconst (pc := 91) (v := 0) G dX2_workOut_91 (by decide) ?_
            exact z_iretX (pc := 92) hX G hr dX2_workOut_92 (by decide) (by decide)
      · have hX := z_if hc33 hX
        exact wX2_workOut_B36 hO G hr hnm H6 _ _ _ _ _ _ _ _ _ hX
set_option maxHeartbeats 4000000 in
set_option maxRecDepth 100000 in
theorem wX2_workOut_L6 {Γ : ZG} {p : Program} {l : Launch} {e : Env} {s : State} {m : MethodId} {args : Array Value} {below : List Frame} {meth : Method} {c : Code} (hO : z_OK Γ) (G : z_GG Γ p s m args meth c cX2_workOut 8 RX2) (hr : meth.sig.returnType = (some .int)) (hnm : meth.name = "workOut") {r : (Int32 × ZH)} : ∀ (nn : Nat) (l0 : Nat) (l1 : Int32) (l2 : Int32) (l3 : Int32) (l4 : Int32) (l5 : Int32) (l6 : Int32) (h : ZH), xX2_workOut_L6  nn l0 l1 l2 l3 l4 l5 l6 h = some r → z_W Γ p l e rmX2_workOut s m args below meth c 8 0 0 (MQ below (z_Qc Γ (some (.int r.1)) r.2) args s rmX2_workOut.cells rmX2_workOut.slots (z_A Γ)) 6 [(0, .ref l0), (1, .int l1), (2, .int l2), (3, .int l3), (4, .int l4), (5, .int l5), (6, .int l6)] [] h := by
  intro nn
  induction nn with
  | zero => intro l0 l1 l2 l3 l4 l5 l6 h hX; cases hX
  | succ nn ih => intro l0 l1 l2 l3 l4 l5 l6 h hX; exact wX2_workOut_B6 hO G hr hnm  ih l0 l1 l2 l3 l4 l5 l6 h hX
noncomputable def xX2_workOut (l0 : Nat) (l1 : Int32) (l2 : Int32) (l3 : Int32) (l4 : Int32) (h : ZH) : Option (Int32 × ZH) := xX2_workOut_L6 zFU l0 l1 l2 l3 l4 (0 : Int32) (0 : Int32) h
set_option maxHeartbeats 4000000 in
set_option maxRecDepth 100000 in
theorem lX2_workOut {Γ : ZG} {l : Launch} (hO : z_OK Γ) {l0 : Nat} {l1 : Int32} {l2 : Int32} {l3 : Int32} {l4 : Int32} {h : ZH} {r : (Int32 × ZH)} (hX : xX2_workOut l0 l1 l2 l3 l4 h = some r) : z_M Γ l yX2_workOut (z_ws1 yX2_workOut cX2_workOut 8 (some .int)) rmX2_workOut [.ref l0, .int l1, .int l2, .int l3, .int l4] h (some (.int r.1)) r.2 := by
  refine z_start hO (plainFor_of_name (by decide)) (Nat.le_of_ble_eq_true rfl) ?_
  intro p e s m args below meth c G hr hnm
  refine z_lvc (lv2 := [(0, .ref l0), (1, .int l1), (2, .int l2), (3, .int l3), (4, .int l4)]) rfl ?_
  refine z_iconst (pc := 0) (v := 0) G dX2_workOut_0 (by decide) ?_
  refine z_istore (pc := 1) (lv2 := [(0, .ref l0), (1, .int l1), (2, .int l2), (3, .int l3), (4, .int l4), (5, .int (0 : Int32))]) G dX2_workOut_1 (by decide) rfl rfl ?_
  refine z_iconst (pc := 3) (v := 0) G dX2_workOut_3 (by decide) ?_
  refine z_istore (pc := 4) (lv2 := [(0, .ref l0), (1, .int l1), (2, .int l2), (3, .int l3), (4, .int l4), (5, .int (0 : Int32)), (6, .int (0 : Int32))]) G dX2_workOut_4 (by decide) rfl rfl ?_
  exact wX2_workOut_L6 hO G hr hnm zFU _ _ _ _ _ _ _ _ hX
theorem dX3_init_0 : decode cX3_init 0 = .ok (.aload_n 0, 1) := by decide +kernel
theorem dX3_init_1 : decode cX3_init 1 = .ok (.invokespecial 3, 3) := by decide +kernel
theorem dX3_init_4 : decode cX3_init 4 = .ok (.aload_n 0, 1) := by decide +kernel
theorem dX3_init_5 : decode cX3_init 5 = .ok (.new 9, 3) := by decide +kernel
theorem dX3_init_8 : decode cX3_init 8 = .ok (.dup, 1) := by decide +kernel
theorem dX3_init_9 : decode cX3_init 9 = .ok (.invokespecial 11, 3) := by decide +kernel
theorem dX3_init_12 : decode cX3_init 12 = .ok (.putfield 12, 3) := by decide +kernel
theorem dX3_init_15 : decode cX3_init 15 = .ok (.aload_n 0, 1) := by decide +kernel
theorem dX3_init_16 : decode cX3_init 16 = .ok (.iconst (-1), 1) := by decide +kernel
theorem dX3_init_17 : decode cX3_init 17 = .ok (.putfield 18, 3) := by decide +kernel
theorem dX3_init_20 : decode cX3_init 20 = .ok (.aload_n 0, 1) := by decide +kernel
theorem dX3_init_21 : decode cX3_init 21 = .ok (.bipush 6, 2) := by decide +kernel
theorem dX3_init_23 : decode cX3_init 23 = .ok (.newarray .int, 2) := by decide +kernel
theorem dX3_init_25 : decode cX3_init 25 = .ok (.putfield 22, 3) := by decide +kernel
theorem dX3_init_28 : decode cX3_init 28 = .ok (.aload_n 0, 1) := by decide +kernel
theorem dX3_init_29 : decode cX3_init 29 = .ok (.bipush 6, 2) := by decide +kernel
theorem dX3_init_31 : decode cX3_init 31 = .ok (.newarray .int, 2) := by decide +kernel
theorem dX3_init_33 : decode cX3_init 33 = .ok (.putfield 26, 3) := by decide +kernel
theorem dX3_init_36 : decode cX3_init 36 = .ok (.return_, 1) := by decide +kernel
theorem ydX3_init : z_yd yX3_init 0 := ⟨by decide, by decide, by decide +kernel⟩
abbrev rmX3_init : Room := { frames := 2, cells := 10, slots := 371, locals := 32 }
noncomputable def xX3_init (l0 : Nat) (h : ZH) : Option ZH := ((z_nw h (.inl (2, [.int 0, .int 0, .int 0, .int 0, .int 0, .int 0, .int 0, .int 0, .int 0, .null, .null, .null, .null, .null, .null, .int 0, .null]))).bind fun q5 => ((xX2_init q5.1 q5.2).bind fun h9 => ((z_sF h9 l0 3 0 (.ref q5.1)).bind fun h12 => ((z_sF h12 l0 3 2 (.int (-1 : Int32))).bind fun h17 => ((z_nw h17 (.inr (.inl (0, List.replicate 6 0)))).bind fun q23 => ((z_sF q23.2 l0 3 11 (.ref q23.1)).bind fun h25 => ((z_nw h25 (.inr (.inl (0, List.replicate 6 0)))).bind fun q31 => ((z_sF q31.2 l0 3 12 (.ref q31.1)).bind fun h33 => some h33))))))))
set_option maxHeartbeats 4000000 in
set_option maxRecDepth 100000 in
theorem lX3_init {Γ : ZG} {l : Launch} (hO : z_OK Γ) {l0 : Nat} {h : ZH} {r : ZH} (hX : xX3_init l0 h = some r) : z_M Γ l yX3_init (z_ws1 yX3_init cX3_init 1 none) rmX3_init [.ref l0] h none r := by
  refine z_start hO (plainFor_of_name (by decide)) (Nat.le_of_ble_eq_true rfl) ?_
  intro p e s m args below meth c G hr hnm
  refine z_lvc (lv2 := [(0, .ref l0)]) rfl ?_
  refine z_aload_n (pc := 0) G 0 dX3_init_0 rfl rfl ?_
  refine z_obj (pc := 1) G kt_32 kt_25 kt_26 (by decide) (Nat.le_of_ble_eq_true rfl) dX3_init_1 ?_
  refine z_aload_n (pc := 4) G 0 dX3_init_4 rfl rfl ?_
  obtain ⟨q5, hv5, hX⟩ := z_bd hX
  refine z_nO (pc := 5) (c2 := 1) (s2 := 17) G kK2 kt_33 kt_34 kt_3 (fun j hj => by rcases (show j = 0 ∨ j = 1 ∨ j = 2 ∨ j = 3 ∨ j = 4 ∨ j = 5 ∨ j = 6 ∨ j = 7 ∨ j = 8 ∨ j = 9 ∨ j = 10 ∨ j = 11 ∨ j = 12 ∨ j = 13 ∨ j = 14 ∨ j = 15 ∨ j = 16 by omega) with rfl | rfl | rfl | rfl | rfl | rfl | rfl | rfl | rfl | rfl | rfl | rfl | rfl | rfl | rfl | rfl | rfl <;> rfl) ⟨rfl, rfl⟩ ⟨by decide, by decide⟩ dX3_init_5 hv5 ?_
  refine z_dup (pc := 8) G dX3_init_8 rfl ?_
  obtain ⟨h9, hv9, hX⟩ := z_bd hX
  refine z_cIN (pc := 9) (As := []) (c2 := 8) (s2 := 359) G (lX2_init hO hv9) kt_37 kt_3 kt_35 kt_36 rfl ydX2_init ⟨by decide, by decide⟩ rfl (Nat.le_of_ble_eq_true rfl) ⟨rfl, rfl⟩ ⟨by decide, by decide⟩ rfl dX3_init_9 ?_
  obtain ⟨h12, hv12, hX⟩ := z_bd hX
  refine z_putF (pc := 12) G kK3 (k := 0) (by decide) kt_137 (Or.inr ⟨rfl, hnm, rfl⟩) rfl rfl dX3_init_12 hv12 ?_
  refine z_aload_n (pc := 15) G 0 dX3_init_15 rfl rfl ?_
  refine z_iconst (pc := 16) (v := (-1)) G dX3_init_16 (by decide) ?_
  obtain ⟨h17, hv17, hX⟩ := z_bd hX
  refine z_putF (pc := 17) G kK3 (k := 2) (by decide) kt_141 (Or.inl rfl) rfl rfl dX3_init_17 hv17 ?_
  refine z_aload_n (pc := 20) G 0 dX3_init_20 rfl rfl ?_
  refine z_bipush (pc := 21) (v := 6) G dX3_init_21 (by decide) ?_
  obtain ⟨q23, hv23, hX⟩ := z_bd hX
  refine z_nI (pc := 23) (atype := .int) (t := 0) (N := 6) (c2 := 9) (s2 := 365) G kt_136 rfl (by decide) rfl (fun _ z => by cases z) (by decide) (by decide) (by decide) ⟨rfl, rfl⟩ ⟨by decide, by decide⟩ dX3_init_23 hv23 ?_
  obtain ⟨h25, hv25, hX⟩ := z_bd hX
  refine z_putF (pc := 25) G kK3 (k := 11) (by decide) kt_151 (Or.inr ⟨rfl, hnm, rfl⟩) rfl rfl dX3_init_25 hv25 ?_
  refine z_aload_n (pc := 28) G 0 dX3_init_28 rfl rfl ?_
  refine z_bipush (pc := 29) (v := 6) G dX3_init_29 (by decide) ?_
  obtain ⟨q31, hv31, hX⟩ := z_bd hX
  refine z_nI (pc := 31) (atype := .int) (t := 0) (N := 6) (c2 := 10) (s2 := 371) G kt_136 rfl (by decide) rfl (fun _ z => by cases z) (by decide) (by decide) (by decide) ⟨rfl, rfl⟩ ⟨by decide, by decide⟩ dX3_init_31 hv31 ?_
  obtain ⟨h33, hv33, hX⟩ := z_bd hX
  refine z_putF (pc := 33) G kK3 (k := 12) (by decide) kt_152 (Or.inr ⟨rfl, hnm, rfl⟩) rfl rfl dX3_init_33 hv33 ?_
  exact z_vretX (pc := 36) hX G hr dX3_init_36 (by decide) (by decide)
theorem dX3_isBlank_0 : decode cX3_isBlank 0 = .ok (.iload_n 0, 1) := by decide +kernel
theorem dX3_isBlank_1 : decode cX3_isBlank 1 = .ok (.bipush 32, 2) := by decide +kernel
theorem dX3_isBlank_3 : decode cX3_isBlank 3 = .ok (.if_icmp .eq 9, 3) := by decide +kernel
theorem dX3_isBlank_6 : decode cX3_isBlank 6 = .ok (.iload_n 0, 1) := by decide +kernel
theorem dX3_isBlank_7 : decode cX3_isBlank 7 = .ok (.bipush 10, 2) := by decide +kernel
theorem dX3_isBlank_9 : decode cX3_isBlank 9 = .ok (.if_icmp .ne 7, 3) := by decide +kernel
theorem dX3_isBlank_12 : decode cX3_isBlank 12 = .ok (.iconst 1, 1) := by decide +kernel
theorem dX3_isBlank_13 : decode cX3_isBlank 13 = .ok (.goto 4, 3) := by decide +kernel
theorem dX3_isBlank_16 : decode cX3_isBlank 16 = .ok (.iconst 0, 1) := by decide +kernel
theorem dX3_isBlank_17 : decode cX3_isBlank 17 = .ok (.ireturn, 1) := by decide +kernel
theorem ydX3_isBlank : z_yd yX3_isBlank 1 := ⟨by decide, by decide, by decide +kernel⟩
abbrev rmX3_isBlank : Room := { frames := 0, cells := 0, slots := 0, locals := 0 }
noncomputable def xX3_isBlank (l0 : Int32) (h : ZH) : Option (Int32 × ZH) := (if l0 = (32 : Int32) then some ((1 : Int32), h) else (if l0 = (10 : Int32) then some ((1 : Int32), h) else some ((0 : Int32), h)))
set_option maxHeartbeats 4000000 in
set_option maxRecDepth 100000 in
theorem lX3_isBlank {Γ : ZG} {l : Launch} (hO : z_OK Γ) {l0 : Int32} {h : ZH} {r : (Int32 × ZH)} (hX : xX3_isBlank l0 h = some r) : z_M Γ l yX3_isBlank (z_ws1 yX3_isBlank cX3_isBlank 1 (some .boolean)) rmX3_isBlank [.int l0] h (some (.int r.1)) r.2 := by
  refine z_start hO (plainFor_of_name (by decide)) (Nat.le_of_ble_eq_true rfl) ?_
  intro p e s m args below meth c G hr hnm
  refine z_lvc (lv2 := [(0, .int l0)]) rfl ?_
  refine z_iload_n (pc := 0) G 0 dX3_isBlank_0 rfl rfl ?_
  refine z_bipush (pc := 1) (v := 32) G dX3_isBlank_1 (by decide) ?_
  refine z_icmp_eq (pc := 3) (tgt := 12) G dX3_isBlank_3 (by decide) (fun hc3 => ?_) (fun hc3 => ?_)
  · have hX := z_it hc3 hX
    refine z_iconst (pc := 12) (v := 1) G dX3_isBlank_12 (by decide) ?_
    refine z_goto (pc := 13) (tgt := 17) G dX3_isBlank_13 (by decide) ?_
    exact z_zretX (pc := 17) hX G hr rfl dX3_isBlank_17 (by decide) (by decide)
  · have hX := z_if hc3 hX
    refine z_iload_n (pc := 6) G 0 dX3_isBlank_6 rfl rfl ?_
    refine z_bipush (pc := 7) (v := 10) G dX3_isBlank_7 (by decide) ?_
    refine z_icmp_ne (pc := 9) (tgt := 16) G dX3_isBlank_9 (by decide) (fun hc9 => ?_) (fun hc9 => ?_)
    · have hX := z_if hc9 hX
      refine z_iconst (pc := 16) (v := 0) G dX3_isBlank_16 (by decide) ?_
      exact z_zretX (pc := 17) hX G hr rfl dX3_isBlank_17 (by decide) (by decide)
    · have hX := z_it hc9 hX
      refine z_iconst (pc := 12) (v := 1) G dX3_isBlank_12 (by decide) ?_
      refine z_goto (pc := 13) (tgt := 17) G dX3_isBlank_13 (by decide) ?_
      exact z_zretX (pc := 17) hX G hr rfl dX3_isBlank_17 (by decide) (by decide)
theorem dX3_isDigit_0 : decode cX3_isDigit 0 = .ok (.iload_n 0, 1) := by decide +kernel
theorem dX3_isDigit_1 : decode cX3_isDigit 1 = .ok (.bipush 48, 2) := by decide +kernel
theorem dX3_isDigit_3 : decode cX3_isDigit 3 = .ok (.if_icmp .lt 13, 3) := by decide +kernel
theorem dX3_isDigit_6 : decode cX3_isDigit 6 = .ok (.iload_n 0, 1) := by decide +kernel
theorem dX3_isDigit_7 : decode cX3_isDigit 7 = .ok (.bipush 57, 2) := by decide +kernel
theorem dX3_isDigit_9 : decode cX3_isDigit 9 = .ok (.if_icmp .gt 7, 3) := by decide +kernel
theorem dX3_isDigit_12 : decode cX3_isDigit 12 = .ok (.iconst 1, 1) := by decide +kernel
theorem dX3_isDigit_13 : decode cX3_isDigit 13 = .ok (.goto 4, 3) := by decide +kernel
theorem dX3_isDigit_16 : decode cX3_isDigit 16 = .ok (.iconst 0, 1) := by decide +kernel
theorem dX3_isDigit_17 : decode cX3_isDigit 17 = .ok (.ireturn, 1) := by decide +kernel
theorem ydX3_isDigit : z_yd yX3_isDigit 1 := ⟨by decide, by decide, by decide +kernel⟩
abbrev rmX3_isDigit : Room := { frames := 0, cells := 0, slots := 0, locals := 0 }
noncomputable def xX3_isDigit (l0 : Int32) (h : ZH) : Option (Int32 × ZH) := (if l0 < (48 : Int32) then some ((0 : Int32), h) else (if (57 : Int32) < l0 then some ((0 : Int32), h) else some ((1 : Int32), h)))
set_option maxHeartbeats 4000000 in
set_option maxRecDepth 100000 in
theorem lX3_isDigit {Γ : ZG} {l : Launch} (hO : z_OK Γ) {l0 : Int32} {h : ZH} {r : (Int32 × ZH)} (hX : xX3_isDigit l0 h = some r) : z_M Γ l yX3_isDigit (z_ws1 yX3_isDigit cX3_isDigit 1 (some .boolean)) rmX3_isDigit [.int l0] h (some (.int r.1)) r.2 := by
  refine z_start hO (plainFor_of_name (by decide)) (Nat.le_of_ble_eq_true rfl) ?_
  intro p e s m args below meth c G hr hnm
  refine z_lvc (lv2 := [(0, .int l0)]) rfl ?_
  refine z_iload_n (pc := 0) G 0 dX3_isDigit_0 rfl rfl ?_
  refine z_bipush (pc := 1) (v := 48) G dX3_isDigit_1 (by decide) ?_
  refine z_icmp_lt (pc := 3) (tgt := 16) G dX3_isDigit_3 (by decide) (fun hc3 => ?_) (fun hc3 => ?_)
  · have hX := z_it hc3 hX
    refine z_iconst (pc := 16) (v := 0) G dX3_isDigit_16 (by decide) ?_
    exact z_zretX (pc := 17) hX G hr rfl dX3_isDigit_17 (by decide) (by decide)
  · have hX := z_if hc3 hX
    refine z_iload_n (pc := 6) G 0 dX3_isDigit_6 rfl rfl ?_
    refine z_bipush (pc := 7) (v := 57) G dX3_isDigit_7 (by decide) ?_
    refine z_icmp_gt (pc := 9) (tgt := 16) G dX3_isDigit_9 (by decide) (fun hc9 => ?_) (fun hc9 => ?_)
    · have hX := z_it hc9 hX
      refine z_iconst (pc := 16) (v := 0) G dX3_isDigit_16 (by decide) ?_
      exact z_zretX (pc := 17) hX G hr rfl dX3_isDigit_17 (by decide) (by decide)
    · have hX := z_if hc9 hX
      refine z_iconst (pc := 12) (v := 1) G dX3_isDigit_12 (by decide) ?_
      refine z_goto (pc := 13) (tgt := 17) G dX3_isDigit_13 (by decide) ?_
      exact z_zretX (pc := 17) hX G hr rfl dX3_isDigit_17 (by decide) (by decide)
theorem dX3_isLetter_0 : decode cX3_isLetter 0 = .ok (.iload_n 0, 1) := by decide +kernel
theorem dX3_isLetter_1 : decode cX3_isLetter 1 = .ok (.bipush 97, 2) := by decide +kernel
theorem dX3_isLetter_3 : decode cX3_isLetter 3 = .ok (.if_icmp .lt 13, 3) := by decide +kernel
theorem dX3_isLetter_6 : decode cX3_isLetter 6 = .ok (.iload_n 0, 1) := by decide +kernel
theorem dX3_isLetter_7 : decode cX3_isLetter 7 = .ok (.bipush 122, 2) := by decide +kernel
theorem dX3_isLetter_9 : decode cX3_isLetter 9 = .ok (.if_icmp .gt 7, 3) := by decide +kernel
theorem dX3_isLetter_12 : decode cX3_isLetter 12 = .ok (.iconst 1, 1) := by decide +kernel
theorem dX3_isLetter_13 : decode cX3_isLetter 13 = .ok (.goto 4, 3) := by decide +kernel
theorem dX3_isLetter_16 : decode cX3_isLetter 16 = .ok (.iconst 0, 1) := by decide +kernel
theorem dX3_isLetter_17 : decode cX3_isLetter 17 = .ok (.ireturn, 1) := by decide +kernel
theorem ydX3_isLetter : z_yd yX3_isLetter 1 := ⟨by decide, by decide, by decide +kernel⟩
abbrev rmX3_isLetter : Room := { frames := 0, cells := 0, slots := 0, locals := 0 }
noncomputable def xX3_isLetter (l0 : Int32) (h : ZH) : Option (Int32 × ZH) := (if l0 < (97 : Int32) then some ((0 : Int32), h) else (if (122 : Int32) < l0 then some ((0 : Int32), h) else some ((1 : Int32), h)))
set_option maxHeartbeats 4000000 in
set_option maxRecDepth 100000 in
theorem lX3_isLetter {Γ : ZG} {l : Launch} (hO : z_OK Γ) {l0 : Int32} {h : ZH} {r : (Int32 × ZH)} (hX : xX3_isLetter l0 h = some r) : z_M Γ l yX3_isLetter (z_ws1 yX3_isLetter cX3_isLetter 1 (some .boolean)) rmX3_isLetter [.int l0] h (some (.int r.1)) r.2 := by
  refine z_start hO (plainFor_of_name (by decide)) (Nat.le_of_ble_eq_true rfl) ?_
  intro p e s m args below meth c G hr hnm
  refine z_lvc (lv2 := [(0, .int l0)]) rfl ?_
  refine z_iload_n (pc := 0) G 0 dX3_isLetter_0 rfl rfl ?_
  refine z_bipush (pc := 1) (v := 97) G dX3_isLetter_1 (by decide) ?_
  refine z_icmp_lt (pc := 3) (tgt := 16) G dX3_isLetter_3 (by decide) (fun hc3 => ?_) (fun hc3 => ?_)
  · have hX := z_it hc3 hX
    refine z_iconst (pc := 16) (v := 0) G dX3_isLetter_16 (by decide) ?_
    exact z_zretX (pc := 17) hX G hr rfl dX3_isLetter_17 (by decide) (by decide)
  · have hX := z_if hc3 hX
    refine z_iload_n (pc := 6) G 0 dX3_isLetter_6 rfl rfl ?_
    refine z_bipush (pc := 7) (v := 122) G dX3_isLetter_7 (by decide) ?_
    refine z_icmp_gt (pc := 9) (tgt := 16) G dX3_isLetter_9 (by decide) (fun hc9 => ?_) (fun hc9 => ?_)
    · have hX := z_it hc9 hX
      refine z_iconst (pc := 16) (v := 0) G dX3_isLetter_16 (by decide) ?_
      exact z_zretX (pc := 17) hX G hr rfl dX3_isLetter_17 (by decide) (by decide)
    · have hX := z_if hc9 hX
      refine z_iconst (pc := 12) (v := 1) G dX3_isLetter_12 (by decide) ?_
      refine z_goto (pc := 13) (tgt := 17) G dX3_isLetter_13 (by decide) ?_
      exact z_zretX (pc := 17) hX G hr rfl dX3_isLetter_17 (by decide) (by decide)
theorem dX3_scanNumeral_0 : decode cX3_scanNumeral 0 = .ok (.aload_n 0, 1) := by decide +kernel
theorem dX3_scanNumeral_1 : decode cX3_scanNumeral 1 = .ok (.getfield 45, 3) := by decide +kernel
theorem dX3_scanNumeral_4 : decode cX3_scanNumeral 4 = .ok (.aload_n 0, 1) := by decide +kernel
theorem dX3_scanNumeral_5 : decode cX3_scanNumeral 5 = .ok (.getfield 42, 3) := by decide +kernel
theorem dX3_scanNumeral_8 : decode cX3_scanNumeral 8 = .ok (.if_icmp .ge 31, 3) := by decide +kernel
theorem dX3_scanNumeral_11 : decode cX3_scanNumeral 11 = .ok (.aload_n 0, 1) := by decide +kernel
theorem dX3_scanNumeral_12 : decode cX3_scanNumeral 12 = .ok (.getfield 29, 3) := by decide +kernel
theorem dX3_scanNumeral_15 : decode cX3_scanNumeral 15 = .ok (.aload_n 0, 1) := by decide +kernel
theorem dX3_scanNumeral_16 : decode cX3_scanNumeral 16 = .ok (.getfield 45, 3) := by decide +kernel
theorem dX3_scanNumeral_19 : decode cX3_scanNumeral 19 = .ok (.baload, 1) := by decide +kernel
theorem dX3_scanNumeral_20 : decode cX3_scanNumeral 20 = .ok (.invokestatic 184, 3) := by decide +kernel
theorem dX3_scanNumeral_23 : decode cX3_scanNumeral 23 = .ok (.ifCond .eq 16, 3) := by decide +kernel
theorem dX3_scanNumeral_26 : decode cX3_scanNumeral 26 = .ok (.aload_n 0, 1) := by decide +kernel
theorem dX3_scanNumeral_27 : decode cX3_scanNumeral 27 = .ok (.dup, 1) := by decide +kernel
theorem dX3_scanNumeral_28 : decode cX3_scanNumeral 28 = .ok (.getfield 45, 3) := by decide +kernel
theorem dX3_scanNumeral_31 : decode cX3_scanNumeral 31 = .ok (.iconst 1, 1) := by decide +kernel
theorem dX3_scanNumeral_32 : decode cX3_scanNumeral 32 = .ok (.iadd, 1) := by decide +kernel
theorem dX3_scanNumeral_33 : decode cX3_scanNumeral 33 = .ok (.putfield 45, 3) := by decide +kernel
theorem dX3_scanNumeral_36 : decode cX3_scanNumeral 36 = .ok (.goto (-36), 3) := by decide +kernel
theorem dX3_scanNumeral_39 : decode cX3_scanNumeral 39 = .ok (.aload_n 0, 1) := by decide +kernel
theorem dX3_scanNumeral_40 : decode cX3_scanNumeral 40 = .ok (.getfield 45, 3) := by decide +kernel
theorem dX3_scanNumeral_43 : decode cX3_scanNumeral 43 = .ok (.aload_n 0, 1) := by decide +kernel
theorem dX3_scanNumeral_44 : decode cX3_scanNumeral 44 = .ok (.getfield 42, 3) := by decide +kernel
theorem dX3_scanNumeral_47 : decode cX3_scanNumeral 47 = .ok (.if_icmp .ge 22, 3) := by decide +kernel
theorem dX3_scanNumeral_50 : decode cX3_scanNumeral 50 = .ok (.aload_n 0, 1) := by decide +kernel
theorem dX3_scanNumeral_51 : decode cX3_scanNumeral 51 = .ok (.getfield 29, 3) := by decide +kernel
theorem dX3_scanNumeral_54 : decode cX3_scanNumeral 54 = .ok (.aload_n 0, 1) := by decide +kernel
theorem dX3_scanNumeral_55 : decode cX3_scanNumeral 55 = .ok (.getfield 45, 3) := by decide +kernel
theorem dX3_scanNumeral_58 : decode cX3_scanNumeral 58 = .ok (.baload, 1) := by decide +kernel
theorem dX3_scanNumeral_59 : decode cX3_scanNumeral 59 = .ok (.invokestatic 178, 3) := by decide +kernel
theorem dX3_scanNumeral_62 : decode cX3_scanNumeral 62 = .ok (.ifCond .eq 7, 3) := by decide +kernel
theorem dX3_scanNumeral_65 : decode cX3_scanNumeral 65 = .ok (.iconst 1, 1) := by decide +kernel
theorem dX3_scanNumeral_66 : decode cX3_scanNumeral 66 = .ok (.goto 4, 3) := by decide +kernel
theorem dX3_scanNumeral_69 : decode cX3_scanNumeral 69 = .ok (.iconst 0, 1) := by decide +kernel
theorem dX3_scanNumeral_70 : decode cX3_scanNumeral 70 = .ok (.istore_n 1, 1) := by decide +kernel
theorem dX3_scanNumeral_71 : decode cX3_scanNumeral 71 = .ok (.aload_n 0, 1) := by decide +kernel
theorem dX3_scanNumeral_72 : decode cX3_scanNumeral 72 = .ok (.iload_n 1, 1) := by decide +kernel
theorem dX3_scanNumeral_73 : decode cX3_scanNumeral 73 = .ok (.ifCond .ne 16, 3) := by decide +kernel
theorem dX3_scanNumeral_76 : decode cX3_scanNumeral 76 = .ok (.aload_n 0, 1) := by decide +kernel
theorem dX3_scanNumeral_77 : decode cX3_scanNumeral 77 = .ok (.getfield 45, 3) := by decide +kernel
theorem dX3_scanNumeral_80 : decode cX3_scanNumeral 80 = .ok (.aload_n 0, 1) := by decide +kernel
theorem dX3_scanNumeral_81 : decode cX3_scanNumeral 81 = .ok (.getfield 130, 3) := by decide +kernel
theorem dX3_scanNumeral_84 : decode cX3_scanNumeral 84 = .ok (.isub, 1) := by decide +kernel
theorem dX3_scanNumeral_85 : decode cX3_scanNumeral 85 = .ok (.iconst 4, 1) := by decide +kernel
theorem dX3_scanNumeral_86 : decode cX3_scanNumeral 86 = .ok (.if_icmp .le 7, 3) := by decide +kernel
theorem dX3_scanNumeral_89 : decode cX3_scanNumeral 89 = .ok (.iconst 4, 1) := by decide +kernel
theorem dX3_scanNumeral_90 : decode cX3_scanNumeral 90 = .ok (.goto 4, 3) := by decide +kernel
theorem dX3_scanNumeral_93 : decode cX3_scanNumeral 93 = .ok (.iconst 2, 1) := by decide +kernel
theorem dX3_scanNumeral_94 : decode cX3_scanNumeral 94 = .ok (.putfield 60, 3) := by decide +kernel
theorem dX3_scanNumeral_97 : decode cX3_scanNumeral 97 = .ok (.aload_n 0, 1) := by decide +kernel
theorem dX3_scanNumeral_98 : decode cX3_scanNumeral 98 = .ok (.getfield 60, 3) := by decide +kernel
theorem dX3_scanNumeral_101 : decode cX3_scanNumeral 101 = .ok (.iconst 4, 1) := by decide +kernel
theorem dX3_scanNumeral_102 : decode cX3_scanNumeral 102 = .ok (.if_icmp .ne 4, 3) := by decide +kernel
theorem dX3_scanNumeral_105 : decode cX3_scanNumeral 105 = .ok (.return_, 1) := by decide +kernel
theorem dX3_scanNumeral_106 : decode cX3_scanNumeral 106 = .ok (.aload_n 0, 1) := by decide +kernel
theorem dX3_scanNumeral_107 : decode cX3_scanNumeral 107 = .ok (.getfield 130, 3) := by decide +kernel
theorem dX3_scanNumeral_110 : decode cX3_scanNumeral 110 = .ok (.istore_n 2, 1) := by decide +kernel
theorem dX3_scanNumeral_111 : decode cX3_scanNumeral 111 = .ok (.iload_n 2, 1) := by decide +kernel
theorem dX3_scanNumeral_112 : decode cX3_scanNumeral 112 = .ok (.aload_n 0, 1) := by decide +kernel
theorem dX3_scanNumeral_113 : decode cX3_scanNumeral 113 = .ok (.getfield 45, 3) := by decide +kernel
theorem dX3_scanNumeral_116 : decode cX3_scanNumeral 116 = .ok (.if_icmp .ge 30, 3) := by decide +kernel
theorem dX3_scanNumeral_119 : decode cX3_scanNumeral 119 = .ok (.aload_n 0, 1) := by decide +kernel
theorem dX3_scanNumeral_120 : decode cX3_scanNumeral 120 = .ok (.aload_n 0, 1) := by decide +kernel
theorem dX3_scanNumeral_121 : decode cX3_scanNumeral 121 = .ok (.getfield 67, 3) := by decide +kernel
theorem dX3_scanNumeral_124 : decode cX3_scanNumeral 124 = .ok (.bipush 10, 2) := by decide +kernel
theorem dX3_scanNumeral_126 : decode cX3_scanNumeral 126 = .ok (.imul, 1) := by decide +kernel
theorem dX3_scanNumeral_127 : decode cX3_scanNumeral 127 = .ok (.aload_n 0, 1) := by decide +kernel
theorem dX3_scanNumeral_128 : decode cX3_scanNumeral 128 = .ok (.getfield 29, 3) := by decide +kernel
theorem dX3_scanNumeral_131 : decode cX3_scanNumeral 131 = .ok (.iload_n 2, 1) := by decide +kernel
theorem dX3_scanNumeral_132 : decode cX3_scanNumeral 132 = .ok (.baload, 1) := by decide +kernel
theorem dX3_scanNumeral_133 : decode cX3_scanNumeral 133 = .ok (.bipush 48, 2) := by decide +kernel
theorem dX3_scanNumeral_135 : decode cX3_scanNumeral 135 = .ok (.isub, 1) := by decide +kernel
theorem dX3_scanNumeral_136 : decode cX3_scanNumeral 136 = .ok (.iadd, 1) := by decide +kernel
theorem dX3_scanNumeral_137 : decode cX3_scanNumeral 137 = .ok (.putfield 67, 3) := by decide +kernel
theorem dX3_scanNumeral_140 : decode cX3_scanNumeral 140 = .ok (.iinc 2 1, 3) := by decide +kernel
theorem dX3_scanNumeral_143 : decode cX3_scanNumeral 143 = .ok (.goto (-32), 3) := by decide +kernel
theorem dX3_scanNumeral_146 : decode cX3_scanNumeral 146 = .ok (.return_, 1) := by decide +kernel
theorem ydX3_scanNumeral : z_yd yX3_scanNumeral 0 := ⟨by decide, by decide, by decide +kernel⟩
abbrev rmX3_scanNumeral : Room := { frames := 1, cells := 0, slots := 0, locals := 20 }
noncomputable def xX3_scanNumeral_B111 (r111 : Nat → Int32 → ZH → Option ZH) (l0 : Nat) (l2 : Int32) (h : ZH) : Option ZH := ((z_gI h l0 3 6).bind fun x113 => (if x113 ≤ l2 then some h else ((z_gI h l0 3 8).bind fun x121 => ((z_gR h l0 3 3).bind fun x128 => ((z_aB h x128 l2).bind fun x132 => ((z_sF h l0 3 8 (.int ((x121 * (10 : Int32)) + (x132 - (48 : Int32))))).bind fun h137 => r111 l0 (l2 + 1) h137))))))
noncomputable def xX3_scanNumeral_L111 (n : Nat) : Nat → Int32 → ZH → Option ZH := Nat.rec (motive := fun _ => Nat → Int32 → ZH → Option ZH) (fun _ _ _ => none) (fun _ rec => xX3_scanNumeral_B111  rec) n
set_option maxHeartbeats 4000000 in
set_option maxRecDepth 100000 in
theorem wX3_scanNumeral_B111 {Γ : ZG} {p : Program} {l : Launch} {e : Env} {s : State} {m : MethodId} {args : Array Value} {below : List Frame} {meth : Method} {c : Code} (hO : z_OK Γ) (G : z_GG Γ p s m args meth c cX3_scanNumeral 3 RX3) (hr : meth.sig.returnType = none) (hnm : meth.name = "scanNumeral") {r : ZH} {r111 : Nat → Int32 → ZH → Option ZH} (H111 : ∀ (l0 : Nat) (l2 : Int32) (h : ZH), r111 l0 l2 h = some r → z_W Γ p l e rmX3_scanNumeral s m args below meth c 3 0 0 (MQ below (z_Qc Γ none r) args s rmX3_scanNumeral.cells rmX3_scanNumeral.slots (z_A Γ)) 111 [(0, .ref l0), (2, .int l2)] [] h) : ∀ (l0 : Nat) (l2 : Int32) (h : ZH), xX3_scanNumeral_B111  r111 l0 l2 h = some r → z_W Γ p l e rmX3_scanNumeral s m args below meth c 3 0 0 (MQ below (z_Qc Γ none r) args s rmX3_scanNumeral.cells rmX3_scanNumeral.slots (z_A Γ)) 111 [(0, .ref l0), (2, .int l2)] [] h := by
  intro l0 l2 h hX
  refine z_iload_n (pc := 111) G 1 dX3_scanNumeral_111 rfl rfl ?_
  refine z_aload_n (pc := 112) G 0 dX3_scanNumeral_112 rfl rfl ?_
  obtain ⟨x113, hv113, hX⟩ := z_bd hX
  refine z_getI (pc := 113) G kK3 (k := 6) (by decide) kt_146 dX3_scanNumeral_113 hv113 ?_
  refine z_icmp_ge (pc := 116) (tgt := 146) G dX3_scanNumeral_116 (by decide) (fun hc116 => ?_) (fun hc116 => ?_)
  · have hX := z_it hc116 hX
    exact z_vretX (pc := 146) hX G hr dX3_scanNumeral_146 (by decide) (by decide)
  · have hX := z_if hc116 hX
    refine z_aload_n (pc := 119) G 0 dX3_scanNumeral_119 rfl rfl ?_
    refine z_aload_n (pc := 120) G 0 dX3_scanNumeral_120 rfl rfl ?_
    obtain ⟨x121, hv121, hX⟩ := z_bd hX
    refine z_getI (pc := 121) G kK3 (k := 8) (by decide) kt_148 dX3_scanNumeral_121 hv121 ?_
    refine z_bipush (pc := 124) (v := 10) G dX3_scanNumeral_124 (by decide) ?_
    refine z_imul (pc := 126) G dX3_scanNumeral_126 ?_
    refine z_aload_n (pc := 127) G 0 dX3_scanNumeral_127 rfl rfl ?_
    obtain ⟨x128, hv128, hX⟩ := z_bd hX
    refine z_getR (pc := 128) G kK3 (k := 3) (by decide) kt_143 dX3_scanNumeral_128 hv128 ?_
    refine z_iload_n (pc := 131) G 1 dX3_scanNumeral_131 rfl rfl ?_
    obtain ⟨x132, hv132, hX⟩ := z_bd hX
    refine z_bald (pc := 132) G dX3_scanNumeral_132 hv132 ?_
    refine z_bipush (pc := 133) (v := 48) G dX3_scanNumeral_133 (by decide) ?_
    refine z_isub (pc := 135) G dX3_scanNumeral_135 ?_
    refine z_iadd (pc := 136) G dX3_scanNumeral_136 ?_
    obtain ⟨h137, hv137, hX⟩ := z_bd hX
    refine z_putF (pc := 137) G kK3 (k := 8) (by decide) kt_148 (Or.inl rfl) rfl rfl dX3_scanNumeral_137 hv137 ?_
    refine z_iincw (pc := 140) (w := 1) (lv2 := [(0, .ref l0), (2, .int (l2 + 1))]) G 1 dX3_scanNumeral_140 rfl (by decide) (by decide) rfl rfl ?_
    refine z_goto (pc := 143) (tgt := 111) G dX3_scanNumeral_143 (by decide) ?_
    exact H111 _ _ _ hX
set_option maxHeartbeats 4000000 in
set_option maxRecDepth 100000 in
theorem wX3_scanNumeral_L111 {Γ : ZG} {p : Program} {l : Launch} {e : Env} {s : State} {m : MethodId} {args : Array Value} {below : List Frame} {meth : Method} {c : Code} (hO : z_OK Γ) (G : z_GG Γ p s m args meth c cX3_scanNumeral 3 RX3) (hr : meth.sig.returnType = none) (hnm : meth.name = "scanNumeral") {r : ZH} : ∀ (nn : Nat) (l0 : Nat) (l2 : Int32) (h : ZH), xX3_scanNumeral_L111  nn l0 l2 h = some r → z_W Γ p l e rmX3_scanNumeral s m args below meth c 3 0 0 (MQ below (z_Qc Γ none r) args s rmX3_scanNumeral.cells rmX3_scanNumeral.slots (z_A Γ)) 111 [(0, .ref l0), (2, .int l2)] [] h := by
  intro nn
  induction nn with
  | zero => intro l0 l2 h hX; cases hX
  | succ nn ih => intro l0 l2 h hX; exact wX3_scanNumeral_B111 hO G hr hnm  ih l0 l2 h hX
noncomputable def xX3_scanNumeral_B94 (l0 : Nat) (s0 : Int32) (s1 : Nat) (h : ZH) : Option ZH := ((z_sF h s1 3 7 (.int s0)).bind fun h94 => ((z_gI h94 l0 3 7).bind fun x98 => (if x98 = (4 : Int32) then some h94 else ((z_gI h94 l0 3 5).bind fun x107 => xX3_scanNumeral_L111 zFU l0 x107 h94))))
set_option maxHeartbeats 4000000 in
set_option maxRecDepth 100000 in
theorem wX3_scanNumeral_B94 {Γ : ZG} {p : Program} {l : Launch} {e : Env} {s : State} {m : MethodId} {args : Array Value} {below : List Frame} {meth : Method} {c : Code} (hO : z_OK Γ) (G : z_GG Γ p s m args meth c cX3_scanNumeral 3 RX3) (hr : meth.sig.returnType = none) (hnm : meth.name = "scanNumeral") {r : ZH} : ∀ (l0 : Nat) (s0 : Int32) (s1 : Nat) (h : ZH), xX3_scanNumeral_B94  l0 s0 s1 h = some r → z_W Γ p l e rmX3_scanNumeral s m args below meth c 3 0 0 (MQ below (z_Qc Γ none r) args s rmX3_scanNumeral.cells rmX3_scanNumeral.slots (z_A Γ)) 94 [(0, .ref l0)] [.int s0, .ref s1] h := by
  intro l0 s0 s1 h hX
  obtain ⟨h94, hv94, hX⟩ := z_bd hX
  refine z_putF (pc := 94) G kK3 (k := 7) (by decide) kt_147 (Or.inl rfl) rfl rfl dX3_scanNumeral_94 hv94 ?_
  refine z_aload_n (pc := 97) G 0 dX3_scanNumeral_97 rfl rfl ?_
  obtain ⟨x98, hv98, hX⟩ := z_bd hX
  refine z_getI (pc := 98) G kK3 (k := 7) (by decide) kt_147 dX3_scanNumeral_98 hv98 ?_
  refine z_iconst (pc := 101) (v := 4) G dX3_scanNumeral_101 (by decide) ?_
  refine z_icmp_ne (pc := 102) (tgt := 106) G dX3_scanNumeral_102 (by decide) (fun hc102 => ?_) (fun hc102 => ?_)
  · have hX := z_if hc102 hX
    refine z_aload_n (pc := 106) G 0 dX3_scanNumeral_106 rfl rfl ?_
    obtain ⟨x107, hv107, hX⟩ := z_bd hX
    refine z_getI (pc := 107) G kK3 (k := 5) (by decide) kt_145 dX3_scanNumeral_107 hv107 ?_
    refine z_istore_n (pc := 110) (lv2 := [(0, .ref l0), (2, .int x107)]) G dX3_scanNumeral_110 rfl (by decide) rfl rfl ?_
    exact wX3_scanNumeral_L111 hO G hr hnm zFU _ _ _ hX
  · have hX := z_it hc102 hX
    exact z_vretX (pc := 105) hX G hr dX3_scanNumeral_105 (by decide) (by decide)
noncomputable def xX3_scanNumeral_B89 (l0 : Nat) (s0 : Nat) (h : ZH) : Option ZH := xX3_scanNumeral_B94 l0 (4 : Int32) s0 h
set_option maxHeartbeats 4000000 in
set_option maxRecDepth 100000 in
theorem wX3_scanNumeral_B89 {Γ : ZG} {p : Program} {l : Launch} {e : Env} {s : State} {m : MethodId} {args : Array Value} {below : List Frame} {meth : Method} {c : Code} (hO : z_OK Γ) (G : z_GG Γ p s m args meth c cX3_scanNumeral 3 RX3) (hr : meth.sig.returnType = none) (hnm : meth.name = "scanNumeral") {r : ZH} : ∀ (l0 : Nat) (s0 : Nat) (h : ZH), xX3_scanNumeral_B89  l0 s0 h = some r → z_W Γ p l e rmX3_scanNumeral s m args below meth c 3 0 0 (MQ below (z_Qc Γ none r) args s rmX3_scanNumeral.cells rmX3_scanNumeral.slots (z_A Γ)) 89 [(0, .ref l0)] [.ref s0] h := by
  intro l0 s0 h hX
  refine z_iconst (pc := 89) (v := 4) G dX3_scanNumeral_89 (by decide) ?_
  refine z_goto (pc := 90) (tgt := 94) G dX3_scanNumeral_90 (by decide) ?_
  exact wX3_scanNumeral_B94 hO G hr hnm _ _ _ _ hX
noncomputable def xX3_scanNumeral_B70 (l0 : Nat) (s0 : Int32) (h : ZH) : Option ZH := (if s0 = 0 then ((z_gI h l0 3 6).bind fun x77 => ((z_gI h l0 3 5).bind fun x81 => (if (x77 - x81) ≤ (4 : Int32) then xX3_scanNumeral_B94 l0 (2 : Int32) l0 h else xX3_scanNumeral_B89 l0 l0 h))) else xX3_scanNumeral_B89 l0 l0 h)
set_option maxHeartbeats 4000000 in
set_option maxRecDepth 100000 in
theorem wX3_scanNumeral_B70 {Γ : ZG} {p : Program} {l : Launch} {e : Env} {s : State} {m : MethodId} {args : Array Value} {below : List Frame} {meth : Method} {c : Code} (hO : z_OK Γ) (G : z_GG Γ p s m args meth c cX3_scanNumeral 3 RX3) (hr : meth.sig.returnType = none) (hnm : meth.name = "scanNumeral") {r : ZH} : ∀ (l0 : Nat) (s0 : Int32) (h : ZH), xX3_scanNumeral_B70  l0 s0 h = some r → z_W Γ p l e rmX3_scanNumeral s m args below meth c 3 0 0 (MQ below (z_Qc Γ none r) args s rmX3_scanNumeral.cells rmX3_scanNumeral.slots (z_A Γ)) 70 [(0, .ref l0)] [.int s0] h := by
  intro l0 s0 h hX
  refine z_istore_n (pc := 70) (lv2 := [(0, .ref l0), (1, .int s0)]) G dX3_scanNumeral_70 rfl (by decide) rfl rfl ?_
  refine z_aload_n (pc := 71) G 0 dX3_scanNumeral_71 rfl rfl ?_
  refine z_iload_n (pc := 72) G 1 dX3_scanNumeral_72 rfl rfl ?_
  refine z_if_ne (pc := 73) (tgt := 89) G dX3_scanNumeral_73 (by decide) (fun hc73 => ?_) (fun hc73 => ?_)
  · have hX := z_if hc73 hX
    refine z_drop (lv2 := [(0, .ref l0)]) [0] rfl ?_
    exact wX3_scanNumeral_B89 hO G hr hnm _ _ _ hX
  · have hX := z_it hc73 hX
    refine z_aload_n (pc := 76) G 0 dX3_scanNumeral_76 rfl rfl ?_
    obtain ⟨x77, hv77, hX⟩ := z_bd hX
    refine z_getI (pc := 77) G kK3 (k := 6) (by decide) kt_146 dX3_scanNumeral_77 hv77 ?_
    refine z_aload_n (pc := 80) G 0 dX3_scanNumeral_80 rfl rfl ?_
    obtain ⟨x81, hv81, hX⟩ := z_bd hX
    refine z_getI (pc := 81) G kK3 (k := 5) (by decide) kt_145 dX3_scanNumeral_81 hv81 ?_
    refine z_isub (pc := 84) G dX3_scanNumeral_84 ?_
    refine z_iconst (pc := 85) (v := 4) G dX3_scanNumeral_85 (by decide) ?_
    refine z_icmp_le (pc := 86) (tgt := 93) G dX3_scanNumeral_86 (by decide) (fun hc86 => ?_) (fun hc86 => ?_)
    · have hX := z_it hc86 hX
      refine z_iconst (pc := 93) (v := 2) G dX3_scanNumeral_93 (by decide) ?_
      refine z_drop (lv2 := [(0, .ref l0)]) [0] rfl ?_
      exact wX3_scanNumeral_B94 hO G hr hnm _ _ _ _ hX
    · have hX := z_if hc86 hX
      refine z_drop (lv2 := [(0, .ref l0)]) [0] rfl ?_
      exact wX3_scanNumeral_B89 hO G hr hnm _ _ _ hX
noncomputable def xX3_scanNumeral_B69 (l0 : Nat) (h : ZH) : Option ZH := xX3_scanNumeral_B70 l0 (0 : Int32) h
set_option maxHeartbeats 4000000 in
set_option maxRecDepth 100000 in
theorem wX3_scanNumeral_B69 {Γ : ZG} {p : Program} {l : Launch} {e : Env} {s : State} {m : MethodId} {args : Array Value} {below : List Frame} {meth : Method} {c : Code} (hO : z_OK Γ) (G : z_GG Γ p s m args meth c cX3_scanNumeral 3 RX3) (hr : meth.sig.returnType = none) (hnm : meth.name = "scanNumeral") {r : ZH} : ∀ (l0 : Nat) (h : ZH), xX3_scanNumeral_B69  l0 h = some r → z_W Γ p l e rmX3_scanNumeral s m args below meth c 3 0 0 (MQ below (z_Qc Γ none r) args s rmX3_scanNumeral.cells rmX3_scanNumeral.slots (z_A Γ)) 69 [(0, .ref l0)] [] h := by
  intro l0 h hX
  refine z_iconst (pc := 69) (v := 0) G dX3_scanNumeral_69 (by decide) ?_
  exact wX3_scanNumeral_B70 hO G hr hnm _ _ _ hX
noncomputable def xX3_scanNumeral_B39 (l0 : Nat) (h : ZH) : Option ZH := ((z_gI h l0 3 6).bind fun x40 => ((z_gI h l0 3 4).bind fun x44 => (if x44 ≤ x40 then xX3_scanNumeral_B69 l0 h else ((z_gR h l0 3 3).bind fun x51 => ((z_gI h l0 3 6).bind fun x55 => ((z_aB h x51 x55).bind fun x58 => ((xX3_isLetter x58 h).bind fun r59 => (if r59.1 = 0 then xX3_scanNumeral_B69 l0 r59.2 else xX3_scanNumeral_B70 l0 (1 : Int32) r59.2))))))))
set_option maxHeartbeats 4000000 in
set_option maxRecDepth 100000 in
theorem wX3_scanNumeral_B39 {Γ : ZG} {p : Program} {l : Launch} {e : Env} {s : State} {m : MethodId} {args : Array Value} {below : List Frame} {meth : Method} {c : Code} (hO : z_OK Γ) (G : z_GG Γ p s m args meth c cX3_scanNumeral 3 RX3) (hr : meth.sig.returnType = none) (hnm : meth.name = "scanNumeral") {r : ZH} : ∀ (l0 : Nat) (h : ZH), xX3_scanNumeral_B39  l0 h = some r → z_W Γ p l e rmX3_scanNumeral s m args below meth c 3 0 0 (MQ below (z_Qc Γ none r) args s rmX3_scanNumeral.cells rmX3_scanNumeral.slots (z_A Γ)) 39 [(0, .ref l0)] [] h := by
  intro l0 h hX
  refine z_aload_n (pc := 39) G 0 dX3_scanNumeral_39 rfl rfl ?_
  obtain ⟨x40, hv40, hX⟩ := z_bd hX
  refine z_getI (pc := 40) G kK3 (k := 6) (by decide) kt_146 dX3_scanNumeral_40 hv40 ?_
  refine z_aload_n (pc := 43) G 0 dX3_scanNumeral_43 rfl rfl ?_
  obtain ⟨x44, hv44, hX⟩ := z_bd hX
  refine z_getI (pc := 44) G kK3 (k := 4) (by decide) kt_144 dX3_scanNumeral_44 hv44 ?_
  refine z_icmp_ge (pc := 47) (tgt := 69) G dX3_scanNumeral_47 (by decide) (fun hc47 => ?_) (fun hc47 => ?_)
  · have hX := z_it hc47 hX
    exact wX3_scanNumeral_B69 hO G hr hnm _ _ hX
  · have hX := z_if hc47 hX
    refine z_aload_n (pc := 50) G 0 dX3_scanNumeral_50 rfl rfl ?_
    obtain ⟨x51, hv51, hX⟩ := z_bd hX
    refine z_getR (pc := 51) G kK3 (k := 3) (by decide) kt_143 dX3_scanNumeral_51 hv51 ?_
    refine z_aload_n (pc := 54) G 0 dX3_scanNumeral_54 rfl rfl ?_
    obtain ⟨x55, hv55, hX⟩ := z_bd hX
    refine z_getI (pc := 55) G kK3 (k := 6) (by decide) kt_146 dX3_scanNumeral_55 hv55 ?_
    obtain ⟨x58, hv58, hX⟩ := z_bd hX
    refine z_bald (pc := 58) G dX3_scanNumeral_58 hv58 ?_
    obtain ⟨r59, hv59, hX⟩ := z_bd hX
    refine z_cSI (pc := 59) (As := [.int x58]) (c2 := 0) (s2 := 0) G (lX3_isLetter hO hv59) kt_518 kt_2 kt_516 kt_517 ydX3_isLetter ⟨by decide, by decide⟩ rfl (Nat.le_of_ble_eq_true rfl) ⟨rfl, rfl⟩ ⟨by decide, by decide⟩ rfl dX3_scanNumeral_59 ?_
    refine z_if_eq (pc := 62) (tgt := 69) G dX3_scanNumeral_62 (by decide) (fun hc62 => ?_) (fun hc62 => ?_)
    · have hX := z_it hc62 hX
      exact wX3_scanNumeral_B69 hO G hr hnm _ _ hX
    · have hX := z_if hc62 hX
      refine z_iconst (pc := 65) (v := 1) G dX3_scanNumeral_65 (by decide) ?_
      refine z_goto (pc := 66) (tgt := 70) G dX3_scanNumeral_66 (by decide) ?_
      exact wX3_scanNumeral_B70 hO G hr hnm _ _ _ hX
noncomputable def xX3_scanNumeral_B0 (r0 : Nat → ZH → Option ZH) (l0 : Nat) (h : ZH) : Option ZH := ((z_gI h l0 3 6).bind fun x1 => ((z_gI h l0 3 4).bind fun x5 => (if x5 ≤ x1 then xX3_scanNumeral_B39 l0 h else ((z_gR h l0 3 3).bind fun x12 => ((z_gI h l0 3 6).bind fun x16 => ((z_aB h x12 x16).bind fun x19 => ((xX3_isDigit x19 h).bind fun r20 => (if r20.1 = 0 then xX3_scanNumeral_B39 l0 r20.2 else ((z_gI r20.2 l0 3 6).bind fun x28 => ((z_sF r20.2 l0 3 6 (.int (x28 + (1 : Int32)))).bind fun h33 => r0 l0 h33))))))))))
noncomputable def xX3_scanNumeral_L0 (n : Nat) : Nat → ZH → Option ZH := Nat.rec (motive := fun _ => Nat → ZH → Option ZH) (fun _ _ => none) (fun _ rec => xX3_scanNumeral_B0  rec) n
set_option maxHeartbeats 4000000 in
set_option maxRecDepth 100000 in
theorem wX3_scanNumeral_B0 {Γ : ZG} {p : Program} {l : Launch} {e : Env} {s : State} {m : MethodId} {args : Array Value} {below : List Frame} {meth : Method} {c : Code} (hO : z_OK Γ) (G : z_GG Γ p s m args meth c cX3_scanNumeral 3 RX3) (hr : meth.sig.returnType = none) (hnm : meth.name = "scanNumeral") {r : ZH} {r0 : Nat → ZH → Option ZH} (H0 : ∀ (l0 : Nat) (h : ZH), r0 l0 h = some r → z_W Γ p l e rmX3_scanNumeral s m args below meth c 3 0 0 (MQ below (z_Qc Γ none r) args s rmX3_scanNumeral.cells rmX3_scanNumeral.slots (z_A Γ)) 0 [(0, .ref l0)] [] h) : ∀ (l0 : Nat) (h : ZH), xX3_scanNumeral_B0  r0 l0 h = some r → z_W Γ p l e rmX3_scanNumeral s m args below meth c 3 0 0 (MQ below (z_Qc Γ none r) args s rmX3_scanNumeral.cells rmX3_scanNumeral.slots (z_A Γ)) 0 [(0, .ref l0)] [] h := by
  intro l0 h hX
  refine z_aload_n (pc := 0) G 0 dX3_scanNumeral_0 rfl rfl ?_
  obtain ⟨x1, hv1, hX⟩ := z_bd hX
  refine z_getI (pc := 1) G kK3 (k := 6) (by decide) kt_146 dX3_scanNumeral_1 hv1 ?_
  refine z_aload_n (pc := 4) G 0 dX3_scanNumeral_4 rfl rfl ?_
  obtain ⟨x5, hv5, hX⟩ := z_bd hX
  refine z_getI (pc := 5) G kK3 (k := 4) (by decide) kt_144 dX3_scanNumeral_5 hv5 ?_
  refine z_icmp_ge (pc := 8) (tgt := 39) G dX3_scanNumeral_8 (by decide) (fun hc8 => ?_) (fun hc8 => ?_)
  · have hX := z_it hc8 hX
    exact wX3_scanNumeral_B39 hO G hr hnm _ _ hX
  · have hX := z_if hc8 hX
    refine z_aload_n (pc := 11) G 0 dX3_scanNumeral_11 rfl rfl ?_
    obtain ⟨x12, hv12, hX⟩ := z_bd hX
    refine z_getR (pc := 12) G kK3 (k := 3) (by decide) kt_143 dX3_scanNumeral_12 hv12 ?_
    refine z_aload_n (pc := 15) G 0 dX3_scanNumeral_15 rfl rfl ?_
    obtain ⟨x16, hv16, hX⟩ := z_bd hX
    refine z_getI (pc := 16) G kK3 (k := 6) (by decide) kt_146 dX3_scanNumeral_16 hv16 ?_
    obtain ⟨x19, hv19, hX⟩ := z_bd hX
    refine z_bald (pc := 19) G dX3_scanNumeral_19 hv19 ?_
    obtain ⟨r20, hv20, hX⟩ := z_bd hX
    refine z_cSI (pc := 20) (As := [.int x19]) (c2 := 0) (s2 := 0) G (lX3_isDigit hO hv20) kt_574 kt_2 kt_572 kt_573 ydX3_isDigit ⟨by decide, by decide⟩ rfl (Nat.le_of_ble_eq_true rfl) ⟨rfl, rfl⟩ ⟨by decide, by decide⟩ rfl dX3_scanNumeral_20 ?_
    refine z_if_eq (pc := 23) (tgt := 39) G dX3_scanNumeral_23 (by decide) (fun hc23 => ?_) (fun hc23 => ?_)
    · have hX := z_it hc23 hX
      exact wX3_scanNumeral_B39 hO G hr hnm _ _ hX
    · have hX := z_if hc23 hX
      refine z_aload_n (pc := 26) G 0 dX3_scanNumeral_26 rfl rfl ?_
      refine z_dup (pc := 27) G dX3_scanNumeral_27 rfl ?_
      obtain ⟨x28, hv28, hX⟩ := z_bd hX
      refine z_getI (pc := 28) G kK3 (k := 6) (by decide) kt_146 dX3_scanNumeral_28 hv28 ?_
      refine z_iconst (pc := 31) (v := 1) G dX3_scanNumeral_31 (by decide) ?_
      refine z_iadd (pc := 32) G dX3_scanNumeral_32 ?_
      obtain ⟨h33, hv33, hX⟩ := z_bd hX
      refine z_putF (pc := 33) G kK3 (k := 6) (by decide) kt_146 (Or.inl rfl) rfl rfl dX3_scanNumeral_33 hv33 ?_
      refine z_goto (pc := 36) (tgt := 0) G dX3_scanNumeral_36 (by decide) ?_
      exact H0 _ _ hX
set_option maxHeartbeats 4000000 in
set_option maxRecDepth 100000 in
theorem wX3_scanNumeral_L0 {Γ : ZG} {p : Program} {l : Launch} {e : Env} {s : State} {m : MethodId} {args : Array Value} {below : List Frame} {meth : Method} {c : Code} (hO : z_OK Γ) (G : z_GG Γ p s m args meth c cX3_scanNumeral 3 RX3) (hr : meth.sig.returnType = none) (hnm : meth.name = "scanNumeral") {r : ZH} : ∀ (nn : Nat) (l0 : Nat) (h : ZH), xX3_scanNumeral_L0  nn l0 h = some r → z_W Γ p l e rmX3_scanNumeral s m args below meth c 3 0 0 (MQ below (z_Qc Γ none r) args s rmX3_scanNumeral.cells rmX3_scanNumeral.slots (z_A Γ)) 0 [(0, .ref l0)] [] h := by
  intro nn
  induction nn with
  | zero => intro l0 h hX; cases hX
  | succ nn ih => intro l0 h hX; exact wX3_scanNumeral_B0 hO G hr hnm  ih l0 h hX
noncomputable def xX3_scanNumeral (l0 : Nat) (h : ZH) : Option ZH := xX3_scanNumeral_L0 zFU l0 h
set_option maxHeartbeats 4000000 in
set_option maxRecDepth 100000 in
theorem lX3_scanNumeral {Γ : ZG} {l : Launch} (hO : z_OK Γ) {l0 : Nat} {h : ZH} {r : ZH} (hX : xX3_scanNumeral l0 h = some r) : z_M Γ l yX3_scanNumeral (z_ws1 yX3_scanNumeral cX3_scanNumeral 3 none) rmX3_scanNumeral [.ref l0] h none r := by
  refine z_start hO (plainFor_of_name (by decide)) (Nat.le_of_ble_eq_true rfl) ?_
  intro p e s m args below meth c G hr hnm
  refine z_lvc (lv2 := [(0, .ref l0)]) rfl ?_
  exact wX3_scanNumeral_L0 hO G hr hnm zFU _ _ hX
theorem dJ0_isLatin1_aae02_0 : decode cJ0_isLatin1_aae02 0 = .ok (.getstatic 38, 3) := by decide +kernel
theorem dJ0_isLatin1_aae02_3 : decode cJ0_isLatin1_aae02 3 = .ok (.ifCond .eq 14, 3) := by decide +kernel
theorem dJ0_isLatin1_aae02_6 : decode cJ0_isLatin1_aae02 6 = .ok (.aload_n 0, 1) := by decide +kernel
theorem dJ0_isLatin1_aae02_7 : decode cJ0_isLatin1_aae02 7 = .ok (.getfield 15, 3) := by decide +kernel
theorem dJ0_isLatin1_aae02_10 : decode cJ0_isLatin1_aae02 10 = .ok (.ifCond .ne 7, 3) := by decide +kernel
theorem dJ0_isLatin1_aae02_13 : decode cJ0_isLatin1_aae02 13 = .ok (.iconst 1, 1) := by decide +kernel
theorem dJ0_isLatin1_aae02_14 : decode cJ0_isLatin1_aae02 14 = .ok (.goto 4, 3) := by decide +kernel
theorem dJ0_isLatin1_aae02_17 : decode cJ0_isLatin1_aae02 17 = .ok (.iconst 0, 1) := by decide +kernel
theorem dJ0_isLatin1_aae02_18 : decode cJ0_isLatin1_aae02 18 = .ok (.ireturn, 1) := by decide +kernel
theorem ydJ0_isLatin1_aae02 : z_yd yJ0_isLatin1_aae02 0 := ⟨by decide, by decide, by decide +kernel⟩
abbrev rmJ0_isLatin1_aae02 : Room := { frames := 0, cells := 0, slots := 0, locals := 0 }
noncomputable def xJ0_isLatin1_aae02 (l0 : Nat) (h : ZH) : Option (Int32 × ZH) := (if (1 : Int32) = 0 then some ((0 : Int32), h) else ((z_gI h l0 50 1).bind fun x7 => (if x7 = 0 then some ((1 : Int32), h) else some ((0 : Int32), h))))
set_option maxHeartbeats 4000000 in
set_option maxRecDepth 100000 in
theorem lJ0_isLatin1_aae02 {Γ : ZG} {l : Launch} (hO : z_OK Γ) {l0 : Nat} {h : ZH} {r : (Int32 × ZH)} (hX : xJ0_isLatin1_aae02 l0 h = some r) : z_M Γ l yJ0_isLatin1_aae02 (z_ws1 yJ0_isLatin1_aae02 cJ0_isLatin1_aae02 1 (some .boolean)) rmJ0_isLatin1_aae02 [.ref l0] h (some (.int r.1)) r.2 := by
  refine z_start hO (plainFor_of_name (by decide)) (Nat.le_of_ble_eq_true rfl) ?_
  intro p e s m args below meth c G hr hnm
  refine z_lvc (lv2 := [(0, .ref l0)]) rfl ?_
  refine z_gstZ (pc := 0) G kt_532 dJ0_isLatin1_aae02_0 ?_
  refine z_if_eq (pc := 3) (tgt := 17) G dJ0_isLatin1_aae02_3 (by decide) (fun hc3 => ?_) (fun hc3 => ?_)
  · have hX := z_it hc3 hX
    refine z_iconst (pc := 17) (v := 0) G dJ0_isLatin1_aae02_17 (by decide) ?_
    exact z_zretX (pc := 18) hX G hr rfl dJ0_isLatin1_aae02_18 (by decide) (by decide)
  · have hX := z_if hc3 hX
    refine z_aload_n (pc := 6) G 0 dJ0_isLatin1_aae02_6 rfl rfl ?_
    obtain ⟨x7, hv7, hX⟩ := z_bd hX
    refine z_getSC (pc := 7) G kt_1944 dJ0_isLatin1_aae02_7 hv7 ?_
    refine z_if_ne (pc := 10) (tgt := 17) G dJ0_isLatin1_aae02_10 (by decide) (fun hc10 => ?_) (fun hc10 => ?_)
    · have hX := z_if hc10 hX
      refine z_iconst (pc := 17) (v := 0) G dJ0_isLatin1_aae02_17 (by decide) ?_
      exact z_zretX (pc := 18) hX G hr rfl dJ0_isLatin1_aae02_18 (by decide) (by decide)
    · have hX := z_it hc10 hX
      refine z_iconst (pc := 13) (v := 1) G dJ0_isLatin1_aae02_13 (by decide) ?_
      refine z_goto (pc := 14) (tgt := 18) G dJ0_isLatin1_aae02_14 (by decide) ?_
      exact z_zretX (pc := 18) hX G hr rfl dJ0_isLatin1_aae02_18 (by decide) (by decide)
theorem dJ3_checkIndex_8e157_0 : decode cJ3_checkIndex_8e157 0 = .ok (.iload_n 0, 1) := by decide +kernel
theorem dJ3_checkIndex_8e157_1 : decode cJ3_checkIndex_8e157 1 = .ok (.ifCond .lt 8, 3) := by decide +kernel
theorem dJ3_checkIndex_8e157_4 : decode cJ3_checkIndex_8e157 4 = .ok (.iload_n 0, 1) := by decide +kernel
theorem dJ3_checkIndex_8e157_5 : decode cJ3_checkIndex_8e157 5 = .ok (.iload_n 1, 1) := by decide +kernel
theorem dJ3_checkIndex_8e157_6 : decode cJ3_checkIndex_8e157 6 = .ok (.if_icmp .lt 10, 3) := by decide +kernel
theorem dJ3_checkIndex_8e157_9 : decode cJ3_checkIndex_8e157 9 = .ok (.aload_n 2, 1) := by decide +kernel
theorem dJ3_checkIndex_8e157_10 : decode cJ3_checkIndex_8e157 10 = .ok (.iload_n 0, 1) := by decide +kernel
theorem dJ3_checkIndex_8e157_11 : decode cJ3_checkIndex_8e157 11 = .ok (.iload_n 1, 1) := by decide +kernel
theorem dJ3_checkIndex_8e157_12 : decode cJ3_checkIndex_8e157 12 = .ok (.invokestatic 95, 3) := by decide +kernel
theorem dJ3_checkIndex_8e157_15 : decode cJ3_checkIndex_8e157 15 = .ok (.athrow, 1) := by decide +kernel
theorem dJ3_checkIndex_8e157_16 : decode cJ3_checkIndex_8e157 16 = .ok (.iload_n 0, 1) := by decide +kernel
theorem dJ3_checkIndex_8e157_17 : decode cJ3_checkIndex_8e157 17 = .ok (.ireturn, 1) := by decide +kernel
theorem ydJ3_checkIndex_8e157 : z_yd yJ3_checkIndex_8e157 3 := ⟨by decide, by decide, by decide +kernel⟩
abbrev rmJ3_checkIndex_8e157 : Room := { frames := 0, cells := 0, slots := 0, locals := 0 }
noncomputable def xJ3_checkIndex_8e157 (l0 : Int32) (l1 : Int32) (h : ZH) : Option (Int32 × ZH) := (if l0 < 0 then none else (if l0 < l1 then some (l0, h) else none))
set_option maxHeartbeats 4000000 in
set_option maxRecDepth 100000 in
theorem lJ3_checkIndex_8e157N {Γ : ZG} {l : Launch} (hO : z_OK Γ) {l0 : Int32} {l1 : Int32} {h : ZH} {r : (Int32 × ZH)} (hX : xJ3_checkIndex_8e157 l0 l1 h = some r) : z_M Γ l yJ3_checkIndex_8e157 (z_ws1 yJ3_checkIndex_8e157 cJ3_checkIndex_8e157 3 (some .int)) rmJ3_checkIndex_8e157 [.int l0, .int l1, .null] h (some (.int r.1)) r.2 := by
  refine z_start hO (by decide +kernel) (Nat.le_of_ble_eq_true rfl) ?_
  intro p e s m args below meth c G hr hnm
  refine z_lvc (lv2 := [(0, .int l0), (1, .int l1), (2, .null)]) rfl ?_
  refine z_iload_n (pc := 0) G 0 dJ3_checkIndex_8e157_0 rfl rfl ?_
  refine z_if_lt (pc := 1) (tgt := 9) G dJ3_checkIndex_8e157_1 (by decide) (fun hc1 => ?_) (fun hc1 => ?_)
  · have hX := z_it hc1 hX
    refine z_aload_nN (pc := 9) G 2 dJ3_checkIndex_8e157_9 rfl rfl ?_
    refine z_iload_n (pc := 10) G 0 dJ3_checkIndex_8e157_10 rfl rfl ?_
    refine z_iload_n (pc := 11) G 1 dJ3_checkIndex_8e157_11 rfl rfl ?_
    cases hX
  · have hX := z_if hc1 hX
    refine z_iload_n (pc := 4) G 0 dJ3_checkIndex_8e157_4 rfl rfl ?_
    refine z_iload_n (pc := 5) G 1 dJ3_checkIndex_8e157_5 rfl rfl ?_
    refine z_icmp_lt (pc := 6) (tgt := 16) G dJ3_checkIndex_8e157_6 (by decide) (fun hc6 => ?_) (fun hc6 => ?_)
    · have hX := z_it hc6 hX
      refine z_iload_n (pc := 16) G 0 dJ3_checkIndex_8e157_16 rfl rfl ?_
      exact z_iretX (pc := 17) hX G hr dJ3_checkIndex_8e157_17 (by decide) (by decide)
    · have hX := z_if hc6 hX
      refine z_aload_nN (pc := 9) G 2 dJ3_checkIndex_8e157_9 rfl rfl ?_
      refine z_iload_n (pc := 10) G 0 dJ3_checkIndex_8e157_10 rfl rfl ?_
      refine z_iload_n (pc := 11) G 1 dJ3_checkIndex_8e157_11 rfl rfl ?_
      cases hX
set_option maxHeartbeats 4000000 in
set_option maxRecDepth 100000 in
theorem lJ3_checkIndex_8e157R {Γ : ZG} {l : Launch} (hO : z_OK Γ) {l0 : Int32} {l1 : Int32} {l2 : Nat} {h : ZH} {r : (Int32 × ZH)} (hX : xJ3_checkIndex_8e157 l0 l1 h = some r) : z_M Γ l yJ3_checkIndex_8e157 (z_ws1 yJ3_checkIndex_8e157 cJ3_checkIndex_8e157 3 (some .int)) rmJ3_checkIndex_8e157 [.int l0, .int l1, .ref l2] h (some (.int r.1)) r.2 := by
  refine z_start hO (by decide +kernel) (Nat.le_of_ble_eq_true rfl) ?_
  intro p e s m args below meth c G hr hnm
  refine z_lvc (lv2 := [(0, .int l0), (1, .int l1), (2, .ref l2)]) rfl ?_
  refine z_iload_n (pc := 0) G 0 dJ3_checkIndex_8e157_0 rfl rfl ?_
  refine z_if_lt (pc := 1) (tgt := 9) G dJ3_checkIndex_8e157_1 (by decide) (fun hc1 => ?_) (fun hc1 => ?_)
  · have hX := z_it hc1 hX
    refine z_aload_n (pc := 9) G 2 dJ3_checkIndex_8e157_9 rfl rfl ?_
    refine z_iload_n (pc := 10) G 0 dJ3_checkIndex_8e157_10 rfl rfl ?_
    refine z_iload_n (pc := 11) G 1 dJ3_checkIndex_8e157_11 rfl rfl ?_
    cases hX
  · have hX := z_if hc1 hX
    refine z_iload_n (pc := 4) G 0 dJ3_checkIndex_8e157_4 rfl rfl ?_
    refine z_iload_n (pc := 5) G 1 dJ3_checkIndex_8e157_5 rfl rfl ?_
    refine z_icmp_lt (pc := 6) (tgt := 16) G dJ3_checkIndex_8e157_6 (by decide) (fun hc6 => ?_) (fun hc6 => ?_)
    · have hX := z_it hc6 hX
      refine z_iload_n (pc := 16) G 0 dJ3_checkIndex_8e157_16 rfl rfl ?_
      exact z_iretX (pc := 17) hX G hr dJ3_checkIndex_8e157_17 (by decide) (by decide)
    · have hX := z_if hc6 hX
      refine z_aload_n (pc := 9) G 2 dJ3_checkIndex_8e157_9 rfl rfl ?_
      refine z_iload_n (pc := 10) G 0 dJ3_checkIndex_8e157_10 rfl rfl ?_
      refine z_iload_n (pc := 11) G 1 dJ3_checkIndex_8e157_11 rfl rfl ?_
      cases hX
theorem dJ0_checkIndex_df160_0 : decode cJ0_checkIndex_df160 0 = .ok (.iload_n 0, 1) := by decide +kernel
theorem dJ0_checkIndex_df160_1 : decode cJ0_checkIndex_df160 1 = .ok (.iload_n 1, 1) := by decide +kernel
theorem dJ0_checkIndex_df160_2 : decode cJ0_checkIndex_df160 2 = .ok (.getstatic 1053, 3) := by decide +kernel
theorem dJ0_checkIndex_df160_5 : decode cJ0_checkIndex_df160 5 = .ok (.invokestatic 1059, 3) := by decide +kernel
theorem dJ0_checkIndex_df160_8 : decode cJ0_checkIndex_df160 8 = .ok (.pop, 1) := by decide +kernel
theorem dJ0_checkIndex_df160_9 : decode cJ0_checkIndex_df160 9 = .ok (.return_, 1) := by decide +kernel
theorem ydJ0_checkIndex_df160 : z_yd yJ0_checkIndex_df160 2 := ⟨by decide, by decide, by decide +kernel⟩
abbrev rmJ0_checkIndex_df160 : Room := { frames := 1, cells := 0, slots := 0, locals := 22 }
noncomputable def xJ0_checkIndex_df160 (l0 : Int32) (l1 : Int32) (h : ZH) : Option ZH := ((xJ3_checkIndex_8e157 l0 l1 h).bind fun r5 => some r5.2)
set_option maxHeartbeats 4000000 in
set_option maxRecDepth 100000 in
theorem lJ0_checkIndex_df160 {Γ : ZG} {l : Launch} (hO : z_OK Γ) {l0 : Int32} {l1 : Int32} {h : ZH} {r : ZH} (hX : xJ0_checkIndex_df160 l0 l1 h = some r) : z_M Γ l yJ0_checkIndex_df160 (z_ws1 yJ0_checkIndex_df160 cJ0_checkIndex_df160 2 none) rmJ0_checkIndex_df160 [.int l0, .int l1] h none r := by
  refine z_start hO (plainFor_of_name (by decide)) (Nat.le_of_ble_eq_true rfl) ?_
  intro p e s m args below meth c G hr hnm
  refine z_lvc (lv2 := [(0, .int l0), (1, .int l1)]) rfl ?_
  refine z_iload_n (pc := 0) G 0 dJ0_checkIndex_df160_0 rfl rfl ?_
  refine z_iload_n (pc := 1) G 1 dJ0_checkIndex_df160_1 rfl rfl ?_
  refine z_gstF (pc := 2) G kt_548 dJ0_checkIndex_df160_2 ?_ ?_
  · obtain ⟨r5, hv5, hX⟩ := z_bd hX
    refine z_cSI (pc := 5) (As := [.int l0, .int l1, .null]) (c2 := 0) (s2 := 0) G (lJ3_checkIndex_8e157N hO hv5) kt_552 kt_15 kt_550 kt_551 ydJ3_checkIndex_8e157 ⟨by decide, by decide⟩ rfl (Nat.le_of_ble_eq_true rfl) ⟨rfl, rfl⟩ ⟨by decide, by decide⟩ rfl dJ0_checkIndex_df160_5 ?_
    refine z_pop (pc := 8) G dJ0_checkIndex_df160_8 rfl ?_
    exact z_vretX (pc := 9) hX G hr dJ0_checkIndex_df160_9 (by decide) (by decide)
  · obtain ⟨r5, hv5, hX⟩ := z_bd hX
    refine z_cSI (pc := 5) (As := [.int l0, .int l1, .ref 7]) (c2 := 0) (s2 := 0) G (lJ3_checkIndex_8e157R hO hv5) kt_552 kt_15 kt_550 kt_551 ydJ3_checkIndex_8e157 ⟨by decide, by decide⟩ rfl (Nat.le_of_ble_eq_true rfl) ⟨rfl, rfl⟩ ⟨by decide, by decide⟩ rfl dJ0_checkIndex_df160_5 ?_
    refine z_pop (pc := 8) G dJ0_checkIndex_df160_8 rfl ?_
    exact z_vretX (pc := 9) hX G hr dJ0_checkIndex_df160_9 (by decide) (by decide)
theorem dJ1_charAt_3b067_0 : decode cJ1_charAt_3b067 0 = .ok (.iload_n 1, 1) := by decide +kernel
theorem dJ1_charAt_3b067_1 : decode cJ1_charAt_3b067 1 = .ok (.aload_n 0, 1) := by decide +kernel
theorem dJ1_charAt_3b067_2 : decode cJ1_charAt_3b067 2 = .ok (.arraylength, 1) := by decide +kernel
theorem dJ1_charAt_3b067_3 : decode cJ1_charAt_3b067 3 = .ok (.invokestatic 9, 3) := by decide +kernel
theorem dJ1_charAt_3b067_6 : decode cJ1_charAt_3b067 6 = .ok (.aload_n 0, 1) := by decide +kernel
theorem dJ1_charAt_3b067_7 : decode cJ1_charAt_3b067 7 = .ok (.iload_n 1, 1) := by decide +kernel
theorem dJ1_charAt_3b067_8 : decode cJ1_charAt_3b067 8 = .ok (.baload, 1) := by decide +kernel
theorem dJ1_charAt_3b067_9 : decode cJ1_charAt_3b067 9 = .ok (.sipush 255, 3) := by decide +kernel
theorem dJ1_charAt_3b067_12 : decode cJ1_charAt_3b067 12 = .ok (.iand, 1) := by decide +kernel
theorem dJ1_charAt_3b067_13 : decode cJ1_charAt_3b067 13 = .ok (.i2c, 1) := by decide +kernel
theorem dJ1_charAt_3b067_14 : decode cJ1_charAt_3b067 14 = .ok (.ireturn, 1) := by decide +kernel
theorem ydJ1_charAt_3b067 : z_yd yJ1_charAt_3b067 2 := ⟨by decide, by decide, by decide +kernel⟩
abbrev rmJ1_charAt_3b067 : Room := { frames := 2, cells := 0, slots := 0, locals := 43 }
noncomputable def xJ1_charAt_3b067 (l0 : Nat) (l1 : Int32) (h : ZH) : Option (Int32 × ZH) := ((z_aL h l0).bind fun x2 => ((xJ0_checkIndex_df160 l1 x2 h).bind fun h3 => ((z_aB h3 l0 l1).bind fun x8 => z_cr .char (((x8 &&& (255 : Int32)).toUInt32 % 65536).toInt32) h3)))
set_option maxHeartbeats 4000000 in
set_option maxRecDepth 100000 in
theorem lJ1_charAt_3b067 {Γ : ZG} {l : Launch} (hO : z_OK Γ) {l0 : Nat} {l1 : Int32} {h : ZH} {r : (Int32 × ZH)} (hX : xJ1_charAt_3b067 l0 l1 h = some r) : z_M Γ l yJ1_charAt_3b067 (z_ws1 yJ1_charAt_3b067 cJ1_charAt_3b067 2 (some .char)) rmJ1_charAt_3b067 [.ref l0, .int l1] h (some (.int r.1)) r.2 := by
  refine z_start hO (by decide +kernel) (Nat.le_of_ble_eq_true rfl) ?_
  intro p e s m args below meth c G hr hnm
  refine z_lvc (lv2 := [(0, .ref l0), (1, .int l1)]) rfl ?_
  refine z_iload_n (pc := 0) G 1 dJ1_charAt_3b067_0 rfl rfl ?_
  refine z_aload_n (pc := 1) G 0 dJ1_charAt_3b067_1 rfl rfl ?_
  obtain ⟨x2, hv2, hX⟩ := z_bd hX
  refine z_alen (pc := 2) G dJ1_charAt_3b067_2 hv2 ?_
  obtain ⟨h3, hv3, hX⟩ := z_bd hX
  refine z_cSV (pc := 3) (As := [.int l1, .int x2]) (c2 := 0) (s2 := 0) G (lJ0_checkIndex_df160 hO hv3) kt_547 kt_13 kt_545 kt_546 ydJ0_checkIndex_df160 ⟨by decide, by decide⟩ rfl (Nat.le_of_ble_eq_true rfl) ⟨rfl, rfl⟩ ⟨by decide, by decide⟩ rfl dJ1_charAt_3b067_3 ?_
  refine z_aload_n (pc := 6) G 0 dJ1_charAt_3b067_6 rfl rfl ?_
  refine z_iload_n (pc := 7) G 1 dJ1_charAt_3b067_7 rfl rfl ?_
  obtain ⟨x8, hv8, hX⟩ := z_bd hX
  refine z_bald (pc := 8) G dJ1_charAt_3b067_8 hv8 ?_
  refine z_sipush (pc := 9) (v := 255) G dJ1_charAt_3b067_9 (by decide) ?_
  refine z_iand (pc := 12) G dJ1_charAt_3b067_12 ?_
  refine z_i2c (pc := 13) (v := ((x8 &&& (255 : Int32)).toUInt32 % 65536).toInt32) G dJ1_charAt_3b067_13 rfl ?_
  exact z_cretC (pc := 14) hX G hr dJ1_charAt_3b067_14 (by decide) (by decide)
theorem dJ0_charAt_5068e_0 : decode cJ0_charAt_5068e 0 = .ok (.aload_n 0, 1) := by decide +kernel
theorem dJ0_charAt_5068e_1 : decode cJ0_charAt_5068e 1 = .ok (.invokevirtual 492, 3) := by decide +kernel
theorem dJ0_charAt_5068e_4 : decode cJ0_charAt_5068e 4 = .ok (.ifCond .eq 12, 3) := by decide +kernel
theorem dJ0_charAt_5068e_7 : decode cJ0_charAt_5068e 7 = .ok (.aload_n 0, 1) := by decide +kernel
theorem dJ0_charAt_5068e_8 : decode cJ0_charAt_5068e 8 = .ok (.getfield 9, 3) := by decide +kernel
theorem dJ0_charAt_5068e_11 : decode cJ0_charAt_5068e 11 = .ok (.iload_n 1, 1) := by decide +kernel
theorem dJ0_charAt_5068e_12 : decode cJ0_charAt_5068e 12 = .ok (.invokestatic 495, 3) := by decide +kernel
theorem dJ0_charAt_5068e_15 : decode cJ0_charAt_5068e 15 = .ok (.ireturn, 1) := by decide +kernel
theorem dJ0_charAt_5068e_16 : decode cJ0_charAt_5068e 16 = .ok (.aload_n 0, 1) := by decide +kernel
theorem dJ0_charAt_5068e_17 : decode cJ0_charAt_5068e 17 = .ok (.getfield 9, 3) := by decide +kernel
theorem dJ0_charAt_5068e_20 : decode cJ0_charAt_5068e 20 = .ok (.iload_n 1, 1) := by decide +kernel
theorem dJ0_charAt_5068e_21 : decode cJ0_charAt_5068e 21 = .ok (.invokestatic 498, 3) := by decide +kernel
theorem dJ0_charAt_5068e_24 : decode cJ0_charAt_5068e 24 = .ok (.ireturn, 1) := by decide +kernel
theorem ydJ0_charAt_5068e : z_yd yJ0_charAt_5068e 1 := ⟨by decide, by decide, by decide +kernel⟩
abbrev rmJ0_charAt_5068e : Room := { frames := 3, cells := 0, slots := 0, locals := 64 }
noncomputable def xJ0_charAt_5068e (l0 : Nat) (l1 : Int32) (h : ZH) : Option (Int32 × ZH) := (z_gu (z_is h l0 50) ((xJ0_isLatin1_aae02 l0 h).bind fun r1 => (if r1.1 = 0 then ((z_gR r1.2 l0 50 0).bind fun x17 => none) else ((z_gR r1.2 l0 50 0).bind fun x8 => ((xJ1_charAt_3b067 x8 l1 r1.2).bind fun r12 => z_cr .char r12.1 r12.2)))))
set_option maxHeartbeats 4000000 in
set_option maxRecDepth 100000 in
theorem lJ0_charAt_5068e {Γ : ZG} {l : Launch} (hO : z_OK Γ) {l0 : Nat} {l1 : Int32} {h : ZH} {r : (Int32 × ZH)} (hX : xJ0_charAt_5068e l0 l1 h = some r) : z_M Γ l yJ0_charAt_5068e (z_ws1 yJ0_charAt_5068e cJ0_charAt_5068e 2 (some .char)) rmJ0_charAt_5068e [.ref l0, .int l1] h (some (.int r.1)) r.2 := by
  refine z_start hO (plainFor_of_name (by decide)) (Nat.le_of_ble_eq_true rfl) ?_
  intro p e s m args below meth c G hr hnm
  refine z_lvc (lv2 := [(0, .ref l0), (1, .int l1)]) rfl ?_
  refine z_aload_n (pc := 0) G 0 dJ0_charAt_5068e_0 rfl rfl ?_
  obtain ⟨hi1, hX⟩ := z_gu_s hX
  obtain ⟨r1, hv1, hX⟩ := z_bd hX
  refine z_cVSI (pc := 1) (As := []) (c2 := 0) (s2 := 0) G (lJ0_isLatin1_aae02 hO hv1) hi1 kt_541 kt_13 kt_538 kt_539 kt_540 ydJ0_isLatin1_aae02 ⟨by decide, by decide⟩ rfl (Nat.le_of_ble_eq_true rfl) ⟨rfl, rfl⟩ ⟨by decide, by decide⟩ rfl dJ0_charAt_5068e_1 ?_
  refine z_if_eq (pc := 4) (tgt := 16) G dJ0_charAt_5068e_4 (by decide) (fun hc4 => ?_) (fun hc4 => ?_)
  · have hX := z_it hc4 hX
    refine z_aload_n (pc := 16) G 0 dJ0_charAt_5068e_16 rfl rfl ?_
    obtain ⟨x17, hv17, hX⟩ := z_bd hX
    refine z_getSV (pc := 17) G kt_1943 dJ0_charAt_5068e_17 hv17 ?_
    refine z_iload_n (pc := 20) G 1 dJ0_charAt_5068e_20 rfl rfl ?_
    cases hX
  · have hX := z_if hc4 hX
    refine z_aload_n (pc := 7) G 0 dJ0_charAt_5068e_7 rfl rfl ?_
    obtain ⟨x8, hv8, hX⟩ := z_bd hX
    refine z_getSV (pc := 8) G kt_1943 dJ0_charAt_5068e_8 hv8 ?_
    refine z_iload_n (pc := 11) G 1 dJ0_charAt_5068e_11 rfl rfl ?_
    obtain ⟨r12, hv12, hX⟩ := z_bd hX
    refine z_cSI (pc := 12) (As := [.ref x8, .int l1]) (c2 := 0) (s2 := 0) G (lJ1_charAt_3b067 hO hv12) kt_544 kt_14 kt_542 kt_543 ydJ1_charAt_3b067 ⟨by decide, by decide⟩ rfl (Nat.le_of_ble_eq_true rfl) ⟨rfl, rfl⟩ ⟨by decide, by decide⟩ rfl dJ0_charAt_5068e_12 ?_
    exact z_cretC (pc := 15) hX G hr dJ0_charAt_5068e_15 (by decide) (by decide)
theorem dJ0_coder_7d493_0 : decode cJ0_coder_7d493 0 = .ok (.getstatic 38, 3) := by decide +kernel
theorem dJ0_coder_7d493_3 : decode cJ0_coder_7d493 3 = .ok (.ifCond .eq 10, 3) := by decide +kernel
theorem dJ0_coder_7d493_6 : decode cJ0_coder_7d493 6 = .ok (.aload_n 0, 1) := by decide +kernel
theorem dJ0_coder_7d493_7 : decode cJ0_coder_7d493 7 = .ok (.getfield 15, 3) := by decide +kernel
theorem dJ0_coder_7d493_10 : decode cJ0_coder_7d493 10 = .ok (.goto 4, 3) := by decide +kernel
theorem dJ0_coder_7d493_13 : decode cJ0_coder_7d493 13 = .ok (.iconst 1, 1) := by decide +kernel
theorem dJ0_coder_7d493_14 : decode cJ0_coder_7d493 14 = .ok (.ireturn, 1) := by decide +kernel
theorem ydJ0_coder_7d493 : z_yd yJ0_coder_7d493 0 := ⟨by decide, by decide, by decide +kernel⟩
abbrev rmJ0_coder_7d493 : Room := { frames := 0, cells := 0, slots := 0, locals := 0 }
noncomputable def xJ0_coder_7d493 (l0 : Nat) (h : ZH) : Option (Int32 × ZH) := (if (1 : Int32) = 0 then z_cr .byte (1 : Int32) h else ((z_gI h l0 50 1).bind fun x7 => z_cr .byte x7 h))
set_option maxHeartbeats 4000000 in
set_option maxRecDepth 100000 in
theorem lJ0_coder_7d493 {Γ : ZG} {l : Launch} (hO : z_OK Γ) {l0 : Nat} {h : ZH} {r : (Int32 × ZH)} (hX : xJ0_coder_7d493 l0 h = some r) : z_M Γ l yJ0_coder_7d493 (z_ws1 yJ0_coder_7d493 cJ0_coder_7d493 1 (some .byte)) rmJ0_coder_7d493 [.ref l0] h (some (.int r.1)) r.2 := by
  refine z_start hO (plainFor_of_name (by decide)) (Nat.le_of_ble_eq_true rfl) ?_
  intro p e s m args below meth c G hr hnm
  refine z_lvc (lv2 := [(0, .ref l0)]) rfl ?_
  refine z_gstZ (pc := 0) G kt_532 dJ0_coder_7d493_0 ?_
  refine z_if_eq (pc := 3) (tgt := 13) G dJ0_coder_7d493_3 (by decide) (fun hc3 => ?_) (fun hc3 => ?_)
  · have hX := z_it hc3 hX
    refine z_iconst (pc := 13) (v := 1) G dJ0_coder_7d493_13 (by decide) ?_
    exact z_cretB (pc := 14) hX G hr dJ0_coder_7d493_14 (by decide) (by decide)
  · have hX := z_if hc3 hX
    refine z_aload_n (pc := 6) G 0 dJ0_coder_7d493_6 rfl rfl ?_
    obtain ⟨x7, hv7, hX⟩ := z_bd hX
    refine z_getSC (pc := 7) G kt_1944 dJ0_coder_7d493_7 hv7 ?_
    refine z_goto (pc := 10) (tgt := 14) G dJ0_coder_7d493_10 (by decide) ?_
    exact z_cretB (pc := 14) hX G hr dJ0_coder_7d493_14 (by decide) (by decide)
theorem dJ0_length_8abf5_0 : decode cJ0_length_8abf5 0 = .ok (.aload_n 0, 1) := by decide +kernel
theorem dJ0_length_8abf5_1 : decode cJ0_length_8abf5 1 = .ok (.getfield 9, 3) := by decide +kernel
theorem dJ0_length_8abf5_4 : decode cJ0_length_8abf5 4 = .ok (.arraylength, 1) := by decide +kernel
theorem dJ0_length_8abf5_5 : decode cJ0_length_8abf5 5 = .ok (.aload_n 0, 1) := by decide +kernel
theorem dJ0_length_8abf5_6 : decode cJ0_length_8abf5 6 = .ok (.invokevirtual 335, 3) := by decide +kernel
theorem dJ0_length_8abf5_9 : decode cJ0_length_8abf5 9 = .ok (.ishr, 1) := by decide +kernel
theorem dJ0_length_8abf5_10 : decode cJ0_length_8abf5 10 = .ok (.ireturn, 1) := by decide +kernel
theorem ydJ0_length_8abf5 : z_yd yJ0_length_8abf5 0 := ⟨by decide, by decide, by decide +kernel⟩
abbrev rmJ0_length_8abf5 : Room := { frames := 1, cells := 0, slots := 0, locals := 20 }
noncomputable def xJ0_length_8abf5 (l0 : Nat) (h : ZH) : Option (Int32 × ZH) := ((z_gR h l0 50 0).bind fun x1 => ((z_aL h x1).bind fun x4 => (z_gu (z_is h l0 50) ((xJ0_coder_7d493 l0 h).bind fun r6 => some ((x4 >>> (r6.1 &&& 31)), r6.2)))))
set_option maxHeartbeats 4000000 in
set_option maxRecDepth 100000 in
theorem lJ0_length_8abf5 {Γ : ZG} {l : Launch} (hO : z_OK Γ) {l0 : Nat} {h : ZH} {r : (Int32 × ZH)} (hX : xJ0_length_8abf5 l0 h = some r) : z_M Γ l yJ0_length_8abf5 (z_ws1 yJ0_length_8abf5 cJ0_length_8abf5 1 (some .int)) rmJ0_length_8abf5 [.ref l0] h (some (.int r.1)) r.2 := by
  refine z_start hO (plainFor_of_name (by decide)) (Nat.le_of_ble_eq_true rfl) ?_
  intro p e s m args below meth c G hr hnm
  refine z_lvc (lv2 := [(0, .ref l0)]) rfl ?_
  refine z_aload_n (pc := 0) G 0 dJ0_length_8abf5_0 rfl rfl ?_
  obtain ⟨x1, hv1, hX⟩ := z_bd hX
  refine z_getSV (pc := 1) G kt_1943 dJ0_length_8abf5_1 hv1 ?_
  obtain ⟨x4, hv4, hX⟩ := z_bd hX
  refine z_alen (pc := 4) G dJ0_length_8abf5_4 hv4 ?_
  refine z_aload_n (pc := 5) G 0 dJ0_length_8abf5_5 rfl rfl ?_
  obtain ⟨hi6, hX⟩ := z_gu_s hX
  obtain ⟨r6, hv6, hX⟩ := z_bd hX
  refine z_cVSI (pc := 6) (As := []) (c2 := 0) (s2 := 0) G (lJ0_coder_7d493 hO hv6) hi6 kt_531 kt_13 kt_528 kt_529 kt_530 ydJ0_coder_7d493 ⟨by decide, by decide⟩ rfl (Nat.le_of_ble_eq_true rfl) ⟨rfl, rfl⟩ ⟨by decide, by decide⟩ rfl dJ0_length_8abf5_6 ?_
  refine z_ishr (pc := 9) G dJ0_length_8abf5_9 ?_
  exact z_iretX (pc := 10) hX G hr dJ0_length_8abf5_10 (by decide) (by decide)
theorem dX3_scanWord_0 : decode cX3_scanWord 0 = .ok (.aload_n 0, 1) := by decide +kernel
theorem dX3_scanWord_1 : decode cX3_scanWord 1 = .ok (.getfield 45, 3) := by decide +kernel
theorem dX3_scanWord_4 : decode cX3_scanWord 4 = .ok (.aload_n 0, 1) := by decide +kernel
theorem dX3_scanWord_5 : decode cX3_scanWord 5 = .ok (.getfield 42, 3) := by decide +kernel
theorem dX3_scanWord_8 : decode cX3_scanWord 8 = .ok (.if_icmp .ge 31, 3) := by decide +kernel
theorem dX3_scanWord_11 : decode cX3_scanWord 11 = .ok (.aload_n 0, 1) := by decide +kernel
theorem dX3_scanWord_12 : decode cX3_scanWord 12 = .ok (.getfield 29, 3) := by decide +kernel
theorem dX3_scanWord_15 : decode cX3_scanWord 15 = .ok (.aload_n 0, 1) := by decide +kernel
theorem dX3_scanWord_16 : decode cX3_scanWord 16 = .ok (.getfield 45, 3) := by decide +kernel
theorem dX3_scanWord_19 : decode cX3_scanWord 19 = .ok (.baload, 1) := by decide +kernel
theorem dX3_scanWord_20 : decode cX3_scanWord 20 = .ok (.invokestatic 178, 3) := by decide +kernel
theorem dX3_scanWord_23 : decode cX3_scanWord 23 = .ok (.ifCond .eq 16, 3) := by decide +kernel
theorem dX3_scanWord_26 : decode cX3_scanWord 26 = .ok (.aload_n 0, 1) := by decide +kernel
theorem dX3_scanWord_27 : decode cX3_scanWord 27 = .ok (.dup, 1) := by decide +kernel
theorem dX3_scanWord_28 : decode cX3_scanWord 28 = .ok (.getfield 45, 3) := by decide +kernel
theorem dX3_scanWord_31 : decode cX3_scanWord 31 = .ok (.iconst 1, 1) := by decide +kernel
theorem dX3_scanWord_32 : decode cX3_scanWord 32 = .ok (.iadd, 1) := by decide +kernel
theorem dX3_scanWord_33 : decode cX3_scanWord 33 = .ok (.putfield 45, 3) := by decide +kernel
theorem dX3_scanWord_36 : decode cX3_scanWord 36 = .ok (.goto (-36), 3) := by decide +kernel
theorem dX3_scanWord_39 : decode cX3_scanWord 39 = .ok (.aload_n 0, 1) := by decide +kernel
theorem dX3_scanWord_40 : decode cX3_scanWord 40 = .ok (.getfield 45, 3) := by decide +kernel
theorem dX3_scanWord_43 : decode cX3_scanWord 43 = .ok (.aload_n 0, 1) := by decide +kernel
theorem dX3_scanWord_44 : decode cX3_scanWord 44 = .ok (.getfield 130, 3) := by decide +kernel
theorem dX3_scanWord_47 : decode cX3_scanWord 47 = .ok (.isub, 1) := by decide +kernel
theorem dX3_scanWord_48 : decode cX3_scanWord 48 = .ok (.istore_n 1, 1) := by decide +kernel
theorem dX3_scanWord_49 : decode cX3_scanWord 49 = .ok (.aload_n 0, 1) := by decide +kernel
theorem dX3_scanWord_50 : decode cX3_scanWord 50 = .ok (.iload_n 1, 1) := by decide +kernel
theorem dX3_scanWord_51 : decode cX3_scanWord 51 = .ok (.bipush 8, 2) := by decide +kernel
theorem dX3_scanWord_53 : decode cX3_scanWord 53 = .ok (.if_icmp .le 7, 3) := by decide +kernel
theorem dX3_scanWord_56 : decode cX3_scanWord 56 = .ok (.iconst 4, 1) := by decide +kernel
theorem dX3_scanWord_57 : decode cX3_scanWord 57 = .ok (.goto 4, 3) := by decide +kernel
theorem dX3_scanWord_60 : decode cX3_scanWord 60 = .ok (.iconst 1, 1) := by decide +kernel
theorem dX3_scanWord_61 : decode cX3_scanWord 61 = .ok (.putfield 60, 3) := by decide +kernel
theorem dX3_scanWord_64 : decode cX3_scanWord 64 = .ok (.aload_n 0, 1) := by decide +kernel
theorem dX3_scanWord_65 : decode cX3_scanWord 65 = .ok (.iconst 0, 1) := by decide +kernel
theorem dX3_scanWord_66 : decode cX3_scanWord 66 = .ok (.putfield 67, 3) := by decide +kernel
theorem dX3_scanWord_69 : decode cX3_scanWord 69 = .ok (.iconst 0, 1) := by decide +kernel
theorem dX3_scanWord_70 : decode cX3_scanWord 70 = .ok (.istore_n 2, 1) := by decide +kernel
theorem dX3_scanWord_71 : decode cX3_scanWord 71 = .ok (.iconst 0, 1) := by decide +kernel
theorem dX3_scanWord_72 : decode cX3_scanWord 72 = .ok (.istore_n 3, 1) := by decide +kernel
theorem dX3_scanWord_73 : decode cX3_scanWord 73 = .ok (.iload_n 3, 1) := by decide +kernel
theorem dX3_scanWord_74 : decode cX3_scanWord 74 = .ok (.ldc 197, 2) := by decide +kernel
theorem dX3_scanWord_76 : decode cX3_scanWord 76 = .ok (.invokevirtual 199, 3) := by decide +kernel
theorem dX3_scanWord_79 : decode cX3_scanWord 79 = .ok (.if_icmp .ge 90, 3) := by decide +kernel
theorem dX3_scanWord_82 : decode cX3_scanWord 82 = .ok (.ldc 197, 2) := by decide +kernel
theorem dX3_scanWord_84 : decode cX3_scanWord 84 = .ok (.iload_n 3, 1) := by decide +kernel
theorem dX3_scanWord_85 : decode cX3_scanWord 85 = .ok (.invokevirtual 202, 3) := by decide +kernel
theorem dX3_scanWord_88 : decode cX3_scanWord 88 = .ok (.istore 4, 2) := by decide +kernel
theorem dX3_scanWord_90 : decode cX3_scanWord 90 = .ok (.iload 4, 2) := by decide +kernel
theorem dX3_scanWord_92 : decode cX3_scanWord 92 = .ok (.bipush 32, 2) := by decide +kernel
theorem dX3_scanWord_94 : decode cX3_scanWord 94 = .ok (.if_icmp .ne 24, 3) := by decide +kernel
theorem dX3_scanWord_97 : decode cX3_scanWord 97 = .ok (.iload_n 2, 1) := by decide +kernel
theorem dX3_scanWord_98 : decode cX3_scanWord 98 = .ok (.iload_n 1, 1) := by decide +kernel
theorem dX3_scanWord_99 : decode cX3_scanWord 99 = .ok (.if_icmp .ne 4, 3) := by decide +kernel
theorem dX3_scanWord_102 : decode cX3_scanWord 102 = .ok (.return_, 1) := by decide +kernel
theorem dX3_scanWord_103 : decode cX3_scanWord 103 = .ok (.aload_n 0, 1) := by decide +kernel
theorem dX3_scanWord_104 : decode cX3_scanWord 104 = .ok (.dup, 1) := by decide +kernel
theorem dX3_scanWord_105 : decode cX3_scanWord 105 = .ok (.getfield 67, 3) := by decide +kernel
theorem dX3_scanWord_108 : decode cX3_scanWord 108 = .ok (.iconst 1, 1) := by decide +kernel
theorem dX3_scanWord_109 : decode cX3_scanWord 109 = .ok (.iadd, 1) := by decide +kernel
theorem dX3_scanWord_110 : decode cX3_scanWord 110 = .ok (.putfield 67, 3) := by decide +kernel
theorem dX3_scanWord_113 : decode cX3_scanWord 113 = .ok (.iconst 0, 1) := by decide +kernel
theorem dX3_scanWord_114 : decode cX3_scanWord 114 = .ok (.istore_n 2, 1) := by decide +kernel
theorem dX3_scanWord_115 : decode cX3_scanWord 115 = .ok (.goto 48, 3) := by decide +kernel
theorem dX3_scanWord_118 : decode cX3_scanWord 118 = .ok (.iload_n 2, 1) := by decide +kernel
theorem dX3_scanWord_119 : decode cX3_scanWord 119 = .ok (.ifCond .lt 28, 3) := by decide +kernel
theorem dX3_scanWord_122 : decode cX3_scanWord 122 = .ok (.iload_n 2, 1) := by decide +kernel
theorem dX3_scanWord_123 : decode cX3_scanWord 123 = .ok (.iload_n 1, 1) := by decide +kernel
theorem dX3_scanWord_124 : decode cX3_scanWord 124 = .ok (.if_icmp .ge 23, 3) := by decide +kernel
theorem dX3_scanWord_127 : decode cX3_scanWord 127 = .ok (.aload_n 0, 1) := by decide +kernel
theorem dX3_scanWord_128 : decode cX3_scanWord 128 = .ok (.getfield 29, 3) := by decide +kernel
theorem dX3_scanWord_131 : decode cX3_scanWord 131 = .ok (.aload_n 0, 1) := by decide +kernel
theorem dX3_scanWord_132 : decode cX3_scanWord 132 = .ok (.getfield 130, 3) := by decide +kernel
theorem dX3_scanWord_135 : decode cX3_scanWord 135 = .ok (.iload_n 2, 1) := by decide +kernel
theorem dX3_scanWord_136 : decode cX3_scanWord 136 = .ok (.iadd, 1) := by decide +kernel
theorem dX3_scanWord_137 : decode cX3_scanWord 137 = .ok (.baload, 1) := by decide +kernel
theorem dX3_scanWord_138 : decode cX3_scanWord 138 = .ok (.iload 4, 2) := by decide +kernel
theorem dX3_scanWord_140 : decode cX3_scanWord 140 = .ok (.if_icmp .ne 7, 3) := by decide +kernel
theorem dX3_scanWord_143 : decode cX3_scanWord 143 = .ok (.iconst 1, 1) := by decide +kernel
theorem dX3_scanWord_144 : decode cX3_scanWord 144 = .ok (.goto 4, 3) := by decide +kernel
theorem dX3_scanWord_147 : decode cX3_scanWord 147 = .ok (.iconst 0, 1) := by decide +kernel
theorem dX3_scanWord_148 : decode cX3_scanWord 148 = .ok (.istore 5, 2) := by decide +kernel
theorem dX3_scanWord_150 : decode cX3_scanWord 150 = .ok (.iload 5, 2) := by decide +kernel
theorem dX3_scanWord_152 : decode cX3_scanWord 152 = .ok (.ifCond .eq 9, 3) := by decide +kernel
theorem dX3_scanWord_155 : decode cX3_scanWord 155 = .ok (.iload_n 2, 1) := by decide +kernel
theorem dX3_scanWord_156 : decode cX3_scanWord 156 = .ok (.iconst 1, 1) := by decide +kernel
theorem dX3_scanWord_157 : decode cX3_scanWord 157 = .ok (.iadd, 1) := by decide +kernel
theorem dX3_scanWord_158 : decode cX3_scanWord 158 = .ok (.goto 4, 3) := by decide +kernel
theorem dX3_scanWord_161 : decode cX3_scanWord 161 = .ok (.iconst (-1), 1) := by decide +kernel
theorem dX3_scanWord_162 : decode cX3_scanWord 162 = .ok (.istore_n 2, 1) := by decide +kernel
theorem dX3_scanWord_163 : decode cX3_scanWord 163 = .ok (.iinc 3 1, 3) := by decide +kernel
theorem dX3_scanWord_166 : decode cX3_scanWord 166 = .ok (.goto (-93), 3) := by decide +kernel
theorem dX3_scanWord_169 : decode cX3_scanWord 169 = .ok (.return_, 1) := by decide +kernel
theorem ydX3_scanWord : z_yd yX3_scanWord 0 := ⟨by decide, by decide, by decide +kernel⟩
abbrev rmX3_scanWord : Room := { frames := 4, cells := 0, slots := 0, locals := 85 }
noncomputable def xX3_scanWord_B148 (r73 : Nat → Int32 → Int32 → Int32 → ZH → Option ZH) (l0 : Nat) (l1 : Int32) (l2 : Int32) (l3 : Int32) (s0 : Int32) (h : ZH) : Option ZH := (if s0 = 0 then r73 l0 l1 (-1 : Int32) (l3 + 1) h else r73 l0 l1 (l2 + (1 : Int32)) (l3 + 1) h)
set_option maxHeartbeats 4000000 in
set_option maxRecDepth 100000 in
theorem wX3_scanWord_B148 {Γ : ZG} {p : Program} {l : Launch} {e : Env} {s : State} {m : MethodId} {args : Array Value} {below : List Frame} {meth : Method} {c : Code} (hO : z_OK Γ) (G : z_GG Γ p s m args meth c cX3_scanWord 6 RX3) (hr : meth.sig.returnType = none) (hnm : meth.name = "scanWord") {r : ZH} {r73 : Nat → Int32 → Int32 → Int32 → ZH → Option ZH} (H73 : ∀ (l0 : Nat) (l1 : Int32) (l2 : Int32) (l3 : Int32) (h : ZH), r73 l0 l1 l2 l3 h = some r → z_W Γ p l e rmX3_scanWord s m args below meth c 6 0 0 (MQ below (z_Qc Γ none r) args s rmX3_scanWord.cells rmX3_scanWord.slots (z_A Γ)) 73 [(0, .ref l0), (1, .int l1), (2, .int l2), (3, .int l3)] [] h) : ∀ (l0 : Nat) (l1 : Int32) (l2 : Int32) (l3 : Int32) (s0 : Int32) (h : ZH), xX3_scanWord_B148  r73 l0 l1 l2 l3 s0 h = some r → z_W Γ p l e rmX3_scanWord s m args below meth c 6 0 0 (MQ below (z_Qc Γ none r) args s rmX3_scanWord.cells rmX3_scanWord.slots (z_A Γ)) 148 [(0, .ref l0), (1, .int l1), (2, .int l2), (3, .int l3)] [.int s0] h := by
  intro l0 l1 l2 l3 s0 h hX
  refine z_istore (pc := 148) (lv2 := [(0, .ref l0), (1, .int l1), (2, .int l2), (3, .int l3), (5, .int s0)]) G dX3_scanWord_148 (by decide) rfl rfl ?_
  refine z_iload (pc := 150) G 4 dX3_scanWord_150 rfl ?_
  refine z_if_eq (pc := 152) (tgt := 161) G dX3_scanWord_152 (by decide) (fun hc152 => ?_) (fun hc152 => ?_)
  · have hX := z_it hc152 hX
    refine z_iconst (pc := 161) (v := (-1)) G dX3_scanWord_161 (by decide) ?_
    refine z_istore_n (pc := 162) (lv2 := [(0, .ref l0), (1, .int l1), (2, .int (-1 : Int32)), (3, .int l3), (5, .int s0)]) G dX3_scanWord_162 rfl (by decide) rfl rfl ?_
    refine z_iincw (pc := 163) (w := 1) (lv2 := [(0, .ref l0), (1, .int l1), (2, .int (-1 : Int32)), (3, .int (l3 + 1)), (5, .int s0)]) G 3 dX3_scanWord_163 rfl (by decide) (by decide) rfl rfl ?_
    refine z_goto (pc := 166) (tgt := 73) G dX3_scanWord_166 (by decide) ?_
    refine z_drop (lv2 := [(0, .ref l0), (1, .int l1), (2, .int (-1 : Int32)), (3, .int (l3 + 1))]) [0, 1, 2, 3] rfl ?_
    exact H73 _ _ _ _ _ hX
  · have hX := z_if hc152 hX
    refine z_iload_n (pc := 155) G 2 dX3_scanWord_155 rfl rfl ?_
    refine z_iconst (pc := 156) (v := 1) G dX3_scanWord_156 (by decide) ?_
    refine z_iadd (pc := 157) G dX3_scanWord_157 ?_
    refine z_goto (pc := 158) (tgt := 162) G dX3_scanWord_158 (by decide) ?_
    refine z_istore_n (pc := 162) (lv2 := [(0, .ref l0), (1, .int l1), (2, .int (l2 + (1 : Int32))), (3, .int l3), (5, .int s0)]) G dX3_scanWord_162 rfl (by decide) rfl rfl ?_
    refine z_iincw (pc := 163) (w := 1) (lv2 := [(0, .ref l0), (1, .int l1), (2, .int (l2 + (1 : Int32))), (3, .int (l3 + 1)), (5, .int s0)]) G 3 dX3_scanWord_163 rfl (by decide) (by decide) rfl rfl ?_
    refine z_goto (pc := 166) (tgt := 73) G dX3_scanWord_166 (by decide) ?_
    refine z_drop (lv2 := [(0, .ref l0), (1, .int l1), (2, .int (l2 + (1 : Int32))), (3, .int (l3 + 1))]) [0, 1, 2, 3] rfl ?_
    exact H73 _ _ _ _ _ hX
noncomputable def xX3_scanWord_B147 (r73 : Nat → Int32 → Int32 → Int32 → ZH → Option ZH) (l0 : Nat) (l1 : Int32) (l2 : Int32) (l3 : Int32) (h : ZH) : Option ZH := xX3_scanWord_B148 r73 l0 l1 l2 l3 (0 : Int32) h
set_option maxHeartbeats 4000000 in
set_option maxRecDepth 100000 in
theorem wX3_scanWord_B147 {Γ : ZG} {p : Program} {l : Launch} {e : Env} {s : State} {m : MethodId} {args : Array Value} {below : List Frame} {meth : Method} {c : Code} (hO : z_OK Γ) (G : z_GG Γ p s m args meth c cX3_scanWord 6 RX3) (hr : meth.sig.returnType = none) (hnm : meth.name = "scanWord") {r : ZH} {r73 : Nat → Int32 → Int32 → Int32 → ZH → Option ZH} (H73 : ∀ (l0 : Nat) (l1 : Int32) (l2 : Int32) (l3 : Int32) (h : ZH), r73 l0 l1 l2 l3 h = some r → z_W Γ p l e rmX3_scanWord s m args below meth c 6 0 0 (MQ below (z_Qc Γ none r) args s rmX3_scanWord.cells rmX3_scanWord.slots (z_A Γ)) 73 [(0, .ref l0), (1, .int l1), (2, .int l2), (3, .int l3)] [] h) : ∀ (l0 : Nat) (l1 : Int32) (l2 : Int32) (l3 : Int32) (h : ZH), xX3_scanWord_B147  r73 l0 l1 l2 l3 h = some r → z_W Γ p l e rmX3_scanWord s m args below meth c 6 0 0 (MQ below (z_Qc Γ none r) args s rmX3_scanWord.cells rmX3_scanWord.slots (z_A Γ)) 147 [(0, .ref l0), (1, .int l1), (2, .int l2), (3, .int l3)] [] h := by
  intro l0 l1 l2 l3 h hX
  refine z_iconst (pc := 147) (v := 0) G dX3_scanWord_147 (by decide) ?_
  exact wX3_scanWord_B148 hO G hr hnm H73 _ _ _ _ _ _ hX
noncomputable def xX3_scanWord_B73 (r73 : Nat → Int32 → Int32 → Int32 → ZH → Option ZH) (l0 : Nat) (l1 : Int32) (l2 : Int32) (l3 : Int32) (h : ZH) : Option ZH := (z_gu (z_is h 3 50) ((xJ0_length_8abf5 3 h).bind fun r76 => (if r76.1 ≤ l3 then some r76.2 else (z_gu (z_is r76.2 3 50) ((xJ0_charAt_5068e 3 l3 r76.2).bind fun r85 => (if r85.1 = (32 : Int32) then (if l2 = l1 then some r85.2 else ((z_gI r85.2 l0 3 8).bind fun x105 => ((z_sF r85.2 l0 3 8 (.int (x105 + (1 : Int32)))).bind fun h110 => r73 l0 l1 (0 : Int32) (l3 + 1) h110))) else (if l2 < 0 then xX3_scanWord_B147 r73 l0 l1 l2 l3 r85.2 else (if l1 ≤ l2 then xX3_scanWord_B147 r73 l0 l1 l2 l3 r85.2 else ((z_gR r85.2 l0 3 3).bind fun x128 => ((z_gI r85.2 l0 3 5).bind fun x132 => ((z_aB r85.2 x128 (x132 + l2)).bind fun x137 => (if x137 = r85.1 then xX3_scanWord_B148 r73 l0 l1 l2 l3 (1 : Int32) r85.2 else xX3_scanWord_B147 r73 l0 l1 l2 l3 r85.2))))))))))))
noncomputable def xX3_scanWord_L73 (n : Nat) : Nat → Int32 → Int32 → Int32 → ZH → Option ZH := Nat.rec (motive := fun _ => Nat → Int32 → Int32 → Int32 → ZH → Option ZH) (fun _ _ _ _ _ => none) (fun _ rec => xX3_scanWord_B73  rec) n
set_option maxHeartbeats 4000000 in
set_option maxRecDepth 100000 in
theorem wX3_scanWord_B73 {Γ : ZG} {p : Program} {l : Launch} {e : Env} {s : State} {m : MethodId} {args : Array Value} {below : List Frame} {meth : Method} {c : Code} (hO : z_OK Γ) (G : z_GG Γ p s m args meth c cX3_scanWord 6 RX3) (hr : meth.sig.returnType = none) (hnm : meth.name = "scanWord") {r : ZH} {r73 : Nat → Int32 → Int32 → Int32 → ZH → Option ZH} (H73 : ∀ (l0 : Nat) (l1 : Int32) (l2 : Int32) (l3 : Int32) (h : ZH), r73 l0 l1 l2 l3 h = some r → z_W Γ p l e rmX3_scanWord s m args below meth c 6 0 0 (MQ below (z_Qc Γ none r) args s rmX3_scanWord.cells rmX3_scanWord.slots (z_A Γ)) 73 [(0, .ref l0), (1, .int l1), (2, .int l2), (3, .int l3)] [] h) : ∀ (l0 : Nat) (l1 : Int32) (l2 : Int32) (l3 : Int32) (h : ZH), xX3_scanWord_B73  r73 l0 l1 l2 l3 h = some r → z_W Γ p l e rmX3_scanWord s m args below meth c 6 0 0 (MQ below (z_Qc Γ none r) args s rmX3_scanWord.cells rmX3_scanWord.slots (z_A Γ)) 73 [(0, .ref l0), (1, .int l1), (2, .int l2), (3, .int l3)] [] h := by
  intro l0 l1 l2 l3 h hX
  refine z_iload_n (pc := 73) G 3 dX3_scanWord_73 rfl rfl ?_
  refine z_ldcW (pc := 74) G dX3_scanWord_74 ?_
  obtain ⟨hi76, hX⟩ := z_gu_s hX
  obtain ⟨r76, hv76, hX⟩ := z_bd hX
  refine z_cVSI (pc := 76) (As := []) (c2 := 0) (s2 := 0) G (lJ0_length_8abf5 hO hv76) hi76 kt_527 kt_13 kt_524 kt_525 kt_526 ydJ0_length_8abf5 ⟨by decide, by decide⟩ rfl (Nat.le_of_ble_eq_true rfl) ⟨rfl, rfl⟩ ⟨by decide, by decide⟩ rfl dX3_scanWord_76 ?_
  refine z_icmp_ge (pc := 79) (tgt := 169) G dX3_scanWord_79 (by decide) (fun hc79 => ?_) (fun hc79 => ?_)
  · have hX := z_it hc79 hX
    exact z_vretX (pc := 169) hX G hr dX3_scanWord_169 (by decide) (by decide)
  · have hX := z_if hc79 hX
    refine z_ldcW (pc := 82) G dX3_scanWord_82 ?_
    refine z_iload_n (pc := 84) G 3 dX3_scanWord_84 rfl rfl ?_
    obtain ⟨hi85, hX⟩ := z_gu_s hX
    obtain ⟨r85, hv85, hX⟩ := z_bd hX
    refine z_cVSI (pc := 85) (As := [.int l3]) (c2 := 0) (s2 := 0) G (lJ0_charAt_5068e hO hv85) hi85 kt_537 kt_13 kt_534 kt_535 kt_536 ydJ0_charAt_5068e ⟨by decide, by decide⟩ rfl (Nat.le_of_ble_eq_true rfl) ⟨rfl, rfl⟩ ⟨by decide, by decide⟩ rfl dX3_scanWord_85 ?_
    refine z_istore (pc := 88) (lv2 := [(0, .ref l0), (1, .int l1), (2, .int l2), (3, .int l3), (4, .int r85.1)]) G dX3_scanWord_88 (by decide) rfl rfl ?_
    refine z_iload (pc := 90) G 4 dX3_scanWord_90 rfl ?_
    refine z_bipush (pc := 92) (v := 32) G dX3_scanWord_92 (by decide) ?_
    refine z_icmp_ne (pc := 94) (tgt := 118) G dX3_scanWord_94 (by decide) (fun hc94 => ?_) (fun hc94 => ?_)
    · have hX := z_if hc94 hX
      refine z_iload_n (pc := 118) G 2 dX3_scanWord_118 rfl rfl ?_
      refine z_if_lt (pc := 119) (tgt := 147) G dX3_scanWord_119 (by decide) (fun hc119 => ?_) (fun hc119 => ?_)
      · have hX := z_it hc119 hX
        refine z_drop (lv2 := [(0, .ref l0), (1, .int l1), (2, .int l2), (3, .int l3)]) [0, 1, 2, 3] rfl ?_
        exact wX3_scanWord_B147 hO G hr hnm H73 _ _ _ _ _ hX
      · have hX := z_if hc119 hX
        refine z_iload_n (pc := 122) G 2 dX3_scanWord_122 rfl rfl ?_
        refine z_iload_n (pc := 123) G 1 dX3_scanWord_123 rfl rfl ?_
        refine z_icmp_ge (pc := 124) (tgt := 147) G dX3_scanWord_124 (by decide) (fun hc124 => ?_) (fun hc124 => ?_)
        · have hX := z_it hc124 hX
          refine z_drop (lv2 := [(0, .ref l0), (1, .int l1), (2, .int l2), (3, .int l3)]) [0, 1, 2, 3] rfl ?_
          exact wX3_scanWord_B147 hO G hr hnm H73 _ _ _ _ _ hX
        · have hX := z_if hc124 hX
          refine z_aload_n (pc := 127) G 0 dX3_scanWord_127 rfl rfl ?_
          obtain ⟨x128, hv128, hX⟩ := z_bd hX
          refine z_getR (pc := 128) G kK3 (k := 3) (by decide) kt_143 dX3_scanWord_128 hv128 ?_
          refine z_aload_n (pc := 131) G 0 dX3_scanWord_131 rfl rfl ?_
          obtain ⟨x132, hv132, hX⟩ := z_bd hX
          refine z_getI (pc := 132) G kK3 (k := 5) (by decide) kt_145 dX3_scanWord_132 hv132 ?_
          refine z_iload_n (pc := 135) G 2 dX3_scanWord_135 rfl rfl ?_
          refine z_iadd (pc := 136) G dX3_scanWord_136 ?_
          obtain ⟨x137, hv137, hX⟩ := z_bd hX
          refine z_bald (pc := 137) G dX3_scanWord_137 hv137 ?_
          refine z_iload (pc := 138) G 4 dX3_scanWord_138 rfl ?_
          refine z_icmp_ne (pc := 140) (tgt := 147) G dX3_scanWord_140 (by decide) (fun hc140 => ?_) (fun hc140 => ?_)
          · have hX := z_if hc140 hX
            refine z_drop (lv2 := [(0, .ref l0), (1, .int l1), (2, .int l2), (3, .int l3)]) [0, 1, 2, 3] rfl ?_
            exact wX3_scanWord_B147 hO G hr hnm H73 _ _ _ _ _ hX
          · have hX := z_it hc140 hX
            refine z_iconst (pc := 143) (v := 1) G dX3_scanWord_143 (by decide) ?_
            refine z_goto (pc := 144) (tgt := 148) G dX3_scanWord_144 (by decide) ?_
            refine z_drop (lv2 := [(0, .ref l0), (1, .int l1), (2, .int l2), (3, .int l3)]) [0, 1, 2, 3] rfl ?_
            exact wX3_scanWord_B148 hO G hr hnm H73 _ _ _ _ _ _ hX
    · have hX := z_it hc94 hX
      refine z_iload_n (pc := 97) G 2 dX3_scanWord_97 rfl rfl ?_
      refine z_iload_n (pc := 98) G 1 dX3_scanWord_98 rfl rfl ?_
      refine z_icmp_ne (pc := 99) (tgt := 103) G dX3_scanWord_99 (by decide) (fun hc99 => ?_) (fun hc99 => ?_)
      · have hX := z_if hc99 hX
        refine z_aload_n (pc := 103) G 0 dX3_scanWord_103 rfl rfl ?_
        refine z_dup (pc := 104) G dX3_scanWord_104 rfl ?_
        obtain ⟨x105, hv105, hX⟩ := z_bd hX
        refine z_getI (pc := 105) G kK3 (k := 8) (by decide) kt_148 dX3_scanWord_105 hv105 ?_
        refine z_iconst (pc := 108) (v := 1) G dX3_scanWord_108 (by decide) ?_
        refine z_iadd (pc := 109) G dX3_scanWord_109 ?_
        obtain ⟨h110, hv110, hX⟩ := z_bd hX
        refine z_putF (pc := 110) G kK3 (k := 8) (by decide) kt_148 (Or.inl rfl) rfl rfl dX3_scanWord_110 hv110 ?_
        refine z_iconst (pc := 113) (v := 0) G dX3_scanWord_113 (by decide) ?_
        refine z_istore_n (pc := 114) (lv2 := [(0, .ref l0), (1, .int l1), (2, .int (0 : Int32)), (3, .int l3), (4, .int r85.1)]) G dX3_scanWord_114 rfl (by decide) rfl rfl ?_
        refine z_goto (pc := 115) (tgt := 163) G dX3_scanWord_115 (by decide) ?_
        refine z_iincw (pc := 163) (w := 1) (lv2 := [(0, .ref l0), (1, .int l1), (2, .int (0 : Int32)), (3, .int (l3 + 1)), (4, .int r85.1)]) G 3 dX3_scanWord_163 rfl (by decide) (by decide) rfl rfl ?_
        refine z_goto (pc := 166) (tgt := 73) G dX3_scanWord_166 (by decide) ?_
        refine z_drop (lv2 := [(0, .ref l0), (1, .int l1), (2, .int (0 : Int32)), (3, .int (l3 + 1))]) [0, 1, 2, 3] rfl ?_
        exact H73 _ _ _ _ _ hX
      · have hX := z_it hc99 hX
        exact z_vretX (pc := 102) hX G hr dX3_scanWord_102 (by decide) (by decide)
set_option maxHeartbeats 4000000 in
set_option maxRecDepth 100000 in
theorem wX3_scanWord_L73 {Γ : ZG} {p : Program} {l : Launch} {e : Env} {s : State} {m : MethodId} {args : Array Value} {below : List Frame} {meth : Method} {c : Code} (hO : z_OK Γ) (G : z_GG Γ p s m args meth c cX3_scanWord 6 RX3) (hr : meth.sig.returnType = none) (hnm : meth.name = "scanWord") {r : ZH} : ∀ (nn : Nat) (l0 : Nat) (l1 : Int32) (l2 : Int32) (l3 : Int32) (h : ZH), xX3_scanWord_L73  nn l0 l1 l2 l3 h = some r → z_W Γ p l e rmX3_scanWord s m args below meth c 6 0 0 (MQ below (z_Qc Γ none r) args s rmX3_scanWord.cells rmX3_scanWord.slots (z_A Γ)) 73 [(0, .ref l0), (1, .int l1), (2, .int l2), (3, .int l3)] [] h := by
  intro nn
  induction nn with
  | zero => intro l0 l1 l2 l3 h hX; cases hX
  | succ nn ih => intro l0 l1 l2 l3 h hX; exact wX3_scanWord_B73 hO G hr hnm  ih l0 l1 l2 l3 h hX
noncomputable def xX3_scanWord_B39 (l0 : Nat) (h : ZH) : Option ZH := ((z_gI h l0 3 6).bind fun x40 => ((z_gI h l0 3 5).bind fun x44 => (if (x40 - x44) ≤ (8 : Int32) then ((z_sF h l0 3 7 (.int (1 : Int32))).bind fun h61 => ((z_sF h61 l0 3 8 (.int (0 : Int32))).bind fun h66 => xX3_scanWord_L73 zFU l0 (x40 - x44) (0 : Int32) (0 : Int32) h66)) else ((z_sF h l0 3 7 (.int (4 : Int32))).bind fun h61 => ((z_sF h61 l0 3 8 (.int (0 : Int32))).bind fun h66 => xX3_scanWord_L73 zFU l0 (x40 - x44) (0 : Int32) (0 : Int32) h66)))))
set_option maxHeartbeats 4000000 in
set_option maxRecDepth 100000 in
theorem wX3_scanWord_B39 {Γ : ZG} {p : Program} {l : Launch} {e : Env} {s : State} {m : MethodId} {args : Array Value} {below : List Frame} {meth : Method} {c : Code} (hO : z_OK Γ) (G : z_GG Γ p s m args meth c cX3_scanWord 6 RX3) (hr : meth.sig.returnType = none) (hnm : meth.name = "scanWord") {r : ZH} : ∀ (l0 : Nat) (h : ZH), xX3_scanWord_B39  l0 h = some r → z_W Γ p l e rmX3_scanWord s m args below meth c 6 0 0 (MQ below (z_Qc Γ none r) args s rmX3_scanWord.cells rmX3_scanWord.slots (z_A Γ)) 39 [(0, .ref l0)] [] h := by
  intro l0 h hX
  refine z_aload_n (pc := 39) G 0 dX3_scanWord_39 rfl rfl ?_
  obtain ⟨x40, hv40, hX⟩ := z_bd hX
  refine z_getI (pc := 40) G kK3 (k := 6) (by decide) kt_146 dX3_scanWord_40 hv40 ?_
  refine z_aload_n (pc := 43) G 0 dX3_scanWord_43 rfl rfl ?_
  obtain ⟨x44, hv44, hX⟩ := z_bd hX
  refine z_getI (pc := 44) G kK3 (k := 5) (by decide) kt_145 dX3_scanWord_44 hv44 ?_
  refine z_isub (pc := 47) G dX3_scanWord_47 ?_
  refine z_istore_n (pc := 48) (lv2 := [(0, .ref l0), (1, .int (x40 - x44))]) G dX3_scanWord_48 rfl (by decide) rfl rfl ?_
  refine z_aload_n (pc := 49) G 0 dX3_scanWord_49 rfl rfl ?_
  refine z_iload_n (pc := 50) G 1 dX3_scanWord_50 rfl rfl ?_
  refine z_bipush (pc := 51) (v := 8) G dX3_scanWord_51 (by decide) ?_
  refine z_icmp_le (pc := 53) (tgt := 60) G dX3_scanWord_53 (by decide) (fun hc53 => ?_) (fun hc53 => ?_)
  · have hX := z_it hc53 hX
    refine z_iconst (pc := 60) (v := 1) G dX3_scanWord_60 (by decide) ?_
    obtain ⟨h61, hv61, hX⟩ := z_bd hX
    refine z_putF (pc := 61) G kK3 (k := 7) (by decide) kt_147 (Or.inl rfl) rfl rfl dX3_scanWord_61 hv61 ?_
    refine z_aload_n (pc := 64) G 0 dX3_scanWord_64 rfl rfl ?_
    refine z_iconst (pc := 65) (v := 0) G dX3_scanWord_65 (by decide) ?_
    obtain ⟨h66, hv66, hX⟩ := z_bd hX
    refine z_putF (pc := 66) G kK3 (k := 8) (by decide) kt_148 (Or.inl rfl) rfl rfl dX3_scanWord_66 hv66 ?_
    refine z_iconst (pc := 69) (v := 0) G dX3_scanWord_69 (by decide) ?_
    refine z_istore_n (pc := 70) (lv2 := [(0, .ref l0), (1, .int (x40 - x44)), (2, .int (0 : Int32))]) G dX3_scanWord_70 rfl (by decide) rfl rfl ?_
    refine z_iconst (pc := 71) (v := 0) G dX3_scanWord_71 (by decide) ?_
    refine z_istore_n (pc := 72) (lv2 := [(0, .ref l0), (1, .int (x40 - x44)), (2, .int (0 : Int32)), (3, .int (0 : Int32))]) G dX3_scanWord_72 rfl (by decide) rfl rfl ?_
    exact wX3_scanWord_L73 hO G hr hnm zFU _ _ _ _ _ hX
  · have hX := z_if hc53 hX
    refine z_iconst (pc := 56) (v := 4) G dX3_scanWord_56 (by decide) ?_
    refine z_goto (pc := 57) (tgt := 61) G dX3_scanWord_57 (by decide) ?_
    obtain ⟨h61, hv61, hX⟩ := z_bd hX
    refine z_putF (pc := 61) G kK3 (k := 7) (by decide) kt_147 (Or.inl rfl) rfl rfl dX3_scanWord_61 hv61 ?_
    refine z_aload_n (pc := 64) G 0 dX3_scanWord_64 rfl rfl ?_
    refine z_iconst (pc := 65) (v := 0) G dX3_scanWord_65 (by decide) ?_
    obtain ⟨h66, hv66, hX⟩ := z_bd hX
    refine z_putF (pc := 66) G kK3 (k := 8) (by decide) kt_148 (Or.inl rfl) rfl rfl dX3_scanWord_66 hv66 ?_
    refine z_iconst (pc := 69) (v := 0) G dX3_scanWord_69 (by decide) ?_
    refine z_istore_n (pc := 70) (lv2 := [(0, .ref l0), (1, .int (x40 - x44)), (2, .int (0 : Int32))]) G dX3_scanWord_70 rfl (by decide) rfl rfl ?_
    refine z_iconst (pc := 71) (v := 0) G dX3_scanWord_71 (by decide) ?_
    refine z_istore_n (pc := 72) (lv2 := [(0, .ref l0), (1, .int (x40 - x44)), (2, .int (0 : Int32)), (3, .int (0 : Int32))]) G dX3_scanWord_72 rfl (by decide) rfl rfl ?_
    exact wX3_scanWord_L73 hO G hr hnm zFU _ _ _ _ _ hX
noncomputable def xX3_scanWord_B0 (r0 : Nat → ZH → Option ZH) (l0 : Nat) (h : ZH) : Option ZH := ((z_gI h l0 3 6).bind fun x1 => ((z_gI h l0 3 4).bind fun x5 => (if x5 ≤ x1 then xX3_scanWord_B39 l0 h else ((z_gR h l0 3 3).bind fun x12 => ((z_gI h l0 3 6).bind fun x16 => ((z_aB h x12 x16).bind fun x19 => ((xX3_isLetter x19 h).bind fun r20 => (if r20.1 = 0 then xX3_scanWord_B39 l0 r20.2 else ((z_gI r20.2 l0 3 6).bind fun x28 => ((z_sF r20.2 l0 3 6 (.int (x28 + (1 : Int32)))).bind fun h33 => r0 l0 h33))))))))))
noncomputable def xX3_scanWord_L0 (n : Nat) : Nat → ZH → Option ZH := Nat.rec (motive := fun _ => Nat → ZH → Option ZH) (fun _ _ => none) (fun _ rec => xX3_scanWord_B0  rec) n
set_option maxHeartbeats 4000000 in
set_option maxRecDepth 100000 in
theorem wX3_scanWord_B0 {Γ : ZG} {p : Program} {l : Launch} {e : Env} {s : State} {m : MethodId} {args : Array Value} {below : List Frame} {meth : Method} {c : Code} (hO : z_OK Γ) (G : z_GG Γ p s m args meth c cX3_scanWord 6 RX3) (hr : meth.sig.returnType = none) (hnm : meth.name = "scanWord") {r : ZH} {r0 : Nat → ZH → Option ZH} (H0 : ∀ (l0 : Nat) (h : ZH), r0 l0 h = some r → z_W Γ p l e rmX3_scanWord s m args below meth c 6 0 0 (MQ below (z_Qc Γ none r) args s rmX3_scanWord.cells rmX3_scanWord.slots (z_A Γ)) 0 [(0, .ref l0)] [] h) : ∀ (l0 : Nat) (h : ZH), xX3_scanWord_B0  r0 l0 h = some r → z_W Γ p l e rmX3_scanWord s m args below meth c 6 0 0 (MQ below (z_Qc Γ none r) args s rmX3_scanWord.cells rmX3_scanWord.slots (z_A Γ)) 0 [(0, .ref l0)] [] h := by
  intro l0 h hX
  refine z_aload_n (pc := 0) G 0 dX3_scanWord_0 rfl rfl ?_
  obtain ⟨x1, hv1, hX⟩ := z_bd hX
  refine z_getI (pc := 1) G kK3 (k := 6) (by decide) kt_146 dX3_scanWord_1 hv1 ?_
  refine z_aload_n (pc := 4) G 0 dX3_scanWord_4 rfl rfl ?_
  obtain ⟨x5, hv5, hX⟩ := z_bd hX
  refine z_getI (pc := 5) G kK3 (k := 4) (by decide) kt_144 dX3_scanWord_5 hv5 ?_
  refine z_icmp_ge (pc := 8) (tgt := 39) G dX3_scanWord_8 (by decide) (fun hc8 => ?_) (fun hc8 => ?_)
  · have hX := z_it hc8 hX
    exact wX3_scanWord_B39 hO G hr hnm _ _ hX
  · have hX := z_if hc8 hX
    refine z_aload_n (pc := 11) G 0 dX3_scanWord_11 rfl rfl ?_
    obtain ⟨x12, hv12, hX⟩ := z_bd hX
    refine z_getR (pc := 12) G kK3 (k := 3) (by decide) kt_143 dX3_scanWord_12 hv12 ?_
    refine z_aload_n (pc := 15) G 0 dX3_scanWord_15 rfl rfl ?_
    obtain ⟨x16, hv16, hX⟩ := z_bd hX
    refine z_getI (pc := 16) G kK3 (k := 6) (by decide) kt_146 dX3_scanWord_16 hv16 ?_
    obtain ⟨x19, hv19, hX⟩ := z_bd hX
    refine z_bald (pc := 19) G dX3_scanWord_19 hv19 ?_
    obtain ⟨r20, hv20, hX⟩ := z_bd hX
    refine z_cSI (pc := 20) (As := [.int x19]) (c2 := 0) (s2 := 0) G (lX3_isLetter hO hv20) kt_518 kt_2 kt_516 kt_517 ydX3_isLetter ⟨by decide, by decide⟩ rfl (Nat.le_of_ble_eq_true rfl) ⟨rfl, rfl⟩ ⟨by decide, by decide⟩ rfl dX3_scanWord_20 ?_
    refine z_if_eq (pc := 23) (tgt := 39) G dX3_scanWord_23 (by decide) (fun hc23 => ?_) (fun hc23 => ?_)
    · have hX := z_it hc23 hX
      exact wX3_scanWord_B39 hO G hr hnm _ _ hX
    · have hX := z_if hc23 hX
      refine z_aload_n (pc := 26) G 0 dX3_scanWord_26 rfl rfl ?_
      refine z_dup (pc := 27) G dX3_scanWord_27 rfl ?_
      obtain ⟨x28, hv28, hX⟩ := z_bd hX
      refine z_getI (pc := 28) G kK3 (k := 6) (by decide) kt_146 dX3_scanWord_28 hv28 ?_
      refine z_iconst (pc := 31) (v := 1) G dX3_scanWord_31 (by decide) ?_
      refine z_iadd (pc := 32) G dX3_scanWord_32 ?_
      obtain ⟨h33, hv33, hX⟩ := z_bd hX
      refine z_putF (pc := 33) G kK3 (k := 6) (by decide) kt_146 (Or.inl rfl) rfl rfl dX3_scanWord_33 hv33 ?_
      refine z_goto (pc := 36) (tgt := 0) G dX3_scanWord_36 (by decide) ?_
      exact H0 _ _ hX
set_option maxHeartbeats 4000000 in
set_option maxRecDepth 100000 in
theorem wX3_scanWord_L0 {Γ : ZG} {p : Program} {l : Launch} {e : Env} {s : State} {m : MethodId} {args : Array Value} {below : List Frame} {meth : Method} {c : Code} (hO : z_OK Γ) (G : z_GG Γ p s m args meth c cX3_scanWord 6 RX3) (hr : meth.sig.returnType = none) (hnm : meth.name = "scanWord") {r : ZH} : ∀ (nn : Nat) (l0 : Nat) (h : ZH), xX3_scanWord_L0  nn l0 h = some r → z_W Γ p l e rmX3_scanWord s m args below meth c 6 0 0 (MQ below (z_Qc Γ none r) args s rmX3_scanWord.cells rmX3_scanWord.slots (z_A Γ)) 0 [(0, .ref l0)] [] h := by
  intro nn
  induction nn with
  | zero => intro l0 h hX; cases hX
  | succ nn ih => intro l0 h hX; exact wX3_scanWord_B0 hO G hr hnm  ih l0 h hX
noncomputable def xX3_scanWord (l0 : Nat) (h : ZH) : Option ZH := xX3_scanWord_L0 zFU l0 h
set_option maxHeartbeats 4000000 in
set_option maxRecDepth 100000 in
theorem lX3_scanWord {Γ : ZG} {l : Launch} (hO : z_OK Γ) {l0 : Nat} {h : ZH} {r : ZH} (hX : xX3_scanWord l0 h = some r) : z_M Γ l yX3_scanWord (z_ws1 yX3_scanWord cX3_scanWord 6 none) rmX3_scanWord [.ref l0] h none r := by
  refine z_start hO (plainFor_of_name (by decide)) (Nat.le_of_ble_eq_true rfl) ?_
  intro p e s m args below meth c G hr hnm
  refine z_lvc (lv2 := [(0, .ref l0)]) rfl ?_
  exact wX3_scanWord_L0 hO G hr hnm zFU _ _ hX
theorem dJ9_max_7cf53_0 : decode cJ9_max_7cf53 0 = .ok (.iload_n 0, 1) := by decide +kernel
theorem dJ9_max_7cf53_1 : decode cJ9_max_7cf53 1 = .ok (.iload_n 1, 1) := by decide +kernel
theorem dJ9_max_7cf53_2 : decode cJ9_max_7cf53 2 = .ok (.if_icmp .lt 7, 3) := by decide +kernel
theorem dJ9_max_7cf53_5 : decode cJ9_max_7cf53 5 = .ok (.iload_n 0, 1) := by decide +kernel
theorem dJ9_max_7cf53_6 : decode cJ9_max_7cf53 6 = .ok (.goto 4, 3) := by decide +kernel
theorem dJ9_max_7cf53_9 : decode cJ9_max_7cf53 9 = .ok (.iload_n 1, 1) := by decide +kernel
theorem dJ9_max_7cf53_10 : decode cJ9_max_7cf53 10 = .ok (.ireturn, 1) := by decide +kernel
theorem ydJ9_max_7cf53 : z_yd yJ9_max_7cf53 2 := ⟨by decide, by decide, by decide +kernel⟩
abbrev rmJ9_max_7cf53 : Room := { frames := 0, cells := 0, slots := 0, locals := 0 }
noncomputable def xJ9_max_7cf53 (l0 : Int32) (l1 : Int32) (h : ZH) : Option (Int32 × ZH) := (if l0 < l1 then some (l1, h) else some (l0, h))
set_option maxHeartbeats 4000000 in
set_option maxRecDepth 100000 in
theorem lJ9_max_7cf53 {Γ : ZG} {l : Launch} (hO : z_OK Γ) {l0 : Int32} {l1 : Int32} {h : ZH} {r : (Int32 × ZH)} (hX : xJ9_max_7cf53 l0 l1 h = some r) : z_M Γ l yJ9_max_7cf53 (z_ws1 yJ9_max_7cf53 cJ9_max_7cf53 2 (some .int)) rmJ9_max_7cf53 [.int l0, .int l1] h (some (.int r.1)) r.2 := by
  refine z_start hO (by decide +kernel) (Nat.le_of_ble_eq_true rfl) ?_
  intro p e s m args below meth c G hr hnm
  refine z_lvc (lv2 := [(0, .int l0), (1, .int l1)]) rfl ?_
  refine z_iload_n (pc := 0) G 0 dJ9_max_7cf53_0 rfl rfl ?_
  refine z_iload_n (pc := 1) G 1 dJ9_max_7cf53_1 rfl rfl ?_
  refine z_icmp_lt (pc := 2) (tgt := 9) G dJ9_max_7cf53_2 (by decide) (fun hc2 => ?_) (fun hc2 => ?_)
  · have hX := z_it hc2 hX
    refine z_iload_n (pc := 9) G 1 dJ9_max_7cf53_9 rfl rfl ?_
    exact z_iretX (pc := 10) hX G hr dJ9_max_7cf53_10 (by decide) (by decide)
  · have hX := z_if hc2 hX
    refine z_iload_n (pc := 5) G 0 dJ9_max_7cf53_5 rfl rfl ?_
    refine z_goto (pc := 6) (tgt := 10) G dJ9_max_7cf53_6 (by decide) ?_
    exact z_iretX (pc := 10) hX G hr dJ9_max_7cf53_10 (by decide) (by decide)
theorem dJ1_canEncode_9a6ad_0 : decode cJ1_canEncode_9a6ad 0 = .ok (.iload_n 0, 1) := by decide +kernel
theorem dJ1_canEncode_9a6ad_1 : decode cJ1_canEncode_9a6ad 1 = .ok (.ifCond .lt 14, 3) := by decide +kernel
theorem dJ1_canEncode_9a6ad_4 : decode cJ1_canEncode_9a6ad 4 = .ok (.iload_n 0, 1) := by decide +kernel
theorem dJ1_canEncode_9a6ad_5 : decode cJ1_canEncode_9a6ad 5 = .ok (.sipush 255, 3) := by decide +kernel
theorem dJ1_canEncode_9a6ad_8 : decode cJ1_canEncode_9a6ad 8 = .ok (.if_icmp .gt 7, 3) := by decide +kernel
theorem dJ1_canEncode_9a6ad_11 : decode cJ1_canEncode_9a6ad 11 = .ok (.iconst 1, 1) := by decide +kernel
theorem dJ1_canEncode_9a6ad_12 : decode cJ1_canEncode_9a6ad 12 = .ok (.goto 4, 3) := by decide +kernel
theorem dJ1_canEncode_9a6ad_15 : decode cJ1_canEncode_9a6ad 15 = .ok (.iconst 0, 1) := by decide +kernel
theorem dJ1_canEncode_9a6ad_16 : decode cJ1_canEncode_9a6ad 16 = .ok (.ireturn, 1) := by decide +kernel
theorem ydJ1_canEncode_9a6ad : z_yd yJ1_canEncode_9a6ad 1 := ⟨by decide, by decide, by decide +kernel⟩
abbrev rmJ1_canEncode_9a6ad : Room := { frames := 0, cells := 0, slots := 0, locals := 0 }
noncomputable def xJ1_canEncode_9a6ad (l0 : Int32) (h : ZH) : Option (Int32 × ZH) := (if l0 < 0 then some ((0 : Int32), h) else (if (255 : Int32) < l0 then some ((0 : Int32), h) else some ((1 : Int32), h)))
set_option maxHeartbeats 4000000 in
set_option maxRecDepth 100000 in
theorem lJ1_canEncode_9a6ad {Γ : ZG} {l : Launch} (hO : z_OK Γ) {l0 : Int32} {h : ZH} {r : (Int32 × ZH)} (hX : xJ1_canEncode_9a6ad l0 h = some r) : z_M Γ l yJ1_canEncode_9a6ad (z_ws1 yJ1_canEncode_9a6ad cJ1_canEncode_9a6ad 1 (some .boolean)) rmJ1_canEncode_9a6ad [.int l0] h (some (.int r.1)) r.2 := by
  refine z_start hO (by decide +kernel) (Nat.le_of_ble_eq_true rfl) ?_
  intro p e s m args below meth c G hr hnm
  refine z_lvc (lv2 := [(0, .int l0)]) rfl ?_
  refine z_iload_n (pc := 0) G 0 dJ1_canEncode_9a6ad_0 rfl rfl ?_
  refine z_if_lt (pc := 1) (tgt := 15) G dJ1_canEncode_9a6ad_1 (by decide) (fun hc1 => ?_) (fun hc1 => ?_)
  · have hX := z_it hc1 hX
    refine z_iconst (pc := 15) (v := 0) G dJ1_canEncode_9a6ad_15 (by decide) ?_
    exact z_zretX (pc := 16) hX G hr rfl dJ1_canEncode_9a6ad_16 (by decide) (by decide)
  · have hX := z_if hc1 hX
    refine z_iload_n (pc := 4) G 0 dJ1_canEncode_9a6ad_4 rfl rfl ?_
    refine z_sipush (pc := 5) (v := 255) G dJ1_canEncode_9a6ad_5 (by decide) ?_
    refine z_icmp_gt (pc := 8) (tgt := 15) G dJ1_canEncode_9a6ad_8 (by decide) (fun hc8 => ?_) (fun hc8 => ?_)
    · have hX := z_it hc8 hX
      refine z_iconst (pc := 15) (v := 0) G dJ1_canEncode_9a6ad_15 (by decide) ?_
      exact z_zretX (pc := 16) hX G hr rfl dJ1_canEncode_9a6ad_16 (by decide) (by decide)
    · have hX := z_if hc8 hX
      refine z_iconst (pc := 11) (v := 1) G dJ1_canEncode_9a6ad_11 (by decide) ?_
      refine z_goto (pc := 12) (tgt := 16) G dJ1_canEncode_9a6ad_12 (by decide) ?_
      exact z_zretX (pc := 16) hX G hr rfl dJ1_canEncode_9a6ad_16 (by decide) (by decide)
theorem dJ1_indexOfChar_4cfef_0 : decode cJ1_indexOfChar_4cfef 0 = .ok (.iload_n 1, 1) := by decide +kernel
theorem dJ1_indexOfChar_4cfef_1 : decode cJ1_indexOfChar_4cfef 1 = .ok (.i2b, 1) := by decide +kernel
theorem dJ1_indexOfChar_4cfef_2 : decode cJ1_indexOfChar_4cfef 2 = .ok (.istore 4, 2) := by decide +kernel
theorem dJ1_indexOfChar_4cfef_4 : decode cJ1_indexOfChar_4cfef 4 = .ok (.iload_n 2, 1) := by decide +kernel
theorem dJ1_indexOfChar_4cfef_5 : decode cJ1_indexOfChar_4cfef 5 = .ok (.istore 5, 2) := by decide +kernel
theorem dJ1_indexOfChar_4cfef_7 : decode cJ1_indexOfChar_4cfef 7 = .ok (.iload 5, 2) := by decide +kernel
theorem dJ1_indexOfChar_4cfef_9 : decode cJ1_indexOfChar_4cfef 9 = .ok (.iload_n 3, 1) := by decide +kernel
theorem dJ1_indexOfChar_4cfef_10 : decode cJ1_indexOfChar_4cfef 10 = .ok (.if_icmp .ge 21, 3) := by decide +kernel
theorem dJ1_indexOfChar_4cfef_13 : decode cJ1_indexOfChar_4cfef 13 = .ok (.aload_n 0, 1) := by decide +kernel
theorem dJ1_indexOfChar_4cfef_14 : decode cJ1_indexOfChar_4cfef 14 = .ok (.iload 5, 2) := by decide +kernel
theorem dJ1_indexOfChar_4cfef_16 : decode cJ1_indexOfChar_4cfef 16 = .ok (.baload, 1) := by decide +kernel
theorem dJ1_indexOfChar_4cfef_17 : decode cJ1_indexOfChar_4cfef 17 = .ok (.iload 4, 2) := by decide +kernel
theorem dJ1_indexOfChar_4cfef_19 : decode cJ1_indexOfChar_4cfef 19 = .ok (.if_icmp .ne 6, 3) := by decide +kernel
theorem dJ1_indexOfChar_4cfef_22 : decode cJ1_indexOfChar_4cfef 22 = .ok (.iload 5, 2) := by decide +kernel
theorem dJ1_indexOfChar_4cfef_24 : decode cJ1_indexOfChar_4cfef 24 = .ok (.ireturn, 1) := by decide +kernel
theorem dJ1_indexOfChar_4cfef_25 : decode cJ1_indexOfChar_4cfef 25 = .ok (.iinc 5 1, 3) := by decide +kernel
theorem dJ1_indexOfChar_4cfef_28 : decode cJ1_indexOfChar_4cfef 28 = .ok (.goto (-21), 3) := by decide +kernel
theorem dJ1_indexOfChar_4cfef_31 : decode cJ1_indexOfChar_4cfef 31 = .ok (.iconst (-1), 1) := by decide +kernel
theorem dJ1_indexOfChar_4cfef_32 : decode cJ1_indexOfChar_4cfef 32 = .ok (.ireturn, 1) := by decide +kernel
theorem ydJ1_indexOfChar_4cfef : z_yd yJ1_indexOfChar_4cfef 4 := ⟨by decide, by decide, by decide +kernel⟩
abbrev rmJ1_indexOfChar_4cfef : Room := { frames := 0, cells := 0, slots := 0, locals := 0 }
noncomputable def xJ1_indexOfChar_4cfef_B7 (r7 : Nat → Int32 → Int32 → Int32 → ZH → Option (Int32 × ZH)) (l0 : Nat) (l3 : Int32) (l4 : Int32) (l5 : Int32) (h : ZH) : Option (Int32 × ZH) := (if l3 ≤ l5 then some ((-1 : Int32), h) else ((z_aB h l0 l5).bind fun x16 => (if x16 = l4 then some (l5, h) else r7 l0 l3 l4 (l5 + 1) h)))
noncomputable def xJ1_indexOfChar_4cfef_L7 (n : Nat) : Nat → Int32 → Int32 → Int32 → ZH → Option (Int32 × ZH) := Nat.rec (motive := fun _ => Nat → Int32 → Int32 → Int32 → ZH → Option (Int32 × ZH)) (fun _ _ _ _ _ => none) (fun _ rec => xJ1_indexOfChar_4cfef_B7  rec) n
set_option maxHeartbeats 4000000 in
set_option maxRecDepth 100000 in
theorem wJ1_indexOfChar_4cfef_B7 {Γ : ZG} {p : Program} {l : Launch} {e : Env} {s : State} {m : MethodId} {args : Array Value} {below : List Frame} {meth : Method} {c : Code} (hO : z_OK Γ) (G : z_GG Γ p s m args meth c cJ1_indexOfChar_4cfef 6 RJ1) (hr : meth.sig.returnType = (some .int)) (hnm : meth.name = "indexOfChar") {r : (Int32 × ZH)} {r7 : Nat → Int32 → Int32 → Int32 → ZH → Option (Int32 × ZH)} (H7 : ∀ (l0 : Nat) (l3 : Int32) (l4 : Int32) (l5 : Int32) (h : ZH), r7 l0 l3 l4 l5 h = some r → z_W Γ p l e rmJ1_indexOfChar_4cfef s m args below meth c 6 0 0 (MQ below (z_Qc Γ (some (.int r.1)) r.2) args s rmJ1_indexOfChar_4cfef.cells rmJ1_indexOfChar_4cfef.slots (z_A Γ)) 7 [(0, .ref l0), (3, .int l3), (4, .int l4), (5, .int l5)] [] h) : ∀ (l0 : Nat) (l3 : Int32) (l4 : Int32) (l5 : Int32) (h : ZH), xJ1_indexOfChar_4cfef_B7  r7 l0 l3 l4 l5 h = some r → z_W Γ p l e rmJ1_indexOfChar_4cfef s m args below meth c 6 0 0 (MQ below (z_Qc Γ (some (.int r.1)) r.2) args s rmJ1_indexOfChar_4cfef.cells rmJ1_indexOfChar_4cfef.slots (z_A Γ)) 7 [(0, .ref l0), (3, .int l3), (4, .int l4), (5, .int l5)] [] h := by
  intro l0 l3 l4 l5 h hX
  refine z_iload (pc := 7) G 3 dJ1_indexOfChar_4cfef_7 rfl ?_
  refine z_iload_n (pc := 9) G 1 dJ1_indexOfChar_4cfef_9 rfl rfl ?_
  refine z_icmp_ge (pc := 10) (tgt := 31) G dJ1_indexOfChar_4cfef_10 (by decide) (fun hc10 => ?_) (fun hc10 => ?_)
  · have hX := z_it hc10 hX
    refine z_iconst (pc := 31) (v := (-1)) G dJ1_indexOfChar_4cfef_31 (by decide) ?_
    exact z_iretX (pc := 32) hX G hr dJ1_indexOfChar_4cfef_32 (by decide) (by decide)
  · have hX := z_if hc10 hX
    refine z_aload_n (pc := 13) G 0 dJ1_indexOfChar_4cfef_13 rfl rfl ?_
    refine z_iload (pc := 14) G 3 dJ1_indexOfChar_4cfef_14 rfl ?_
    obtain ⟨x16, hv16, hX⟩ := z_bd hX
    refine z_bald (pc := 16) G dJ1_indexOfChar_4cfef_16 hv16 ?_
    refine z_iload (pc := 17) G 2 dJ1_indexOfChar_4cfef_17 rfl ?_
    refine z_icmp_ne (pc := 19) (tgt := 25) G dJ1_indexOfChar_4cfef_19 (by decide) (fun hc19 => ?_) (fun hc19 => ?_)
    · have hX := z_if hc19 hX
      refine z_iincw (pc := 25) (w := 1) (lv2 := [(0, .ref l0), (3, .int l3), (4, .int l4), (5, .int (l5 + 1))]) G 3 dJ1_indexOfChar_4cfef_25 rfl (by decide) (by decide) rfl rfl ?_
      refine z_goto (pc := 28) (tgt := 7) G dJ1_indexOfChar_4cfef_28 (by decide) ?_
      exact H7 _ _ _ _ _ hX
    · have hX := z_it hc19 hX
      refine z_iload (pc := 22) G 3 dJ1_indexOfChar_4cfef_22 rfl ?_
      exact z_iretX (pc := 24) hX G hr dJ1_indexOfChar_4cfef_24 (by decide) (by decide)
set_option maxHeartbeats 4000000 in
set_option maxRecDepth 100000 in
theorem wJ1_indexOfChar_4cfef_L7 {Γ : ZG} {p : Program} {l : Launch} {e : Env} {s : State} {m : MethodId} {args : Array Value} {below : List Frame} {meth : Method} {c : Code} (hO : z_OK Γ) (G : z_GG Γ p s m args meth c cJ1_indexOfChar_4cfef 6 RJ1) (hr : meth.sig.returnType = (some .int)) (hnm : meth.name = "indexOfChar") {r : (Int32 × ZH)} : ∀ (nn : Nat) (l0 : Nat) (l3 : Int32) (l4 : Int32) (l5 : Int32) (h : ZH), xJ1_indexOfChar_4cfef_L7  nn l0 l3 l4 l5 h = some r → z_W Γ p l e rmJ1_indexOfChar_4cfef s m args below meth c 6 0 0 (MQ below (z_Qc Γ (some (.int r.1)) r.2) args s rmJ1_indexOfChar_4cfef.cells rmJ1_indexOfChar_4cfef.slots (z_A Γ)) 7 [(0, .ref l0), (3, .int l3), (4, .int l4), (5, .int l5)] [] h := by
  intro nn
  induction nn with
  | zero => intro l0 l3 l4 l5 h hX; cases hX
  | succ nn ih => intro l0 l3 l4 l5 h hX; exact wJ1_indexOfChar_4cfef_B7 hO G hr hnm  ih l0 l3 l4 l5 h hX
noncomputable def xJ1_indexOfChar_4cfef (l0 : Nat) (l1 : Int32) (l2 : Int32) (l3 : Int32) (h : ZH) : Option (Int32 × ZH) := xJ1_indexOfChar_4cfef_L7 zFU l0 l3 l1.toInt8.toInt32 l2 h
set_option maxHeartbeats 4000000 in
set_option maxRecDepth 100000 in
theorem lJ1_indexOfChar_4cfef {Γ : ZG} {l : Launch} (hO : z_OK Γ) {l0 : Nat} {l1 : Int32} {l2 : Int32} {l3 : Int32} {h : ZH} {r : (Int32 × ZH)} (hX : xJ1_indexOfChar_4cfef l0 l1 l2 l3 h = some r) : z_M Γ l yJ1_indexOfChar_4cfef (z_ws1 yJ1_indexOfChar_4cfef cJ1_indexOfChar_4cfef 6 (some .int)) rmJ1_indexOfChar_4cfef [.ref l0, .int l1, .int l2, .int l3] h (some (.int r.1)) r.2 := by
  refine z_start hO (by decide +kernel) (Nat.le_of_ble_eq_true rfl) ?_
  intro p e s m args below meth c G hr hnm
  refine z_lvc (lv2 := [(0, .ref l0), (1, .int l1), (2, .int l2), (3, .int l3)]) rfl ?_
  refine z_iload_n (pc := 0) G 1 dJ1_indexOfChar_4cfef_0 rfl rfl ?_
  refine z_i2b (pc := 1) (v := l1.toInt8.toInt32) G dJ1_indexOfChar_4cfef_1 rfl ?_
  refine z_istore (pc := 2) (lv2 := [(0, .ref l0), (1, .int l1), (2, .int l2), (3, .int l3), (4, .int l1.toInt8.toInt32)]) G dJ1_indexOfChar_4cfef_2 (by decide) rfl rfl ?_
  refine z_iload_n (pc := 4) G 2 dJ1_indexOfChar_4cfef_4 rfl rfl ?_
  refine z_istore (pc := 5) (lv2 := [(0, .ref l0), (1, .int l1), (2, .int l2), (3, .int l3), (4, .int l1.toInt8.toInt32), (5, .int l2)]) G dJ1_indexOfChar_4cfef_5 (by decide) rfl rfl ?_
  refine z_drop (lv2 := [(0, .ref l0), (3, .int l3), (4, .int l1.toInt8.toInt32), (5, .int l2)]) [0, 3, 4, 5] rfl ?_
  exact wJ1_indexOfChar_4cfef_L7 hO G hr hnm zFU _ _ _ _ _ hX
theorem dJ1_indexOf_4cfef_0 : decode cJ1_indexOf_4cfef 0 = .ok (.iload_n 1, 1) := by decide +kernel
theorem dJ1_indexOf_4cfef_1 : decode cJ1_indexOf_4cfef 1 = .ok (.invokestatic 88, 3) := by decide +kernel
theorem dJ1_indexOf_4cfef_4 : decode cJ1_indexOf_4cfef 4 = .ok (.ifCond .ne 5, 3) := by decide +kernel
theorem dJ1_indexOf_4cfef_7 : decode cJ1_indexOf_4cfef 7 = .ok (.iconst (-1), 1) := by decide +kernel
theorem dJ1_indexOf_4cfef_8 : decode cJ1_indexOf_4cfef 8 = .ok (.ireturn, 1) := by decide +kernel
theorem dJ1_indexOf_4cfef_9 : decode cJ1_indexOf_4cfef 9 = .ok (.iload_n 2, 1) := by decide +kernel
theorem dJ1_indexOf_4cfef_10 : decode cJ1_indexOf_4cfef 10 = .ok (.iconst 0, 1) := by decide +kernel
theorem dJ1_indexOf_4cfef_11 : decode cJ1_indexOf_4cfef 11 = .ok (.invokestatic 92, 3) := by decide +kernel
theorem dJ1_indexOf_4cfef_14 : decode cJ1_indexOf_4cfef 14 = .ok (.istore_n 2, 1) := by decide +kernel
theorem dJ1_indexOf_4cfef_15 : decode cJ1_indexOf_4cfef 15 = .ok (.iload_n 3, 1) := by decide +kernel
theorem dJ1_indexOf_4cfef_16 : decode cJ1_indexOf_4cfef 16 = .ok (.aload_n 0, 1) := by decide +kernel
theorem dJ1_indexOf_4cfef_17 : decode cJ1_indexOf_4cfef 17 = .ok (.arraylength, 1) := by decide +kernel
theorem dJ1_indexOf_4cfef_18 : decode cJ1_indexOf_4cfef 18 = .ok (.invokestatic 38, 3) := by decide +kernel
theorem dJ1_indexOf_4cfef_21 : decode cJ1_indexOf_4cfef 21 = .ok (.istore_n 3, 1) := by decide +kernel
theorem dJ1_indexOf_4cfef_22 : decode cJ1_indexOf_4cfef 22 = .ok (.iload_n 2, 1) := by decide +kernel
theorem dJ1_indexOf_4cfef_23 : decode cJ1_indexOf_4cfef 23 = .ok (.iload_n 3, 1) := by decide +kernel
theorem dJ1_indexOf_4cfef_24 : decode cJ1_indexOf_4cfef 24 = .ok (.if_icmp .lt 5, 3) := by decide +kernel
theorem dJ1_indexOf_4cfef_27 : decode cJ1_indexOf_4cfef 27 = .ok (.iconst (-1), 1) := by decide +kernel
theorem dJ1_indexOf_4cfef_28 : decode cJ1_indexOf_4cfef 28 = .ok (.ireturn, 1) := by decide +kernel
theorem dJ1_indexOf_4cfef_29 : decode cJ1_indexOf_4cfef 29 = .ok (.aload_n 0, 1) := by decide +kernel
theorem dJ1_indexOf_4cfef_30 : decode cJ1_indexOf_4cfef 30 = .ok (.iload_n 1, 1) := by decide +kernel
theorem dJ1_indexOf_4cfef_31 : decode cJ1_indexOf_4cfef 31 = .ok (.iload_n 2, 1) := by decide +kernel
theorem dJ1_indexOf_4cfef_32 : decode cJ1_indexOf_4cfef 32 = .ok (.iload_n 3, 1) := by decide +kernel
theorem dJ1_indexOf_4cfef_33 : decode cJ1_indexOf_4cfef 33 = .ok (.invokestatic 95, 3) := by decide +kernel
theorem dJ1_indexOf_4cfef_36 : decode cJ1_indexOf_4cfef 36 = .ok (.ireturn, 1) := by decide +kernel
theorem ydJ1_indexOf_4cfef : z_yd yJ1_indexOf_4cfef 4 := ⟨by decide, by decide, by decide +kernel⟩
abbrev rmJ1_indexOf_4cfef : Room := { frames := 1, cells := 0, slots := 0, locals := 25 }
noncomputable def xJ1_indexOf_4cfef (l0 : Nat) (l1 : Int32) (l2 : Int32) (l3 : Int32) (h : ZH) : Option (Int32 × ZH) := ((xJ1_canEncode_9a6ad l1 h).bind fun r1 => (if r1.1 = 0 then some ((-1 : Int32), r1.2) else ((xJ9_max_7cf53 l2 (0 : Int32) r1.2).bind fun r11 => ((z_aL r11.2 l0).bind fun x17 => ((xJ9_min_7cf53 l3 x17 r11.2).bind fun r18 => (if r11.1 < r18.1 then ((xJ1_indexOfChar_4cfef l0 l1 r11.1 r18.1 r18.2).bind fun r33 => some (r33.1, r33.2)) else some ((-1 : Int32), r18.2)))))))
set_option maxHeartbeats 4000000 in
set_option maxRecDepth 100000 in
theorem lJ1_indexOf_4cfef {Γ : ZG} {l : Launch} (hO : z_OK Γ) {l0 : Nat} {l1 : Int32} {l2 : Int32} {l3 : Int32} {h : ZH} {r : (Int32 × ZH)} (hX : xJ1_indexOf_4cfef l0 l1 l2 l3 h = some r) : z_M Γ l yJ1_indexOf_4cfef (z_ws1 yJ1_indexOf_4cfef cJ1_indexOf_4cfef 4 (some .int)) rmJ1_indexOf_4cfef [.ref l0, .int l1, .int l2, .int l3] h (some (.int r.1)) r.2 := by
  refine z_start hO (by decide +kernel) (Nat.le_of_ble_eq_true rfl) ?_
  intro p e s m args below meth c G hr hnm
  refine z_lvc (lv2 := [(0, .ref l0), (1, .int l1), (2, .int l2), (3, .int l3)]) rfl ?_
  refine z_iload_n (pc := 0) G 1 dJ1_indexOf_4cfef_0 rfl rfl ?_
  obtain ⟨r1, hv1, hX⟩ := z_bd hX
  refine z_cSI (pc := 1) (As := [.int l1]) (c2 := 0) (s2 := 0) G (lJ1_canEncode_9a6ad hO hv1) kt_594 kt_14 kt_592 kt_593 ydJ1_canEncode_9a6ad ⟨by decide, by decide⟩ rfl (Nat.le_of_ble_eq_true rfl) ⟨rfl, rfl⟩ ⟨by decide, by decide⟩ rfl dJ1_indexOf_4cfef_1 ?_
  refine z_if_ne (pc := 4) (tgt := 9) G dJ1_indexOf_4cfef_4 (by decide) (fun hc4 => ?_) (fun hc4 => ?_)
  · have hX := z_if hc4 hX
    refine z_iload_n (pc := 9) G 2 dJ1_indexOf_4cfef_9 rfl rfl ?_
    refine z_iconst (pc := 10) (v := 0) G dJ1_indexOf_4cfef_10 (by decide) ?_
    obtain ⟨r11, hv11, hX⟩ := z_bd hX
    refine z_cSI (pc := 11) (As := [.int l2, .int (0 : Int32)]) (c2 := 0) (s2 := 0) G (lJ9_max_7cf53 hO hv11) kt_504 kt_12 kt_595 kt_503 ydJ9_max_7cf53 ⟨by decide, by decide⟩ rfl (Nat.le_of_ble_eq_true rfl) ⟨rfl, rfl⟩ ⟨by decide, by decide⟩ rfl dJ1_indexOf_4cfef_11 ?_
    refine z_istore_n (pc := 14) (lv2 := [(0, .ref l0), (1, .int l1), (2, .int r11.1), (3, .int l3)]) G dJ1_indexOf_4cfef_14 rfl (by decide) rfl rfl ?_
    refine z_iload_n (pc := 15) G 3 dJ1_indexOf_4cfef_15 rfl rfl ?_
    refine z_aload_n (pc := 16) G 0 dJ1_indexOf_4cfef_16 rfl rfl ?_
    obtain ⟨x17, hv17, hX⟩ := z_bd hX
    refine z_alen (pc := 17) G dJ1_indexOf_4cfef_17 hv17 ?_
    obtain ⟨r18, hv18, hX⟩ := z_bd hX
    refine z_cSI (pc := 18) (As := [.int l3, .int x17]) (c2 := 0) (s2 := 0) G (lJ9_min_7cf53 hO hv18) kt_501 kt_12 kt_596 kt_500 ydJ9_min_7cf53 ⟨by decide, by decide⟩ rfl (Nat.le_of_ble_eq_true rfl) ⟨rfl, rfl⟩ ⟨by decide, by decide⟩ rfl dJ1_indexOf_4cfef_18 ?_
    refine z_istore_n (pc := 21) (lv2 := [(0, .ref l0), (1, .int l1), (2, .int r11.1), (3, .int r18.1)]) G dJ1_indexOf_4cfef_21 rfl (by decide) rfl rfl ?_
    refine z_iload_n (pc := 22) G 2 dJ1_indexOf_4cfef_22 rfl rfl ?_
    refine z_iload_n (pc := 23) G 3 dJ1_indexOf_4cfef_23 rfl rfl ?_
    refine z_icmp_lt (pc := 24) (tgt := 29) G dJ1_indexOf_4cfef_24 (by decide) (fun hc24 => ?_) (fun hc24 => ?_)
    · have hX := z_it hc24 hX
      refine z_aload_n (pc := 29) G 0 dJ1_indexOf_4cfef_29 rfl rfl ?_
      refine z_iload_n (pc := 30) G 1 dJ1_indexOf_4cfef_30 rfl rfl ?_
      refine z_iload_n (pc := 31) G 2 dJ1_indexOf_4cfef_31 rfl rfl ?_
      refine z_iload_n (pc := 32) G 3 dJ1_indexOf_4cfef_32 rfl rfl ?_
      obtain ⟨r33, hv33, hX⟩ := z_bd hX
      refine z_cSI (pc := 33) (As := [.ref l0, .int l1, .int r11.1, .int r18.1]) (c2 := 0) (s2 := 0) G (lJ1_indexOfChar_4cfef hO hv33) kt_599 kt_14 kt_597 kt_598 ydJ1_indexOfChar_4cfef ⟨by decide, by decide⟩ rfl (Nat.le_of_ble_eq_true rfl) ⟨rfl, rfl⟩ ⟨by decide, by decide⟩ rfl dJ1_indexOf_4cfef_33 ?_
      exact z_iretX (pc := 36) hX G hr dJ1_indexOf_4cfef_36 (by decide) (by decide)
    · have hX := z_if hc24 hX
      refine z_iconst (pc := 27) (v := (-1)) G dJ1_indexOf_4cfef_27 (by decide) ?_
      exact z_iretX (pc := 28) hX G hr dJ1_indexOf_4cfef_28 (by decide) (by decide)
  · have hX := z_it hc4 hX
    refine z_iconst (pc := 7) (v := (-1)) G dJ1_indexOf_4cfef_7 (by decide) ?_
    exact z_iretX (pc := 8) hX G hr dJ1_indexOf_4cfef_8 (by decide) (by decide)
theorem dJ0_indexOf_7cf53_0 : decode cJ0_indexOf_7cf53 0 = .ok (.aload_n 0, 1) := by decide +kernel
theorem dJ0_indexOf_7cf53_1 : decode cJ0_indexOf_7cf53 1 = .ok (.invokevirtual 492, 3) := by decide +kernel
theorem dJ0_indexOf_7cf53_4 : decode cJ0_indexOf_7cf53 4 = .ok (.ifCond .eq 19, 3) := by decide +kernel
theorem dJ0_indexOf_7cf53_7 : decode cJ0_indexOf_7cf53 7 = .ok (.aload_n 0, 1) := by decide +kernel
theorem dJ0_indexOf_7cf53_8 : decode cJ0_indexOf_7cf53 8 = .ok (.getfield 9, 3) := by decide +kernel
theorem dJ0_indexOf_7cf53_11 : decode cJ0_indexOf_7cf53 11 = .ok (.iload_n 1, 1) := by decide +kernel
theorem dJ0_indexOf_7cf53_12 : decode cJ0_indexOf_7cf53 12 = .ok (.iload_n 2, 1) := by decide +kernel
theorem dJ0_indexOf_7cf53_13 : decode cJ0_indexOf_7cf53 13 = .ok (.aload_n 0, 1) := by decide +kernel
theorem dJ0_indexOf_7cf53_14 : decode cJ0_indexOf_7cf53 14 = .ok (.invokevirtual 505, 3) := by decide +kernel
theorem dJ0_indexOf_7cf53_17 : decode cJ0_indexOf_7cf53 17 = .ok (.invokestatic 637, 3) := by decide +kernel
theorem dJ0_indexOf_7cf53_20 : decode cJ0_indexOf_7cf53 20 = .ok (.goto 16, 3) := by decide +kernel
theorem dJ0_indexOf_7cf53_23 : decode cJ0_indexOf_7cf53 23 = .ok (.aload_n 0, 1) := by decide +kernel
theorem dJ0_indexOf_7cf53_24 : decode cJ0_indexOf_7cf53 24 = .ok (.getfield 9, 3) := by decide +kernel
theorem dJ0_indexOf_7cf53_27 : decode cJ0_indexOf_7cf53 27 = .ok (.iload_n 1, 1) := by decide +kernel
theorem dJ0_indexOf_7cf53_28 : decode cJ0_indexOf_7cf53 28 = .ok (.iload_n 2, 1) := by decide +kernel
theorem dJ0_indexOf_7cf53_29 : decode cJ0_indexOf_7cf53 29 = .ok (.aload_n 0, 1) := by decide +kernel
theorem dJ0_indexOf_7cf53_30 : decode cJ0_indexOf_7cf53 30 = .ok (.invokevirtual 505, 3) := by decide +kernel
theorem dJ0_indexOf_7cf53_33 : decode cJ0_indexOf_7cf53 33 = .ok (.invokestatic 640, 3) := by decide +kernel
theorem dJ0_indexOf_7cf53_36 : decode cJ0_indexOf_7cf53 36 = .ok (.ireturn, 1) := by decide +kernel
theorem ydJ0_indexOf_7cf53 : z_yd yJ0_indexOf_7cf53 2 := ⟨by decide, by decide, by decide +kernel⟩
abbrev rmJ0_indexOf_7cf53 : Room := { frames := 2, cells := 0, slots := 0, locals := 48 }
noncomputable def xJ0_indexOf_7cf53 (l0 : Nat) (l1 : Int32) (l2 : Int32) (h : ZH) : Option (Int32 × ZH) := (z_gu (z_is h l0 50) ((xJ0_isLatin1_aae02 l0 h).bind fun r1 => (if r1.1 = 0 then ((z_gR r1.2 l0 50 0).bind fun x24 => (z_gu (z_is r1.2 l0 50) ((xJ0_length_8abf5 l0 r1.2).bind fun r30 => none))) else ((z_gR r1.2 l0 50 0).bind fun x8 => (z_gu (z_is r1.2 l0 50) ((xJ0_length_8abf5 l0 r1.2).bind fun r14 => ((xJ1_indexOf_4cfef x8 l1 l2 r14.1 r14.2).bind fun r17 => some (r17.1, r17.2))))))))
set_option maxHeartbeats 4000000 in
set_option maxRecDepth 100000 in
theorem lJ0_indexOf_7cf53 {Γ : ZG} {l : Launch} (hO : z_OK Γ) {l0 : Nat} {l1 : Int32} {l2 : Int32} {h : ZH} {r : (Int32 × ZH)} (hX : xJ0_indexOf_7cf53 l0 l1 l2 h = some r) : z_M Γ l yJ0_indexOf_7cf53 (z_ws1 yJ0_indexOf_7cf53 cJ0_indexOf_7cf53 3 (some .int)) rmJ0_indexOf_7cf53 [.ref l0, .int l1, .int l2] h (some (.int r.1)) r.2 := by
  refine z_start hO (plainFor_of_name (by decide)) (Nat.le_of_ble_eq_true rfl) ?_
  intro p e s m args below meth c G hr hnm
  refine z_lvc (lv2 := [(0, .ref l0), (1, .int l1), (2, .int l2)]) rfl ?_
  refine z_aload_n (pc := 0) G 0 dJ0_indexOf_7cf53_0 rfl rfl ?_
  obtain ⟨hi1, hX⟩ := z_gu_s hX
  obtain ⟨r1, hv1, hX⟩ := z_bd hX
  refine z_cVSI (pc := 1) (As := []) (c2 := 0) (s2 := 0) G (lJ0_isLatin1_aae02 hO hv1) hi1 kt_541 kt_13 kt_538 kt_539 kt_540 ydJ0_isLatin1_aae02 ⟨by decide, by decide⟩ rfl (Nat.le_of_ble_eq_true rfl) ⟨rfl, rfl⟩ ⟨by decide, by decide⟩ rfl dJ0_indexOf_7cf53_1 ?_
  refine z_if_eq (pc := 4) (tgt := 23) G dJ0_indexOf_7cf53_4 (by decide) (fun hc4 => ?_) (fun hc4 => ?_)
  · have hX := z_it hc4 hX
    refine z_aload_n (pc := 23) G 0 dJ0_indexOf_7cf53_23 rfl rfl ?_
    obtain ⟨x24, hv24, hX⟩ := z_bd hX
    refine z_getSV (pc := 24) G kt_1943 dJ0_indexOf_7cf53_24 hv24 ?_
    refine z_iload_n (pc := 27) G 1 dJ0_indexOf_7cf53_27 rfl rfl ?_
    refine z_iload_n (pc := 28) G 2 dJ0_indexOf_7cf53_28 rfl rfl ?_
    refine z_aload_n (pc := 29) G 0 dJ0_indexOf_7cf53_29 rfl rfl ?_
    obtain ⟨hi30, hX⟩ := z_gu_s hX
    obtain ⟨r30, hv30, hX⟩ := z_bd hX
    refine z_cVSI (pc := 30) (As := []) (c2 := 0) (s2 := 0) G (lJ0_length_8abf5 hO hv30) hi30 kt_527 kt_13 kt_588 kt_525 kt_526 ydJ0_length_8abf5 ⟨by decide, by decide⟩ rfl (Nat.le_of_ble_eq_true rfl) ⟨rfl, rfl⟩ ⟨by decide, by decide⟩ rfl dJ0_indexOf_7cf53_30 ?_
    cases hX
  · have hX := z_if hc4 hX
    refine z_aload_n (pc := 7) G 0 dJ0_indexOf_7cf53_7 rfl rfl ?_
    obtain ⟨x8, hv8, hX⟩ := z_bd hX
    refine z_getSV (pc := 8) G kt_1943 dJ0_indexOf_7cf53_8 hv8 ?_
    refine z_iload_n (pc := 11) G 1 dJ0_indexOf_7cf53_11 rfl rfl ?_
    refine z_iload_n (pc := 12) G 2 dJ0_indexOf_7cf53_12 rfl rfl ?_
    refine z_aload_n (pc := 13) G 0 dJ0_indexOf_7cf53_13 rfl rfl ?_
    obtain ⟨hi14, hX⟩ := z_gu_s hX
    obtain ⟨r14, hv14, hX⟩ := z_bd hX
    refine z_cVSI (pc := 14) (As := []) (c2 := 0) (s2 := 0) G (lJ0_length_8abf5 hO hv14) hi14 kt_527 kt_13 kt_588 kt_525 kt_526 ydJ0_length_8abf5 ⟨by decide, by decide⟩ rfl (Nat.le_of_ble_eq_true rfl) ⟨rfl, rfl⟩ ⟨by decide, by decide⟩ rfl dJ0_indexOf_7cf53_14 ?_
    obtain ⟨r17, hv17, hX⟩ := z_bd hX
    refine z_cSI (pc := 17) (As := [.ref x8, .int l1, .int l2, .int r14.1]) (c2 := 0) (s2 := 0) G (lJ1_indexOf_4cfef hO hv17) kt_591 kt_14 kt_589 kt_590 ydJ1_indexOf_4cfef ⟨by decide, by decide⟩ rfl (Nat.le_of_ble_eq_true rfl) ⟨rfl, rfl⟩ ⟨by decide, by decide⟩ rfl dJ0_indexOf_7cf53_17 ?_
    refine z_goto (pc := 20) (tgt := 36) G dJ0_indexOf_7cf53_20 (by decide) ?_
    exact z_iretX (pc := 36) hX G hr dJ0_indexOf_7cf53_36 (by decide) (by decide)
theorem dJ0_indexOf_0f7a4_0 : decode cJ0_indexOf_0f7a4 0 = .ok (.aload_n 0, 1) := by decide +kernel
theorem dJ0_indexOf_0f7a4_1 : decode cJ0_indexOf_0f7a4 1 = .ok (.iload_n 1, 1) := by decide +kernel
theorem dJ0_indexOf_0f7a4_2 : decode cJ0_indexOf_0f7a4 2 = .ok (.iconst 0, 1) := by decide +kernel
theorem dJ0_indexOf_0f7a4_3 : decode cJ0_indexOf_0f7a4 3 = .ok (.invokevirtual 633, 3) := by decide +kernel
theorem dJ0_indexOf_0f7a4_6 : decode cJ0_indexOf_0f7a4 6 = .ok (.ireturn, 1) := by decide +kernel
theorem ydJ0_indexOf_0f7a4 : z_yd yJ0_indexOf_0f7a4 1 := ⟨by decide, by decide, by decide +kernel⟩
abbrev rmJ0_indexOf_0f7a4 : Room := { frames := 3, cells := 0, slots := 0, locals := 70 }
noncomputable def xJ0_indexOf_0f7a4 (l0 : Nat) (l1 : Int32) (h : ZH) : Option (Int32 × ZH) := (z_gu (z_is h l0 50) ((xJ0_indexOf_7cf53 l0 l1 (0 : Int32) h).bind fun r3 => some (r3.1, r3.2)))
set_option maxHeartbeats 4000000 in
set_option maxRecDepth 100000 in
theorem lJ0_indexOf_0f7a4 {Γ : ZG} {l : Launch} (hO : z_OK Γ) {l0 : Nat} {l1 : Int32} {h : ZH} {r : (Int32 × ZH)} (hX : xJ0_indexOf_0f7a4 l0 l1 h = some r) : z_M Γ l yJ0_indexOf_0f7a4 (z_ws1 yJ0_indexOf_0f7a4 cJ0_indexOf_0f7a4 2 (some .int)) rmJ0_indexOf_0f7a4 [.ref l0, .int l1] h (some (.int r.1)) r.2 := by
  refine z_start hO (plainFor_of_name (by decide)) (Nat.le_of_ble_eq_true rfl) ?_
  intro p e s m args below meth c G hr hnm
  refine z_lvc (lv2 := [(0, .ref l0), (1, .int l1)]) rfl ?_
  refine z_aload_n (pc := 0) G 0 dJ0_indexOf_0f7a4_0 rfl rfl ?_
  refine z_iload_n (pc := 1) G 1 dJ0_indexOf_0f7a4_1 rfl rfl ?_
  refine z_iconst (pc := 2) (v := 0) G dJ0_indexOf_0f7a4_2 (by decide) ?_
  obtain ⟨hi3, hX⟩ := z_gu_s hX
  obtain ⟨r3, hv3, hX⟩ := z_bd hX
  refine z_cVSI (pc := 3) (As := [.int l1, .int (0 : Int32)]) (c2 := 0) (s2 := 0) G (lJ0_indexOf_7cf53 hO hv3) hi3 kt_587 kt_13 kt_584 kt_585 kt_586 ydJ0_indexOf_7cf53 ⟨by decide, by decide⟩ rfl (Nat.le_of_ble_eq_true rfl) ⟨rfl, rfl⟩ ⟨by decide, by decide⟩ rfl dJ0_indexOf_0f7a4_3 ?_
  exact z_iretX (pc := 6) hX G hr dJ0_indexOf_0f7a4_6 (by decide) (by decide)
theorem dX3_advance_0 : decode cX3_advance 0 = .ok (.aload_n 0, 1) := by decide +kernel
theorem dX3_advance_1 : decode cX3_advance 1 = .ok (.aload_n 0, 1) := by decide +kernel
theorem dX3_advance_2 : decode cX3_advance 2 = .ok (.getfield 45, 3) := by decide +kernel
theorem dX3_advance_5 : decode cX3_advance 5 = .ok (.putfield 130, 3) := by decide +kernel
theorem dX3_advance_8 : decode cX3_advance 8 = .ok (.aload_n 0, 1) := by decide +kernel
theorem dX3_advance_9 : decode cX3_advance 9 = .ok (.getfield 130, 3) := by decide +kernel
theorem dX3_advance_12 : decode cX3_advance 12 = .ok (.aload_n 0, 1) := by decide +kernel
theorem dX3_advance_13 : decode cX3_advance 13 = .ok (.getfield 42, 3) := by decide +kernel
theorem dX3_advance_16 : decode cX3_advance 16 = .ok (.if_icmp .ge 31, 3) := by decide +kernel
theorem dX3_advance_19 : decode cX3_advance 19 = .ok (.aload_n 0, 1) := by decide +kernel
theorem dX3_advance_20 : decode cX3_advance 20 = .ok (.getfield 29, 3) := by decide +kernel
theorem dX3_advance_23 : decode cX3_advance 23 = .ok (.aload_n 0, 1) := by decide +kernel
theorem dX3_advance_24 : decode cX3_advance 24 = .ok (.getfield 130, 3) := by decide +kernel
theorem dX3_advance_27 : decode cX3_advance 27 = .ok (.baload, 1) := by decide +kernel
theorem dX3_advance_28 : decode cX3_advance 28 = .ok (.invokestatic 175, 3) := by decide +kernel
theorem dX3_advance_31 : decode cX3_advance 31 = .ok (.ifCond .eq 16, 3) := by decide +kernel
theorem dX3_advance_34 : decode cX3_advance 34 = .ok (.aload_n 0, 1) := by decide +kernel
theorem dX3_advance_35 : decode cX3_advance 35 = .ok (.dup, 1) := by decide +kernel
theorem dX3_advance_36 : decode cX3_advance 36 = .ok (.getfield 130, 3) := by decide +kernel
theorem dX3_advance_39 : decode cX3_advance 39 = .ok (.iconst 1, 1) := by decide +kernel
theorem dX3_advance_40 : decode cX3_advance 40 = .ok (.iadd, 1) := by decide +kernel
theorem dX3_advance_41 : decode cX3_advance 41 = .ok (.putfield 130, 3) := by decide +kernel
theorem dX3_advance_44 : decode cX3_advance 44 = .ok (.goto (-36), 3) := by decide +kernel
theorem dX3_advance_47 : decode cX3_advance 47 = .ok (.aload_n 0, 1) := by decide +kernel
theorem dX3_advance_48 : decode cX3_advance 48 = .ok (.aload_n 0, 1) := by decide +kernel
theorem dX3_advance_49 : decode cX3_advance 49 = .ok (.getfield 130, 3) := by decide +kernel
theorem dX3_advance_52 : decode cX3_advance 52 = .ok (.putfield 45, 3) := by decide +kernel
theorem dX3_advance_55 : decode cX3_advance 55 = .ok (.aload_n 0, 1) := by decide +kernel
theorem dX3_advance_56 : decode cX3_advance 56 = .ok (.iconst 0, 1) := by decide +kernel
theorem dX3_advance_57 : decode cX3_advance 57 = .ok (.putfield 67, 3) := by decide +kernel
theorem dX3_advance_60 : decode cX3_advance 60 = .ok (.aload_n 0, 1) := by decide +kernel
theorem dX3_advance_61 : decode cX3_advance 61 = .ok (.getfield 130, 3) := by decide +kernel
theorem dX3_advance_64 : decode cX3_advance 64 = .ok (.aload_n 0, 1) := by decide +kernel
theorem dX3_advance_65 : decode cX3_advance 65 = .ok (.getfield 42, 3) := by decide +kernel
theorem dX3_advance_68 : decode cX3_advance 68 = .ok (.if_icmp .lt 11, 3) := by decide +kernel
theorem dX3_advance_71 : decode cX3_advance 71 = .ok (.aload_n 0, 1) := by decide +kernel
theorem dX3_advance_72 : decode cX3_advance 72 = .ok (.iconst 0, 1) := by decide +kernel
theorem dX3_advance_73 : decode cX3_advance 73 = .ok (.putfield 60, 3) := by decide +kernel
theorem dX3_advance_76 : decode cX3_advance 76 = .ok (.goto 101, 3) := by decide +kernel
theorem dX3_advance_79 : decode cX3_advance 79 = .ok (.aload_n 0, 1) := by decide +kernel
theorem dX3_advance_80 : decode cX3_advance 80 = .ok (.getfield 29, 3) := by decide +kernel
theorem dX3_advance_83 : decode cX3_advance 83 = .ok (.aload_n 0, 1) := by decide +kernel
theorem dX3_advance_84 : decode cX3_advance 84 = .ok (.getfield 130, 3) := by decide +kernel
theorem dX3_advance_87 : decode cX3_advance 87 = .ok (.baload, 1) := by decide +kernel
theorem dX3_advance_88 : decode cX3_advance 88 = .ok (.invokestatic 178, 3) := by decide +kernel
theorem dX3_advance_91 : decode cX3_advance 91 = .ok (.ifCond .eq 10, 3) := by decide +kernel
theorem dX3_advance_94 : decode cX3_advance 94 = .ok (.aload_n 0, 1) := by decide +kernel
theorem dX3_advance_95 : decode cX3_advance 95 = .ok (.invokevirtual 181, 3) := by decide +kernel
theorem dX3_advance_98 : decode cX3_advance 98 = .ok (.goto 79, 3) := by decide +kernel
theorem dX3_advance_101 : decode cX3_advance 101 = .ok (.aload_n 0, 1) := by decide +kernel
theorem dX3_advance_102 : decode cX3_advance 102 = .ok (.getfield 29, 3) := by decide +kernel
theorem dX3_advance_105 : decode cX3_advance 105 = .ok (.aload_n 0, 1) := by decide +kernel
theorem dX3_advance_106 : decode cX3_advance 106 = .ok (.getfield 130, 3) := by decide +kernel
theorem dX3_advance_109 : decode cX3_advance 109 = .ok (.baload, 1) := by decide +kernel
theorem dX3_advance_110 : decode cX3_advance 110 = .ok (.invokestatic 184, 3) := by decide +kernel
theorem dX3_advance_113 : decode cX3_advance 113 = .ok (.ifCond .eq 10, 3) := by decide +kernel
theorem dX3_advance_116 : decode cX3_advance 116 = .ok (.aload_n 0, 1) := by decide +kernel
theorem dX3_advance_117 : decode cX3_advance 117 = .ok (.invokevirtual 187, 3) := by decide +kernel
theorem dX3_advance_120 : decode cX3_advance 120 = .ok (.goto 57, 3) := by decide +kernel
theorem dX3_advance_123 : decode cX3_advance 123 = .ok (.aload_n 0, 1) := by decide +kernel
theorem dX3_advance_124 : decode cX3_advance 124 = .ok (.ldc 190, 2) := by decide +kernel
theorem dX3_advance_126 : decode cX3_advance 126 = .ok (.aload_n 0, 1) := by decide +kernel
theorem dX3_advance_127 : decode cX3_advance 127 = .ok (.getfield 29, 3) := by decide +kernel
theorem dX3_advance_130 : decode cX3_advance 130 = .ok (.aload_n 0, 1) := by decide +kernel
theorem dX3_advance_131 : decode cX3_advance 131 = .ok (.getfield 130, 3) := by decide +kernel
theorem dX3_advance_134 : decode cX3_advance 134 = .ok (.baload, 1) := by decide +kernel
theorem dX3_advance_135 : decode cX3_advance 135 = .ok (.sipush 255, 3) := by decide +kernel
theorem dX3_advance_138 : decode cX3_advance 138 = .ok (.iand, 1) := by decide +kernel
theorem dX3_advance_139 : decode cX3_advance 139 = .ok (.i2c, 1) := by decide +kernel
theorem dX3_advance_140 : decode cX3_advance 140 = .ok (.invokevirtual 192, 3) := by decide +kernel
theorem dX3_advance_143 : decode cX3_advance 143 = .ok (.ifCond .lt 7, 3) := by decide +kernel
theorem dX3_advance_146 : decode cX3_advance 146 = .ok (.iconst 3, 1) := by decide +kernel
theorem dX3_advance_147 : decode cX3_advance 147 = .ok (.goto 4, 3) := by decide +kernel
theorem dX3_advance_150 : decode cX3_advance 150 = .ok (.iconst 4, 1) := by decide +kernel
theorem dX3_advance_151 : decode cX3_advance 151 = .ok (.putfield 60, 3) := by decide +kernel
theorem dX3_advance_154 : decode cX3_advance 154 = .ok (.aload_n 0, 1) := by decide +kernel
theorem dX3_advance_155 : decode cX3_advance 155 = .ok (.aload_n 0, 1) := by decide +kernel
theorem dX3_advance_156 : decode cX3_advance 156 = .ok (.getfield 29, 3) := by decide +kernel
theorem dX3_advance_159 : decode cX3_advance 159 = .ok (.aload_n 0, 1) := by decide +kernel
theorem dX3_advance_160 : decode cX3_advance 160 = .ok (.getfield 130, 3) := by decide +kernel
theorem dX3_advance_163 : decode cX3_advance 163 = .ok (.baload, 1) := by decide +kernel
theorem dX3_advance_164 : decode cX3_advance 164 = .ok (.putfield 67, 3) := by decide +kernel
theorem dX3_advance_167 : decode cX3_advance 167 = .ok (.aload_n 0, 1) := by decide +kernel
theorem dX3_advance_168 : decode cX3_advance 168 = .ok (.aload_n 0, 1) := by decide +kernel
theorem dX3_advance_169 : decode cX3_advance 169 = .ok (.getfield 130, 3) := by decide +kernel
theorem dX3_advance_172 : decode cX3_advance 172 = .ok (.iconst 1, 1) := by decide +kernel
theorem dX3_advance_173 : decode cX3_advance 173 = .ok (.iadd, 1) := by decide +kernel
theorem dX3_advance_174 : decode cX3_advance 174 = .ok (.putfield 45, 3) := by decide +kernel
theorem dX3_advance_177 : decode cX3_advance 177 = .ok (.return_, 1) := by decide +kernel
theorem ydX3_advance : z_yd yX3_advance 0 := ⟨by decide, by decide, by decide +kernel⟩
abbrev rmX3_advance : Room := { frames := 5, cells := 0, slots := 0, locals := 110 }
noncomputable def xX3_advance_B151 (l0 : Nat) (s0 : Int32) (s1 : Nat) (h : ZH) : Option ZH := ((z_sF h s1 3 7 (.int s0)).bind fun h151 => ((z_gR h151 l0 3 3).bind fun x156 => ((z_gI h151 l0 3 5).bind fun x160 => ((z_aB h151 x156 x160).bind fun x163 => ((z_sF h151 l0 3 8 (.int x163)).bind fun h164 => ((z_gI h164 l0 3 5).bind fun x169 => ((z_sF h164 l0 3 6 (.int (x169 + (1 : Int32)))).bind fun h174 => some h174)))))))
set_option maxHeartbeats 4000000 in
set_option maxRecDepth 100000 in
theorem wX3_advance_B151 {Γ : ZG} {p : Program} {l : Launch} {e : Env} {s : State} {m : MethodId} {args : Array Value} {below : List Frame} {meth : Method} {c : Code} (hO : z_OK Γ) (G : z_GG Γ p s m args meth c cX3_advance 1 RX3) (hr : meth.sig.returnType = none) (hnm : meth.name = "advance") {r : ZH} : ∀ (l0 : Nat) (s0 : Int32) (s1 : Nat) (h : ZH), xX3_advance_B151  l0 s0 s1 h = some r → z_W Γ p l e rmX3_advance s m args below meth c 1 0 0 (MQ below (z_Qc Γ none r) args s rmX3_advance.cells rmX3_advance.slots (z_A Γ)) 151 [(0, .ref l0)] [.int s0, .ref s1] h := by
  intro l0 s0 s1 h hX
  obtain ⟨h151, hv151, hX⟩ := z_bd hX
  refine z_putF (pc := 151) G kK3 (k := 7) (by decide) kt_147 (Or.inl rfl) rfl rfl dX3_advance_151 hv151 ?_
  refine z_aload_n (pc := 154) G 0 dX3_advance_154 rfl rfl ?_
  refine z_aload_n (pc := 155) G 0 dX3_advance_155 rfl rfl ?_
  obtain ⟨x156, hv156, hX⟩ := z_bd hX
  refine z_getR (pc := 156) G kK3 (k := 3) (by decide) kt_143 dX3_advance_156 hv156 ?_
  refine z_aload_n (pc := 159) G 0 dX3_advance_159 rfl rfl ?_
  obtain ⟨x160, hv160, hX⟩ := z_bd hX
  refine z_getI (pc := 160) G kK3 (k := 5) (by decide) kt_145 dX3_advance_160 hv160 ?_
  obtain ⟨x163, hv163, hX⟩ := z_bd hX
  refine z_bald (pc := 163) G dX3_advance_163 hv163 ?_
  obtain ⟨h164, hv164, hX⟩ := z_bd hX
  refine z_putF (pc := 164) G kK3 (k := 8) (by decide) kt_148 (Or.inl rfl) rfl rfl dX3_advance_164 hv164 ?_
  refine z_aload_n (pc := 167) G 0 dX3_advance_167 rfl rfl ?_
  refine z_aload_n (pc := 168) G 0 dX3_advance_168 rfl rfl ?_
  obtain ⟨x169, hv169, hX⟩ := z_bd hX
  refine z_getI (pc := 169) G kK3 (k := 5) (by decide) kt_145 dX3_advance_169 hv169 ?_
  refine z_iconst (pc := 172) (v := 1) G dX3_advance_172 (by decide) ?_
  refine z_iadd (pc := 173) G dX3_advance_173 ?_
  obtain ⟨h174, hv174, hX⟩ := z_bd hX
  refine z_putF (pc := 174) G kK3 (k := 6) (by decide) kt_146 (Or.inl rfl) rfl rfl dX3_advance_174 hv174 ?_
  exact z_vretX (pc := 177) hX G hr dX3_advance_177 (by decide) (by decide)
noncomputable def xX3_advance_B47 (l0 : Nat) (h : ZH) : Option ZH := ((z_gI h l0 3 5).bind fun x49 => ((z_sF h l0 3 6 (.int x49)).bind fun h52 => ((z_sF h52 l0 3 8 (.int (0 : Int32))).bind fun h57 => ((z_gI h57 l0 3 5).bind fun x61 => ((z_gI h57 l0 3 4).bind fun x65 => (if x61 < x65 then ((z_gR h57 l0 3 3).bind fun x80 => ((z_gI h57 l0 3 5).bind fun x84 => ((z_aB h57 x80 x84).bind fun x87 => ((xX3_isLetter x87 h57).bind fun r88 => (if r88.1 = 0 then ((z_gR r88.2 l0 3 3).bind fun x102 => ((z_gI r88.2 l0 3 5).bind fun x106 => ((z_aB r88.2 x102 x106).bind fun x109 => ((xX3_isDigit x109 r88.2).bind fun r110 => (if r110.1 = 0 then ((z_gR r110.2 l0 3 3).bind fun x127 => ((z_gI r110.2 l0 3 5).bind fun x131 => ((z_aB r110.2 x127 x131).bind fun x134 => (z_gu (z_is r110.2 4 50) ((xJ0_indexOf_0f7a4 4 (((x134 &&& (255 : Int32)).toUInt32 % 65536).toInt32) r110.2).bind fun r140 => (if r140.1 < 0 then xX3_advance_B151 l0 (4 : Int32) l0 r140.2 else xX3_advance_B151 l0 (3 : Int32) l0 r140.2)))))) else (z_gu (z_is r110.2 l0 3) ((xX3_scanNumeral l0 r110.2).bind fun h117 => some h117))))))) else (z_gu (z_is r88.2 l0 3) ((xX3_scanWord l0 r88.2).bind fun h95 => some h95))))))) else ((z_sF h57 l0 3 7 (.int (0 : Int32))).bind fun h73 => some h73)))))))
set_option maxHeartbeats 4000000 in
set_option maxRecDepth 100000 in
theorem wX3_advance_B47 {Γ : ZG} {p : Program} {l : Launch} {e : Env} {s : State} {m : MethodId} {args : Array Value} {below : List Frame} {meth : Method} {c : Code} (hO : z_OK Γ) (G : z_GG Γ p s m args meth c cX3_advance 1 RX3) (hr : meth.sig.returnType = none) (hnm : meth.name = "advance") {r : ZH} : ∀ (l0 : Nat) (h : ZH), xX3_advance_B47  l0 h = some r → z_W Γ p l e rmX3_advance s m args below meth c 1 0 0 (MQ below (z_Qc Γ none r) args s rmX3_advance.cells rmX3_advance.slots (z_A Γ)) 47 [(0, .ref l0)] [] h := by
  intro l0 h hX
  refine z_aload_n (pc := 47) G 0 dX3_advance_47 rfl rfl ?_
  refine z_aload_n (pc := 48) G 0 dX3_advance_48 rfl rfl ?_
  obtain ⟨x49, hv49, hX⟩ := z_bd hX
  refine z_getI (pc := 49) G kK3 (k := 5) (by decide) kt_145 dX3_advance_49 hv49 ?_
  obtain ⟨h52, hv52, hX⟩ := z_bd hX
  refine z_putF (pc := 52) G kK3 (k := 6) (by decide) kt_146 (Or.inl rfl) rfl rfl dX3_advance_52 hv52 ?_
  refine z_aload_n (pc := 55) G 0 dX3_advance_55 rfl rfl ?_
  refine z_iconst (pc := 56) (v := 0) G dX3_advance_56 (by decide) ?_
  obtain ⟨h57, hv57, hX⟩ := z_bd hX
  refine z_putF (pc := 57) G kK3 (k := 8) (by decide) kt_148 (Or.inl rfl) rfl rfl dX3_advance_57 hv57 ?_
  refine z_aload_n (pc := 60) G 0 dX3_advance_60 rfl rfl ?_
  obtain ⟨x61, hv61, hX⟩ := z_bd hX
  refine z_getI (pc := 61) G kK3 (k := 5) (by decide) kt_145 dX3_advance_61 hv61 ?_
  refine z_aload_n (pc := 64) G 0 dX3_advance_64 rfl rfl ?_
  obtain ⟨x65, hv65, hX⟩ := z_bd hX
  refine z_getI (pc := 65) G kK3 (k := 4) (by decide) kt_144 dX3_advance_65 hv65 ?_
  refine z_icmp_lt (pc := 68) (tgt := 79) G dX3_advance_68 (by decide) (fun hc68 => ?_) (fun hc68 => ?_)
  · have hX := z_it hc68 hX
    refine z_aload_n (pc := 79) G 0 dX3_advance_79 rfl rfl ?_
    obtain ⟨x80, hv80, hX⟩ := z_bd hX
    refine z_getR (pc := 80) G kK3 (k := 3) (by decide) kt_143 dX3_advance_80 hv80 ?_
    refine z_aload_n (pc := 83) G 0 dX3_advance_83 rfl rfl ?_
    obtain ⟨x84, hv84, hX⟩ := z_bd hX
    refine z_getI (pc := 84) G kK3 (k := 5) (by decide) kt_145 dX3_advance_84 hv84 ?_
    obtain ⟨x87, hv87, hX⟩ := z_bd hX
    refine z_bald (pc := 87) G dX3_advance_87 hv87 ?_
    obtain ⟨r88, hv88, hX⟩ := z_bd hX
    refine z_cSI (pc := 88) (As := [.int x87]) (c2 := 0) (s2 := 0) G (lX3_isLetter hO hv88) kt_518 kt_2 kt_516 kt_517 ydX3_isLetter ⟨by decide, by decide⟩ rfl (Nat.le_of_ble_eq_true rfl) ⟨rfl, rfl⟩ ⟨by decide, by decide⟩ rfl dX3_advance_88 ?_
    refine z_if_eq (pc := 91) (tgt := 101) G dX3_advance_91 (by decide) (fun hc91 => ?_) (fun hc91 => ?_)
    · have hX := z_it hc91 hX
      refine z_aload_n (pc := 101) G 0 dX3_advance_101 rfl rfl ?_
      obtain ⟨x102, hv102, hX⟩ := z_bd hX
      refine z_getR (pc := 102) G kK3 (k := 3) (by decide) kt_143 dX3_advance_102 hv102 ?_
      refine z_aload_n (pc := 105) G 0 dX3_advance_105 rfl rfl ?_
      obtain ⟨x106, hv106, hX⟩ := z_bd hX
      refine z_getI (pc := 106) G kK3 (k := 5) (by decide) kt_145 dX3_advance_106 hv106 ?_
      obtain ⟨x109, hv109, hX⟩ := z_bd hX
      refine z_bald (pc := 109) G dX3_advance_109 hv109 ?_
      obtain ⟨r110, hv110, hX⟩ := z_bd hX
      refine z_cSI (pc := 110) (As := [.int x109]) (c2 := 0) (s2 := 0) G (lX3_isDigit hO hv110) kt_574 kt_2 kt_572 kt_573 ydX3_isDigit ⟨by decide, by decide⟩ rfl (Nat.le_of_ble_eq_true rfl) ⟨rfl, rfl⟩ ⟨by decide, by decide⟩ rfl dX3_advance_110 ?_
      refine z_if_eq (pc := 113) (tgt := 123) G dX3_advance_113 (by decide) (fun hc113 => ?_) (fun hc113 => ?_)
      · have hX := z_it hc113 hX
        refine z_aload_n (pc := 123) G 0 dX3_advance_123 rfl rfl ?_
        refine z_ldcG (pc := 124) G dX3_advance_124 ?_
        refine z_aload_n (pc := 126) G 0 dX3_advance_126 rfl rfl ?_
        obtain ⟨x127, hv127, hX⟩ := z_bd hX
        refine z_getR (pc := 127) G kK3 (k := 3) (by decide) kt_143 dX3_advance_127 hv127 ?_
        refine z_aload_n (pc := 130) G 0 dX3_advance_130 rfl rfl ?_
        obtain ⟨x131, hv131, hX⟩ := z_bd hX
        refine z_getI (pc := 131) G kK3 (k := 5) (by decide) kt_145 dX3_advance_131 hv131 ?_
        obtain ⟨x134, hv134, hX⟩ := z_bd hX
        refine z_bald (pc := 134) G dX3_advance_134 hv134 ?_
        refine z_sipush (pc := 135) (v := 255) G dX3_advance_135 (by decide) ?_
        refine z_iand (pc := 138) G dX3_advance_138 ?_
        refine z_i2c (pc := 139) (v := ((x134 &&& (255 : Int32)).toUInt32 % 65536).toInt32) G dX3_advance_139 rfl ?_
        obtain ⟨hi140, hX⟩ := z_gu_s hX
        obtain ⟨r140, hv140, hX⟩ := z_bd hX
        refine z_cVSI (pc := 140) (As := [.int ((x134 &&& (255 : Int32)).toUInt32 % 65536).toInt32]) (c2 := 0) (s2 := 0) G (lJ0_indexOf_0f7a4 hO hv140) hi140 kt_583 kt_13 kt_580 kt_581 kt_582 ydJ0_indexOf_0f7a4 ⟨by decide, by decide⟩ rfl (Nat.le_of_ble_eq_true rfl) ⟨rfl, rfl⟩ ⟨by decide, by decide⟩ rfl dX3_advance_140 ?_
        refine z_if_lt (pc := 143) (tgt := 150) G dX3_advance_143 (by decide) (fun hc143 => ?_) (fun hc143 => ?_)
        · have hX := z_it hc143 hX
          refine z_iconst (pc := 150) (v := 4) G dX3_advance_150 (by decide) ?_
          exact wX3_advance_B151 hO G hr hnm _ _ _ _ hX
        · have hX := z_if hc143 hX
          refine z_iconst (pc := 146) (v := 3) G dX3_advance_146 (by decide) ?_
          refine z_goto (pc := 147) (tgt := 151) G dX3_advance_147 (by decide) ?_
          exact wX3_advance_B151 hO G hr hnm _ _ _ _ hX
      · have hX := z_if hc113 hX
        refine z_aload_n (pc := 116) G 0 dX3_advance_116 rfl rfl ?_
        obtain ⟨hi117, hX⟩ := z_gu_s hX
        obtain ⟨h117, hv117, hX⟩ := z_bd hX
        refine z_cVV (pc := 117) (As := []) (c2 := 0) (s2 := 0) G kK3 (lX3_scanNumeral hO hv117) hi117 kt_578 kt_2 kt_575 kt_577 ks_3 ydX3_scanNumeral ⟨by decide, by decide⟩ rfl (Nat.le_of_ble_eq_true rfl) ⟨rfl, rfl⟩ ⟨by decide, by decide⟩ rfl dX3_advance_117 ?_
        refine z_goto (pc := 120) (tgt := 177) G dX3_advance_120 (by decide) ?_
        exact z_vretX (pc := 177) hX G hr dX3_advance_177 (by decide) (by decide)
    · have hX := z_if hc91 hX
      refine z_aload_n (pc := 94) G 0 dX3_advance_94 rfl rfl ?_
      obtain ⟨hi95, hX⟩ := z_gu_s hX
      obtain ⟨h95, hv95, hX⟩ := z_bd hX
      refine z_cVV (pc := 95) (As := []) (c2 := 0) (s2 := 0) G kK3 (lX3_scanWord hO hv95) hi95 kt_522 kt_2 kt_519 kt_521 ks_2 ydX3_scanWord ⟨by decide, by decide⟩ rfl (Nat.le_of_ble_eq_true rfl) ⟨rfl, rfl⟩ ⟨by decide, by decide⟩ rfl dX3_advance_95 ?_
      refine z_goto (pc := 98) (tgt := 177) G dX3_advance_98 (by decide) ?_
      exact z_vretX (pc := 177) hX G hr dX3_advance_177 (by decide) (by decide)
  · have hX := z_if hc68 hX
    refine z_aload_n (pc := 71) G 0 dX3_advance_71 rfl rfl ?_
    refine z_iconst (pc := 72) (v := 0) G dX3_advance_72 (by decide) ?_
    obtain ⟨h73, hv73, hX⟩ := z_bd hX
    refine z_putF (pc := 73) G kK3 (k := 7) (by decide) kt_147 (Or.inl rfl) rfl rfl dX3_advance_73 hv73 ?_
    refine z_goto (pc := 76) (tgt := 177) G dX3_advance_76 (by decide) ?_
    exact z_vretX (pc := 177) hX G hr dX3_advance_177 (by decide) (by decide)
noncomputable def xX3_advance_B8 (r8 : Nat → ZH → Option ZH) (l0 : Nat) (h : ZH) : Option ZH := ((z_gI h l0 3 5).bind fun x9 => ((z_gI h l0 3 4).bind fun x13 => (if x13 ≤ x9 then xX3_advance_B47 l0 h else ((z_gR h l0 3 3).bind fun x20 => ((z_gI h l0 3 5).bind fun x24 => ((z_aB h x20 x24).bind fun x27 => ((xX3_isBlank x27 h).bind fun r28 => (if r28.1 = 0 then xX3_advance_B47 l0 r28.2 else ((z_gI r28.2 l0 3 5).bind fun x36 => ((z_sF r28.2 l0 3 5 (.int (x36 + (1 : Int32)))).bind fun h41 => r8 l0 h41))))))))))
noncomputable def xX3_advance_L8 (n : Nat) : Nat → ZH → Option ZH := Nat.rec (motive := fun _ => Nat → ZH → Option ZH) (fun _ _ => none) (fun _ rec => xX3_advance_B8  rec) n
set_option maxHeartbeats 4000000 in
set_option maxRecDepth 100000 in
theorem wX3_advance_B8 {Γ : ZG} {p : Program} {l : Launch} {e : Env} {s : State} {m : MethodId} {args : Array Value} {below : List Frame} {meth : Method} {c : Code} (hO : z_OK Γ) (G : z_GG Γ p s m args meth c cX3_advance 1 RX3) (hr : meth.sig.returnType = none) (hnm : meth.name = "advance") {r : ZH} {r8 : Nat → ZH → Option ZH} (H8 : ∀ (l0 : Nat) (h : ZH), r8 l0 h = some r → z_W Γ p l e rmX3_advance s m args below meth c 1 0 0 (MQ below (z_Qc Γ none r) args s rmX3_advance.cells rmX3_advance.slots (z_A Γ)) 8 [(0, .ref l0)] [] h) : ∀ (l0 : Nat) (h : ZH), xX3_advance_B8  r8 l0 h = some r → z_W Γ p l e rmX3_advance s m args below meth c 1 0 0 (MQ below (z_Qc Γ none r) args s rmX3_advance.cells rmX3_advance.slots (z_A Γ)) 8 [(0, .ref l0)] [] h := by
  intro l0 h hX
  refine z_aload_n (pc := 8) G 0 dX3_advance_8 rfl rfl ?_
  obtain ⟨x9, hv9, hX⟩ := z_bd hX
  refine z_getI (pc := 9) G kK3 (k := 5) (by decide) kt_145 dX3_advance_9 hv9 ?_
  refine z_aload_n (pc := 12) G 0 dX3_advance_12 rfl rfl ?_
  obtain ⟨x13, hv13, hX⟩ := z_bd hX
  refine z_getI (pc := 13) G kK3 (k := 4) (by decide) kt_144 dX3_advance_13 hv13 ?_
  refine z_icmp_ge (pc := 16) (tgt := 47) G dX3_advance_16 (by decide) (fun hc16 => ?_) (fun hc16 => ?_)
  · have hX := z_it hc16 hX
    exact wX3_advance_B47 hO G hr hnm _ _ hX
  · have hX := z_if hc16 hX
    refine z_aload_n (pc := 19) G 0 dX3_advance_19 rfl rfl ?_
    obtain ⟨x20, hv20, hX⟩ := z_bd hX
    refine z_getR (pc := 20) G kK3 (k := 3) (by decide) kt_143 dX3_advance_20 hv20 ?_
    refine z_aload_n (pc := 23) G 0 dX3_advance_23 rfl rfl ?_
    obtain ⟨x24, hv24, hX⟩ := z_bd hX
    refine z_getI (pc := 24) G kK3 (k := 5) (by decide) kt_145 dX3_advance_24 hv24 ?_
    obtain ⟨x27, hv27, hX⟩ := z_bd hX
    refine z_bald (pc := 27) G dX3_advance_27 hv27 ?_
    obtain ⟨r28, hv28, hX⟩ := z_bd hX
    refine z_cSI (pc := 28) (As := [.int x27]) (c2 := 0) (s2 := 0) G (lX3_isBlank hO hv28) kt_515 kt_2 kt_513 kt_514 ydX3_isBlank ⟨by decide, by decide⟩ rfl (Nat.le_of_ble_eq_true rfl) ⟨rfl, rfl⟩ ⟨by decide, by decide⟩ rfl dX3_advance_28 ?_
    refine z_if_eq (pc := 31) (tgt := 47) G dX3_advance_31 (by decide) (fun hc31 => ?_) (fun hc31 => ?_)
    · have hX := z_it hc31 hX
      exact wX3_advance_B47 hO G hr hnm _ _ hX
    · have hX := z_if hc31 hX
      refine z_aload_n (pc := 34) G 0 dX3_advance_34 rfl rfl ?_
      refine z_dup (pc := 35) G dX3_advance_35 rfl ?_
      obtain ⟨x36, hv36, hX⟩ := z_bd hX
      refine z_getI (pc := 36) G kK3 (k := 5) (by decide) kt_145 dX3_advance_36 hv36 ?_
      refine z_iconst (pc := 39) (v := 1) G dX3_advance_39 (by decide) ?_
      refine z_iadd (pc := 40) G dX3_advance_40 ?_
      obtain ⟨h41, hv41, hX⟩ := z_bd hX
      refine z_putF (pc := 41) G kK3 (k := 5) (by decide) kt_145 (Or.inl rfl) rfl rfl dX3_advance_41 hv41 ?_
      refine z_goto (pc := 44) (tgt := 8) G dX3_advance_44 (by decide) ?_
      exact H8 _ _ hX
set_option maxHeartbeats 4000000 in
set_option maxRecDepth 100000 in
theorem wX3_advance_L8 {Γ : ZG} {p : Program} {l : Launch} {e : Env} {s : State} {m : MethodId} {args : Array Value} {below : List Frame} {meth : Method} {c : Code} (hO : z_OK Γ) (G : z_GG Γ p s m args meth c cX3_advance 1 RX3) (hr : meth.sig.returnType = none) (hnm : meth.name = "advance") {r : ZH} : ∀ (nn : Nat) (l0 : Nat) (h : ZH), xX3_advance_L8  nn l0 h = some r → z_W Γ p l e rmX3_advance s m args below meth c 1 0 0 (MQ below (z_Qc Γ none r) args s rmX3_advance.cells rmX3_advance.slots (z_A Γ)) 8 [(0, .ref l0)] [] h := by
  intro nn
  induction nn with
  | zero => intro l0 h hX; cases hX
  | succ nn ih => intro l0 h hX; exact wX3_advance_B8 hO G hr hnm  ih l0 h hX
noncomputable def xX3_advance (l0 : Nat) (h : ZH) : Option ZH := ((z_gI h l0 3 6).bind fun x2 => ((z_sF h l0 3 5 (.int x2)).bind fun h5 => xX3_advance_L8 zFU l0 h5))
set_option maxHeartbeats 4000000 in
set_option maxRecDepth 100000 in
theorem lX3_advance {Γ : ZG} {l : Launch} (hO : z_OK Γ) {l0 : Nat} {h : ZH} {r : ZH} (hX : xX3_advance l0 h = some r) : z_M Γ l yX3_advance (z_ws1 yX3_advance cX3_advance 1 none) rmX3_advance [.ref l0] h none r := by
  refine z_start hO (plainFor_of_name (by decide)) (Nat.le_of_ble_eq_true rfl) ?_
  intro p e s m args below meth c G hr hnm
  refine z_lvc (lv2 := [(0, .ref l0)]) rfl ?_
  refine z_aload_n (pc := 0) G 0 dX3_advance_0 rfl rfl ?_
  refine z_aload_n (pc := 1) G 0 dX3_advance_1 rfl rfl ?_
  obtain ⟨x2, hv2, hX⟩ := z_bd hX
  refine z_getI (pc := 2) G kK3 (k := 6) (by decide) kt_146 dX3_advance_2 hv2 ?_
  obtain ⟨h5, hv5, hX⟩ := z_bd hX
  refine z_putF (pc := 5) G kK3 (k := 5) (by decide) kt_145 (Or.inl rfl) rfl rfl dX3_advance_5 hv5 ?_
  exact wX3_advance_L8 hO G hr hnm zFU _ _ hX
theorem dX3_isWord_0 : decode cX3_isWord 0 = .ok (.aload_n 0, 1) := by decide +kernel
theorem dX3_isWord_1 : decode cX3_isWord 1 = .ok (.getfield 60, 3) := by decide +kernel
theorem dX3_isWord_4 : decode cX3_isWord 4 = .ok (.iconst 1, 1) := by decide +kernel
theorem dX3_isWord_5 : decode cX3_isWord 5 = .ok (.if_icmp .ne 15, 3) := by decide +kernel
theorem dX3_isWord_8 : decode cX3_isWord 8 = .ok (.aload_n 0, 1) := by decide +kernel
theorem dX3_isWord_9 : decode cX3_isWord 9 = .ok (.getfield 67, 3) := by decide +kernel
theorem dX3_isWord_12 : decode cX3_isWord 12 = .ok (.iload_n 1, 1) := by decide +kernel
theorem dX3_isWord_13 : decode cX3_isWord 13 = .ok (.if_icmp .ne 7, 3) := by decide +kernel
theorem dX3_isWord_16 : decode cX3_isWord 16 = .ok (.iconst 1, 1) := by decide +kernel
theorem dX3_isWord_17 : decode cX3_isWord 17 = .ok (.goto 4, 3) := by decide +kernel
theorem dX3_isWord_20 : decode cX3_isWord 20 = .ok (.iconst 0, 1) := by decide +kernel
theorem dX3_isWord_21 : decode cX3_isWord 21 = .ok (.ireturn, 1) := by decide +kernel
theorem ydX3_isWord : z_yd yX3_isWord 1 := ⟨by decide, by decide, by decide +kernel⟩
abbrev rmX3_isWord : Room := { frames := 0, cells := 0, slots := 0, locals := 0 }
noncomputable def xX3_isWord (l0 : Nat) (l1 : Int32) (h : ZH) : Option (Int32 × ZH) := ((z_gI h l0 3 7).bind fun x1 => (if x1 = (1 : Int32) then ((z_gI h l0 3 8).bind fun x9 => (if x9 = l1 then some ((1 : Int32), h) else some ((0 : Int32), h))) else some ((0 : Int32), h)))
set_option maxHeartbeats 4000000 in
set_option maxRecDepth 100000 in
theorem lX3_isWord {Γ : ZG} {l : Launch} (hO : z_OK Γ) {l0 : Nat} {l1 : Int32} {h : ZH} {r : (Int32 × ZH)} (hX : xX3_isWord l0 l1 h = some r) : z_M Γ l yX3_isWord (z_ws1 yX3_isWord cX3_isWord 2 (some .boolean)) rmX3_isWord [.ref l0, .int l1] h (some (.int r.1)) r.2 := by
  refine z_start hO (plainFor_of_name (by decide)) (Nat.le_of_ble_eq_true rfl) ?_
  intro p e s m args below meth c G hr hnm
  refine z_lvc (lv2 := [(0, .ref l0), (1, .int l1)]) rfl ?_
  refine z_aload_n (pc := 0) G 0 dX3_isWord_0 rfl rfl ?_
  obtain ⟨x1, hv1, hX⟩ := z_bd hX
  refine z_getI (pc := 1) G kK3 (k := 7) (by decide) kt_147 dX3_isWord_1 hv1 ?_
  refine z_iconst (pc := 4) (v := 1) G dX3_isWord_4 (by decide) ?_
  refine z_icmp_ne (pc := 5) (tgt := 20) G dX3_isWord_5 (by decide) (fun hc5 => ?_) (fun hc5 => ?_)
  · have hX := z_if hc5 hX
    refine z_iconst (pc := 20) (v := 0) G dX3_isWord_20 (by decide) ?_
    exact z_zretX (pc := 21) hX G hr rfl dX3_isWord_21 (by decide) (by decide)
  · have hX := z_it hc5 hX
    refine z_aload_n (pc := 8) G 0 dX3_isWord_8 rfl rfl ?_
    obtain ⟨x9, hv9, hX⟩ := z_bd hX
    refine z_getI (pc := 9) G kK3 (k := 8) (by decide) kt_148 dX3_isWord_9 hv9 ?_
    refine z_iload_n (pc := 12) G 1 dX3_isWord_12 rfl rfl ?_
    refine z_icmp_ne (pc := 13) (tgt := 20) G dX3_isWord_13 (by decide) (fun hc13 => ?_) (fun hc13 => ?_)
    · have hX := z_if hc13 hX
      refine z_iconst (pc := 20) (v := 0) G dX3_isWord_20 (by decide) ?_
      exact z_zretX (pc := 21) hX G hr rfl dX3_isWord_21 (by decide) (by decide)
    · have hX := z_it hc13 hX
      refine z_iconst (pc := 16) (v := 1) G dX3_isWord_16 (by decide) ?_
      refine z_goto (pc := 17) (tgt := 21) G dX3_isWord_17 (by decide) ?_
      exact z_zretX (pc := 21) hX G hr rfl dX3_isWord_21 (by decide) (by decide)
theorem dX3_codeBetween_0 : decode cX3_codeBetween 0 = .ok (.iload_n 1, 1) := by decide +kernel
theorem dX3_codeBetween_1 : decode cX3_codeBetween 1 = .ok (.ifCond .ne 18, 3) := by decide +kernel
theorem dX3_codeBetween_4 : decode cX3_codeBetween 4 = .ok (.aload_n 0, 1) := by decide +kernel
theorem dX3_codeBetween_5 : decode cX3_codeBetween 5 = .ok (.bipush 12, 2) := by decide +kernel
theorem dX3_codeBetween_7 : decode cX3_codeBetween 7 = .ok (.invokevirtual 151, 3) := by decide +kernel
theorem dX3_codeBetween_10 : decode cX3_codeBetween 10 = .ok (.ifCond .eq 7, 3) := by decide +kernel
theorem dX3_codeBetween_13 : decode cX3_codeBetween 13 = .ok (.iconst (-1), 1) := by decide +kernel
theorem dX3_codeBetween_14 : decode cX3_codeBetween 14 = .ok (.goto 4, 3) := by decide +kernel
theorem dX3_codeBetween_17 : decode cX3_codeBetween 17 = .ok (.iconst 0, 1) := by decide +kernel
theorem dX3_codeBetween_18 : decode cX3_codeBetween 18 = .ok (.ireturn, 1) := by decide +kernel
theorem dX3_codeBetween_19 : decode cX3_codeBetween 19 = .ok (.iload_n 1, 1) := by decide +kernel
theorem dX3_codeBetween_20 : decode cX3_codeBetween 20 = .ok (.iconst 1, 1) := by decide +kernel
theorem dX3_codeBetween_21 : decode cX3_codeBetween 21 = .ok (.if_icmp .ne 19, 3) := by decide +kernel
theorem dX3_codeBetween_24 : decode cX3_codeBetween 24 = .ok (.aload_n 0, 1) := by decide +kernel
theorem dX3_codeBetween_25 : decode cX3_codeBetween 25 = .ok (.bipush 13, 2) := by decide +kernel
theorem dX3_codeBetween_27 : decode cX3_codeBetween 27 = .ok (.invokevirtual 151, 3) := by decide +kernel
theorem dX3_codeBetween_30 : decode cX3_codeBetween 30 = .ok (.ifCond .eq 8, 3) := by decide +kernel
theorem dX3_codeBetween_33 : decode cX3_codeBetween 33 = .ok (.bipush (-2), 2) := by decide +kernel
theorem dX3_codeBetween_35 : decode cX3_codeBetween 35 = .ok (.goto 4, 3) := by decide +kernel
theorem dX3_codeBetween_38 : decode cX3_codeBetween 38 = .ok (.iconst 0, 1) := by decide +kernel
theorem dX3_codeBetween_39 : decode cX3_codeBetween 39 = .ok (.ireturn, 1) := by decide +kernel
theorem dX3_codeBetween_40 : decode cX3_codeBetween 40 = .ok (.aload_n 0, 1) := by decide +kernel
theorem dX3_codeBetween_41 : decode cX3_codeBetween 41 = .ok (.getfield 60, 3) := by decide +kernel
theorem dX3_codeBetween_44 : decode cX3_codeBetween 44 = .ok (.iconst 3, 1) := by decide +kernel
theorem dX3_codeBetween_45 : decode cX3_codeBetween 45 = .ok (.if_icmp .eq 5, 3) := by decide +kernel
theorem dX3_codeBetween_48 : decode cX3_codeBetween 48 = .ok (.iconst 0, 1) := by decide +kernel
theorem dX3_codeBetween_49 : decode cX3_codeBetween 49 = .ok (.ireturn, 1) := by decide +kernel
theorem dX3_codeBetween_50 : decode cX3_codeBetween 50 = .ok (.aload_n 0, 1) := by decide +kernel
theorem dX3_codeBetween_51 : decode cX3_codeBetween 51 = .ok (.getfield 67, 3) := by decide +kernel
theorem dX3_codeBetween_54 : decode cX3_codeBetween 54 = .ok (.tableswitch 214 37 62 #[202, 214, 214, 214, 214, 178, 154, 214, 166, 214, 190, 214, 214, 214, 214, 214, 214, 214, 214, 214, 214, 214, 214, 118, 142, 130], 118) := by decide +kernel
theorem dX3_codeBetween_172 : decode cX3_codeBetween 172 = .ok (.iload_n 1, 1) := by decide +kernel
theorem dX3_codeBetween_173 : decode cX3_codeBetween 173 = .ok (.iconst 2, 1) := by decide +kernel
theorem dX3_codeBetween_174 : decode cX3_codeBetween 174 = .ok (.if_icmp .ne 8, 3) := by decide +kernel
theorem dX3_codeBetween_177 : decode cX3_codeBetween 177 = .ok (.bipush (-4), 2) := by decide +kernel
theorem dX3_codeBetween_179 : decode cX3_codeBetween 179 = .ok (.goto 4, 3) := by decide +kernel
theorem dX3_codeBetween_182 : decode cX3_codeBetween 182 = .ok (.iconst 0, 1) := by decide +kernel
theorem dX3_codeBetween_183 : decode cX3_codeBetween 183 = .ok (.ireturn, 1) := by decide +kernel
theorem dX3_codeBetween_184 : decode cX3_codeBetween 184 = .ok (.iload_n 1, 1) := by decide +kernel
theorem dX3_codeBetween_185 : decode cX3_codeBetween 185 = .ok (.iconst 2, 1) := by decide +kernel
theorem dX3_codeBetween_186 : decode cX3_codeBetween 186 = .ok (.if_icmp .ne 8, 3) := by decide +kernel
theorem dX3_codeBetween_189 : decode cX3_codeBetween 189 = .ok (.bipush (-5), 2) := by decide +kernel
theorem dX3_codeBetween_191 : decode cX3_codeBetween 191 = .ok (.goto 4, 3) := by decide +kernel
theorem dX3_codeBetween_194 : decode cX3_codeBetween 194 = .ok (.iconst 0, 1) := by decide +kernel
theorem dX3_codeBetween_195 : decode cX3_codeBetween 195 = .ok (.ireturn, 1) := by decide +kernel
theorem dX3_codeBetween_196 : decode cX3_codeBetween 196 = .ok (.iload_n 1, 1) := by decide +kernel
theorem dX3_codeBetween_197 : decode cX3_codeBetween 197 = .ok (.iconst 2, 1) := by decide +kernel
theorem dX3_codeBetween_198 : decode cX3_codeBetween 198 = .ok (.if_icmp .ne 8, 3) := by decide +kernel
theorem dX3_codeBetween_201 : decode cX3_codeBetween 201 = .ok (.bipush (-6), 2) := by decide +kernel
theorem dX3_codeBetween_203 : decode cX3_codeBetween 203 = .ok (.goto 4, 3) := by decide +kernel
theorem dX3_codeBetween_206 : decode cX3_codeBetween 206 = .ok (.iconst 0, 1) := by decide +kernel
theorem dX3_codeBetween_207 : decode cX3_codeBetween 207 = .ok (.ireturn, 1) := by decide +kernel
theorem dX3_codeBetween_208 : decode cX3_codeBetween 208 = .ok (.iload_n 1, 1) := by decide +kernel
theorem dX3_codeBetween_209 : decode cX3_codeBetween 209 = .ok (.iconst 3, 1) := by decide +kernel
theorem dX3_codeBetween_210 : decode cX3_codeBetween 210 = .ok (.if_icmp .ne 8, 3) := by decide +kernel
theorem dX3_codeBetween_213 : decode cX3_codeBetween 213 = .ok (.bipush (-7), 2) := by decide +kernel
theorem dX3_codeBetween_215 : decode cX3_codeBetween 215 = .ok (.goto 4, 3) := by decide +kernel
theorem dX3_codeBetween_218 : decode cX3_codeBetween 218 = .ok (.iconst 0, 1) := by decide +kernel
theorem dX3_codeBetween_219 : decode cX3_codeBetween 219 = .ok (.ireturn, 1) := by decide +kernel
theorem dX3_codeBetween_220 : decode cX3_codeBetween 220 = .ok (.iload_n 1, 1) := by decide +kernel
theorem dX3_codeBetween_221 : decode cX3_codeBetween 221 = .ok (.iconst 3, 1) := by decide +kernel
theorem dX3_codeBetween_222 : decode cX3_codeBetween 222 = .ok (.if_icmp .ne 8, 3) := by decide +kernel
theorem dX3_codeBetween_225 : decode cX3_codeBetween 225 = .ok (.bipush (-8), 2) := by decide +kernel
theorem dX3_codeBetween_227 : decode cX3_codeBetween 227 = .ok (.goto 4, 3) := by decide +kernel
theorem dX3_codeBetween_230 : decode cX3_codeBetween 230 = .ok (.iconst 0, 1) := by decide +kernel
theorem dX3_codeBetween_231 : decode cX3_codeBetween 231 = .ok (.ireturn, 1) := by decide +kernel
theorem dX3_codeBetween_232 : decode cX3_codeBetween 232 = .ok (.iload_n 1, 1) := by decide +kernel
theorem dX3_codeBetween_233 : decode cX3_codeBetween 233 = .ok (.iconst 4, 1) := by decide +kernel
theorem dX3_codeBetween_234 : decode cX3_codeBetween 234 = .ok (.if_icmp .ne 8, 3) := by decide +kernel
theorem dX3_codeBetween_237 : decode cX3_codeBetween 237 = .ok (.bipush (-9), 2) := by decide +kernel
theorem dX3_codeBetween_239 : decode cX3_codeBetween 239 = .ok (.goto 4, 3) := by decide +kernel
theorem dX3_codeBetween_242 : decode cX3_codeBetween 242 = .ok (.iconst 0, 1) := by decide +kernel
theorem dX3_codeBetween_243 : decode cX3_codeBetween 243 = .ok (.ireturn, 1) := by decide +kernel
theorem dX3_codeBetween_244 : decode cX3_codeBetween 244 = .ok (.iload_n 1, 1) := by decide +kernel
theorem dX3_codeBetween_245 : decode cX3_codeBetween 245 = .ok (.iconst 4, 1) := by decide +kernel
theorem dX3_codeBetween_246 : decode cX3_codeBetween 246 = .ok (.if_icmp .ne 8, 3) := by decide +kernel
theorem dX3_codeBetween_249 : decode cX3_codeBetween 249 = .ok (.bipush (-10), 2) := by decide +kernel
theorem dX3_codeBetween_251 : decode cX3_codeBetween 251 = .ok (.goto 4, 3) := by decide +kernel
theorem dX3_codeBetween_254 : decode cX3_codeBetween 254 = .ok (.iconst 0, 1) := by decide +kernel
theorem dX3_codeBetween_255 : decode cX3_codeBetween 255 = .ok (.ireturn, 1) := by decide +kernel
theorem dX3_codeBetween_256 : decode cX3_codeBetween 256 = .ok (.iload_n 1, 1) := by decide +kernel
theorem dX3_codeBetween_257 : decode cX3_codeBetween 257 = .ok (.iconst 4, 1) := by decide +kernel
theorem dX3_codeBetween_258 : decode cX3_codeBetween 258 = .ok (.if_icmp .ne 8, 3) := by decide +kernel
theorem dX3_codeBetween_261 : decode cX3_codeBetween 261 = .ok (.bipush (-11), 2) := by decide +kernel
theorem dX3_codeBetween_263 : decode cX3_codeBetween 263 = .ok (.goto 4, 3) := by decide +kernel
theorem dX3_codeBetween_266 : decode cX3_codeBetween 266 = .ok (.iconst 0, 1) := by decide +kernel
theorem dX3_codeBetween_267 : decode cX3_codeBetween 267 = .ok (.ireturn, 1) := by decide +kernel
theorem dX3_codeBetween_268 : decode cX3_codeBetween 268 = .ok (.iconst 0, 1) := by decide +kernel
theorem dX3_codeBetween_269 : decode cX3_codeBetween 269 = .ok (.ireturn, 1) := by decide +kernel
theorem ydX3_codeBetween : z_yd yX3_codeBetween 1 := ⟨by decide, by decide, by decide +kernel⟩
abbrev rmX3_codeBetween : Room := { frames := 1, cells := 0, slots := 0, locals := 21 }
noncomputable def xX3_codeBetween (l0 : Nat) (l1 : Int32) (h : ZH) : Option (Int32 × ZH) := (if l1 = 0 then (z_gu (z_is h l0 3) ((xX3_isWord l0 (12 : Int32) h).bind fun r7 => (if r7.1 = 0 then some ((0 : Int32), r7.2) else some ((-1 : Int32), r7.2)))) else (if l1 = (1 : Int32) then (z_gu (z_is h l0 3) ((xX3_isWord l0 (13 : Int32) h).bind fun r27 => (if r27.1 = 0 then some ((0 : Int32), r27.2) else some ((-2 : Int32), r27.2)))) else ((z_gI h l0 3 7).bind fun x41 => (if x41 = (3 : Int32) then ((z_gI h l0 3 8).bind fun x51 => (if x51 = 37 then (if l1 = (4 : Int32) then some ((-11 : Int32), h) else some ((0 : Int32), h)) else (if x51 = 38 then some ((0 : Int32), h) else (if x51 = 39 then some ((0 : Int32), h) else (if x51 = 40 then some ((0 : Int32), h) else (if x51 = 41 then some ((0 : Int32), h) else (if x51 = 42 then (if l1 = (4 : Int32) then some ((-9 : Int32), h) else some ((0 : Int32), h)) else (if x51 = 43 then (if l1 = (3 : Int32) then some ((-7 : Int32), h) else some ((0 : Int32), h)) else (if x51 = 44 then some ((0 : Int32), h) else (if x51 = 45 then (if l1 = (3 : Int32) then some ((-8 : Int32), h) else some ((0 : Int32), h)) else (if x51 = 46 then some ((0 : Int32), h) else (if x51 = 47 then (if l1 = (4 : Int32) then some ((-10 : Int32), h) else some ((0 : Int32), h)) else (if x51 = 48 then some ((0 : Int32), h) else (if x51 = 49 then some ((0 : Int32), h) else (if x51 = 50 then some ((0 : Int32), h) else (if x51 = 51 then some ((0 : Int32), h) else (if x51 = 52 then some ((0 : Int32), h) else (if x51 = 53 then some ((0 : Int32), h) else (if x51 = 54 then some ((0 : Int32), h) else (if x51 = 55 then some ((0 : Int32), h) else (if x51 = 56 then some ((0 : Int32), h) else (if x51 = 57 then some ((0 : Int32), h) else (if x51 = 58 then some ((0 : Int32), h) else (if x51 = 59 then some ((0 : Int32), h) else (if x51 = 60 then (if l1 = (2 : Int32) then some ((-4 : Int32), h) else some ((0 : Int32), h)) else (if x51 = 61 then (if l1 = (2 : Int32) then some ((-6 : Int32), h) else some ((0 : Int32), h)) else (if x51 = 62 then (if l1 = (2 : Int32) then some ((-5 : Int32), h) else some ((0 : Int32), h)) else some ((0 : Int32), h)))))))))))))))))))))))))))) else some ((0 : Int32), h)))))
set_option maxHeartbeats 4000000 in
set_option maxRecDepth 100000 in
theorem lX3_codeBetween {Γ : ZG} {l : Launch} (hO : z_OK Γ) {l0 : Nat} {l1 : Int32} {h : ZH} {r : (Int32 × ZH)} (hX : xX3_codeBetween l0 l1 h = some r) : z_M Γ l yX3_codeBetween (z_ws1 yX3_codeBetween cX3_codeBetween 2 (some .int)) rmX3_codeBetween [.ref l0, .int l1] h (some (.int r.1)) r.2 := by
  refine z_start hO (plainFor_of_name (by decide)) (Nat.le_of_ble_eq_true rfl) ?_
  intro p e s m args below meth c G hr hnm
  refine z_lvc (lv2 := [(0, .ref l0), (1, .int l1)]) rfl ?_
  refine z_iload_n (pc := 0) G 1 dX3_codeBetween_0 rfl rfl ?_
  refine z_if_ne (pc := 1) (tgt := 19) G dX3_codeBetween_1 (by decide) (fun hc1 => ?_) (fun hc1 => ?_)
  · have hX := z_if hc1 hX
    refine z_iload_n (pc := 19) G 1 dX3_codeBetween_19 rfl rfl ?_
    refine z_iconst (pc := 20) (v := 1) G dX3_codeBetween_20 (by decide) ?_
    refine z_icmp_ne (pc := 21) (tgt := 40) G dX3_codeBetween_21 (by decide) (fun hc21 => ?_) (fun hc21 => ?_)
    · have hX := z_if hc21 hX
      refine z_aload_n (pc := 40) G 0 dX3_codeBetween_40 rfl rfl ?_
      obtain ⟨x41, hv41, hX⟩ := z_bd hX
      refine z_getI (pc := 41) G kK3 (k := 7) (by decide) kt_147 dX3_codeBetween_41 hv41 ?_
      refine z_iconst (pc := 44) (v := 3) G dX3_codeBetween_44 (by decide) ?_
      refine z_icmp_eq (pc := 45) (tgt := 50) G dX3_codeBetween_45 (by decide) (fun hc45 => ?_) (fun hc45 => ?_)
      · have hX := z_it hc45 hX
        refine z_aload_n (pc := 50) G 0 dX3_codeBetween_50 rfl rfl ?_
        obtain ⟨x51, hv51, hX⟩ := z_bd hX
        refine z_getI (pc := 51) G kK3 (k := 8) (by decide) kt_148 dX3_codeBetween_51 hv51 ?_
        by_cases hs54_0 : x51 = 37
        · have hX := z_it hs54_0 hX
          refine z_tableIn (pc := 54) (off := 202) (tgt := 256) G dX3_codeBetween_54 (by rw [hs54_0]; decide) (by rw [hs54_0]; decide) (by rw [hs54_0]; decide) (by decide) ?_
          refine z_iload_n (pc := 256) G 1 dX3_codeBetween_256 rfl rfl ?_
          refine z_iconst (pc := 257) (v := 4) G dX3_codeBetween_257 (by decide) ?_
          refine z_icmp_ne (pc := 258) (tgt := 266) G dX3_codeBetween_258 (by decide) (fun hc258 => ?_) (fun hc258 => ?_)
          · have hX := z_if hc258 hX
            refine z_iconst (pc := 266) (v := 0) G dX3_codeBetween_266 (by decide) ?_
            exact z_iretX (pc := 267) hX G hr dX3_codeBetween_267 (by decide) (by decide)
          · have hX := z_it hc258 hX
            refine z_bipush (pc := 261) (v := (-11)) G dX3_codeBetween_261 (by decide) ?_
            refine z_goto (pc := 263) (tgt := 267) G dX3_codeBetween_263 (by decide) ?_
            exact z_iretX (pc := 267) hX G hr dX3_codeBetween_267 (by decide) (by decide)
        have hX := z_if hs54_0 hX
        by_cases hs54_1 : x51 = 38
        · have hX := z_it hs54_1 hX
          refine z_tableIn (pc := 54) (off := 214) (tgt := 268) G dX3_codeBetween_54 (by rw [hs54_1]; decide) (by rw [hs54_1]; decide) (by rw [hs54_1]; decide) (by decide) ?_
          refine z_iconst (pc := 268) (v := 0) G dX3_codeBetween_268 (by decide) ?_
          exact z_iretX (pc := 269) hX G hr dX3_codeBetween_269 (by decide) (by decide)
        have hX := z_if hs54_1 hX
        by_cases hs54_2 : x51 = 39
        · have hX := z_it hs54_2 hX
          refine z_tableIn (pc := 54) (off := 214) (tgt := 268) G dX3_codeBetween_54 (by rw [hs54_2]; decide) (by rw [hs54_2]; decide) (by rw [hs54_2]; decide) (by decide) ?_
          refine z_iconst (pc := 268) (v := 0) G dX3_codeBetween_268 (by decide) ?_
          exact z_iretX (pc := 269) hX G hr dX3_codeBetween_269 (by decide) (by decide)
        have hX := z_if hs54_2 hX
        by_cases hs54_3 : x51 = 40
        · have hX := z_it hs54_3 hX
          refine z_tableIn (pc := 54) (off := 214) (tgt := 268) G dX3_codeBetween_54 (by rw [hs54_3]; decide) (by rw [hs54_3]; decide) (by rw [hs54_3]; decide) (by decide) ?_
          refine z_iconst (pc := 268) (v := 0) G dX3_codeBetween_268 (by decide) ?_
          exact z_iretX (pc := 269) hX G hr dX3_codeBetween_269 (by decide) (by decide)
        have hX := z_if hs54_3 hX
        by_cases hs54_4 : x51 = 41
        · have hX := z_it hs54_4 hX
          refine z_tableIn (pc := 54) (off := 214) (tgt := 268) G dX3_codeBetween_54 (by rw [hs54_4]; decide) (by rw [hs54_4]; decide) (by rw [hs54_4]; decide) (by decide) ?_
          refine z_iconst (pc := 268) (v := 0) G dX3_codeBetween_268 (by decide) ?_
          exact z_iretX (pc := 269) hX G hr dX3_codeBetween_269 (by decide) (by decide)
        have hX := z_if hs54_4 hX
        by_cases hs54_5 : x51 = 42
        · have hX := z_it hs54_5 hX
          refine z_tableIn (pc := 54) (off := 178) (tgt := 232) G dX3_codeBetween_54 (by rw [hs54_5]; decide) (by rw [hs54_5]; decide) (by rw [hs54_5]; decide) (by decide) ?_
          refine z_iload_n (pc := 232) G 1 dX3_codeBetween_232 rfl rfl ?_
          refine z_iconst (pc := 233) (v := 4) G dX3_codeBetween_233 (by decide) ?_
          refine z_icmp_ne (pc := 234) (tgt := 242) G dX3_codeBetween_234 (by decide) (fun hc234 => ?_) (fun hc234 => ?_)
          · have hX := z_if hc234 hX
            refine z_iconst (pc := 242) (v := 0) G dX3_codeBetween_242 (by decide) ?_
            exact z_iretX (pc := 243) hX G hr dX3_codeBetween_243 (by decide) (by decide)
          · have hX := z_it hc234 hX
            refine z_bipush (pc := 237) (v := (-9)) G dX3_codeBetween_237 (by decide) ?_
            refine z_goto (pc := 239) (tgt := 243) G dX3_codeBetween_239 (by decide) ?_
            exact z_iretX (pc := 243) hX G hr dX3_codeBetween_243 (by decide) (by decide)
        have hX := z_if hs54_5 hX
        by_cases hs54_6 : x51 = 43
        · have hX := z_it hs54_6 hX
          refine z_tableIn (pc := 54) (off := 154) (tgt := 208) G dX3_codeBetween_54 (by rw [hs54_6]; decide) (by rw [hs54_6]; decide) (by rw [hs54_6]; decide) (by decide) ?_
          refine z_iload_n (pc := 208) G 1 dX3_codeBetween_208 rfl rfl ?_
          refine z_iconst (pc := 209) (v := 3) G dX3_codeBetween_209 (by decide) ?_
          refine z_icmp_ne (pc := 210) (tgt := 218) G dX3_codeBetween_210 (by decide) (fun hc210 => ?_) (fun hc210 => ?_)
          · have hX := z_if hc210 hX
            refine z_iconst (pc := 218) (v := 0) G dX3_codeBetween_218 (by decide) ?_
            exact z_iretX (pc := 219) hX G hr dX3_codeBetween_219 (by decide) (by decide)
          · have hX := z_it hc210 hX
            refine z_bipush (pc := 213) (v := (-7)) G dX3_codeBetween_213 (by decide) ?_
            refine z_goto (pc := 215) (tgt := 219) G dX3_codeBetween_215 (by decide) ?_
            exact z_iretX (pc := 219) hX G hr dX3_codeBetween_219 (by decide) (by decide)
        have hX := z_if hs54_6 hX
        by_cases hs54_7 : x51 = 44
        · have hX := z_it hs54_7 hX
          refine z_tableIn (pc := 54) (off := 214) (tgt := 268) G dX3_codeBetween_54 (by rw [hs54_7]; decide) (by rw [hs54_7]; decide) (by rw [hs54_7]; decide) (by decide) ?_
          refine z_iconst (pc := 268) (v := 0) G dX3_codeBetween_268 (by decide) ?_
          exact z_iretX (pc := 269) hX G hr dX3_codeBetween_269 (by decide) (by decide)
        have hX := z_if hs54_7 hX
        by_cases hs54_8 : x51 = 45
        · have hX := z_it hs54_8 hX
          refine z_tableIn (pc := 54) (off := 166) (tgt := 220) G dX3_codeBetween_54 (by rw [hs54_8]; decide) (by rw [hs54_8]; decide) (by rw [hs54_8]; decide) (by decide) ?_
          refine z_iload_n (pc := 220) G 1 dX3_codeBetween_220 rfl rfl ?_
          refine z_iconst (pc := 221) (v := 3) G dX3_codeBetween_221 (by decide) ?_
          refine z_icmp_ne (pc := 222) (tgt := 230) G dX3_codeBetween_222 (by decide) (fun hc222 => ?_) (fun hc222 => ?_)
          · have hX := z_if hc222 hX
            refine z_iconst (pc := 230) (v := 0) G dX3_codeBetween_230 (by decide) ?_
            exact z_iretX (pc := 231) hX G hr dX3_codeBetween_231 (by decide) (by decide)
          · have hX := z_it hc222 hX
            refine z_bipush (pc := 225) (v := (-8)) G dX3_codeBetween_225 (by decide) ?_
            refine z_goto (pc := 227) (tgt := 231) G dX3_codeBetween_227 (by decide) ?_
            exact z_iretX (pc := 231) hX G hr dX3_codeBetween_231 (by decide) (by decide)
        have hX := z_if hs54_8 hX
        by_cases hs54_9 : x51 = 46
        · have hX := z_it hs54_9 hX
          refine z_tableIn (pc := 54) (off := 214) (tgt := 268) G dX3_codeBetween_54 (by rw [hs54_9]; decide) (by rw [hs54_9]; decide) (by rw [hs54_9]; decide) (by decide) ?_
          refine z_iconst (pc := 268) (v := 0) G dX3_codeBetween_268 (by decide) ?_
          exact z_iretX (pc := 269) hX G hr dX3_codeBetween_269 (by decide) (by decide)
        have hX := z_if hs54_9 hX
        by_cases hs54_10 : x51 = 47
        · have hX := z_it hs54_10 hX
          refine z_tableIn (pc := 54) (off := 190) (tgt := 244) G dX3_codeBetween_54 (by rw [hs54_10]; decide) (by rw [hs54_10]; decide) (by rw [hs54_10]; decide) (by decide) ?_
          refine z_iload_n (pc := 244) G 1 dX3_codeBetween_244 rfl rfl ?_
          refine z_iconst (pc := 245) (v := 4) G dX3_codeBetween_245 (by decide) ?_
          refine z_icmp_ne (pc := 246) (tgt := 254) G dX3_codeBetween_246 (by decide) (fun hc246 => ?_) (fun hc246 => ?_)
          · have hX := z_if hc246 hX
            refine z_iconst (pc := 254) (v := 0) G dX3_codeBetween_254 (by decide) ?_
            exact z_iretX (pc := 255) hX G hr dX3_codeBetween_255 (by decide) (by decide)
          · have hX := z_it hc246 hX
            refine z_bipush (pc := 249) (v := (-10)) G dX3_codeBetween_249 (by decide) ?_
            refine z_goto (pc := 251) (tgt := 255) G dX3_codeBetween_251 (by decide) ?_
            exact z_iretX (pc := 255) hX G hr dX3_codeBetween_255 (by decide) (by decide)
        have hX := z_if hs54_10 hX
        by_cases hs54_11 : x51 = 48
        · have hX := z_it hs54_11 hX
          refine z_tableIn (pc := 54) (off := 214) (tgt := 268) G dX3_codeBetween_54 (by rw [hs54_11]; decide) (by rw [hs54_11]; decide) (by rw [hs54_11]; decide) (by decide) ?_
          refine z_iconst (pc := 268) (v := 0) G dX3_codeBetween_268 (by decide) ?_
          exact z_iretX (pc := 269) hX G hr dX3_codeBetween_269 (by decide) (by decide)
        have hX := z_if hs54_11 hX
        by_cases hs54_12 : x51 = 49
        · have hX := z_it hs54_12 hX
          refine z_tableIn (pc := 54) (off := 214) (tgt := 268) G dX3_codeBetween_54 (by rw [hs54_12]; decide) (by rw [hs54_12]; decide) (by rw [hs54_12]; decide) (by decide) ?_
          refine z_iconst (pc := 268) (v := 0) G dX3_codeBetween_268 (by decide) ?_
          exact z_iretX (pc := 269) hX G hr dX3_codeBetween_269 (by decide) (by decide)
        have hX := z_if hs54_12 hX
        by_cases hs54_13 : x51 = 50
        · have hX := z_it hs54_13 hX
          refine z_tableIn (pc := 54) (off := 214) (tgt := 268) G dX3_codeBetween_54 (by rw [hs54_13]; decide) (by rw [hs54_13]; decide) (by rw [hs54_13]; decide) (by decide) ?_
          refine z_iconst (pc := 268) (v := 0) G dX3_codeBetween_268 (by decide) ?_
          exact z_iretX (pc := 269) hX G hr dX3_codeBetween_269 (by decide) (by decide)
        have hX := z_if hs54_13 hX
        by_cases hs54_14 : x51 = 51
        · have hX := z_it hs54_14 hX
          refine z_tableIn (pc := 54) (off := 214) (tgt := 268) G dX3_codeBetween_54 (by rw [hs54_14]; decide) (by rw [hs54_14]; decide) (by rw [hs54_14]; decide) (by decide) ?_
          refine z_iconst (pc := 268) (v := 0) G dX3_codeBetween_268 (by decide) ?_
          exact z_iretX (pc := 269) hX G hr dX3_codeBetween_269 (by decide) (by decide)
        have hX := z_if hs54_14 hX
        by_cases hs54_15 : x51 = 52
        · have hX := z_it hs54_15 hX
          refine z_tableIn (pc := 54) (off := 214) (tgt := 268) G dX3_codeBetween_54 (by rw [hs54_15]; decide) (by rw [hs54_15]; decide) (by rw [hs54_15]; decide) (by decide) ?_
          refine z_iconst (pc := 268) (v := 0) G dX3_codeBetween_268 (by decide) ?_
          exact z_iretX (pc := 269) hX G hr dX3_codeBetween_269 (by decide) (by decide)
        have hX := z_if hs54_15 hX
        by_cases hs54_16 : x51 = 53
        · have hX := z_it hs54_16 hX
          refine z_tableIn (pc := 54) (off := 214) (tgt := 268) G dX3_codeBetween_54 (by rw [hs54_16]; decide) (by rw [hs54_16]; decide) (by rw [hs54_16]; decide) (by decide) ?_
          refine z_iconst (pc := 268) (v := 0) G dX3_codeBetween_268 (by decide) ?_
          exact z_iretX (pc := 269) hX G hr dX3_codeBetween_269 (by decide) (by decide)
        have hX := z_if hs54_16 hX
        by_cases hs54_17 : x51 = 54
        · have hX := z_it hs54_17 hX
          refine z_tableIn (pc := 54) (off := 214) (tgt := 268) G dX3_codeBetween_54 (by rw [hs54_17]; decide) (by rw [hs54_17]; decide) (by rw [hs54_17]; decide) (by decide) ?_
          refine z_iconst (pc := 268) (v := 0) G dX3_codeBetween_268 (by decide) ?_
          exact z_iretX (pc := 269) hX G hr dX3_codeBetween_269 (by decide) (by decide)
        have hX := z_if hs54_17 hX
        by_cases hs54_18 : x51 = 55
        · have hX := z_it hs54_18 hX
          refine z_tableIn (pc := 54) (off := 214) (tgt := 268) G dX3_codeBetween_54 (by rw [hs54_18]; decide) (by rw [hs54_18]; decide) (by rw [hs54_18]; decide) (by decide) ?_
          refine z_iconst (pc := 268) (v := 0) G dX3_codeBetween_268 (by decide) ?_
          exact z_iretX (pc := 269) hX G hr dX3_codeBetween_269 (by decide) (by decide)
        have hX := z_if hs54_18 hX
        by_cases hs54_19 : x51 = 56
        · have hX := z_it hs54_19 hX
          refine z_tableIn (pc := 54) (off := 214) (tgt := 268) G dX3_codeBetween_54 (by rw [hs54_19]; decide) (by rw [hs54_19]; decide) (by rw [hs54_19]; decide) (by decide) ?_
          refine z_iconst (pc := 268) (v := 0) G dX3_codeBetween_268 (by decide) ?_
          exact z_iretX (pc := 269) hX G hr dX3_codeBetween_269 (by decide) (by decide)
        have hX := z_if hs54_19 hX
        by_cases hs54_20 : x51 = 57
        · have hX := z_it hs54_20 hX
          refine z_tableIn (pc := 54) (off := 214) (tgt := 268) G dX3_codeBetween_54 (by rw [hs54_20]; decide) (by rw [hs54_20]; decide) (by rw [hs54_20]; decide) (by decide) ?_
          refine z_iconst (pc := 268) (v := 0) G dX3_codeBetween_268 (by decide) ?_
          exact z_iretX (pc := 269) hX G hr dX3_codeBetween_269 (by decide) (by decide)
        have hX := z_if hs54_20 hX
        by_cases hs54_21 : x51 = 58
        · have hX := z_it hs54_21 hX
          refine z_tableIn (pc := 54) (off := 214) (tgt := 268) G dX3_codeBetween_54 (by rw [hs54_21]; decide) (by rw [hs54_21]; decide) (by rw [hs54_21]; decide) (by decide) ?_
          refine z_iconst (pc := 268) (v := 0) G dX3_codeBetween_268 (by decide) ?_
          exact z_iretX (pc := 269) hX G hr dX3_codeBetween_269 (by decide) (by decide)
        have hX := z_if hs54_21 hX
        by_cases hs54_22 : x51 = 59
        · have hX := z_it hs54_22 hX
          refine z_tableIn (pc := 54) (off := 214) (tgt := 268) G dX3_codeBetween_54 (by rw [hs54_22]; decide) (by rw [hs54_22]; decide) (by rw [hs54_22]; decide) (by decide) ?_
          refine z_iconst (pc := 268) (v := 0) G dX3_codeBetween_268 (by decide) ?_
          exact z_iretX (pc := 269) hX G hr dX3_codeBetween_269 (by decide) (by decide)
        have hX := z_if hs54_22 hX
        by_cases hs54_23 : x51 = 60
        · have hX := z_it hs54_23 hX
          refine z_tableIn (pc := 54) (off := 118) (tgt := 172) G dX3_codeBetween_54 (by rw [hs54_23]; decide) (by rw [hs54_23]; decide) (by rw [hs54_23]; decide) (by decide) ?_
          refine z_iload_n (pc := 172) G 1 dX3_codeBetween_172 rfl rfl ?_
          refine z_iconst (pc := 173) (v := 2) G dX3_codeBetween_173 (by decide) ?_
          refine z_icmp_ne (pc := 174) (tgt := 182) G dX3_codeBetween_174 (by decide) (fun hc174 => ?_) (fun hc174 => ?_)
          · have hX := z_if hc174 hX
            refine z_iconst (pc := 182) (v := 0) G dX3_codeBetween_182 (by decide) ?_
            exact z_iretX (pc := 183) hX G hr dX3_codeBetween_183 (by decide) (by decide)
          · have hX := z_it hc174 hX
            refine z_bipush (pc := 177) (v := (-4)) G dX3_codeBetween_177 (by decide) ?_
            refine z_goto (pc := 179) (tgt := 183) G dX3_codeBetween_179 (by decide) ?_
            exact z_iretX (pc := 183) hX G hr dX3_codeBetween_183 (by decide) (by decide)
        have hX := z_if hs54_23 hX
        by_cases hs54_24 : x51 = 61
        · have hX := z_it hs54_24 hX
          refine z_tableIn (pc := 54) (off := 142) (tgt := 196) G dX3_codeBetween_54 (by rw [hs54_24]; decide) (by rw [hs54_24]; decide) (by rw [hs54_24]; decide) (by decide) ?_
          refine z_iload_n (pc := 196) G 1 dX3_codeBetween_196 rfl rfl ?_
          refine z_iconst (pc := 197) (v := 2) G dX3_codeBetween_197 (by decide) ?_
          refine z_icmp_ne (pc := 198) (tgt := 206) G dX3_codeBetween_198 (by decide) (fun hc198 => ?_) (fun hc198 => ?_)
          · have hX := z_if hc198 hX
            refine z_iconst (pc := 206) (v := 0) G dX3_codeBetween_206 (by decide) ?_
            exact z_iretX (pc := 207) hX G hr dX3_codeBetween_207 (by decide) (by decide)
          · have hX := z_it hc198 hX
            refine z_bipush (pc := 201) (v := (-6)) G dX3_codeBetween_201 (by decide) ?_
            refine z_goto (pc := 203) (tgt := 207) G dX3_codeBetween_203 (by decide) ?_
            exact z_iretX (pc := 207) hX G hr dX3_codeBetween_207 (by decide) (by decide)
        have hX := z_if hs54_24 hX
        by_cases hs54_25 : x51 = 62
        · have hX := z_it hs54_25 hX
          refine z_tableIn (pc := 54) (off := 130) (tgt := 184) G dX3_codeBetween_54 (by rw [hs54_25]; decide) (by rw [hs54_25]; decide) (by rw [hs54_25]; decide) (by decide) ?_
          refine z_iload_n (pc := 184) G 1 dX3_codeBetween_184 rfl rfl ?_
          refine z_iconst (pc := 185) (v := 2) G dX3_codeBetween_185 (by decide) ?_
          refine z_icmp_ne (pc := 186) (tgt := 194) G dX3_codeBetween_186 (by decide) (fun hc186 => ?_) (fun hc186 => ?_)
          · have hX := z_if hc186 hX
            refine z_iconst (pc := 194) (v := 0) G dX3_codeBetween_194 (by decide) ?_
            exact z_iretX (pc := 195) hX G hr dX3_codeBetween_195 (by decide) (by decide)
          · have hX := z_it hc186 hX
            refine z_bipush (pc := 189) (v := (-5)) G dX3_codeBetween_189 (by decide) ?_
            refine z_goto (pc := 191) (tgt := 195) G dX3_codeBetween_191 (by decide) ?_
            exact z_iretX (pc := 195) hX G hr dX3_codeBetween_195 (by decide) (by decide)
        have hX := z_if hs54_25 hX
        refine z_tableOut (pc := 54) (tgt := 268) G dX3_codeBetween_54 (z_tout 26 (by decide) (fun j hj => by
          rcases (show j = 0 ∨ j = 1 ∨ j = 2 ∨ j = 3 ∨ j = 4 ∨ j = 5 ∨ j = 6 ∨ j = 7 ∨ j = 8 ∨ j = 9 ∨ j = 10 ∨ j = 11 ∨ j = 12 ∨ j = 13 ∨ j = 14 ∨ j = 15 ∨ j = 16 ∨ j = 17 ∨ j = 18 ∨ j = 19 ∨ j = 20 ∨ j = 21 ∨ j = 22 ∨ j = 23 ∨ j = 24 ∨ j = 25 by omega) with rfl | rfl | rfl | rfl | rfl | rfl | rfl | rfl | rfl | rfl | rfl | rfl | rfl | rfl | rfl | rfl | rfl | rfl | rfl | rfl | rfl | rfl | rfl | rfl | rfl | rfl
          · exact fun z => hs54_0 (z.trans (by decide))
          · exact fun z => hs54_1 (z.trans (by decide))
          · exact fun z => hs54_2 (z.trans (by decide))
          · exact fun z => hs54_3 (z.trans (by decide))
          · exact fun z => hs54_4 (z.trans (by decide))
          · exact fun z => hs54_5 (z.trans (by decide))
          · exact fun z => hs54_6 (z.trans (by decide))
          · exact fun z => hs54_7 (z.trans (by decide))
          · exact fun z => hs54_8 (z.trans (by decide))
          · exact fun z => hs54_9 (z.trans (by decide))
          · exact fun z => hs54_10 (z.trans (by decide))
          · exact fun z => hs54_11 (z.trans (by decide))
          · exact fun z => hs54_12 (z.trans (by decide))
          · exact fun z => hs54_13 (z.trans (by decide))
          · exact fun z => hs54_14 (z.trans (by decide))
          · exact fun z => hs54_15 (z.trans (by decide))
          · exact fun z => hs54_16 (z.trans (by decide))
          · exact fun z => hs54_17 (z.trans (by decide))
          · exact fun z => hs54_18 (z.trans (by decide))
          · exact fun z => hs54_19 (z.trans (by decide))
          · exact fun z => hs54_20 (z.trans (by decide))
          · exact fun z => hs54_21 (z.trans (by decide))
          · exact fun z => hs54_22 (z.trans (by decide))
          · exact fun z => hs54_23 (z.trans (by decide))
          · exact fun z => hs54_24 (z.trans (by decide))
          · exact fun z => hs54_25 (z.trans (by decide)))) (by decide) ?_
        refine z_iconst (pc := 268) (v := 0) G dX3_codeBetween_268 (by decide) ?_
        exact z_iretX (pc := 269) hX G hr dX3_codeBetween_269 (by decide) (by decide)
      · have hX := z_if hc45 hX
        refine z_iconst (pc := 48) (v := 0) G dX3_codeBetween_48 (by decide) ?_
        exact z_iretX (pc := 49) hX G hr dX3_codeBetween_49 (by decide) (by decide)
    · have hX := z_it hc21 hX
      refine z_aload_n (pc := 24) G 0 dX3_codeBetween_24 rfl rfl ?_
      refine z_bipush (pc := 25) (v := 13) G dX3_codeBetween_25 (by decide) ?_
      obtain ⟨hi27, hX⟩ := z_gu_s hX
      obtain ⟨r27, hv27, hX⟩ := z_bd hX
      refine z_cVI (pc := 27) (As := [.int (13 : Int32)]) (c2 := 0) (s2 := 0) G kK3 (lX3_isWord hO hv27) hi27 kt_666 kt_2 kt_663 kt_665 ks_11 ydX3_isWord ⟨by decide, by decide⟩ rfl (Nat.le_of_ble_eq_true rfl) ⟨rfl, rfl⟩ ⟨by decide, by decide⟩ rfl dX3_codeBetween_27 ?_
      refine z_if_eq (pc := 30) (tgt := 38) G dX3_codeBetween_30 (by decide) (fun hc30 => ?_) (fun hc30 => ?_)
      · have hX := z_it hc30 hX
        refine z_iconst (pc := 38) (v := 0) G dX3_codeBetween_38 (by decide) ?_
        exact z_iretX (pc := 39) hX G hr dX3_codeBetween_39 (by decide) (by decide)
      · have hX := z_if hc30 hX
        refine z_bipush (pc := 33) (v := (-2)) G dX3_codeBetween_33 (by decide) ?_
        refine z_goto (pc := 35) (tgt := 39) G dX3_codeBetween_35 (by decide) ?_
        exact z_iretX (pc := 39) hX G hr dX3_codeBetween_39 (by decide) (by decide)
  · have hX := z_it hc1 hX
    refine z_aload_n (pc := 4) G 0 dX3_codeBetween_4 rfl rfl ?_
    refine z_bipush (pc := 5) (v := 12) G dX3_codeBetween_5 (by decide) ?_
    obtain ⟨hi7, hX⟩ := z_gu_s hX
    obtain ⟨r7, hv7, hX⟩ := z_bd hX
    refine z_cVI (pc := 7) (As := [.int (12 : Int32)]) (c2 := 0) (s2 := 0) G kK3 (lX3_isWord hO hv7) hi7 kt_666 kt_2 kt_663 kt_665 ks_11 ydX3_isWord ⟨by decide, by decide⟩ rfl (Nat.le_of_ble_eq_true rfl) ⟨rfl, rfl⟩ ⟨by decide, by decide⟩ rfl dX3_codeBetween_7 ?_
    refine z_if_eq (pc := 10) (tgt := 17) G dX3_codeBetween_10 (by decide) (fun hc10 => ?_) (fun hc10 => ?_)
    · have hX := z_it hc10 hX
      refine z_iconst (pc := 17) (v := 0) G dX3_codeBetween_17 (by decide) ?_
      exact z_iretX (pc := 18) hX G hr dX3_codeBetween_18 (by decide) (by decide)
    · have hX := z_if hc10 hX
      refine z_iconst (pc := 13) (v := (-1)) G dX3_codeBetween_13 (by decide) ?_
      refine z_goto (pc := 14) (tgt := 18) G dX3_codeBetween_14 (by decide) ?_
      exact z_iretX (pc := 18) hX G hr dX3_codeBetween_18 (by decide) (by decide)
