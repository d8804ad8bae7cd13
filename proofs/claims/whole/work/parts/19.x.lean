theorem dX9_isFull_0 : decode cX9_isFull 0 = .ok (.aload_n 0, 1) := by decide +kernel
theorem dX9_isFull_1 : decode cX9_isFull 1 = .ok (.ldc2_w 159, 3) := by decide +kernel
theorem dX9_isFull_4 : decode cX9_isFull 4 = .ok (.invokevirtual 235, 3) := by decide +kernel
theorem dX9_isFull_7 : decode cX9_isFull 7 = .ok (.ifCond .eq 23, 3) := by decide +kernel
theorem dX9_isFull_10 : decode cX9_isFull 10 = .ok (.aload_n 0, 1) := by decide +kernel
theorem dX9_isFull_11 : decode cX9_isFull 11 = .ok (.getfield 20, 3) := by decide +kernel
theorem dX9_isFull_14 : decode cX9_isFull 14 = .ok (.aload_n 0, 1) := by decide +kernel
theorem dX9_isFull_15 : decode cX9_isFull 15 = .ok (.getfield 246, 3) := by decide +kernel
theorem dX9_isFull_18 : decode cX9_isFull 18 = .ok (.iaload, 1) := by decide +kernel
theorem dX9_isFull_19 : decode cX9_isFull 19 = .ok (.bipush 6, 2) := by decide +kernel
theorem dX9_isFull_21 : decode cX9_isFull 21 = .ok (.if_icmp .ne 7, 3) := by decide +kernel
theorem dX9_isFull_24 : decode cX9_isFull 24 = .ok (.iconst 1, 1) := by decide +kernel
theorem dX9_isFull_25 : decode cX9_isFull 25 = .ok (.goto 4, 3) := by decide +kernel
theorem dX9_isFull_28 : decode cX9_isFull 28 = .ok (.iconst 0, 1) := by decide +kernel
theorem dX9_isFull_29 : decode cX9_isFull 29 = .ok (.ireturn, 1) := by decide +kernel
theorem dX9_isFull_30 : decode cX9_isFull 30 = .ok (.aload_n 0, 1) := by decide +kernel
theorem dX9_isFull_31 : decode cX9_isFull 31 = .ok (.invokevirtual 261, 3) := by decide +kernel
theorem dX9_isFull_34 : decode cX9_isFull 34 = .ok (.ifCond .lt 22, 3) := by decide +kernel
theorem dX9_isFull_37 : decode cX9_isFull 37 = .ok (.aload_n 0, 1) := by decide +kernel
theorem dX9_isFull_38 : decode cX9_isFull 38 = .ok (.getfield 48, 3) := by decide +kernel
theorem dX9_isFull_41 : decode cX9_isFull 41 = .ok (.aload_n 0, 1) := by decide +kernel
theorem dX9_isFull_42 : decode cX9_isFull 42 = .ok (.getfield 246, 3) := by decide +kernel
theorem dX9_isFull_45 : decode cX9_isFull 45 = .ok (.iaload, 1) := by decide +kernel
theorem dX9_isFull_46 : decode cX9_isFull 46 = .ok (.aload_n 0, 1) := by decide +kernel
theorem dX9_isFull_47 : decode cX9_isFull 47 = .ok (.invokevirtual 261, 3) := by decide +kernel
theorem dX9_isFull_50 : decode cX9_isFull 50 = .ok (.invokestatic 265, 3) := by decide +kernel
theorem dX9_isFull_53 : decode cX9_isFull 53 = .ok (.ifCond .eq 7, 3) := by decide +kernel
theorem dX9_isFull_56 : decode cX9_isFull 56 = .ok (.iconst 1, 1) := by decide +kernel
theorem dX9_isFull_57 : decode cX9_isFull 57 = .ok (.goto 4, 3) := by decide +kernel
theorem dX9_isFull_60 : decode cX9_isFull 60 = .ok (.iconst 0, 1) := by decide +kernel
theorem dX9_isFull_61 : decode cX9_isFull 61 = .ok (.ireturn, 1) := by decide +kernel
theorem ydX9_isFull : z_yd yX9_isFull 0 := ⟨by decide, by decide, by decide +kernel⟩
abbrev rmX9_isFull : Room := { frames := 2, cells := 0, slots := 0, locals := 42 }
noncomputable def xX9_isFull (l0 : Nat) (h : ZH) : Option (Int32 × ZH) := (z_gu (z_is h l0 9) ((xX9_isWord l0 (1936222576 : Int64) h).bind fun r4 => (if r4.1 = 0 then (z_gu (z_is r4.2 l0 9) ((xX9_sortHere l0 r4.2).bind fun r31 => (if r31.1 < 0 then some ((1 : Int32), r31.2) else ((z_gR r31.2 l0 9 20).bind fun x38 => ((z_gI r31.2 l0 9 35).bind fun x42 => ((z_aI r31.2 x38 x42).bind fun x45 => (z_gu (z_is r31.2 l0 9) ((xX9_sortHere l0 r31.2).bind fun r47 => ((xX9_bit x45 r47.1 r47.2).bind fun r50 => (if r50.1 = 0 then some ((0 : Int32), r50.2) else some ((1 : Int32), r50.2))))))))))) else ((z_gR r4.2 l0 9 11).bind fun x11 => ((z_gI r4.2 l0 9 35).bind fun x15 => ((z_aI r4.2 x11 x15).bind fun x18 => (if x18 = (6 : Int32) then some ((1 : Int32), r4.2) else some ((0 : Int32), r4.2))))))))
set_option maxHeartbeats 4000000 in
set_option maxRecDepth 100000 in
theorem lX9_isFull {Γ : ZG} {l : Launch} (hO : z_OK Γ) {l0 : Nat} {h : ZH} {r : (Int32 × ZH)} (hX : xX9_isFull l0 h = some r) : z_M Γ l yX9_isFull (z_ws1 yX9_isFull cX9_isFull 1 (some .boolean)) rmX9_isFull [.ref l0] h (some (.int r.1)) r.2 := by
  refine z_start hO (plainFor_of_name (by decide)) (Nat.le_of_ble_eq_true rfl) ?_
  intro p e s m args below meth c G hr hnm
  refine z_lvc (lv2 := [(0, .ref l0)]) rfl ?_
  refine z_aload_n (pc := 0) G 0 dX9_isFull_0 rfl rfl ?_
  refine z_ldc2 (pc := 1) G kt_1434 dX9_isFull_1 ?_
  obtain ⟨hi4, hX⟩ := z_gu_s hX
  obtain ⟨r4, hv4, hX⟩ := z_bd hX
  refine z_cVI (pc := 4) (As := [.long (1936222576 : Int64)]) (c2 := 0) (s2 := 0) G kK9 (lX9_isWord hO hv4) hi4 kt_1469 kt_11 kt_1466 kt_1468 ks_43 ydX9_isWord ⟨by decide, by decide⟩ rfl (Nat.le_of_ble_eq_true rfl) ⟨rfl, rfl⟩ ⟨by decide, by decide⟩ rfl dX9_isFull_4 ?_
  refine z_if_eq (pc := 7) (tgt := 30) G dX9_isFull_7 (by decide) (fun hc7 => ?_) (fun hc7 => ?_)
  · have hX := z_it hc7 hX
    refine z_aload_n (pc := 30) G 0 dX9_isFull_30 rfl rfl ?_
    obtain ⟨hi31, hX⟩ := z_gu_s hX
    obtain ⟨r31, hv31, hX⟩ := z_bd hX
    refine z_cVI (pc := 31) (As := []) (c2 := 0) (s2 := 0) G kK9 (lX9_sortHere hO hv31) hi31 kt_1473 kt_11 kt_1470 kt_1472 ks_44 ydX9_sortHere ⟨by decide, by decide⟩ rfl (Nat.le_of_ble_eq_true rfl) ⟨rfl, rfl⟩ ⟨by decide, by decide⟩ rfl dX9_isFull_31 ?_
    refine z_if_lt (pc := 34) (tgt := 56) G dX9_isFull_34 (by decide) (fun hc34 => ?_) (fun hc34 => ?_)
    · have hX := z_it hc34 hX
      refine z_iconst (pc := 56) (v := 1) G dX9_isFull_56 (by decide) ?_
      refine z_goto (pc := 57) (tgt := 61) G dX9_isFull_57 (by decide) ?_
      exact z_zretX (pc := 61) hX G hr rfl dX9_isFull_61 (by decide) (by decide)
    · have hX := z_if hc34 hX
      refine z_aload_n (pc := 37) G 0 dX9_isFull_37 rfl rfl ?_
      obtain ⟨x38, hv38, hX⟩ := z_bd hX
      refine z_getR (pc := 38) G kK9 (k := 20) (by decide) kt_1246 dX9_isFull_38 hv38 ?_
      refine z_aload_n (pc := 41) G 0 dX9_isFull_41 rfl rfl ?_
      obtain ⟨x42, hv42, hX⟩ := z_bd hX
      refine z_getI (pc := 42) G kK9 (k := 35) (by decide) kt_1261 dX9_isFull_42 hv42 ?_
      obtain ⟨x45, hv45, hX⟩ := z_bd hX
      refine z_iald (pc := 45) G dX9_isFull_45 hv45 ?_
      refine z_aload_n (pc := 46) G 0 dX9_isFull_46 rfl rfl ?_
      obtain ⟨hi47, hX⟩ := z_gu_s hX
      obtain ⟨r47, hv47, hX⟩ := z_bd hX
      refine z_cVI (pc := 47) (As := []) (c2 := 0) (s2 := 0) G kK9 (lX9_sortHere hO hv47) hi47 kt_1473 kt_11 kt_1470 kt_1472 ks_44 ydX9_sortHere ⟨by decide, by decide⟩ rfl (Nat.le_of_ble_eq_true rfl) ⟨rfl, rfl⟩ ⟨by decide, by decide⟩ rfl dX9_isFull_47 ?_
      obtain ⟨r50, hv50, hX⟩ := z_bd hX
      refine z_cSI (pc := 50) (As := [.int x45, .int r47.1]) (c2 := 0) (s2 := 0) G (lX9_bit hO hv50) kt_1476 kt_11 kt_1474 kt_1475 ydX9_bit ⟨by decide, by decide⟩ rfl (Nat.le_of_ble_eq_true rfl) ⟨rfl, rfl⟩ ⟨by decide, by decide⟩ rfl dX9_isFull_50 ?_
      refine z_if_eq (pc := 53) (tgt := 60) G dX9_isFull_53 (by decide) (fun hc53 => ?_) (fun hc53 => ?_)
      · have hX := z_it hc53 hX
        refine z_iconst (pc := 60) (v := 0) G dX9_isFull_60 (by decide) ?_
        exact z_zretX (pc := 61) hX G hr rfl dX9_isFull_61 (by decide) (by decide)
      · have hX := z_if hc53 hX
        refine z_iconst (pc := 56) (v := 1) G dX9_isFull_56 (by decide) ?_
        refine z_goto (pc := 57) (tgt := 61) G dX9_isFull_57 (by decide) ?_
        exact z_zretX (pc := 61) hX G hr rfl dX9_isFull_61 (by decide) (by decide)
  · have hX := z_if hc7 hX
    refine z_aload_n (pc := 10) G 0 dX9_isFull_10 rfl rfl ?_
    obtain ⟨x11, hv11, hX⟩ := z_bd hX
    refine z_getR (pc := 11) G kK9 (k := 11) (by decide) kt_1237 dX9_isFull_11 hv11 ?_
    refine z_aload_n (pc := 14) G 0 dX9_isFull_14 rfl rfl ?_
    obtain ⟨x15, hv15, hX⟩ := z_bd hX
    refine z_getI (pc := 15) G kK9 (k := 35) (by decide) kt_1261 dX9_isFull_15 hv15 ?_
    obtain ⟨x18, hv18, hX⟩ := z_bd hX
    refine z_iald (pc := 18) G dX9_isFull_18 hv18 ?_
    refine z_bipush (pc := 19) (v := 6) G dX9_isFull_19 (by decide) ?_
    refine z_icmp_ne (pc := 21) (tgt := 28) G dX9_isFull_21 (by decide) (fun hc21 => ?_) (fun hc21 => ?_)
    · have hX := z_if hc21 hX
      refine z_iconst (pc := 28) (v := 0) G dX9_isFull_28 (by decide) ?_
      exact z_zretX (pc := 29) hX G hr rfl dX9_isFull_29 (by decide) (by decide)
    · have hX := z_it hc21 hX
      refine z_iconst (pc := 24) (v := 1) G dX9_isFull_24 (by decide) ?_
      refine z_goto (pc := 25) (tgt := 29) G dX9_isFull_25 (by decide) ?_
      exact z_zretX (pc := 29) hX G hr rfl dX9_isFull_29 (by decide) (by decide)
theorem dX9_once_0 : decode cX9_once 0 = .ok (.aload_n 0, 1) := by decide +kernel
theorem dX9_once_1 : decode cX9_once 1 = .ok (.getfield 48, 3) := by decide +kernel
theorem dX9_once_4 : decode cX9_once 4 = .ok (.aload_n 0, 1) := by decide +kernel
theorem dX9_once_5 : decode cX9_once 5 = .ok (.getfield 246, 3) := by decide +kernel
theorem dX9_once_8 : decode cX9_once 8 = .ok (.dup2, 1) := by decide +kernel
theorem dX9_once_9 : decode cX9_once 9 = .ok (.iaload, 1) := by decide +kernel
theorem dX9_once_10 : decode cX9_once 10 = .ok (.iconst 1, 1) := by decide +kernel
theorem dX9_once_11 : decode cX9_once 11 = .ok (.iload_n 1, 1) := by decide +kernel
theorem dX9_once_12 : decode cX9_once 12 = .ok (.ishl, 1) := by decide +kernel
theorem dX9_once_13 : decode cX9_once 13 = .ok (.ior, 1) := by decide +kernel
theorem dX9_once_14 : decode cX9_once 14 = .ok (.iastore, 1) := by decide +kernel
theorem dX9_once_15 : decode cX9_once 15 = .ok (.aload_n 0, 1) := by decide +kernel
theorem dX9_once_16 : decode cX9_once 16 = .ok (.iload_n 2, 1) := by decide +kernel
theorem dX9_once_17 : decode cX9_once 17 = .ok (.iload_n 3, 1) := by decide +kernel
theorem dX9_once_18 : decode cX9_once 18 = .ok (.invokevirtual 242, 3) := by decide +kernel
theorem dX9_once_21 : decode cX9_once 21 = .ok (.ireturn, 1) := by decide +kernel
theorem ydX9_once : z_yd yX9_once 3 := ⟨by decide, by decide, by decide +kernel⟩
abbrev rmX9_once : Room := { frames := 3, cells := 0, slots := 0, locals := 67 }
noncomputable def xX9_once (l0 : Nat) (l1 : Int32) (l2 : Int32) (l3 : Int32) (h : ZH) : Option (Int32 × ZH) := ((z_gR h l0 9 20).bind fun x1 => ((z_gI h l0 9 35).bind fun x5 => ((z_aI h x1 x5).bind fun x9 => ((z_uI h x1 x5 (x9 ||| ((1 : Int32) <<< (l1 &&& 31)))).bind fun h14 => (z_gu (z_is h14 l0 9) ((xX9_numeral l0 l2 l3 h14).bind fun r18 => some (r18.1, r18.2)))))))
set_option maxHeartbeats 4000000 in
set_option maxRecDepth 100000 in
theorem lX9_once {Γ : ZG} {l : Launch} (hO : z_OK Γ) {l0 : Nat} {l1 : Int32} {l2 : Int32} {l3 : Int32} {h : ZH} {r : (Int32 × ZH)} (hX : xX9_once l0 l1 l2 l3 h = some r) : z_M Γ l yX9_once (z_ws1 yX9_once cX9_once 4 (some .int)) rmX9_once [.ref l0, .int l1, .int l2, .int l3] h (some (.int r.1)) r.2 := by
  refine z_start hO (plainFor_of_name (by decide)) (Nat.le_of_ble_eq_true rfl) ?_
  intro p e s m args below meth c G hr hnm
  refine z_lvc (lv2 := [(0, .ref l0), (1, .int l1), (2, .int l2), (3, .int l3)]) rfl ?_
  refine z_aload_n (pc := 0) G 0 dX9_once_0 rfl rfl ?_
  obtain ⟨x1, hv1, hX⟩ := z_bd hX
  refine z_getR (pc := 1) G kK9 (k := 20) (by decide) kt_1246 dX9_once_1 hv1 ?_
  refine z_aload_n (pc := 4) G 0 dX9_once_4 rfl rfl ?_
  obtain ⟨x5, hv5, hX⟩ := z_bd hX
  refine z_getI (pc := 5) G kK9 (k := 35) (by decide) kt_1261 dX9_once_5 hv5 ?_
  refine z_dup2 (pc := 8) G dX9_once_8 rfl rfl ?_
  obtain ⟨x9, hv9, hX⟩ := z_bd hX
  refine z_iald (pc := 9) G dX9_once_9 hv9 ?_
  refine z_iconst (pc := 10) (v := 1) G dX9_once_10 (by decide) ?_
  refine z_iload_n (pc := 11) G 1 dX9_once_11 rfl rfl ?_
  refine z_ishl (pc := 12) G dX9_once_12 ?_
  refine z_ior (pc := 13) G dX9_once_13 ?_
  obtain ⟨h14, hv14, hX⟩ := z_bd hX
  refine z_iast (pc := 14) G dX9_once_14 hv14 ?_
  refine z_aload_n (pc := 15) G 0 dX9_once_15 rfl rfl ?_
  refine z_iload_n (pc := 16) G 2 dX9_once_16 rfl rfl ?_
  refine z_iload_n (pc := 17) G 3 dX9_once_17 rfl rfl ?_
  obtain ⟨hi18, hX⟩ := z_gu_s hX
  obtain ⟨r18, hv18, hX⟩ := z_bd hX
  refine z_cVI (pc := 18) (As := [.int l2, .int l3]) (c2 := 0) (s2 := 0) G kK9 (lX9_numeral hO hv18) hi18 kt_1492 kt_11 kt_1489 kt_1491 ks_48 ydX9_numeral ⟨by decide, by decide⟩ rfl (Nat.le_of_ble_eq_true rfl) ⟨rfl, rfl⟩ ⟨by decide, by decide⟩ rfl dX9_once_18 ?_
  exact z_iretX (pc := 21) hX G hr dX9_once_21 (by decide) (by decide)
theorem dX9_emit_0 : decode cX9_emit 0 = .ok (.aload_n 0, 1) := by decide +kernel
theorem dX9_emit_1 : decode cX9_emit 1 = .ok (.getfield 76, 3) := by decide +kernel
theorem dX9_emit_4 : decode cX9_emit 4 = .ok (.aload_n 0, 1) := by decide +kernel
theorem dX9_emit_5 : decode cX9_emit 5 = .ok (.getfield 249, 3) := by decide +kernel
theorem dX9_emit_8 : decode cX9_emit 8 = .ok (.iload_n 1, 1) := by decide +kernel
theorem dX9_emit_9 : decode cX9_emit 9 = .ok (.iastore, 1) := by decide +kernel
theorem dX9_emit_10 : decode cX9_emit 10 = .ok (.aload_n 0, 1) := by decide +kernel
theorem dX9_emit_11 : decode cX9_emit 11 = .ok (.getfield 79, 3) := by decide +kernel
theorem dX9_emit_14 : decode cX9_emit 14 = .ok (.aload_n 0, 1) := by decide +kernel
theorem dX9_emit_15 : decode cX9_emit 15 = .ok (.getfield 249, 3) := by decide +kernel
theorem dX9_emit_18 : decode cX9_emit 18 = .ok (.iload_n 2, 1) := by decide +kernel
theorem dX9_emit_19 : decode cX9_emit 19 = .ok (.iastore, 1) := by decide +kernel
theorem dX9_emit_20 : decode cX9_emit 20 = .ok (.aload_n 0, 1) := by decide +kernel
theorem dX9_emit_21 : decode cX9_emit 21 = .ok (.dup, 1) := by decide +kernel
theorem dX9_emit_22 : decode cX9_emit 22 = .ok (.getfield 249, 3) := by decide +kernel
theorem dX9_emit_25 : decode cX9_emit 25 = .ok (.iconst 1, 1) := by decide +kernel
theorem dX9_emit_26 : decode cX9_emit 26 = .ok (.iadd, 1) := by decide +kernel
theorem dX9_emit_27 : decode cX9_emit 27 = .ok (.putfield 249, 3) := by decide +kernel
theorem dX9_emit_30 : decode cX9_emit 30 = .ok (.return_, 1) := by decide +kernel
theorem ydX9_emit : z_yd yX9_emit 2 := ⟨by decide, by decide, by decide +kernel⟩
abbrev rmX9_emit : Room := { frames := 0, cells := 0, slots := 0, locals := 0 }
noncomputable def xX9_emit (l0 : Nat) (l1 : Int32) (l2 : Int32) (h : ZH) : Option ZH := ((z_gR h l0 9 29).bind fun x1 => ((z_gI h l0 9 36).bind fun x5 => ((z_uI h x1 x5 l1).bind fun h9 => ((z_gR h9 l0 9 30).bind fun x11 => ((z_gI h9 l0 9 36).bind fun x15 => ((z_uI h9 x11 x15 l2).bind fun h19 => ((z_gI h19 l0 9 36).bind fun x22 => ((z_sF h19 l0 9 36 (.int (x22 + (1 : Int32)))).bind fun h27 => some h27))))))))
set_option maxHeartbeats 4000000 in
set_option maxRecDepth 100000 in
theorem lX9_emit {Γ : ZG} {l : Launch} (hO : z_OK Γ) {l0 : Nat} {l1 : Int32} {l2 : Int32} {h : ZH} {r : ZH} (hX : xX9_emit l0 l1 l2 h = some r) : z_M Γ l yX9_emit (z_ws1 yX9_emit cX9_emit 3 none) rmX9_emit [.ref l0, .int l1, .int l2] h none r := by
  refine z_start hO (plainFor_of_name (by decide)) (Nat.le_of_ble_eq_true rfl) ?_
  intro p e s m args below meth c G hr hnm
  refine z_lvc (lv2 := [(0, .ref l0), (1, .int l1), (2, .int l2)]) rfl ?_
  refine z_aload_n (pc := 0) G 0 dX9_emit_0 rfl rfl ?_
  obtain ⟨x1, hv1, hX⟩ := z_bd hX
  refine z_getR (pc := 1) G kK9 (k := 29) (by decide) kt_1255 dX9_emit_1 hv1 ?_
  refine z_aload_n (pc := 4) G 0 dX9_emit_4 rfl rfl ?_
  obtain ⟨x5, hv5, hX⟩ := z_bd hX
  refine z_getI (pc := 5) G kK9 (k := 36) (by decide) kt_1262 dX9_emit_5 hv5 ?_
  refine z_iload_n (pc := 8) G 1 dX9_emit_8 rfl rfl ?_
  obtain ⟨h9, hv9, hX⟩ := z_bd hX
  refine z_iast (pc := 9) G dX9_emit_9 hv9 ?_
  refine z_aload_n (pc := 10) G 0 dX9_emit_10 rfl rfl ?_
  obtain ⟨x11, hv11, hX⟩ := z_bd hX
  refine z_getR (pc := 11) G kK9 (k := 30) (by decide) kt_1256 dX9_emit_11 hv11 ?_
  refine z_aload_n (pc := 14) G 0 dX9_emit_14 rfl rfl ?_
  obtain ⟨x15, hv15, hX⟩ := z_bd hX
  refine z_getI (pc := 15) G kK9 (k := 36) (by decide) kt_1262 dX9_emit_15 hv15 ?_
  refine z_iload_n (pc := 18) G 2 dX9_emit_18 rfl rfl ?_
  obtain ⟨h19, hv19, hX⟩ := z_bd hX
  refine z_iast (pc := 19) G dX9_emit_19 hv19 ?_
  refine z_aload_n (pc := 20) G 0 dX9_emit_20 rfl rfl ?_
  refine z_dup (pc := 21) G dX9_emit_21 rfl ?_
  obtain ⟨x22, hv22, hX⟩ := z_bd hX
  refine z_getI (pc := 22) G kK9 (k := 36) (by decide) kt_1262 dX9_emit_22 hv22 ?_
  refine z_iconst (pc := 25) (v := 1) G dX9_emit_25 (by decide) ?_
  refine z_iadd (pc := 26) G dX9_emit_26 ?_
  obtain ⟨h27, hv27, hX⟩ := z_bd hX
  refine z_putF (pc := 27) G kK9 (k := 36) (by decide) kt_1262 (Or.inl rfl) rfl rfl dX9_emit_27 hv27 ?_
  exact z_vretX (pc := 30) hX G hr dX9_emit_30 (by decide) (by decide)
theorem dX9_isCompared_0 : decode cX9_isCompared 0 = .ok (.aload_n 0, 1) := by decide +kernel
theorem dX9_isCompared_1 : decode cX9_isCompared 1 = .ok (.getfield 295, 3) := by decide +kernel
theorem dX9_isCompared_4 : decode cX9_isCompared 4 = .ok (.iconst 1, 1) := by decide +kernel
theorem dX9_isCompared_5 : decode cX9_isCompared 5 = .ok (.isub, 1) := by decide +kernel
theorem dX9_isCompared_6 : decode cX9_isCompared 6 = .ok (.istore_n 1, 1) := by decide +kernel
theorem dX9_isCompared_7 : decode cX9_isCompared 7 = .ok (.aload_n 0, 1) := by decide +kernel
theorem dX9_isCompared_8 : decode cX9_isCompared 8 = .ok (.getfield 82, 3) := by decide +kernel
theorem dX9_isCompared_11 : decode cX9_isCompared 11 = .ok (.iload_n 1, 1) := by decide +kernel
theorem dX9_isCompared_12 : decode cX9_isCompared 12 = .ok (.iaload, 1) := by decide +kernel
theorem dX9_isCompared_13 : decode cX9_isCompared 13 = .ok (.iconst 5, 1) := by decide +kernel
theorem dX9_isCompared_14 : decode cX9_isCompared 14 = .ok (.if_icmp .eq 14, 3) := by decide +kernel
theorem dX9_isCompared_17 : decode cX9_isCompared 17 = .ok (.aload_n 0, 1) := by decide +kernel
theorem dX9_isCompared_18 : decode cX9_isCompared 18 = .ok (.getfield 82, 3) := by decide +kernel
theorem dX9_isCompared_21 : decode cX9_isCompared 21 = .ok (.iload_n 1, 1) := by decide +kernel
theorem dX9_isCompared_22 : decode cX9_isCompared 22 = .ok (.iaload, 1) := by decide +kernel
theorem dX9_isCompared_23 : decode cX9_isCompared 23 = .ok (.bipush 6, 2) := by decide +kernel
theorem dX9_isCompared_25 : decode cX9_isCompared 25 = .ok (.if_icmp .ne 9, 3) := by decide +kernel
theorem dX9_isCompared_28 : decode cX9_isCompared 28 = .ok (.iinc 1 (-1), 3) := by decide +kernel
theorem dX9_isCompared_31 : decode cX9_isCompared 31 = .ok (.goto (-24), 3) := by decide +kernel
theorem dX9_isCompared_34 : decode cX9_isCompared 34 = .ok (.aload_n 0, 1) := by decide +kernel
theorem dX9_isCompared_35 : decode cX9_isCompared 35 = .ok (.getfield 82, 3) := by decide +kernel
theorem dX9_isCompared_38 : decode cX9_isCompared 38 = .ok (.iload_n 1, 1) := by decide +kernel
theorem dX9_isCompared_39 : decode cX9_isCompared 39 = .ok (.iaload, 1) := by decide +kernel
theorem dX9_isCompared_40 : decode cX9_isCompared 40 = .ok (.iconst 4, 1) := by decide +kernel
theorem dX9_isCompared_41 : decode cX9_isCompared 41 = .ok (.if_icmp .ne 7, 3) := by decide +kernel
theorem dX9_isCompared_44 : decode cX9_isCompared 44 = .ok (.iconst 1, 1) := by decide +kernel
theorem dX9_isCompared_45 : decode cX9_isCompared 45 = .ok (.goto 4, 3) := by decide +kernel
theorem dX9_isCompared_48 : decode cX9_isCompared 48 = .ok (.iconst 0, 1) := by decide +kernel
theorem dX9_isCompared_49 : decode cX9_isCompared 49 = .ok (.ireturn, 1) := by decide +kernel
theorem ydX9_isCompared : z_yd yX9_isCompared 0 := ⟨by decide, by decide, by decide +kernel⟩
abbrev rmX9_isCompared : Room := { frames := 0, cells := 0, slots := 0, locals := 0 }
noncomputable def xX9_isCompared_B34 (l0 : Nat) (l1 : Int32) (h : ZH) : Option (Int32 × ZH) := ((z_gR h l0 9 31).bind fun x35 => ((z_aI h x35 l1).bind fun x39 => (if x39 = (4 : Int32) then some ((1 : Int32), h) else some ((0 : Int32), h))))
set_option maxHeartbeats 4000000 in
set_option maxRecDepth 100000 in
theorem wX9_isCompared_B34 {Γ : ZG} {p : Program} {l : Launch} {e : Env} {s : State} {m : MethodId} {args : Array Value} {below : List Frame} {meth : Method} {c : Code} (hO : z_OK Γ) (G : z_GG Γ p s m args meth c cX9_isCompared 2 RX9) (hr : meth.sig.returnType = (some .boolean)) (hnm : meth.name = "isCompared") {r : (Int32 × ZH)} : ∀ (l0 : Nat) (l1 : Int32) (h : ZH), xX9_isCompared_B34  l0 l1 h = some r → z_W Γ p l e rmX9_isCompared s m args below meth c 2 0 0 (MQ below (z_Qc Γ (some (.int r.1)) r.2) args s rmX9_isCompared.cells rmX9_isCompared.slots (z_A Γ)) 34 [(0, .ref l0), (1, .int l1)] [] h := by
  intro l0 l1 h hX
  refine z_aload_n (pc := 34) G 0 dX9_isCompared_34 rfl rfl ?_
  obtain ⟨x35, hv35, hX⟩ := z_bd hX
  refine z_getR (pc := 35) G kK9 (k := 31) (by decide) kt_1257 dX9_isCompared_35 hv35 ?_
  refine z_iload_n (pc := 38) G 1 dX9_isCompared_38 rfl rfl ?_
  obtain ⟨x39, hv39, hX⟩ := z_bd hX
  refine z_iald (pc := 39) G dX9_isCompared_39 hv39 ?_
  refine z_iconst (pc := 40) (v := 4) G dX9_isCompared_40 (by decide) ?_
  refine z_icmp_ne (pc := 41) (tgt := 48) G dX9_isCompared_41 (by decide) (fun hc41 => ?_) (fun hc41 => ?_)
  · have hX := z_if hc41 hX
    refine z_iconst (pc := 48) (v := 0) G dX9_isCompared_48 (by decide) ?_
    exact z_zretX (pc := 49) hX G hr rfl dX9_isCompared_49 (by decide) (by decide)
  · have hX := z_it hc41 hX
    refine z_iconst (pc := 44) (v := 1) G dX9_isCompared_44 (by decide) ?_
    refine z_goto (pc := 45) (tgt := 49) G dX9_isCompared_45 (by decide) ?_
    exact z_zretX (pc := 49) hX G hr rfl dX9_isCompared_49 (by decide) (by decide)
noncomputable def xX9_isCompared_B7 (r7 : Nat → Int32 → ZH → Option (Int32 × ZH)) (l0 : Nat) (l1 : Int32) (h : ZH) : Option (Int32 × ZH) := ((z_gR h l0 9 31).bind fun x8 => ((z_aI h x8 l1).bind fun x12 => (if x12 = (5 : Int32) then r7 l0 (l1 + (-1)) h else ((z_gR h l0 9 31).bind fun x18 => ((z_aI h x18 l1).bind fun x22 => (if x22 = (6 : Int32) then r7 l0 (l1 + (-1)) h else xX9_isCompared_B34 l0 l1 h))))))
noncomputable def xX9_isCompared_L7 (n : Nat) : Nat → Int32 → ZH → Option (Int32 × ZH) := Nat.rec (motive := fun _ => Nat → Int32 → ZH → Option (Int32 × ZH)) (fun _ _ _ => none) (fun _ rec => xX9_isCompared_B7  rec) n
set_option maxHeartbeats 4000000 in
set_option maxRecDepth 100000 in
theorem wX9_isCompared_B7 {Γ : ZG} {p : Program} {l : Launch} {e : Env} {s : State} {m : MethodId} {args : Array Value} {below : List Frame} {meth : Method} {c : Code} (hO : z_OK Γ) (G : z_GG Γ p s m args meth c cX9_isCompared 2 RX9) (hr : meth.sig.returnType = (some .boolean)) (hnm : meth.name = "isCompared") {r : (Int32 × ZH)} {r7 : Nat → Int32 → ZH → Option (Int32 × ZH)} (H7 : ∀ (l0 : Nat) (l1 : Int32) (h : ZH), r7 l0 l1 h = some r → z_W Γ p l e rmX9_isCompared s m args below meth c 2 0 0 (MQ below (z_Qc Γ (some (.int r.1)) r.2) args s rmX9_isCompared.cells rmX9_isCompared.slots (z_A Γ)) 7 [(0, .ref l0), (1, .int l1)] [] h) : ∀ (l0 : Nat) (l1 : Int32) (h : ZH), xX9_isCompared_B7  r7 l0 l1 h = some r → z_W Γ p l e rmX9_isCompared s m args below meth c 2 0 0 (MQ below (z_Qc Γ (some (.int r.1)) r.2) args s rmX9_isCompared.cells rmX9_isCompared.slots (z_A Γ)) 7 [(0, .ref l0), (1, .int l1)] [] h := by
  intro l0 l1 h hX
  refine z_aload_n (pc := 7) G 0 dX9_isCompared_7 rfl rfl ?_
  obtain ⟨x8, hv8, hX⟩ := z_bd hX
  refine z_getR (pc := 8) G kK9 (k := 31) (by decide) kt_1257 dX9_isCompared_8 hv8 ?_
  refine z_iload_n (pc := 11) G 1 dX9_isCompared_11 rfl rfl ?_
  obtain ⟨x12, hv12, hX⟩ := z_bd hX
  refine z_iald (pc := 12) G dX9_isCompared_12 hv12 ?_
  refine z_iconst (pc := 13) (v := 5) G dX9_isCompared_13 (by decide) ?_
  refine z_icmp_eq (pc := 14) (tgt := 28) G dX9_isCompared_14 (by decide) (fun hc14 => ?_) (fun hc14 => ?_)
  · have hX := z_it hc14 hX
    refine z_iincw (pc := 28) (w := (-1)) (lv2 := [(0, .ref l0), (1, .int (l1 + (-1)))]) G 1 dX9_isCompared_28 rfl (by decide) (by decide) rfl rfl ?_
    refine z_goto (pc := 31) (tgt := 7) G dX9_isCompared_31 (by decide) ?_
    exact H7 _ _ _ hX
  · have hX := z_if hc14 hX
    refine z_aload_n (pc := 17) G 0 dX9_isCompared_17 rfl rfl ?_
    obtain ⟨x18, hv18, hX⟩ := z_bd hX
    refine z_getR (pc := 18) G kK9 (k := 31) (by decide) kt_1257 dX9_isCompared_18 hv18 ?_
    refine z_iload_n (pc := 21) G 1 dX9_isCompared_21 rfl rfl ?_
    obtain ⟨x22, hv22, hX⟩ := z_bd hX
    refine z_iald (pc := 22) G dX9_isCompared_22 hv22 ?_
    refine z_bipush (pc := 23) (v := 6) G dX9_isCompared_23 (by decide) ?_
    refine z_icmp_ne (pc := 25) (tgt := 34) G dX9_isCompared_25 (by decide) (fun hc25 => ?_) (fun hc25 => ?_)
    · have hX := z_if hc25 hX
      exact wX9_isCompared_B34 hO G hr hnm _ _ _ hX
    · have hX := z_it hc25 hX
      refine z_iincw (pc := 28) (w := (-1)) (lv2 := [(0, .ref l0), (1, .int (l1 + (-1)))]) G 1 dX9_isCompared_28 rfl (by decide) (by decide) rfl rfl ?_
      refine z_goto (pc := 31) (tgt := 7) G dX9_isCompared_31 (by decide) ?_
      exact H7 _ _ _ hX
set_option maxHeartbeats 4000000 in
set_option maxRecDepth 100000 in
theorem wX9_isCompared_L7 {Γ : ZG} {p : Program} {l : Launch} {e : Env} {s : State} {m : MethodId} {args : Array Value} {below : List Frame} {meth : Method} {c : Code} (hO : z_OK Γ) (G : z_GG Γ p s m args meth c cX9_isCompared 2 RX9) (hr : meth.sig.returnType = (some .boolean)) (hnm : meth.name = "isCompared") {r : (Int32 × ZH)} : ∀ (nn : Nat) (l0 : Nat) (l1 : Int32) (h : ZH), xX9_isCompared_L7  nn l0 l1 h = some r → z_W Γ p l e rmX9_isCompared s m args below meth c 2 0 0 (MQ below (z_Qc Γ (some (.int r.1)) r.2) args s rmX9_isCompared.cells rmX9_isCompared.slots (z_A Γ)) 7 [(0, .ref l0), (1, .int l1)] [] h := by
  intro nn
  induction nn with
  | zero => intro l0 l1 h hX; cases hX
  | succ nn ih => intro l0 l1 h hX; exact wX9_isCompared_B7 hO G hr hnm  ih l0 l1 h hX
noncomputable def xX9_isCompared (l0 : Nat) (h : ZH) : Option (Int32 × ZH) := ((z_gI h l0 9 38).bind fun x1 => xX9_isCompared_L7 zFU l0 (x1 - (1 : Int32)) h)
set_option maxHeartbeats 4000000 in
set_option maxRecDepth 100000 in
theorem lX9_isCompared {Γ : ZG} {l : Launch} (hO : z_OK Γ) {l0 : Nat} {h : ZH} {r : (Int32 × ZH)} (hX : xX9_isCompared l0 h = some r) : z_M Γ l yX9_isCompared (z_ws1 yX9_isCompared cX9_isCompared 2 (some .boolean)) rmX9_isCompared [.ref l0] h (some (.int r.1)) r.2 := by
  refine z_start hO (plainFor_of_name (by decide)) (Nat.le_of_ble_eq_true rfl) ?_
  intro p e s m args below meth c G hr hnm
  refine z_lvc (lv2 := [(0, .ref l0)]) rfl ?_
  refine z_aload_n (pc := 0) G 0 dX9_isCompared_0 rfl rfl ?_
  obtain ⟨x1, hv1, hX⟩ := z_bd hX
  refine z_getI (pc := 1) G kK9 (k := 38) (by decide) kt_1264 dX9_isCompared_1 hv1 ?_
  refine z_iconst (pc := 4) (v := 1) G dX9_isCompared_4 (by decide) ?_
  refine z_isub (pc := 5) G dX9_isCompared_5 ?_
  refine z_istore_n (pc := 6) (lv2 := [(0, .ref l0), (1, .int (x1 - (1 : Int32)))]) G dX9_isCompared_6 rfl (by decide) rfl rfl ?_
  exact wX9_isCompared_L7 hO G hr hnm zFU _ _ _ hX
theorem dX9_pushE_0 : decode cX9_pushE 0 = .ok (.aload_n 0, 1) := by decide +kernel
theorem dX9_pushE_1 : decode cX9_pushE 1 = .ok (.getfield 82, 3) := by decide +kernel
theorem dX9_pushE_4 : decode cX9_pushE 4 = .ok (.aload_n 0, 1) := by decide +kernel
theorem dX9_pushE_5 : decode cX9_pushE 5 = .ok (.getfield 295, 3) := by decide +kernel
theorem dX9_pushE_8 : decode cX9_pushE 8 = .ok (.iload_n 1, 1) := by decide +kernel
theorem dX9_pushE_9 : decode cX9_pushE 9 = .ok (.iastore, 1) := by decide +kernel
theorem dX9_pushE_10 : decode cX9_pushE 10 = .ok (.aload_n 0, 1) := by decide +kernel
theorem dX9_pushE_11 : decode cX9_pushE 11 = .ok (.getfield 85, 3) := by decide +kernel
theorem dX9_pushE_14 : decode cX9_pushE 14 = .ok (.aload_n 0, 1) := by decide +kernel
theorem dX9_pushE_15 : decode cX9_pushE 15 = .ok (.getfield 295, 3) := by decide +kernel
theorem dX9_pushE_18 : decode cX9_pushE 18 = .ok (.iload_n 2, 1) := by decide +kernel
theorem dX9_pushE_19 : decode cX9_pushE 19 = .ok (.iastore, 1) := by decide +kernel
theorem dX9_pushE_20 : decode cX9_pushE 20 = .ok (.aload_n 0, 1) := by decide +kernel
theorem dX9_pushE_21 : decode cX9_pushE 21 = .ok (.dup, 1) := by decide +kernel
theorem dX9_pushE_22 : decode cX9_pushE 22 = .ok (.getfield 295, 3) := by decide +kernel
theorem dX9_pushE_25 : decode cX9_pushE 25 = .ok (.iconst 1, 1) := by decide +kernel
theorem dX9_pushE_26 : decode cX9_pushE 26 = .ok (.iadd, 1) := by decide +kernel
theorem dX9_pushE_27 : decode cX9_pushE 27 = .ok (.putfield 295, 3) := by decide +kernel
theorem dX9_pushE_30 : decode cX9_pushE 30 = .ok (.return_, 1) := by decide +kernel
theorem ydX9_pushE : z_yd yX9_pushE 2 := ⟨by decide, by decide, by decide +kernel⟩
abbrev rmX9_pushE : Room := { frames := 0, cells := 0, slots := 0, locals := 0 }
noncomputable def xX9_pushE (l0 : Nat) (l1 : Int32) (l2 : Int32) (h : ZH) : Option ZH := ((z_gR h l0 9 31).bind fun x1 => ((z_gI h l0 9 38).bind fun x5 => ((z_uI h x1 x5 l1).bind fun h9 => ((z_gR h9 l0 9 32).bind fun x11 => ((z_gI h9 l0 9 38).bind fun x15 => ((z_uI h9 x11 x15 l2).bind fun h19 => ((z_gI h19 l0 9 38).bind fun x22 => ((z_sF h19 l0 9 38 (.int (x22 + (1 : Int32)))).bind fun h27 => some h27))))))))
set_option maxHeartbeats 4000000 in
set_option maxRecDepth 100000 in
theorem lX9_pushE {Γ : ZG} {l : Launch} (hO : z_OK Γ) {l0 : Nat} {l1 : Int32} {l2 : Int32} {h : ZH} {r : ZH} (hX : xX9_pushE l0 l1 l2 h = some r) : z_M Γ l yX9_pushE (z_ws1 yX9_pushE cX9_pushE 3 none) rmX9_pushE [.ref l0, .int l1, .int l2] h none r := by
  refine z_start hO (plainFor_of_name (by decide)) (Nat.le_of_ble_eq_true rfl) ?_
  intro p e s m args below meth c G hr hnm
  refine z_lvc (lv2 := [(0, .ref l0), (1, .int l1), (2, .int l2)]) rfl ?_
  refine z_aload_n (pc := 0) G 0 dX9_pushE_0 rfl rfl ?_
  obtain ⟨x1, hv1, hX⟩ := z_bd hX
  refine z_getR (pc := 1) G kK9 (k := 31) (by decide) kt_1257 dX9_pushE_1 hv1 ?_
  refine z_aload_n (pc := 4) G 0 dX9_pushE_4 rfl rfl ?_
  obtain ⟨x5, hv5, hX⟩ := z_bd hX
  refine z_getI (pc := 5) G kK9 (k := 38) (by decide) kt_1264 dX9_pushE_5 hv5 ?_
  refine z_iload_n (pc := 8) G 1 dX9_pushE_8 rfl rfl ?_
  obtain ⟨h9, hv9, hX⟩ := z_bd hX
  refine z_iast (pc := 9) G dX9_pushE_9 hv9 ?_
  refine z_aload_n (pc := 10) G 0 dX9_pushE_10 rfl rfl ?_
  obtain ⟨x11, hv11, hX⟩ := z_bd hX
  refine z_getR (pc := 11) G kK9 (k := 32) (by decide) kt_1258 dX9_pushE_11 hv11 ?_
  refine z_aload_n (pc := 14) G 0 dX9_pushE_14 rfl rfl ?_
  obtain ⟨x15, hv15, hX⟩ := z_bd hX
  refine z_getI (pc := 15) G kK9 (k := 38) (by decide) kt_1264 dX9_pushE_15 hv15 ?_
  refine z_iload_n (pc := 18) G 2 dX9_pushE_18 rfl rfl ?_
  obtain ⟨h19, hv19, hX⟩ := z_bd hX
  refine z_iast (pc := 19) G dX9_pushE_19 hv19 ?_
  refine z_aload_n (pc := 20) G 0 dX9_pushE_20 rfl rfl ?_
  refine z_dup (pc := 21) G dX9_pushE_21 rfl ?_
  obtain ⟨x22, hv22, hX⟩ := z_bd hX
  refine z_getI (pc := 22) G kK9 (k := 38) (by decide) kt_1264 dX9_pushE_22 hv22 ?_
  refine z_iconst (pc := 25) (v := 1) G dX9_pushE_25 (by decide) ?_
  refine z_iadd (pc := 26) G dX9_pushE_26 ?_
  obtain ⟨h27, hv27, hX⟩ := z_bd hX
  refine z_putF (pc := 27) G kK9 (k := 38) (by decide) kt_1264 (Or.inl rfl) rfl rfl dX9_pushE_27 hv27 ?_
  exact z_vretX (pc := 30) hX G hr dX9_pushE_30 (by decide) (by decide)
theorem dX9_rankHere_0 : decode cX9_rankHere 0 = .ok (.aload_n 0, 1) := by decide +kernel
theorem dX9_rankHere_1 : decode cX9_rankHere 1 = .ok (.ldc2_w 183, 3) := by decide +kernel
theorem dX9_rankHere_4 : decode cX9_rankHere 4 = .ok (.invokevirtual 235, 3) := by decide +kernel
theorem dX9_rankHere_7 : decode cX9_rankHere 7 = .ok (.ifCond .eq 5, 3) := by decide +kernel
theorem dX9_rankHere_10 : decode cX9_rankHere 10 = .ok (.iconst 2, 1) := by decide +kernel
theorem dX9_rankHere_11 : decode cX9_rankHere 11 = .ok (.ireturn, 1) := by decide +kernel
theorem dX9_rankHere_12 : decode cX9_rankHere 12 = .ok (.aload_n 0, 1) := by decide +kernel
theorem dX9_rankHere_13 : decode cX9_rankHere 13 = .ok (.ldc2_w 181, 3) := by decide +kernel
theorem dX9_rankHere_16 : decode cX9_rankHere 16 = .ok (.invokevirtual 235, 3) := by decide +kernel
theorem dX9_rankHere_19 : decode cX9_rankHere 19 = .ok (.ifCond .eq 5, 3) := by decide +kernel
theorem dX9_rankHere_22 : decode cX9_rankHere 22 = .ok (.iconst 1, 1) := by decide +kernel
theorem dX9_rankHere_23 : decode cX9_rankHere 23 = .ok (.ireturn, 1) := by decide +kernel
theorem dX9_rankHere_24 : decode cX9_rankHere 24 = .ok (.aload_n 0, 1) := by decide +kernel
theorem dX9_rankHere_25 : decode cX9_rankHere 25 = .ok (.bipush 60, 2) := by decide +kernel
theorem dX9_rankHere_27 : decode cX9_rankHere 27 = .ok (.invokevirtual 282, 3) := by decide +kernel
theorem dX9_rankHere_30 : decode cX9_rankHere 30 = .ok (.ifCond .ne 21, 3) := by decide +kernel
theorem dX9_rankHere_33 : decode cX9_rankHere 33 = .ok (.aload_n 0, 1) := by decide +kernel
theorem dX9_rankHere_34 : decode cX9_rankHere 34 = .ok (.bipush 62, 2) := by decide +kernel
theorem dX9_rankHere_36 : decode cX9_rankHere 36 = .ok (.invokevirtual 282, 3) := by decide +kernel
theorem dX9_rankHere_39 : decode cX9_rankHere 39 = .ok (.ifCond .ne 12, 3) := by decide +kernel
theorem dX9_rankHere_42 : decode cX9_rankHere 42 = .ok (.aload_n 0, 1) := by decide +kernel
theorem dX9_rankHere_43 : decode cX9_rankHere 43 = .ok (.bipush 61, 2) := by decide +kernel
theorem dX9_rankHere_45 : decode cX9_rankHere 45 = .ok (.invokevirtual 282, 3) := by decide +kernel
theorem dX9_rankHere_48 : decode cX9_rankHere 48 = .ok (.ifCond .eq 5, 3) := by decide +kernel
theorem dX9_rankHere_51 : decode cX9_rankHere 51 = .ok (.iconst 4, 1) := by decide +kernel
theorem dX9_rankHere_52 : decode cX9_rankHere 52 = .ok (.ireturn, 1) := by decide +kernel
theorem dX9_rankHere_53 : decode cX9_rankHere 53 = .ok (.aload_n 0, 1) := by decide +kernel
theorem dX9_rankHere_54 : decode cX9_rankHere 54 = .ok (.bipush 43, 2) := by decide +kernel
theorem dX9_rankHere_56 : decode cX9_rankHere 56 = .ok (.invokevirtual 282, 3) := by decide +kernel
theorem dX9_rankHere_59 : decode cX9_rankHere 59 = .ok (.ifCond .ne 12, 3) := by decide +kernel
theorem dX9_rankHere_62 : decode cX9_rankHere 62 = .ok (.aload_n 0, 1) := by decide +kernel
theorem dX9_rankHere_63 : decode cX9_rankHere 63 = .ok (.bipush 45, 2) := by decide +kernel
theorem dX9_rankHere_65 : decode cX9_rankHere 65 = .ok (.invokevirtual 282, 3) := by decide +kernel
theorem dX9_rankHere_68 : decode cX9_rankHere 68 = .ok (.ifCond .eq 5, 3) := by decide +kernel
theorem dX9_rankHere_71 : decode cX9_rankHere 71 = .ok (.iconst 5, 1) := by decide +kernel
theorem dX9_rankHere_72 : decode cX9_rankHere 72 = .ok (.ireturn, 1) := by decide +kernel
theorem dX9_rankHere_73 : decode cX9_rankHere 73 = .ok (.aload_n 0, 1) := by decide +kernel
theorem dX9_rankHere_74 : decode cX9_rankHere 74 = .ok (.bipush 42, 2) := by decide +kernel
theorem dX9_rankHere_76 : decode cX9_rankHere 76 = .ok (.invokevirtual 282, 3) := by decide +kernel
theorem dX9_rankHere_79 : decode cX9_rankHere 79 = .ok (.ifCond .ne 21, 3) := by decide +kernel
theorem dX9_rankHere_82 : decode cX9_rankHere 82 = .ok (.aload_n 0, 1) := by decide +kernel
theorem dX9_rankHere_83 : decode cX9_rankHere 83 = .ok (.bipush 47, 2) := by decide +kernel
theorem dX9_rankHere_85 : decode cX9_rankHere 85 = .ok (.invokevirtual 282, 3) := by decide +kernel
theorem dX9_rankHere_88 : decode cX9_rankHere 88 = .ok (.ifCond .ne 12, 3) := by decide +kernel
theorem dX9_rankHere_91 : decode cX9_rankHere 91 = .ok (.aload_n 0, 1) := by decide +kernel
theorem dX9_rankHere_92 : decode cX9_rankHere 92 = .ok (.bipush 37, 2) := by decide +kernel
theorem dX9_rankHere_94 : decode cX9_rankHere 94 = .ok (.invokevirtual 282, 3) := by decide +kernel
theorem dX9_rankHere_97 : decode cX9_rankHere 97 = .ok (.ifCond .eq 8, 3) := by decide +kernel
theorem dX9_rankHere_100 : decode cX9_rankHere 100 = .ok (.bipush 6, 2) := by decide +kernel
theorem dX9_rankHere_102 : decode cX9_rankHere 102 = .ok (.goto 4, 3) := by decide +kernel
theorem dX9_rankHere_105 : decode cX9_rankHere 105 = .ok (.iconst 0, 1) := by decide +kernel
theorem dX9_rankHere_106 : decode cX9_rankHere 106 = .ok (.ireturn, 1) := by decide +kernel
theorem ydX9_rankHere : z_yd yX9_rankHere 0 := ⟨by decide, by decide, by decide +kernel⟩
abbrev rmX9_rankHere : Room := { frames := 2, cells := 0, slots := 0, locals := 42 }
noncomputable def xX9_rankHere (l0 : Nat) (h : ZH) : Option (Int32 × ZH) := (z_gu (z_is h l0 9) ((xX9_isWord l0 (6385252 : Int64) h).bind fun r4 => (if r4.1 = 0 then (z_gu (z_is r4.2 l0 9) ((xX9_isWord l0 (28530 : Int64) r4.2).bind fun r16 => (if r16.1 = 0 then (z_gu (z_is r16.2 l0 9) ((xX9_isSignHere l0 (60 : Int32) r16.2).bind fun r27 => (if r27.1 = 0 then (z_gu (z_is r27.2 l0 9) ((xX9_isSignHere l0 (62 : Int32) r27.2).bind fun r36 => (if r36.1 = 0 then (z_gu (z_is r36.2 l0 9) ((xX9_isSignHere l0 (61 : Int32) r36.2).bind fun r45 => (if r45.1 = 0 then (z_gu (z_is r45.2 l0 9) ((xX9_isSignHere l0 (43 : Int32) r45.2).bind fun r56 => (if r56.1 = 0 then (z_gu (z_is r56.2 l0 9) ((xX9_isSignHere l0 (45 : Int32) r56.2).bind fun r65 => (if r65.1 = 0 then (z_gu (z_is r65.2 l0 9) ((xX9_isSignHere l0 (42 : Int32) r65.2).bind fun r76 => (if r76.1 = 0 then (z_gu (z_is r76.2 l0 9) ((xX9_isSignHere l0 (47 : Int32) r76.2).bind fun r85 => (if r85.1 = 0 then (z_gu (z_is r85.2 l0 9) ((xX9_isSignHere l0 (37 : Int32) r85.2).bind fun r94 => (if r94.1 = 0 then some ((0 : Int32), r94.2) else some ((6 : Int32), r94.2)))) else some ((6 : Int32), r85.2)))) else some ((6 : Int32), r76.2)))) else some ((5 : Int32), r65.2)))) else some ((5 : Int32), r56.2)))) else some ((4 : Int32), r45.2)))) else some ((4 : Int32), r36.2)))) else some ((4 : Int32), r27.2)))) else some ((1 : Int32), r16.2)))) else some ((2 : Int32), r4.2))))
set_option maxHeartbeats 4000000 in
set_option maxRecDepth 100000 in
theorem lX9_rankHere {Γ : ZG} {l : Launch} (hO : z_OK Γ) {l0 : Nat} {h : ZH} {r : (Int32 × ZH)} (hX : xX9_rankHere l0 h = some r) : z_M Γ l yX9_rankHere (z_ws1 yX9_rankHere cX9_rankHere 1 (some .int)) rmX9_rankHere [.ref l0] h (some (.int r.1)) r.2 := by
  refine z_start hO (plainFor_of_name (by decide)) (Nat.le_of_ble_eq_true rfl) ?_
  intro p e s m args below meth c G hr hnm
  refine z_lvc (lv2 := [(0, .ref l0)]) rfl ?_
  refine z_aload_n (pc := 0) G 0 dX9_rankHere_0 rfl rfl ?_
  refine z_ldc2 (pc := 1) G kt_1446 dX9_rankHere_1 ?_
  obtain ⟨hi4, hX⟩ := z_gu_s hX
  obtain ⟨r4, hv4, hX⟩ := z_bd hX
  refine z_cVI (pc := 4) (As := [.long (6385252 : Int64)]) (c2 := 0) (s2 := 0) G kK9 (lX9_isWord hO hv4) hi4 kt_1469 kt_11 kt_1466 kt_1468 ks_43 ydX9_isWord ⟨by decide, by decide⟩ rfl (Nat.le_of_ble_eq_true rfl) ⟨rfl, rfl⟩ ⟨by decide, by decide⟩ rfl dX9_rankHere_4 ?_
  refine z_if_eq (pc := 7) (tgt := 12) G dX9_rankHere_7 (by decide) (fun hc7 => ?_) (fun hc7 => ?_)
  · have hX := z_it hc7 hX
    refine z_aload_n (pc := 12) G 0 dX9_rankHere_12 rfl rfl ?_
    refine z_ldc2 (pc := 13) G kt_1445 dX9_rankHere_13 ?_
    obtain ⟨hi16, hX⟩ := z_gu_s hX
    obtain ⟨r16, hv16, hX⟩ := z_bd hX
    refine z_cVI (pc := 16) (As := [.long (28530 : Int64)]) (c2 := 0) (s2 := 0) G kK9 (lX9_isWord hO hv16) hi16 kt_1469 kt_11 kt_1466 kt_1468 ks_43 ydX9_isWord ⟨by decide, by decide⟩ rfl (Nat.le_of_ble_eq_true rfl) ⟨rfl, rfl⟩ ⟨by decide, by decide⟩ rfl dX9_rankHere_16 ?_
    refine z_if_eq (pc := 19) (tgt := 24) G dX9_rankHere_19 (by decide) (fun hc19 => ?_) (fun hc19 => ?_)
    · have hX := z_it hc19 hX
      refine z_aload_n (pc := 24) G 0 dX9_rankHere_24 rfl rfl ?_
      refine z_bipush (pc := 25) (v := 60) G dX9_rankHere_25 (by decide) ?_
      obtain ⟨hi27, hX⟩ := z_gu_s hX
      obtain ⟨r27, hv27, hX⟩ := z_bd hX
      refine z_cVI (pc := 27) (As := [.int (60 : Int32)]) (c2 := 0) (s2 := 0) G kK9 (lX9_isSignHere hO hv27) hi27 kt_1524 kt_11 kt_1521 kt_1523 ks_56 ydX9_isSignHere ⟨by decide, by decide⟩ rfl (Nat.le_of_ble_eq_true rfl) ⟨rfl, rfl⟩ ⟨by decide, by decide⟩ rfl dX9_rankHere_27 ?_
      refine z_if_ne (pc := 30) (tgt := 51) G dX9_rankHere_30 (by decide) (fun hc30 => ?_) (fun hc30 => ?_)
      · have hX := z_if hc30 hX
        refine z_iconst (pc := 51) (v := 4) G dX9_rankHere_51 (by decide) ?_
        exact z_iretX (pc := 52) hX G hr dX9_rankHere_52 (by decide) (by decide)
      · have hX := z_it hc30 hX
        refine z_aload_n (pc := 33) G 0 dX9_rankHere_33 rfl rfl ?_
        refine z_bipush (pc := 34) (v := 62) G dX9_rankHere_34 (by decide) ?_
        obtain ⟨hi36, hX⟩ := z_gu_s hX
        obtain ⟨r36, hv36, hX⟩ := z_bd hX
        refine z_cVI (pc := 36) (As := [.int (62 : Int32)]) (c2 := 0) (s2 := 0) G kK9 (lX9_isSignHere hO hv36) hi36 kt_1524 kt_11 kt_1521 kt_1523 ks_56 ydX9_isSignHere ⟨by decide, by decide⟩ rfl (Nat.le_of_ble_eq_true rfl) ⟨rfl, rfl⟩ ⟨by decide, by decide⟩ rfl dX9_rankHere_36 ?_
        refine z_if_ne (pc := 39) (tgt := 51) G dX9_rankHere_39 (by decide) (fun hc39 => ?_) (fun hc39 => ?_)
        · have hX := z_if hc39 hX
          refine z_iconst (pc := 51) (v := 4) G dX9_rankHere_51 (by decide) ?_
          exact z_iretX (pc := 52) hX G hr dX9_rankHere_52 (by decide) (by decide)
        · have hX := z_it hc39 hX
          refine z_aload_n (pc := 42) G 0 dX9_rankHere_42 rfl rfl ?_
          refine z_bipush (pc := 43) (v := 61) G dX9_rankHere_43 (by decide) ?_
          obtain ⟨hi45, hX⟩ := z_gu_s hX
          obtain ⟨r45, hv45, hX⟩ := z_bd hX
          refine z_cVI (pc := 45) (As := [.int (61 : Int32)]) (c2 := 0) (s2 := 0) G kK9 (lX9_isSignHere hO hv45) hi45 kt_1524 kt_11 kt_1521 kt_1523 ks_56 ydX9_isSignHere ⟨by decide, by decide⟩ rfl (Nat.le_of_ble_eq_true rfl) ⟨rfl, rfl⟩ ⟨by decide, by decide⟩ rfl dX9_rankHere_45 ?_
          refine z_if_eq (pc := 48) (tgt := 53) G dX9_rankHere_48 (by decide) (fun hc48 => ?_) (fun hc48 => ?_)
          · have hX := z_it hc48 hX
            refine z_aload_n (pc := 53) G 0 dX9_rankHere_53 rfl rfl ?_
            refine z_bipush (pc := 54) (v := 43) G dX9_rankHere_54 (by decide) ?_
            obtain ⟨hi56, hX⟩ := z_gu_s hX
            obtain ⟨r56, hv56, hX⟩ := z_bd hX
            refine z_cVI (pc := 56) (As := [.int (43 : Int32)]) (c2 := 0) (s2 := 0) G kK9 (lX9_isSignHere hO hv56) hi56 kt_1524 kt_11 kt_1521 kt_1523 ks_56 ydX9_isSignHere ⟨by decide, by decide⟩ rfl (Nat.le_of_ble_eq_true rfl) ⟨rfl, rfl⟩ ⟨by decide, by decide⟩ rfl dX9_rankHere_56 ?_
            refine z_if_ne (pc := 59) (tgt := 71) G dX9_rankHere_59 (by decide) (fun hc59 => ?_) (fun hc59 => ?_)
            · have hX := z_if hc59 hX
              refine z_iconst (pc := 71) (v := 5) G dX9_rankHere_71 (by decide) ?_
              exact z_iretX (pc := 72) hX G hr dX9_rankHere_72 (by decide) (by decide)
            · have hX := z_it hc59 hX
              refine z_aload_n (pc := 62) G 0 dX9_rankHere_62 rfl rfl ?_
              refine z_bipush (pc := 63) (v := 45) G dX9_rankHere_63 (by decide) ?_
              obtain ⟨hi65, hX⟩ := z_gu_s hX
              obtain ⟨r65, hv65, hX⟩ := z_bd hX
              refine z_cVI (pc := 65) (As := [.int (45 : Int32)]) (c2 := 0) (s2 := 0) G kK9 (lX9_isSignHere hO hv65) hi65 kt_1524 kt_11 kt_1521 kt_1523 ks_56 ydX9_isSignHere ⟨by decide, by decide⟩ rfl (Nat.le_of_ble_eq_true rfl) ⟨rfl, rfl⟩ ⟨by decide, by decide⟩ rfl dX9_rankHere_65 ?_
              refine z_if_eq (pc := 68) (tgt := 73) G dX9_rankHere_68 (by decide) (fun hc68 => ?_) (fun hc68 => ?_)
              · have hX := z_it hc68 hX
                refine z_aload_n (pc := 73) G 0 dX9_rankHere_73 rfl rfl ?_
                refine z_bipush (pc := 74) (v := 42) G dX9_rankHere_74 (by decide) ?_
                obtain ⟨hi76, hX⟩ := z_gu_s hX
                obtain ⟨r76, hv76, hX⟩ := z_bd hX
                refine z_cVI (pc := 76) (As := [.int (42 : Int32)]) (c2 := 0) (s2 := 0) G kK9 (lX9_isSignHere hO hv76) hi76 kt_1524 kt_11 kt_1521 kt_1523 ks_56 ydX9_isSignHere ⟨by decide, by decide⟩ rfl (Nat.le_of_ble_eq_true rfl) ⟨rfl, rfl⟩ ⟨by decide, by decide⟩ rfl dX9_rankHere_76 ?_
                refine z_if_ne (pc := 79) (tgt := 100) G dX9_rankHere_79 (by decide) (fun hc79 => ?_) (fun hc79 => ?_)
                · have hX := z_if hc79 hX
                  refine z_bipush (pc := 100) (v := 6) G dX9_rankHere_100 (by decide) ?_
                  refine z_goto (pc := 102) (tgt := 106) G dX9_rankHere_102 (by decide) ?_
                  exact z_iretX (pc := 106) hX G hr dX9_rankHere_106 (by decide) (by decide)
                · have hX := z_it hc79 hX
                  refine z_aload_n (pc := 82) G 0 dX9_rankHere_82 rfl rfl ?_
                  refine z_bipush (pc := 83) (v := 47) G dX9_rankHere_83 (by decide) ?_
                  obtain ⟨hi85, hX⟩ := z_gu_s hX
                  obtain ⟨r85, hv85, hX⟩ := z_bd hX
                  refine z_cVI (pc := 85) (As := [.int (47 : Int32)]) (c2 := 0) (s2 := 0) G kK9 (lX9_isSignHere hO hv85) hi85 kt_1524 kt_11 kt_1521 kt_1523 ks_56 ydX9_isSignHere ⟨by decide, by decide⟩ rfl (Nat.le_of_ble_eq_true rfl) ⟨rfl, rfl⟩ ⟨by decide, by decide⟩ rfl dX9_rankHere_85 ?_
                  refine z_if_ne (pc := 88) (tgt := 100) G dX9_rankHere_88 (by decide) (fun hc88 => ?_) (fun hc88 => ?_)
                  · have hX := z_if hc88 hX
                    refine z_bipush (pc := 100) (v := 6) G dX9_rankHere_100 (by decide) ?_
                    refine z_goto (pc := 102) (tgt := 106) G dX9_rankHere_102 (by decide) ?_
                    exact z_iretX (pc := 106) hX G hr dX9_rankHere_106 (by decide) (by decide)
                  · have hX := z_it hc88 hX
                    refine z_aload_n (pc := 91) G 0 dX9_rankHere_91 rfl rfl ?_
                    refine z_bipush (pc := 92) (v := 37) G dX9_rankHere_92 (by decide) ?_
                    obtain ⟨hi94, hX⟩ := z_gu_s hX
                    obtain ⟨r94, hv94, hX⟩ := z_bd hX
                    refine z_cVI (pc := 94) (As := [.int (37 : Int32)]) (c2 := 0) (s2 := 0) G kK9 (lX9_isSignHere hO hv94) hi94 kt_1524 kt_11 kt_1521 kt_1523 ks_56 ydX9_isSignHere ⟨by decide, by decide⟩ rfl (Nat.le_of_ble_eq_true rfl) ⟨rfl, rfl⟩ ⟨by decide, by decide⟩ rfl dX9_rankHere_94 ?_
                    refine z_if_eq (pc := 97) (tgt := 105) G dX9_rankHere_97 (by decide) (fun hc97 => ?_) (fun hc97 => ?_)
                    · have hX := z_it hc97 hX
                      refine z_iconst (pc := 105) (v := 0) G dX9_rankHere_105 (by decide) ?_
                      exact z_iretX (pc := 106) hX G hr dX9_rankHere_106 (by decide) (by decide)
                    · have hX := z_if hc97 hX
                      refine z_bipush (pc := 100) (v := 6) G dX9_rankHere_100 (by decide) ?_
                      refine z_goto (pc := 102) (tgt := 106) G dX9_rankHere_102 (by decide) ?_
                      exact z_iretX (pc := 106) hX G hr dX9_rankHere_106 (by decide) (by decide)
              · have hX := z_if hc68 hX
                refine z_iconst (pc := 71) (v := 5) G dX9_rankHere_71 (by decide) ?_
                exact z_iretX (pc := 72) hX G hr dX9_rankHere_72 (by decide) (by decide)
          · have hX := z_if hc48 hX
            refine z_iconst (pc := 51) (v := 4) G dX9_rankHere_51 (by decide) ?_
            exact z_iretX (pc := 52) hX G hr dX9_rankHere_52 (by decide) (by decide)
    · have hX := z_if hc19 hX
      refine z_iconst (pc := 22) (v := 1) G dX9_rankHere_22 (by decide) ?_
      exact z_iretX (pc := 23) hX G hr dX9_rankHere_23 (by decide) (by decide)
  · have hX := z_if hc7 hX
    refine z_iconst (pc := 10) (v := 2) G dX9_rankHere_10 (by decide) ?_
    exact z_iretX (pc := 11) hX G hr dX9_rankHere_11 (by decide) (by decide)
theorem dX9_behindUnit_0 : decode cX9_behindUnit 0 = .ok (.aload_n 0, 1) := by decide +kernel
theorem dX9_behindUnit_1 : decode cX9_behindUnit 1 = .ok (.invokevirtual 316, 3) := by decide +kernel
theorem dX9_behindUnit_4 : decode cX9_behindUnit 4 = .ok (.istore_n 1, 1) := by decide +kernel
theorem dX9_behindUnit_5 : decode cX9_behindUnit 5 = .ok (.iload_n 1, 1) := by decide +kernel
theorem dX9_behindUnit_6 : decode cX9_behindUnit 6 = .ok (.iconst 4, 1) := by decide +kernel
theorem dX9_behindUnit_7 : decode cX9_behindUnit 7 = .ok (.if_icmp .ne 16, 3) := by decide +kernel
theorem dX9_behindUnit_10 : decode cX9_behindUnit 10 = .ok (.aload_n 0, 1) := by decide +kernel
theorem dX9_behindUnit_11 : decode cX9_behindUnit 11 = .ok (.invokevirtual 319, 3) := by decide +kernel
theorem dX9_behindUnit_14 : decode cX9_behindUnit 14 = .ok (.ifCond .eq 9, 3) := by decide +kernel
theorem dX9_behindUnit_17 : decode cX9_behindUnit 17 = .ok (.aload_n 0, 1) := by decide +kernel
theorem dX9_behindUnit_18 : decode cX9_behindUnit 18 = .ok (.invokevirtual 232, 3) := by decide +kernel
theorem dX9_behindUnit_21 : decode cX9_behindUnit 21 = .ok (.iconst 1, 1) := by decide +kernel
theorem dX9_behindUnit_22 : decode cX9_behindUnit 22 = .ok (.ireturn, 1) := by decide +kernel
theorem dX9_behindUnit_23 : decode cX9_behindUnit 23 = .ok (.aload_n 0, 1) := by decide +kernel
theorem dX9_behindUnit_24 : decode cX9_behindUnit 24 = .ok (.getfield 82, 3) := by decide +kernel
theorem dX9_behindUnit_27 : decode cX9_behindUnit 27 = .ok (.aload_n 0, 1) := by decide +kernel
theorem dX9_behindUnit_28 : decode cX9_behindUnit 28 = .ok (.getfield 295, 3) := by decide +kernel
theorem dX9_behindUnit_31 : decode cX9_behindUnit 31 = .ok (.iconst 1, 1) := by decide +kernel
theorem dX9_behindUnit_32 : decode cX9_behindUnit 32 = .ok (.isub, 1) := by decide +kernel
theorem dX9_behindUnit_33 : decode cX9_behindUnit 33 = .ok (.iaload, 1) := by decide +kernel
theorem dX9_behindUnit_34 : decode cX9_behindUnit 34 = .ok (.bipush 6, 2) := by decide +kernel
theorem dX9_behindUnit_36 : decode cX9_behindUnit 36 = .ok (.if_icmp .gt 68, 3) := by decide +kernel
theorem dX9_behindUnit_39 : decode cX9_behindUnit 39 = .ok (.aload_n 0, 1) := by decide +kernel
theorem dX9_behindUnit_40 : decode cX9_behindUnit 40 = .ok (.getfield 82, 3) := by decide +kernel
theorem dX9_behindUnit_43 : decode cX9_behindUnit 43 = .ok (.aload_n 0, 1) := by decide +kernel
theorem dX9_behindUnit_44 : decode cX9_behindUnit 44 = .ok (.getfield 295, 3) := by decide +kernel
theorem dX9_behindUnit_47 : decode cX9_behindUnit 47 = .ok (.iconst 1, 1) := by decide +kernel
theorem dX9_behindUnit_48 : decode cX9_behindUnit 48 = .ok (.isub, 1) := by decide +kernel
theorem dX9_behindUnit_49 : decode cX9_behindUnit 49 = .ok (.iaload, 1) := by decide +kernel
theorem dX9_behindUnit_50 : decode cX9_behindUnit 50 = .ok (.iload_n 1, 1) := by decide +kernel
theorem dX9_behindUnit_51 : decode cX9_behindUnit 51 = .ok (.if_icmp .lt 53, 3) := by decide +kernel
theorem dX9_behindUnit_54 : decode cX9_behindUnit 54 = .ok (.aload_n 0, 1) := by decide +kernel
theorem dX9_behindUnit_55 : decode cX9_behindUnit 55 = .ok (.dup, 1) := by decide +kernel
theorem dX9_behindUnit_56 : decode cX9_behindUnit 56 = .ok (.getfield 295, 3) := by decide +kernel
theorem dX9_behindUnit_59 : decode cX9_behindUnit 59 = .ok (.iconst 1, 1) := by decide +kernel
theorem dX9_behindUnit_60 : decode cX9_behindUnit 60 = .ok (.isub, 1) := by decide +kernel
theorem dX9_behindUnit_61 : decode cX9_behindUnit 61 = .ok (.putfield 295, 3) := by decide +kernel
theorem dX9_behindUnit_64 : decode cX9_behindUnit 64 = .ok (.aload_n 0, 1) := by decide +kernel
theorem dX9_behindUnit_65 : decode cX9_behindUnit 65 = .ok (.getfield 82, 3) := by decide +kernel
theorem dX9_behindUnit_68 : decode cX9_behindUnit 68 = .ok (.aload_n 0, 1) := by decide +kernel
theorem dX9_behindUnit_69 : decode cX9_behindUnit 69 = .ok (.getfield 295, 3) := by decide +kernel
theorem dX9_behindUnit_72 : decode cX9_behindUnit 72 = .ok (.iaload, 1) := by decide +kernel
theorem dX9_behindUnit_73 : decode cX9_behindUnit 73 = .ok (.iconst 3, 1) := by decide +kernel
theorem dX9_behindUnit_74 : decode cX9_behindUnit 74 = .ok (.if_icmp .ne 13, 3) := by decide +kernel
theorem dX9_behindUnit_77 : decode cX9_behindUnit 77 = .ok (.aload_n 0, 1) := by decide +kernel
theorem dX9_behindUnit_78 : decode cX9_behindUnit 78 = .ok (.dup, 1) := by decide +kernel
theorem dX9_behindUnit_79 : decode cX9_behindUnit 79 = .ok (.getfield 298, 3) := by decide +kernel
theorem dX9_behindUnit_82 : decode cX9_behindUnit 82 = .ok (.iconst 1, 1) := by decide +kernel
theorem dX9_behindUnit_83 : decode cX9_behindUnit 83 = .ok (.isub, 1) := by decide +kernel
theorem dX9_behindUnit_84 : decode cX9_behindUnit 84 = .ok (.putfield 298, 3) := by decide +kernel
theorem dX9_behindUnit_87 : decode cX9_behindUnit 87 = .ok (.aload_n 0, 1) := by decide +kernel
theorem dX9_behindUnit_88 : decode cX9_behindUnit 88 = .ok (.aload_n 0, 1) := by decide +kernel
theorem dX9_behindUnit_89 : decode cX9_behindUnit 89 = .ok (.getfield 85, 3) := by decide +kernel
theorem dX9_behindUnit_92 : decode cX9_behindUnit 92 = .ok (.aload_n 0, 1) := by decide +kernel
theorem dX9_behindUnit_93 : decode cX9_behindUnit 93 = .ok (.getfield 295, 3) := by decide +kernel
theorem dX9_behindUnit_96 : decode cX9_behindUnit 96 = .ok (.iaload, 1) := by decide +kernel
theorem dX9_behindUnit_97 : decode cX9_behindUnit 97 = .ok (.iconst 0, 1) := by decide +kernel
theorem dX9_behindUnit_98 : decode cX9_behindUnit 98 = .ok (.invokevirtual 313, 3) := by decide +kernel
theorem dX9_behindUnit_101 : decode cX9_behindUnit 101 = .ok (.goto (-78), 3) := by decide +kernel
theorem dX9_behindUnit_104 : decode cX9_behindUnit 104 = .ok (.iload_n 1, 1) := by decide +kernel
theorem dX9_behindUnit_105 : decode cX9_behindUnit 105 = .ok (.ifCond .le 42, 3) := by decide +kernel
theorem dX9_behindUnit_108 : decode cX9_behindUnit 108 = .ok (.aload_n 0, 1) := by decide +kernel
theorem dX9_behindUnit_109 : decode cX9_behindUnit 109 = .ok (.iload_n 1, 1) := by decide +kernel
theorem dX9_behindUnit_110 : decode cX9_behindUnit 110 = .ok (.iload_n 1, 1) := by decide +kernel
theorem dX9_behindUnit_111 : decode cX9_behindUnit 111 = .ok (.iconst 2, 1) := by decide +kernel
theorem dX9_behindUnit_112 : decode cX9_behindUnit 112 = .ok (.if_icmp .ne 8, 3) := by decide +kernel
theorem dX9_behindUnit_115 : decode cX9_behindUnit 115 = .ok (.bipush 38, 2) := by decide +kernel
theorem dX9_behindUnit_117 : decode cX9_behindUnit 117 = .ok (.goto 21, 3) := by decide +kernel
theorem dX9_behindUnit_120 : decode cX9_behindUnit 120 = .ok (.iload_n 1, 1) := by decide +kernel
theorem dX9_behindUnit_121 : decode cX9_behindUnit 121 = .ok (.iconst 1, 1) := by decide +kernel
theorem dX9_behindUnit_122 : decode cX9_behindUnit 122 = .ok (.if_icmp .ne 8, 3) := by decide +kernel
theorem dX9_behindUnit_125 : decode cX9_behindUnit 125 = .ok (.bipush 124, 2) := by decide +kernel
theorem dX9_behindUnit_127 : decode cX9_behindUnit 127 = .ok (.goto 11, 3) := by decide +kernel
theorem dX9_behindUnit_130 : decode cX9_behindUnit 130 = .ok (.aload_n 0, 1) := by decide +kernel
theorem dX9_behindUnit_131 : decode cX9_behindUnit 131 = .ok (.aload_n 0, 1) := by decide +kernel
theorem dX9_behindUnit_132 : decode cX9_behindUnit 132 = .ok (.getfield 190, 3) := by decide +kernel
theorem dX9_behindUnit_135 : decode cX9_behindUnit 135 = .ok (.invokevirtual 193, 3) := by decide +kernel
theorem dX9_behindUnit_138 : decode cX9_behindUnit 138 = .ok (.invokevirtual 301, 3) := by decide +kernel
theorem dX9_behindUnit_141 : decode cX9_behindUnit 141 = .ok (.aload_n 0, 1) := by decide +kernel
theorem dX9_behindUnit_142 : decode cX9_behindUnit 142 = .ok (.invokevirtual 229, 3) := by decide +kernel
theorem dX9_behindUnit_145 : decode cX9_behindUnit 145 = .ok (.iconst 1, 1) := by decide +kernel
theorem dX9_behindUnit_146 : decode cX9_behindUnit 146 = .ok (.ireturn, 1) := by decide +kernel
theorem dX9_behindUnit_147 : decode cX9_behindUnit 147 = .ok (.aload_n 0, 1) := by decide +kernel
theorem dX9_behindUnit_148 : decode cX9_behindUnit 148 = .ok (.dup, 1) := by decide +kernel
theorem dX9_behindUnit_149 : decode cX9_behindUnit 149 = .ok (.getfield 295, 3) := by decide +kernel
theorem dX9_behindUnit_152 : decode cX9_behindUnit 152 = .ok (.iconst 1, 1) := by decide +kernel
theorem dX9_behindUnit_153 : decode cX9_behindUnit 153 = .ok (.isub, 1) := by decide +kernel
theorem dX9_behindUnit_154 : decode cX9_behindUnit 154 = .ok (.putfield 295, 3) := by decide +kernel
theorem dX9_behindUnit_157 : decode cX9_behindUnit 157 = .ok (.aload_n 0, 1) := by decide +kernel
theorem dX9_behindUnit_158 : decode cX9_behindUnit 158 = .ok (.getfield 82, 3) := by decide +kernel
theorem dX9_behindUnit_161 : decode cX9_behindUnit 161 = .ok (.aload_n 0, 1) := by decide +kernel
theorem dX9_behindUnit_162 : decode cX9_behindUnit 162 = .ok (.getfield 295, 3) := by decide +kernel
theorem dX9_behindUnit_165 : decode cX9_behindUnit 165 = .ok (.iaload, 1) := by decide +kernel
theorem dX9_behindUnit_166 : decode cX9_behindUnit 166 = .ok (.bipush 7, 2) := by decide +kernel
theorem dX9_behindUnit_168 : decode cX9_behindUnit 168 = .ok (.if_icmp .ne 23, 3) := by decide +kernel
theorem dX9_behindUnit_171 : decode cX9_behindUnit 171 = .ok (.aload_n 0, 1) := by decide +kernel
theorem dX9_behindUnit_172 : decode cX9_behindUnit 172 = .ok (.dup, 1) := by decide +kernel
theorem dX9_behindUnit_173 : decode cX9_behindUnit 173 = .ok (.getfield 298, 3) := by decide +kernel
theorem dX9_behindUnit_176 : decode cX9_behindUnit 176 = .ok (.iconst 1, 1) := by decide +kernel
theorem dX9_behindUnit_177 : decode cX9_behindUnit 177 = .ok (.isub, 1) := by decide +kernel
theorem dX9_behindUnit_178 : decode cX9_behindUnit 178 = .ok (.putfield 298, 3) := by decide +kernel
theorem dX9_behindUnit_181 : decode cX9_behindUnit 181 = .ok (.aload_n 0, 1) := by decide +kernel
theorem dX9_behindUnit_182 : decode cX9_behindUnit 182 = .ok (.aload_n 0, 1) := by decide +kernel
theorem dX9_behindUnit_183 : decode cX9_behindUnit 183 = .ok (.bipush 41, 2) := by decide +kernel
theorem dX9_behindUnit_185 : decode cX9_behindUnit 185 = .ok (.invokevirtual 282, 3) := by decide +kernel
theorem dX9_behindUnit_188 : decode cX9_behindUnit 188 = .ok (.invokevirtual 238, 3) := by decide +kernel
theorem dX9_behindUnit_191 : decode cX9_behindUnit 191 = .ok (.iconst 0, 1) := by decide +kernel
theorem dX9_behindUnit_192 : decode cX9_behindUnit 192 = .ok (.ireturn, 1) := by decide +kernel
theorem ydX9_behindUnit : z_yd yX9_behindUnit 0 := ⟨by decide, by decide, by decide +kernel⟩
abbrev rmX9_behindUnit : Room := { frames := 3, cells := 0, slots := 0, locals := 65 }
noncomputable def xX9_behindUnit_B87 (r23 : Nat → Int32 → ZH → Option (Int32 × ZH)) (l0 : Nat) (l1 : Int32) (h : ZH) : Option (Int32 × ZH) := ((z_gR h l0 9 32).bind fun x89 => ((z_gI h l0 9 38).bind fun x93 => ((z_aI h x89 x93).bind fun x96 => (z_gu (z_is h l0 9) ((xX9_emit l0 x96 (0 : Int32) h).bind fun h98 => r23 l0 l1 h98)))))
set_option maxHeartbeats 4000000 in
set_option maxRecDepth 100000 in
theorem wX9_behindUnit_B87 {Γ : ZG} {p : Program} {l : Launch} {e : Env} {s : State} {m : MethodId} {args : Array Value} {below : List Frame} {meth : Method} {c : Code} (hO : z_OK Γ) (G : z_GG Γ p s m args meth c cX9_behindUnit 2 RX9) (hr : meth.sig.returnType = (some .boolean)) (hnm : meth.name = "behindUnit") {r : (Int32 × ZH)} {r23 : Nat → Int32 → ZH → Option (Int32 × ZH)} (H23 : ∀ (l0 : Nat) (l1 : Int32) (h : ZH), r23 l0 l1 h = some r → z_W Γ p l e rmX9_behindUnit s m args below meth c 2 0 0 (MQ below (z_Qc Γ (some (.int r.1)) r.2) args s rmX9_behindUnit.cells rmX9_behindUnit.slots (z_A Γ)) 23 [(0, .ref l0), (1, .int l1)] [] h) : ∀ (l0 : Nat) (l1 : Int32) (h : ZH), xX9_behindUnit_B87  r23 l0 l1 h = some r → z_W Γ p l e rmX9_behindUnit s m args below meth c 2 0 0 (MQ below (z_Qc Γ (some (.int r.1)) r.2) args s rmX9_behindUnit.cells rmX9_behindUnit.slots (z_A Γ)) 87 [(0, .ref l0), (1, .int l1)] [] h := by
  intro l0 l1 h hX
  refine z_aload_n (pc := 87) G 0 dX9_behindUnit_87 rfl rfl ?_
  refine z_aload_n (pc := 88) G 0 dX9_behindUnit_88 rfl rfl ?_
  obtain ⟨x89, hv89, hX⟩ := z_bd hX
  refine z_getR (pc := 89) G kK9 (k := 32) (by decide) kt_1258 dX9_behindUnit_89 hv89 ?_
  refine z_aload_n (pc := 92) G 0 dX9_behindUnit_92 rfl rfl ?_
  obtain ⟨x93, hv93, hX⟩ := z_bd hX
  refine z_getI (pc := 93) G kK9 (k := 38) (by decide) kt_1264 dX9_behindUnit_93 hv93 ?_
  obtain ⟨x96, hv96, hX⟩ := z_bd hX
  refine z_iald (pc := 96) G dX9_behindUnit_96 hv96 ?_
  refine z_iconst (pc := 97) (v := 0) G dX9_behindUnit_97 (by decide) ?_
  obtain ⟨hi98, hX⟩ := z_gu_s hX
  obtain ⟨h98, hv98, hX⟩ := z_bd hX
  refine z_cVV (pc := 98) (As := [.int x96, .int (0 : Int32)]) (c2 := 0) (s2 := 0) G kK9 (lX9_emit hO hv98) hi98 kt_1532 kt_11 kt_1529 kt_1531 ks_58 ydX9_emit ⟨by decide, by decide⟩ rfl (Nat.le_of_ble_eq_true rfl) ⟨rfl, rfl⟩ ⟨by decide, by decide⟩ rfl dX9_behindUnit_98 ?_
  refine z_goto (pc := 101) (tgt := 23) G dX9_behindUnit_101 (by decide) ?_
  exact H23 _ _ _ hX
noncomputable def xX9_behindUnit_B138 (l0 : Nat) (s0 : Int32) (s1 : Int32) (s2 : Nat) (h : ZH) : Option (Int32 × ZH) := (z_gu (z_is h s2 9) ((xX9_pushE s2 s1 s0 h).bind fun h138 => (z_gu (z_is h138 l0 9) ((xX9_goOn l0 h138).bind fun h142 => some ((1 : Int32), h142)))))
set_option maxHeartbeats 4000000 in
set_option maxRecDepth 100000 in
theorem wX9_behindUnit_B138 {Γ : ZG} {p : Program} {l : Launch} {e : Env} {s : State} {m : MethodId} {args : Array Value} {below : List Frame} {meth : Method} {c : Code} (hO : z_OK Γ) (G : z_GG Γ p s m args meth c cX9_behindUnit 2 RX9) (hr : meth.sig.returnType = (some .boolean)) (hnm : meth.name = "behindUnit") {r : (Int32 × ZH)} : ∀ (l0 : Nat) (s0 : Int32) (s1 : Int32) (s2 : Nat) (h : ZH), xX9_behindUnit_B138  l0 s0 s1 s2 h = some r → z_W Γ p l e rmX9_behindUnit s m args below meth c 2 0 0 (MQ below (z_Qc Γ (some (.int r.1)) r.2) args s rmX9_behindUnit.cells rmX9_behindUnit.slots (z_A Γ)) 138 [(0, .ref l0)] [.int s0, .int s1, .ref s2] h := by
  intro l0 s0 s1 s2 h hX
  obtain ⟨hi138, hX⟩ := z_gu_s hX
  obtain ⟨h138, hv138, hX⟩ := z_bd hX
  refine z_cVV (pc := 138) (As := [.int s1, .int s0]) (c2 := 0) (s2 := 0) G kK9 (lX9_pushE hO hv138) hi138 kt_1516 kt_11 kt_1513 kt_1515 ks_54 ydX9_pushE ⟨by decide, by decide⟩ rfl (Nat.le_of_ble_eq_true rfl) ⟨rfl, rfl⟩ ⟨by decide, by decide⟩ rfl dX9_behindUnit_138 ?_
  refine z_aload_n (pc := 141) G 0 dX9_behindUnit_141 rfl rfl ?_
  obtain ⟨hi142, hX⟩ := z_gu_s hX
  obtain ⟨h142, hv142, hX⟩ := z_bd hX
  refine z_cVV (pc := 142) (As := []) (c2 := 0) (s2 := 0) G kK9 (lX9_goOn hO hv142) hi142 kt_1418 kt_11 kt_1415 kt_1417 ks_38 ydX9_goOn ⟨by decide, by decide⟩ rfl (Nat.le_of_ble_eq_true rfl) ⟨rfl, rfl⟩ ⟨by decide, by decide⟩ rfl dX9_behindUnit_142 ?_
  refine z_iconst (pc := 145) (v := 1) G dX9_behindUnit_145 (by decide) ?_
  exact z_zretX (pc := 146) hX G hr rfl dX9_behindUnit_146 (by decide) (by decide)
noncomputable def xX9_behindUnit_B104 (l0 : Nat) (l1 : Int32) (h : ZH) : Option (Int32 × ZH) := (if l1 ≤ 0 then ((z_gI h l0 9 38).bind fun x149 => ((z_sF h l0 9 38 (.int (x149 - (1 : Int32)))).bind fun h154 => ((z_gR h154 l0 9 31).bind fun x158 => ((z_gI h154 l0 9 38).bind fun x162 => ((z_aI h154 x158 x162).bind fun x165 => (if x165 = (7 : Int32) then ((z_gI h154 l0 9 37).bind fun x173 => ((z_sF h154 l0 9 37 (.int (x173 - (1 : Int32)))).bind fun h178 => (z_gu (z_is h178 l0 9) ((xX9_isSignHere l0 (41 : Int32) h178).bind fun r185 => (z_gu (z_is r185.2 l0 9) ((xX9_must l0 r185.1 r185.2).bind fun h188 => some ((0 : Int32), h188))))))) else some ((0 : Int32), h154))))))) else (if l1 = (2 : Int32) then xX9_behindUnit_B138 l0 (38 : Int32) l1 l0 h else (if l1 = (1 : Int32) then xX9_behindUnit_B138 l0 (124 : Int32) l1 l0 h else ((z_gI h l0 9 6).bind fun x132 => (z_gu (z_is h l0 9) ((xX9_sign l0 x132 h).bind fun r135 => xX9_behindUnit_B138 l0 r135.1 l1 l0 r135.2))))))
set_option maxHeartbeats 4000000 in
set_option maxRecDepth 100000 in
theorem wX9_behindUnit_B104 {Γ : ZG} {p : Program} {l : Launch} {e : Env} {s : State} {m : MethodId} {args : Array Value} {below : List Frame} {meth : Method} {c : Code} (hO : z_OK Γ) (G : z_GG Γ p s m args meth c cX9_behindUnit 2 RX9) (hr : meth.sig.returnType = (some .boolean)) (hnm : meth.name = "behindUnit") {r : (Int32 × ZH)} : ∀ (l0 : Nat) (l1 : Int32) (h : ZH), xX9_behindUnit_B104  l0 l1 h = some r → z_W Γ p l e rmX9_behindUnit s m args below meth c 2 0 0 (MQ below (z_Qc Γ (some (.int r.1)) r.2) args s rmX9_behindUnit.cells rmX9_behindUnit.slots (z_A Γ)) 104 [(0, .ref l0), (1, .int l1)] [] h := by
  intro l0 l1 h hX
  refine z_iload_n (pc := 104) G 1 dX9_behindUnit_104 rfl rfl ?_
  refine z_if_le (pc := 105) (tgt := 147) G dX9_behindUnit_105 (by decide) (fun hc105 => ?_) (fun hc105 => ?_)
  · have hX := z_it hc105 hX
    refine z_aload_n (pc := 147) G 0 dX9_behindUnit_147 rfl rfl ?_
    refine z_dup (pc := 148) G dX9_behindUnit_148 rfl ?_
    obtain ⟨x149, hv149, hX⟩ := z_bd hX
    refine z_getI (pc := 149) G kK9 (k := 38) (by decide) kt_1264 dX9_behindUnit_149 hv149 ?_
    refine z_iconst (pc := 152) (v := 1) G dX9_behindUnit_152 (by decide) ?_
    refine z_isub (pc := 153) G dX9_behindUnit_153 ?_
    obtain ⟨h154, hv154, hX⟩ := z_bd hX
    refine z_putF (pc := 154) G kK9 (k := 38) (by decide) kt_1264 (Or.inl rfl) rfl rfl dX9_behindUnit_154 hv154 ?_
    refine z_aload_n (pc := 157) G 0 dX9_behindUnit_157 rfl rfl ?_
    obtain ⟨x158, hv158, hX⟩ := z_bd hX
    refine z_getR (pc := 158) G kK9 (k := 31) (by decide) kt_1257 dX9_behindUnit_158 hv158 ?_
    refine z_aload_n (pc := 161) G 0 dX9_behindUnit_161 rfl rfl ?_
    obtain ⟨x162, hv162, hX⟩ := z_bd hX
    refine z_getI (pc := 162) G kK9 (k := 38) (by decide) kt_1264 dX9_behindUnit_162 hv162 ?_
    obtain ⟨x165, hv165, hX⟩ := z_bd hX
    refine z_iald (pc := 165) G dX9_behindUnit_165 hv165 ?_
    refine z_bipush (pc := 166) (v := 7) G dX9_behindUnit_166 (by decide) ?_
    refine z_icmp_ne (pc := 168) (tgt := 191) G dX9_behindUnit_168 (by decide) (fun hc168 => ?_) (fun hc168 => ?_)
    · have hX := z_if hc168 hX
      refine z_iconst (pc := 191) (v := 0) G dX9_behindUnit_191 (by decide) ?_
      exact z_zretX (pc := 192) hX G hr rfl dX9_behindUnit_192 (by decide) (by decide)
    · have hX := z_it hc168 hX
      refine z_aload_n (pc := 171) G 0 dX9_behindUnit_171 rfl rfl ?_
      refine z_dup (pc := 172) G dX9_behindUnit_172 rfl ?_
      obtain ⟨x173, hv173, hX⟩ := z_bd hX
      refine z_getI (pc := 173) G kK9 (k := 37) (by decide) kt_1263 dX9_behindUnit_173 hv173 ?_
      refine z_iconst (pc := 176) (v := 1) G dX9_behindUnit_176 (by decide) ?_
      refine z_isub (pc := 177) G dX9_behindUnit_177 ?_
      obtain ⟨h178, hv178, hX⟩ := z_bd hX
      refine z_putF (pc := 178) G kK9 (k := 37) (by decide) kt_1263 (Or.inl rfl) rfl rfl dX9_behindUnit_178 hv178 ?_
      refine z_aload_n (pc := 181) G 0 dX9_behindUnit_181 rfl rfl ?_
      refine z_aload_n (pc := 182) G 0 dX9_behindUnit_182 rfl rfl ?_
      refine z_bipush (pc := 183) (v := 41) G dX9_behindUnit_183 (by decide) ?_
      obtain ⟨hi185, hX⟩ := z_gu_s hX
      obtain ⟨r185, hv185, hX⟩ := z_bd hX
      refine z_cVI (pc := 185) (As := [.int (41 : Int32)]) (c2 := 0) (s2 := 0) G kK9 (lX9_isSignHere hO hv185) hi185 kt_1524 kt_11 kt_1521 kt_1523 ks_56 ydX9_isSignHere ⟨by decide, by decide⟩ rfl (Nat.le_of_ble_eq_true rfl) ⟨rfl, rfl⟩ ⟨by decide, by decide⟩ rfl dX9_behindUnit_185 ?_
      obtain ⟨hi188, hX⟩ := z_gu_s hX
      obtain ⟨h188, hv188, hX⟩ := z_bd hX
      refine z_cVV (pc := 188) (As := [.int r185.1]) (c2 := 0) (s2 := 0) G kK9 (lX9_must hO hv188) hi188 kt_1500 kt_11 kt_1497 kt_1499 ks_50 ydX9_must ⟨by decide, by decide⟩ rfl (Nat.le_of_ble_eq_true rfl) ⟨rfl, rfl⟩ ⟨by decide, by decide⟩ rfl dX9_behindUnit_188 ?_
      refine z_iconst (pc := 191) (v := 0) G dX9_behindUnit_191 (by decide) ?_
      exact z_zretX (pc := 192) hX G hr rfl dX9_behindUnit_192 (by decide) (by decide)
  · have hX := z_if hc105 hX
    refine z_aload_n (pc := 108) G 0 dX9_behindUnit_108 rfl rfl ?_
    refine z_iload_n (pc := 109) G 1 dX9_behindUnit_109 rfl rfl ?_
    refine z_iload_n (pc := 110) G 1 dX9_behindUnit_110 rfl rfl ?_
    refine z_iconst (pc := 111) (v := 2) G dX9_behindUnit_111 (by decide) ?_
    refine z_icmp_ne (pc := 112) (tgt := 120) G dX9_behindUnit_112 (by decide) (fun hc112 => ?_) (fun hc112 => ?_)
    · have hX := z_if hc112 hX
      refine z_iload_n (pc := 120) G 1 dX9_behindUnit_120 rfl rfl ?_
      refine z_iconst (pc := 121) (v := 1) G dX9_behindUnit_121 (by decide) ?_
      refine z_icmp_ne (pc := 122) (tgt := 130) G dX9_behindUnit_122 (by decide) (fun hc122 => ?_) (fun hc122 => ?_)
      · have hX := z_if hc122 hX
        refine z_aload_n (pc := 130) G 0 dX9_behindUnit_130 rfl rfl ?_
        refine z_aload_n (pc := 131) G 0 dX9_behindUnit_131 rfl rfl ?_
        obtain ⟨x132, hv132, hX⟩ := z_bd hX
        refine z_getI (pc := 132) G kK9 (k := 6) (by decide) kt_1232 dX9_behindUnit_132 hv132 ?_
        obtain ⟨hi135, hX⟩ := z_gu_s hX
        obtain ⟨r135, hv135, hX⟩ := z_bd hX
        refine z_cVI (pc := 135) (As := [.int x132]) (c2 := 0) (s2 := 0) G kK9 (lX9_sign hO hv135) hi135 kt_1422 kt_11 kt_1419 kt_1421 ks_39 ydX9_sign ⟨by decide, by decide⟩ rfl (Nat.le_of_ble_eq_true rfl) ⟨rfl, rfl⟩ ⟨by decide, by decide⟩ rfl dX9_behindUnit_135 ?_
        refine z_drop (lv2 := [(0, .ref l0)]) [0] rfl ?_
        exact wX9_behindUnit_B138 hO G hr hnm _ _ _ _ _ hX
      · have hX := z_it hc122 hX
        refine z_bipush (pc := 125) (v := 124) G dX9_behindUnit_125 (by decide) ?_
        refine z_goto (pc := 127) (tgt := 138) G dX9_behindUnit_127 (by decide) ?_
        refine z_drop (lv2 := [(0, .ref l0)]) [0] rfl ?_
        exact wX9_behindUnit_B138 hO G hr hnm _ _ _ _ _ hX
    · have hX := z_it hc112 hX
      refine z_bipush (pc := 115) (v := 38) G dX9_behindUnit_115 (by decide) ?_
      refine z_goto (pc := 117) (tgt := 138) G dX9_behindUnit_117 (by decide) ?_
      refine z_drop (lv2 := [(0, .ref l0)]) [0] rfl ?_
      exact wX9_behindUnit_B138 hO G hr hnm _ _ _ _ _ hX
noncomputable def xX9_behindUnit_B23 (r23 : Nat → Int32 → ZH → Option (Int32 × ZH)) (l0 : Nat) (l1 : Int32) (h : ZH) : Option (Int32 × ZH) := ((z_gR h l0 9 31).bind fun x24 => ((z_gI h l0 9 38).bind fun x28 => ((z_aI h x24 (x28 - (1 : Int32))).bind fun x33 => (if (6 : Int32) < x33 then xX9_behindUnit_B104 l0 l1 h else ((z_gR h l0 9 31).bind fun x40 => ((z_gI h l0 9 38).bind fun x44 => ((z_aI h x40 (x44 - (1 : Int32))).bind fun x49 => (if x49 < l1 then xX9_behindUnit_B104 l0 l1 h else ((z_gI h l0 9 38).bind fun x56 => ((z_sF h l0 9 38 (.int (x56 - (1 : Int32)))).bind fun h61 => ((z_gR h61 l0 9 31).bind fun x65 => ((z_gI h61 l0 9 38).bind fun x69 => ((z_aI h61 x65 x69).bind fun x72 => (if x72 = (3 : Int32) then ((z_gI h61 l0 9 37).bind fun x79 => ((z_sF h61 l0 9 37 (.int (x79 - (1 : Int32)))).bind fun h84 => xX9_behindUnit_B87 r23 l0 l1 h84)) else xX9_behindUnit_B87 r23 l0 l1 h61))))))))))))))
noncomputable def xX9_behindUnit_L23 (n : Nat) : Nat → Int32 → ZH → Option (Int32 × ZH) := Nat.rec (motive := fun _ => Nat → Int32 → ZH → Option (Int32 × ZH)) (fun _ _ _ => none) (fun _ rec => xX9_behindUnit_B23  rec) n
set_option maxHeartbeats 4000000 in
set_option maxRecDepth 100000 in
theorem wX9_behindUnit_B23 {Γ : ZG} {p : Program} {l : Launch} {e : Env} {s : State} {m : MethodId} {args : Array Value} {below : List Frame} {meth : Method} {c : Code} (hO : z_OK Γ) (G : z_GG Γ p s m args meth c cX9_behindUnit 2 RX9) (hr : meth.sig.returnType = (some .boolean)) (hnm : meth.name = "behindUnit") {r : (Int32 × ZH)} {r23 : Nat → Int32 → ZH → Option (Int32 × ZH)} (H23 : ∀ (l0 : Nat) (l1 : Int32) (h : ZH), r23 l0 l1 h = some r → z_W Γ p l e rmX9_behindUnit s m args below meth c 2 0 0 (MQ below (z_Qc Γ (some (.int r.1)) r.2) args s rmX9_behindUnit.cells rmX9_behindUnit.slots (z_A Γ)) 23 [(0, .ref l0), (1, .int l1)] [] h) : ∀ (l0 : Nat) (l1 : Int32) (h : ZH), xX9_behindUnit_B23  r23 l0 l1 h = some r → z_W Γ p l e rmX9_behindUnit s m args below meth c 2 0 0 (MQ below (z_Qc Γ (some (.int r.1)) r.2) args s rmX9_behindUnit.cells rmX9_behindUnit.slots (z_A Γ)) 23 [(0, .ref l0), (1, .int l1)] [] h := by
  intro l0 l1 h hX
  refine z_aload_n (pc := 23) G 0 dX9_behindUnit_23 rfl rfl ?_
  obtain ⟨x24, hv24, hX⟩ := z_bd hX
  refine z_getR (pc := 24) G kK9 (k := 31) (by decide) kt_1257 dX9_behindUnit_24 hv24 ?_
  refine z_aload_n (pc := 27) G 0 dX9_behindUnit_27 rfl rfl ?_
  obtain ⟨x28, hv28, hX⟩ := z_bd hX
  refine z_getI (pc := 28) G kK9 (k := 38) (by decide) kt_1264 dX9_behindUnit_28 hv28 ?_
  refine z_iconst (pc := 31) (v := 1) G dX9_behindUnit_31 (by decide) ?_
  refine z_isub (pc := 32) G dX9_behindUnit_32 ?_
  obtain ⟨x33, hv33, hX⟩ := z_bd hX
  refine z_iald (pc := 33) G dX9_behindUnit_33 hv33 ?_
  refine z_bipush (pc := 34) (v := 6) G dX9_behindUnit_34 (by decide) ?_
  refine z_icmp_gt (pc := 36) (tgt := 104) G dX9_behindUnit_36 (by decide) (fun hc36 => ?_) (fun hc36 => ?_)
  · have hX := z_it hc36 hX
    exact wX9_behindUnit_B104 hO G hr hnm _ _ _ hX
  · have hX := z_if hc36 hX
    refine z_aload_n (pc := 39) G 0 dX9_behindUnit_39 rfl rfl ?_
    obtain ⟨x40, hv40, hX⟩ := z_bd hX
    refine z_getR (pc := 40) G kK9 (k := 31) (by decide) kt_1257 dX9_behindUnit_40 hv40 ?_
    refine z_aload_n (pc := 43) G 0 dX9_behindUnit_43 rfl rfl ?_
    obtain ⟨x44, hv44, hX⟩ := z_bd hX
    refine z_getI (pc := 44) G kK9 (k := 38) (by decide) kt_1264 dX9_behindUnit_44 hv44 ?_
    refine z_iconst (pc := 47) (v := 1) G dX9_behindUnit_47 (by decide) ?_
    refine z_isub (pc := 48) G dX9_behindUnit_48 ?_
    obtain ⟨x49, hv49, hX⟩ := z_bd hX
    refine z_iald (pc := 49) G dX9_behindUnit_49 hv49 ?_
    refine z_iload_n (pc := 50) G 1 dX9_behindUnit_50 rfl rfl ?_
    refine z_icmp_lt (pc := 51) (tgt := 104) G dX9_behindUnit_51 (by decide) (fun hc51 => ?_) (fun hc51 => ?_)
    · have hX := z_it hc51 hX
      exact wX9_behindUnit_B104 hO G hr hnm _ _ _ hX
    · have hX := z_if hc51 hX
      refine z_aload_n (pc := 54) G 0 dX9_behindUnit_54 rfl rfl ?_
      refine z_dup (pc := 55) G dX9_behindUnit_55 rfl ?_
      obtain ⟨x56, hv56, hX⟩ := z_bd hX
      refine z_getI (pc := 56) G kK9 (k := 38) (by decide) kt_1264 dX9_behindUnit_56 hv56 ?_
      refine z_iconst (pc := 59) (v := 1) G dX9_behindUnit_59 (by decide) ?_
      refine z_isub (pc := 60) G dX9_behindUnit_60 ?_
      obtain ⟨h61, hv61, hX⟩ := z_bd hX
      refine z_putF (pc := 61) G kK9 (k := 38) (by decide) kt_1264 (Or.inl rfl) rfl rfl dX9_behindUnit_61 hv61 ?_
      refine z_aload_n (pc := 64) G 0 dX9_behindUnit_64 rfl rfl ?_
      obtain ⟨x65, hv65, hX⟩ := z_bd hX
      refine z_getR (pc := 65) G kK9 (k := 31) (by decide) kt_1257 dX9_behindUnit_65 hv65 ?_
      refine z_aload_n (pc := 68) G 0 dX9_behindUnit_68 rfl rfl ?_
      obtain ⟨x69, hv69, hX⟩ := z_bd hX
      refine z_getI (pc := 69) G kK9 (k := 38) (by decide) kt_1264 dX9_behindUnit_69 hv69 ?_
      obtain ⟨x72, hv72, hX⟩ := z_bd hX
      refine z_iald (pc := 72) G dX9_behindUnit_72 hv72 ?_
      refine z_iconst (pc := 73) (v := 3) G dX9_behindUnit_73 (by decide) ?_
      refine z_icmp_ne (pc := 74) (tgt := 87) G dX9_behindUnit_74 (by decide) (fun hc74 => ?_) (fun hc74 => ?_)
      · have hX := z_if hc74 hX
        exact wX9_behindUnit_B87 hO G hr hnm H23 _ _ _ hX
      · have hX := z_it hc74 hX
        refine z_aload_n (pc := 77) G 0 dX9_behindUnit_77 rfl rfl ?_
        refine z_dup (pc := 78) G dX9_behindUnit_78 rfl ?_
        obtain ⟨x79, hv79, hX⟩ := z_bd hX
        refine z_getI (pc := 79) G kK9 (k := 37) (by decide) kt_1263 dX9_behindUnit_79 hv79 ?_
        refine z_iconst (pc := 82) (v := 1) G dX9_behindUnit_82 (by decide) ?_
        refine z_isub (pc := 83) G dX9_behindUnit_83 ?_
        obtain ⟨h84, hv84, hX⟩ := z_bd hX
        refine z_putF (pc := 84) G kK9 (k := 37) (by decide) kt_1263 (Or.inl rfl) rfl rfl dX9_behindUnit_84 hv84 ?_
        exact wX9_behindUnit_B87 hO G hr hnm H23 _ _ _ hX
set_option maxHeartbeats 4000000 in
set_option maxRecDepth 100000 in
theorem wX9_behindUnit_L23 {Γ : ZG} {p : Program} {l : Launch} {e : Env} {s : State} {m : MethodId} {args : Array Value} {below : List Frame} {meth : Method} {c : Code} (hO : z_OK Γ) (G : z_GG Γ p s m args meth c cX9_behindUnit 2 RX9) (hr : meth.sig.returnType = (some .boolean)) (hnm : meth.name = "behindUnit") {r : (Int32 × ZH)} : ∀ (nn : Nat) (l0 : Nat) (l1 : Int32) (h : ZH), xX9_behindUnit_L23  nn l0 l1 h = some r → z_W Γ p l e rmX9_behindUnit s m args below meth c 2 0 0 (MQ below (z_Qc Γ (some (.int r.1)) r.2) args s rmX9_behindUnit.cells rmX9_behindUnit.slots (z_A Γ)) 23 [(0, .ref l0), (1, .int l1)] [] h := by
  intro nn
  induction nn with
  | zero => intro l0 l1 h hX; cases hX
  | succ nn ih => intro l0 l1 h hX; exact wX9_behindUnit_B23 hO G hr hnm  ih l0 l1 h hX
noncomputable def xX9_behindUnit (l0 : Nat) (h : ZH) : Option (Int32 × ZH) := (z_gu (z_is h l0 9) ((xX9_rankHere l0 h).bind fun r1 => (if r1.1 = (4 : Int32) then (z_gu (z_is r1.2 l0 9) ((xX9_isCompared l0 r1.2).bind fun r11 => (if r11.1 = 0 then xX9_behindUnit_L23 zFU l0 r1.1 r11.2 else (z_gu (z_is r11.2 l0 9) ((xX9_misplaced l0 r11.2).bind fun h18 => some ((1 : Int32), h18)))))) else xX9_behindUnit_L23 zFU l0 r1.1 r1.2)))
set_option maxHeartbeats 4000000 in
set_option maxRecDepth 100000 in
theorem lX9_behindUnit {Γ : ZG} {l : Launch} (hO : z_OK Γ) {l0 : Nat} {h : ZH} {r : (Int32 × ZH)} (hX : xX9_behindUnit l0 h = some r) : z_M Γ l yX9_behindUnit (z_ws1 yX9_behindUnit cX9_behindUnit 2 (some .boolean)) rmX9_behindUnit [.ref l0] h (some (.int r.1)) r.2 := by
  refine z_start hO (plainFor_of_name (by decide)) (Nat.le_of_ble_eq_true rfl) ?_
  intro p e s m args below meth c G hr hnm
  refine z_lvc (lv2 := [(0, .ref l0)]) rfl ?_
  refine z_aload_n (pc := 0) G 0 dX9_behindUnit_0 rfl rfl ?_
  obtain ⟨hi1, hX⟩ := z_gu_s hX
  obtain ⟨r1, hv1, hX⟩ := z_bd hX
  refine z_cVI (pc := 1) (As := []) (c2 := 0) (s2 := 0) G kK9 (lX9_rankHere hO hv1) hi1 kt_1540 kt_11 kt_1537 kt_1539 ks_60 ydX9_rankHere ⟨by decide, by decide⟩ rfl (Nat.le_of_ble_eq_true rfl) ⟨rfl, rfl⟩ ⟨by decide, by decide⟩ rfl dX9_behindUnit_1 ?_
  refine z_istore_n (pc := 4) (lv2 := [(0, .ref l0), (1, .int r1.1)]) G dX9_behindUnit_4 rfl (by decide) rfl rfl ?_
  refine z_iload_n (pc := 5) G 1 dX9_behindUnit_5 rfl rfl ?_
  refine z_iconst (pc := 6) (v := 4) G dX9_behindUnit_6 (by decide) ?_
  refine z_icmp_ne (pc := 7) (tgt := 23) G dX9_behindUnit_7 (by decide) (fun hc7 => ?_) (fun hc7 => ?_)
  · have hX := z_if hc7 hX
    exact wX9_behindUnit_L23 hO G hr hnm zFU _ _ _ hX
  · have hX := z_it hc7 hX
    refine z_aload_n (pc := 10) G 0 dX9_behindUnit_10 rfl rfl ?_
    obtain ⟨hi11, hX⟩ := z_gu_s hX
    obtain ⟨r11, hv11, hX⟩ := z_bd hX
    refine z_cVI (pc := 11) (As := []) (c2 := 0) (s2 := 0) G kK9 (lX9_isCompared hO hv11) hi11 kt_1544 kt_11 kt_1541 kt_1543 ks_61 ydX9_isCompared ⟨by decide, by decide⟩ rfl (Nat.le_of_ble_eq_true rfl) ⟨rfl, rfl⟩ ⟨by decide, by decide⟩ rfl dX9_behindUnit_11 ?_
    refine z_if_eq (pc := 14) (tgt := 23) G dX9_behindUnit_14 (by decide) (fun hc14 => ?_) (fun hc14 => ?_)
    · have hX := z_it hc14 hX
      exact wX9_behindUnit_L23 hO G hr hnm zFU _ _ _ hX
    · have hX := z_if hc14 hX
      refine z_aload_n (pc := 17) G 0 dX9_behindUnit_17 rfl rfl ?_
      obtain ⟨hi18, hX⟩ := z_gu_s hX
      obtain ⟨h18, hv18, hX⟩ := z_bd hX
      refine z_cVV (pc := 18) (As := []) (c2 := 0) (s2 := 0) G kK9 (lX9_misplaced hO hv18) hi18 kt_1480 kt_11 kt_1477 kt_1479 ks_45 ydX9_misplaced ⟨by decide, by decide⟩ rfl (Nat.le_of_ble_eq_true rfl) ⟨rfl, rfl⟩ ⟨by decide, by decide⟩ rfl dX9_behindUnit_18 ?_
      refine z_iconst (pc := 21) (v := 1) G dX9_behindUnit_21 (by decide) ?_
      exact z_zretX (pc := 22) hX G hr rfl dX9_behindUnit_22 (by decide) (by decide)
theorem dX9_wordHere_0 : decode cX9_wordHere 0 = .ok (.aload_n 0, 1) := by decide +kernel
theorem dX9_wordHere_1 : decode cX9_wordHere 1 = .ok (.ldc2_w 173, 3) := by decide +kernel
theorem dX9_wordHere_4 : decode cX9_wordHere 4 = .ok (.invokevirtual 235, 3) := by decide +kernel
theorem dX9_wordHere_7 : decode cX9_wordHere 7 = .ok (.ifCond .eq 6, 3) := by decide +kernel
theorem dX9_wordHere_10 : decode cX9_wordHere 10 = .ok (.bipush 115, 2) := by decide +kernel
theorem dX9_wordHere_12 : decode cX9_wordHere 12 = .ok (.ireturn, 1) := by decide +kernel
theorem dX9_wordHere_13 : decode cX9_wordHere 13 = .ok (.aload_n 0, 1) := by decide +kernel
theorem dX9_wordHere_14 : decode cX9_wordHere 14 = .ok (.ldc2_w 175, 3) := by decide +kernel
theorem dX9_wordHere_17 : decode cX9_wordHere 17 = .ok (.invokevirtual 235, 3) := by decide +kernel
theorem dX9_wordHere_20 : decode cX9_wordHere 20 = .ok (.ifCond .eq 6, 3) := by decide +kernel
theorem dX9_wordHere_23 : decode cX9_wordHere 23 = .ok (.bipush 101, 2) := by decide +kernel
theorem dX9_wordHere_25 : decode cX9_wordHere 25 = .ok (.ireturn, 1) := by decide +kernel
theorem dX9_wordHere_26 : decode cX9_wordHere 26 = .ok (.aload_n 0, 1) := by decide +kernel
theorem dX9_wordHere_27 : decode cX9_wordHere 27 = .ok (.ldc2_w 177, 3) := by decide +kernel
theorem dX9_wordHere_30 : decode cX9_wordHere 30 = .ok (.invokevirtual 235, 3) := by decide +kernel
theorem dX9_wordHere_33 : decode cX9_wordHere 33 = .ok (.ifCond .eq 6, 3) := by decide +kernel
theorem dX9_wordHere_36 : decode cX9_wordHere 36 = .ok (.bipush 117, 2) := by decide +kernel
theorem dX9_wordHere_38 : decode cX9_wordHere 38 = .ok (.ireturn, 1) := by decide +kernel
theorem dX9_wordHere_39 : decode cX9_wordHere 39 = .ok (.aload_n 0, 1) := by decide +kernel
theorem dX9_wordHere_40 : decode cX9_wordHere 40 = .ok (.ldc2_w 179, 3) := by decide +kernel
theorem dX9_wordHere_43 : decode cX9_wordHere 43 = .ok (.invokevirtual 235, 3) := by decide +kernel
theorem dX9_wordHere_46 : decode cX9_wordHere 46 = .ok (.ifCond .eq 8, 3) := by decide +kernel
theorem dX9_wordHere_49 : decode cX9_wordHere 49 = .ok (.bipush 102, 2) := by decide +kernel
theorem dX9_wordHere_51 : decode cX9_wordHere 51 = .ok (.goto 4, 3) := by decide +kernel
theorem dX9_wordHere_54 : decode cX9_wordHere 54 = .ok (.iconst 0, 1) := by decide +kernel
theorem dX9_wordHere_55 : decode cX9_wordHere 55 = .ok (.ireturn, 1) := by decide +kernel
theorem ydX9_wordHere : z_yd yX9_wordHere 0 := ⟨by decide, by decide, by decide +kernel⟩
abbrev rmX9_wordHere : Room := { frames := 1, cells := 0, slots := 0, locals := 22 }
noncomputable def xX9_wordHere (l0 : Nat) (h : ZH) : Option (Int32 × ZH) := (z_gu (z_is h l0 9) ((xX9_isWord l0 (495806932324 : Int64) h).bind fun r4 => (if r4.1 = 0 then (z_gu (z_is r4.2 l0 9) ((xX9_isWord l0 (448377483876 : Int64) r4.2).bind fun r17 => (if r17.1 = 0 then (z_gu (z_is r17.2 l0 9) ((xX9_isWord l0 (121450625394034 : Int64) r17.2).bind fun r30 => (if r30.1 = 0 then (z_gu (z_is r30.2 l0 9) ((xX9_isWord l0 (440005651813 : Int64) r30.2).bind fun r43 => (if r43.1 = 0 then some ((0 : Int32), r43.2) else some ((102 : Int32), r43.2)))) else some ((117 : Int32), r30.2)))) else some ((101 : Int32), r17.2)))) else some ((115 : Int32), r4.2))))
set_option maxHeartbeats 4000000 in
set_option maxRecDepth 100000 in
theorem lX9_wordHere {Γ : ZG} {l : Launch} (hO : z_OK Γ) {l0 : Nat} {h : ZH} {r : (Int32 × ZH)} (hX : xX9_wordHere l0 h = some r) : z_M Γ l yX9_wordHere (z_ws1 yX9_wordHere cX9_wordHere 1 (some .int)) rmX9_wordHere [.ref l0] h (some (.int r.1)) r.2 := by
  refine z_start hO (plainFor_of_name (by decide)) (Nat.le_of_ble_eq_true rfl) ?_
  intro p e s m args below meth c G hr hnm
  refine z_lvc (lv2 := [(0, .ref l0)]) rfl ?_
  refine z_aload_n (pc := 0) G 0 dX9_wordHere_0 rfl rfl ?_
  refine z_ldc2 (pc := 1) G kt_1441 dX9_wordHere_1 ?_
  obtain ⟨hi4, hX⟩ := z_gu_s hX
  obtain ⟨r4, hv4, hX⟩ := z_bd hX
  refine z_cVI (pc := 4) (As := [.long (495806932324 : Int64)]) (c2 := 0) (s2 := 0) G kK9 (lX9_isWord hO hv4) hi4 kt_1469 kt_11 kt_1466 kt_1468 ks_43 ydX9_isWord ⟨by decide, by decide⟩ rfl (Nat.le_of_ble_eq_true rfl) ⟨rfl, rfl⟩ ⟨by decide, by decide⟩ rfl dX9_wordHere_4 ?_
  refine z_if_eq (pc := 7) (tgt := 13) G dX9_wordHere_7 (by decide) (fun hc7 => ?_) (fun hc7 => ?_)
  · have hX := z_it hc7 hX
    refine z_aload_n (pc := 13) G 0 dX9_wordHere_13 rfl rfl ?_
    refine z_ldc2 (pc := 14) G kt_1442 dX9_wordHere_14 ?_
    obtain ⟨hi17, hX⟩ := z_gu_s hX
    obtain ⟨r17, hv17, hX⟩ := z_bd hX
    refine z_cVI (pc := 17) (As := [.long (448377483876 : Int64)]) (c2 := 0) (s2 := 0) G kK9 (lX9_isWord hO hv17) hi17 kt_1469 kt_11 kt_1466 kt_1468 ks_43 ydX9_isWord ⟨by decide, by decide⟩ rfl (Nat.le_of_ble_eq_true rfl) ⟨rfl, rfl⟩ ⟨by decide, by decide⟩ rfl dX9_wordHere_17 ?_
    refine z_if_eq (pc := 20) (tgt := 26) G dX9_wordHere_20 (by decide) (fun hc20 => ?_) (fun hc20 => ?_)
    · have hX := z_it hc20 hX
      refine z_aload_n (pc := 26) G 0 dX9_wordHere_26 rfl rfl ?_
      refine z_ldc2 (pc := 27) G kt_1443 dX9_wordHere_27 ?_
      obtain ⟨hi30, hX⟩ := z_gu_s hX
      obtain ⟨r30, hv30, hX⟩ := z_bd hX
      refine z_cVI (pc := 30) (As := [.long (121450625394034 : Int64)]) (c2 := 0) (s2 := 0) G kK9 (lX9_isWord hO hv30) hi30 kt_1469 kt_11 kt_1466 kt_1468 ks_43 ydX9_isWord ⟨by decide, by decide⟩ rfl (Nat.le_of_ble_eq_true rfl) ⟨rfl, rfl⟩ ⟨by decide, by decide⟩ rfl dX9_wordHere_30 ?_
      refine z_if_eq (pc := 33) (tgt := 39) G dX9_wordHere_33 (by decide) (fun hc33 => ?_) (fun hc33 => ?_)
      · have hX := z_it hc33 hX
        refine z_aload_n (pc := 39) G 0 dX9_wordHere_39 rfl rfl ?_
        refine z_ldc2 (pc := 40) G kt_1444 dX9_wordHere_40 ?_
        obtain ⟨hi43, hX⟩ := z_gu_s hX
        obtain ⟨r43, hv43, hX⟩ := z_bd hX
        refine z_cVI (pc := 43) (As := [.long (440005651813 : Int64)]) (c2 := 0) (s2 := 0) G kK9 (lX9_isWord hO hv43) hi43 kt_1469 kt_11 kt_1466 kt_1468 ks_43 ydX9_isWord ⟨by decide, by decide⟩ rfl (Nat.le_of_ble_eq_true rfl) ⟨rfl, rfl⟩ ⟨by decide, by decide⟩ rfl dX9_wordHere_43 ?_
        refine z_if_eq (pc := 46) (tgt := 54) G dX9_wordHere_46 (by decide) (fun hc46 => ?_) (fun hc46 => ?_)
        · have hX := z_it hc46 hX
          refine z_iconst (pc := 54) (v := 0) G dX9_wordHere_54 (by decide) ?_
          exact z_iretX (pc := 55) hX G hr dX9_wordHere_55 (by decide) (by decide)
        · have hX := z_if hc46 hX
          refine z_bipush (pc := 49) (v := 102) G dX9_wordHere_49 (by decide) ?_
          refine z_goto (pc := 51) (tgt := 55) G dX9_wordHere_51 (by decide) ?_
          exact z_iretX (pc := 55) hX G hr dX9_wordHere_55 (by decide) (by decide)
      · have hX := z_if hc33 hX
        refine z_bipush (pc := 36) (v := 117) G dX9_wordHere_36 (by decide) ?_
        exact z_iretX (pc := 38) hX G hr dX9_wordHere_38 (by decide) (by decide)
    · have hX := z_if hc20 hX
      refine z_bipush (pc := 23) (v := 101) G dX9_wordHere_23 (by decide) ?_
      exact z_iretX (pc := 25) hX G hr dX9_wordHere_25 (by decide) (by decide)
  · have hX := z_if hc7 hX
    refine z_bipush (pc := 10) (v := 115) G dX9_wordHere_10 (by decide) ?_
    exact z_iretX (pc := 12) hX G hr dX9_wordHere_12 (by decide) (by decide)
theorem dX9_unit_0 : decode cX9_unit 0 = .ok (.aload_n 0, 1) := by decide +kernel
theorem dX9_unit_1 : decode cX9_unit 1 = .ok (.getfield 82, 3) := by decide +kernel
theorem dX9_unit_4 : decode cX9_unit 4 = .ok (.aload_n 0, 1) := by decide +kernel
theorem dX9_unit_5 : decode cX9_unit 5 = .ok (.getfield 295, 3) := by decide +kernel
theorem dX9_unit_8 : decode cX9_unit 8 = .ok (.iconst 1, 1) := by decide +kernel
theorem dX9_unit_9 : decode cX9_unit 9 = .ok (.isub, 1) := by decide +kernel
theorem dX9_unit_10 : decode cX9_unit 10 = .ok (.iaload, 1) := by decide +kernel
theorem dX9_unit_11 : decode cX9_unit 11 = .ok (.iconst 3, 1) := by decide +kernel
theorem dX9_unit_12 : decode cX9_unit 12 = .ok (.if_icmp .le 19, 3) := by decide +kernel
theorem dX9_unit_15 : decode cX9_unit 15 = .ok (.aload_n 0, 1) := by decide +kernel
theorem dX9_unit_16 : decode cX9_unit 16 = .ok (.getfield 82, 3) := by decide +kernel
theorem dX9_unit_19 : decode cX9_unit 19 = .ok (.aload_n 0, 1) := by decide +kernel
theorem dX9_unit_20 : decode cX9_unit 20 = .ok (.getfield 295, 3) := by decide +kernel
theorem dX9_unit_23 : decode cX9_unit 23 = .ok (.iconst 1, 1) := by decide +kernel
theorem dX9_unit_24 : decode cX9_unit 24 = .ok (.isub, 1) := by decide +kernel
theorem dX9_unit_25 : decode cX9_unit 25 = .ok (.iaload, 1) := by decide +kernel
theorem dX9_unit_26 : decode cX9_unit 26 = .ok (.bipush 7, 2) := by decide +kernel
theorem dX9_unit_28 : decode cX9_unit 28 = .ok (.if_icmp .lt 7, 3) := by decide +kernel
theorem dX9_unit_31 : decode cX9_unit 31 = .ok (.iconst 1, 1) := by decide +kernel
theorem dX9_unit_32 : decode cX9_unit 32 = .ok (.goto 4, 3) := by decide +kernel
theorem dX9_unit_35 : decode cX9_unit 35 = .ok (.iconst 0, 1) := by decide +kernel
theorem dX9_unit_36 : decode cX9_unit 36 = .ok (.istore_n 1, 1) := by decide +kernel
theorem dX9_unit_37 : decode cX9_unit 37 = .ok (.iload_n 1, 1) := by decide +kernel
theorem dX9_unit_38 : decode cX9_unit 38 = .ok (.ifCond .eq 17, 3) := by decide +kernel
theorem dX9_unit_41 : decode cX9_unit 41 = .ok (.aload_n 0, 1) := by decide +kernel
theorem dX9_unit_42 : decode cX9_unit 42 = .ok (.ldc2_w 185, 3) := by decide +kernel
theorem dX9_unit_45 : decode cX9_unit 45 = .ok (.invokevirtual 235, 3) := by decide +kernel
theorem dX9_unit_48 : decode cX9_unit 48 = .ok (.ifCond .eq 7, 3) := by decide +kernel
theorem dX9_unit_51 : decode cX9_unit 51 = .ok (.iconst 1, 1) := by decide +kernel
theorem dX9_unit_52 : decode cX9_unit 52 = .ok (.goto 4, 3) := by decide +kernel
theorem dX9_unit_55 : decode cX9_unit 55 = .ok (.iconst 0, 1) := by decide +kernel
theorem dX9_unit_56 : decode cX9_unit 56 = .ok (.istore_n 2, 1) := by decide +kernel
theorem dX9_unit_57 : decode cX9_unit 57 = .ok (.aload_n 0, 1) := by decide +kernel
theorem dX9_unit_58 : decode cX9_unit 58 = .ok (.bipush 40, 2) := by decide +kernel
theorem dX9_unit_60 : decode cX9_unit 60 = .ok (.invokevirtual 282, 3) := by decide +kernel
theorem dX9_unit_63 : decode cX9_unit 63 = .ok (.istore_n 3, 1) := by decide +kernel
theorem dX9_unit_64 : decode cX9_unit 64 = .ok (.aload_n 0, 1) := by decide +kernel
theorem dX9_unit_65 : decode cX9_unit 65 = .ok (.invokevirtual 310, 3) := by decide +kernel
theorem dX9_unit_68 : decode cX9_unit 68 = .ok (.istore 4, 2) := by decide +kernel
theorem dX9_unit_70 : decode cX9_unit 70 = .ok (.aload_n 0, 1) := by decide +kernel
theorem dX9_unit_71 : decode cX9_unit 71 = .ok (.getfield 39, 3) := by decide +kernel
theorem dX9_unit_74 : decode cX9_unit 74 = .ok (.aload_n 0, 1) := by decide +kernel
theorem dX9_unit_75 : decode cX9_unit 75 = .ok (.getfield 246, 3) := by decide +kernel
theorem dX9_unit_78 : decode cX9_unit 78 = .ok (.iaload, 1) := by decide +kernel
theorem dX9_unit_79 : decode cX9_unit 79 = .ok (.bipush 60, 2) := by decide +kernel
theorem dX9_unit_81 : decode cX9_unit 81 = .ok (.if_icmp .eq 12, 3) := by decide +kernel
theorem dX9_unit_84 : decode cX9_unit 84 = .ok (.aload_n 0, 1) := by decide +kernel
theorem dX9_unit_85 : decode cX9_unit 85 = .ok (.getfield 289, 3) := by decide +kernel
theorem dX9_unit_88 : decode cX9_unit 88 = .ok (.bipush 30, 2) := by decide +kernel
theorem dX9_unit_90 : decode cX9_unit 90 = .ok (.if_icmp .ne 7, 3) := by decide +kernel
theorem dX9_unit_93 : decode cX9_unit 93 = .ok (.iconst 1, 1) := by decide +kernel
theorem dX9_unit_94 : decode cX9_unit 94 = .ok (.goto 4, 3) := by decide +kernel
theorem dX9_unit_97 : decode cX9_unit 97 = .ok (.iconst 0, 1) := by decide +kernel
theorem dX9_unit_98 : decode cX9_unit 98 = .ok (.istore 5, 2) := by decide +kernel
theorem dX9_unit_100 : decode cX9_unit 100 = .ok (.iload_n 2, 1) := by decide +kernel
theorem dX9_unit_101 : decode cX9_unit 101 = .ok (.ifCond .ne 25, 3) := by decide +kernel
theorem dX9_unit_104 : decode cX9_unit 104 = .ok (.iload 4, 2) := by decide +kernel
theorem dX9_unit_106 : decode cX9_unit 106 = .ok (.ifCond .ne 15, 3) := by decide +kernel
theorem dX9_unit_109 : decode cX9_unit 109 = .ok (.aload_n 0, 1) := by decide +kernel
theorem dX9_unit_110 : decode cX9_unit 110 = .ok (.getfield 197, 3) := by decide +kernel
theorem dX9_unit_113 : decode cX9_unit 113 = .ok (.iconst 4, 1) := by decide +kernel
theorem dX9_unit_114 : decode cX9_unit 114 = .ok (.if_icmp .eq 7, 3) := by decide +kernel
theorem dX9_unit_117 : decode cX9_unit 117 = .ok (.iload_n 3, 1) := by decide +kernel
theorem dX9_unit_118 : decode cX9_unit 118 = .ok (.ifCond .eq 25, 3) := by decide +kernel
theorem dX9_unit_121 : decode cX9_unit 121 = .ok (.iload 5, 2) := by decide +kernel
theorem dX9_unit_123 : decode cX9_unit 123 = .ok (.ifCond .ne 20, 3) := by decide +kernel
theorem dX9_unit_126 : decode cX9_unit 126 = .ok (.iload_n 2, 1) := by decide +kernel
theorem dX9_unit_127 : decode cX9_unit 127 = .ok (.ifCond .ne 7, 3) := by decide +kernel
theorem dX9_unit_130 : decode cX9_unit 130 = .ok (.iload_n 3, 1) := by decide +kernel
theorem dX9_unit_131 : decode cX9_unit 131 = .ok (.ifCond .eq 16, 3) := by decide +kernel
theorem dX9_unit_134 : decode cX9_unit 134 = .ok (.aload_n 0, 1) := by decide +kernel
theorem dX9_unit_135 : decode cX9_unit 135 = .ok (.getfield 298, 3) := by decide +kernel
theorem dX9_unit_138 : decode cX9_unit 138 = .ok (.bipush 7, 2) := by decide +kernel
theorem dX9_unit_140 : decode cX9_unit 140 = .ok (.if_icmp .ne 7, 3) := by decide +kernel
theorem dX9_unit_143 : decode cX9_unit 143 = .ok (.aload_n 0, 1) := by decide +kernel
theorem dX9_unit_144 : decode cX9_unit 144 = .ok (.invokevirtual 232, 3) := by decide +kernel
theorem dX9_unit_147 : decode cX9_unit 147 = .ok (.aload_n 0, 1) := by decide +kernel
theorem dX9_unit_148 : decode cX9_unit 148 = .ok (.invokevirtual 225, 3) := by decide +kernel
theorem dX9_unit_151 : decode cX9_unit 151 = .ok (.ifCond .ne 5, 3) := by decide +kernel
theorem dX9_unit_154 : decode cX9_unit 154 = .ok (.iconst 1, 1) := by decide +kernel
theorem dX9_unit_155 : decode cX9_unit 155 = .ok (.ireturn, 1) := by decide +kernel
theorem dX9_unit_156 : decode cX9_unit 156 = .ok (.aload_n 0, 1) := by decide +kernel
theorem dX9_unit_157 : decode cX9_unit 157 = .ok (.getfield 39, 3) := by decide +kernel
theorem dX9_unit_160 : decode cX9_unit 160 = .ok (.aload_n 0, 1) := by decide +kernel
theorem dX9_unit_161 : decode cX9_unit 161 = .ok (.getfield 246, 3) := by decide +kernel
theorem dX9_unit_164 : decode cX9_unit 164 = .ok (.dup2, 1) := by decide +kernel
theorem dX9_unit_165 : decode cX9_unit 165 = .ok (.iaload, 1) := by decide +kernel
theorem dX9_unit_166 : decode cX9_unit 166 = .ok (.iload_n 2, 1) := by decide +kernel
theorem dX9_unit_167 : decode cX9_unit 167 = .ok (.ifCond .eq 7, 3) := by decide +kernel
theorem dX9_unit_170 : decode cX9_unit 170 = .ok (.iconst 0, 1) := by decide +kernel
theorem dX9_unit_171 : decode cX9_unit 171 = .ok (.goto 4, 3) := by decide +kernel
theorem dX9_unit_174 : decode cX9_unit 174 = .ok (.iconst 1, 1) := by decide +kernel
theorem dX9_unit_175 : decode cX9_unit 175 = .ok (.iadd, 1) := by decide +kernel
theorem dX9_unit_176 : decode cX9_unit 176 = .ok (.iastore, 1) := by decide +kernel
theorem dX9_unit_177 : decode cX9_unit 177 = .ok (.aload_n 0, 1) := by decide +kernel
theorem dX9_unit_178 : decode cX9_unit 178 = .ok (.dup, 1) := by decide +kernel
theorem dX9_unit_179 : decode cX9_unit 179 = .ok (.getfield 289, 3) := by decide +kernel
theorem dX9_unit_182 : decode cX9_unit 182 = .ok (.iload_n 2, 1) := by decide +kernel
theorem dX9_unit_183 : decode cX9_unit 183 = .ok (.ifCond .eq 7, 3) := by decide +kernel
theorem dX9_unit_186 : decode cX9_unit 186 = .ok (.iconst 0, 1) := by decide +kernel
theorem dX9_unit_187 : decode cX9_unit 187 = .ok (.goto 4, 3) := by decide +kernel
theorem dX9_unit_190 : decode cX9_unit 190 = .ok (.iconst 1, 1) := by decide +kernel
theorem dX9_unit_191 : decode cX9_unit 191 = .ok (.iadd, 1) := by decide +kernel
theorem dX9_unit_192 : decode cX9_unit 192 = .ok (.putfield 289, 3) := by decide +kernel
theorem dX9_unit_195 : decode cX9_unit 195 = .ok (.iload 4, 2) := by decide +kernel
theorem dX9_unit_197 : decode cX9_unit 197 = .ok (.ifCond .ne 10, 3) := by decide +kernel
theorem dX9_unit_200 : decode cX9_unit 200 = .ok (.aload_n 0, 1) := by decide +kernel
theorem dX9_unit_201 : decode cX9_unit 201 = .ok (.getfield 215, 3) := by decide +kernel
theorem dX9_unit_204 : decode cX9_unit 204 = .ok (.goto 4, 3) := by decide +kernel
theorem dX9_unit_207 : decode cX9_unit 207 = .ok (.iconst 0, 1) := by decide +kernel
theorem dX9_unit_208 : decode cX9_unit 208 = .ok (.istore 6, 2) := by decide +kernel
theorem dX9_unit_210 : decode cX9_unit 210 = .ok (.aload_n 0, 1) := by decide +kernel
theorem dX9_unit_211 : decode cX9_unit 211 = .ok (.invokevirtual 229, 3) := by decide +kernel
theorem dX9_unit_214 : decode cX9_unit 214 = .ok (.iload_n 2, 1) := by decide +kernel
theorem dX9_unit_215 : decode cX9_unit 215 = .ok (.ifCond .ne 7, 3) := by decide +kernel
theorem dX9_unit_218 : decode cX9_unit 218 = .ok (.iload_n 3, 1) := by decide +kernel
theorem dX9_unit_219 : decode cX9_unit 219 = .ok (.ifCond .eq 31, 3) := by decide +kernel
theorem dX9_unit_222 : decode cX9_unit 222 = .ok (.aload_n 0, 1) := by decide +kernel
theorem dX9_unit_223 : decode cX9_unit 223 = .ok (.iload_n 2, 1) := by decide +kernel
theorem dX9_unit_224 : decode cX9_unit 224 = .ok (.ifCond .eq 7, 3) := by decide +kernel
theorem dX9_unit_227 : decode cX9_unit 227 = .ok (.iconst 3, 1) := by decide +kernel
theorem dX9_unit_228 : decode cX9_unit 228 = .ok (.goto 5, 3) := by decide +kernel
theorem dX9_unit_231 : decode cX9_unit 231 = .ok (.bipush 7, 2) := by decide +kernel
theorem dX9_unit_233 : decode cX9_unit 233 = .ok (.bipush 126, 2) := by decide +kernel
theorem dX9_unit_235 : decode cX9_unit 235 = .ok (.invokevirtual 301, 3) := by decide +kernel
theorem dX9_unit_238 : decode cX9_unit 238 = .ok (.aload_n 0, 1) := by decide +kernel
theorem dX9_unit_239 : decode cX9_unit 239 = .ok (.dup, 1) := by decide +kernel
theorem dX9_unit_240 : decode cX9_unit 240 = .ok (.getfield 298, 3) := by decide +kernel
theorem dX9_unit_243 : decode cX9_unit 243 = .ok (.iconst 1, 1) := by decide +kernel
theorem dX9_unit_244 : decode cX9_unit 244 = .ok (.iadd, 1) := by decide +kernel
theorem dX9_unit_245 : decode cX9_unit 245 = .ok (.putfield 298, 3) := by decide +kernel
theorem dX9_unit_248 : decode cX9_unit 248 = .ok (.iconst 1, 1) := by decide +kernel
theorem dX9_unit_249 : decode cX9_unit 249 = .ok (.ireturn, 1) := by decide +kernel
theorem dX9_unit_250 : decode cX9_unit 250 = .ok (.aload_n 0, 1) := by decide +kernel
theorem dX9_unit_251 : decode cX9_unit 251 = .ok (.iload 4, 2) := by decide +kernel
theorem dX9_unit_253 : decode cX9_unit 253 = .ok (.ifCond .ne 8, 3) := by decide +kernel
theorem dX9_unit_256 : decode cX9_unit 256 = .ok (.bipush 110, 2) := by decide +kernel
theorem dX9_unit_258 : decode cX9_unit 258 = .ok (.goto 5, 3) := by decide +kernel
theorem dX9_unit_261 : decode cX9_unit 261 = .ok (.iload 4, 2) := by decide +kernel
theorem dX9_unit_263 : decode cX9_unit 263 = .ok (.iload 6, 2) := by decide +kernel
theorem dX9_unit_265 : decode cX9_unit 265 = .ok (.invokevirtual 313, 3) := by decide +kernel
theorem dX9_unit_268 : decode cX9_unit 268 = .ok (.iconst 0, 1) := by decide +kernel
theorem dX9_unit_269 : decode cX9_unit 269 = .ok (.ireturn, 1) := by decide +kernel
theorem ydX9_unit : z_yd yX9_unit 0 := ⟨by decide, by decide, by decide +kernel⟩
abbrev rmX9_unit : Room := { frames := 2, cells := 0, slots := 0, locals := 44 }
noncomputable def xX9_unit_B233 (l0 : Nat) (s0 : Int32) (s1 : Nat) (h : ZH) : Option (Int32 × ZH) := (z_gu (z_is h s1 9) ((xX9_pushE s1 s0 (126 : Int32) h).bind fun h235 => ((z_gI h235 l0 9 37).bind fun x240 => ((z_sF h235 l0 9 37 (.int (x240 + (1 : Int32)))).bind fun h245 => some ((1 : Int32), h245)))))
set_option maxHeartbeats 4000000 in
set_option maxRecDepth 100000 in
theorem wX9_unit_B233 {Γ : ZG} {p : Program} {l : Launch} {e : Env} {s : State} {m : MethodId} {args : Array Value} {below : List Frame} {meth : Method} {c : Code} (hO : z_OK Γ) (G : z_GG Γ p s m args meth c cX9_unit 7 RX9) (hr : meth.sig.returnType = (some .boolean)) (hnm : meth.name = "unit") {r : (Int32 × ZH)} : ∀ (l0 : Nat) (s0 : Int32) (s1 : Nat) (h : ZH), xX9_unit_B233  l0 s0 s1 h = some r → z_W Γ p l e rmX9_unit s m args below meth c 7 0 0 (MQ below (z_Qc Γ (some (.int r.1)) r.2) args s rmX9_unit.cells rmX9_unit.slots (z_A Γ)) 233 [(0, .ref l0)] [.int s0, .ref s1] h := by
  intro l0 s0 s1 h hX
  refine z_bipush (pc := 233) (v := 126) G dX9_unit_233 (by decide) ?_
  obtain ⟨hi235, hX⟩ := z_gu_s hX
  obtain ⟨h235, hv235, hX⟩ := z_bd hX
  refine z_cVV (pc := 235) (As := [.int s0, .int (126 : Int32)]) (c2 := 0) (s2 := 0) G kK9 (lX9_pushE hO hv235) hi235 kt_1516 kt_11 kt_1513 kt_1515 ks_54 ydX9_pushE ⟨by decide, by decide⟩ rfl (Nat.le_of_ble_eq_true rfl) ⟨rfl, rfl⟩ ⟨by decide, by decide⟩ rfl dX9_unit_235 ?_
  refine z_aload_n (pc := 238) G 0 dX9_unit_238 rfl rfl ?_
  refine z_dup (pc := 239) G dX9_unit_239 rfl ?_
  obtain ⟨x240, hv240, hX⟩ := z_bd hX
  refine z_getI (pc := 240) G kK9 (k := 37) (by decide) kt_1263 dX9_unit_240 hv240 ?_
  refine z_iconst (pc := 243) (v := 1) G dX9_unit_243 (by decide) ?_
  refine z_iadd (pc := 244) G dX9_unit_244 ?_
  obtain ⟨h245, hv245, hX⟩ := z_bd hX
  refine z_putF (pc := 245) G kK9 (k := 37) (by decide) kt_1263 (Or.inl rfl) rfl rfl dX9_unit_245 hv245 ?_
  refine z_iconst (pc := 248) (v := 1) G dX9_unit_248 (by decide) ?_
  exact z_zretX (pc := 249) hX G hr rfl dX9_unit_249 (by decide) (by decide)
noncomputable def xX9_unit_B222 (l0 : Nat) (l2 : Int32) (h : ZH) : Option (Int32 × ZH) := (if l2 = 0 then xX9_unit_B233 l0 (7 : Int32) l0 h else xX9_unit_B233 l0 (3 : Int32) l0 h)
set_option maxHeartbeats 4000000 in
set_option maxRecDepth 100000 in
theorem wX9_unit_B222 {Γ : ZG} {p : Program} {l : Launch} {e : Env} {s : State} {m : MethodId} {args : Array Value} {below : List Frame} {meth : Method} {c : Code} (hO : z_OK Γ) (G : z_GG Γ p s m args meth c cX9_unit 7 RX9) (hr : meth.sig.returnType = (some .boolean)) (hnm : meth.name = "unit") {r : (Int32 × ZH)} : ∀ (l0 : Nat) (l2 : Int32) (h : ZH), xX9_unit_B222  l0 l2 h = some r → z_W Γ p l e rmX9_unit s m args below meth c 7 0 0 (MQ below (z_Qc Γ (some (.int r.1)) r.2) args s rmX9_unit.cells rmX9_unit.slots (z_A Γ)) 222 [(0, .ref l0), (2, .int l2)] [] h := by
  intro l0 l2 h hX
  refine z_aload_n (pc := 222) G 0 dX9_unit_222 rfl rfl ?_
  refine z_iload_n (pc := 223) G 1 dX9_unit_223 rfl rfl ?_
  refine z_if_eq (pc := 224) (tgt := 231) G dX9_unit_224 (by decide) (fun hc224 => ?_) (fun hc224 => ?_)
  · have hX := z_it hc224 hX
    refine z_bipush (pc := 231) (v := 7) G dX9_unit_231 (by decide) ?_
    refine z_drop (lv2 := [(0, .ref l0)]) [0] rfl ?_
    exact wX9_unit_B233 hO G hr hnm _ _ _ _ hX
  · have hX := z_if hc224 hX
    refine z_iconst (pc := 227) (v := 3) G dX9_unit_227 (by decide) ?_
    refine z_goto (pc := 228) (tgt := 233) G dX9_unit_228 (by decide) ?_
    refine z_drop (lv2 := [(0, .ref l0)]) [0] rfl ?_
    exact wX9_unit_B233 hO G hr hnm _ _ _ _ hX
noncomputable def xX9_unit_B208 (l0 : Nat) (l2 : Int32) (l3 : Int32) (l4 : Int32) (s0 : Int32) (h : ZH) : Option (Int32 × ZH) := (z_gu (z_is h l0 9) ((xX9_goOn l0 h).bind fun h211 => (if l2 = 0 then (if l3 = 0 then (if l4 = 0 then (z_gu (z_is h211 l0 9) ((xX9_emit l0 (110 : Int32) s0 h211).bind fun h265 => some ((0 : Int32), h265))) else (z_gu (z_is h211 l0 9) ((xX9_emit l0 l4 s0 h211).bind fun h265 => some ((0 : Int32), h265)))) else xX9_unit_B222 l0 l2 h211) else xX9_unit_B222 l0 l2 h211)))
set_option maxHeartbeats 4000000 in
set_option maxRecDepth 100000 in
theorem wX9_unit_B208 {Γ : ZG} {p : Program} {l : Launch} {e : Env} {s : State} {m : MethodId} {args : Array Value} {below : List Frame} {meth : Method} {c : Code} (hO : z_OK Γ) (G : z_GG Γ p s m args meth c cX9_unit 7 RX9) (hr : meth.sig.returnType = (some .boolean)) (hnm : meth.name = "unit") {r : (Int32 × ZH)} : ∀ (l0 : Nat) (l2 : Int32) (l3 : Int32) (l4 : Int32) (s0 : Int32) (h : ZH), xX9_unit_B208  l0 l2 l3 l4 s0 h = some r → z_W Γ p l e rmX9_unit s m args below meth c 7 0 0 (MQ below (z_Qc Γ (some (.int r.1)) r.2) args s rmX9_unit.cells rmX9_unit.slots (z_A Γ)) 208 [(0, .ref l0), (2, .int l2), (3, .int l3), (4, .int l4)] [.int s0] h := by
  intro l0 l2 l3 l4 s0 h hX
  refine z_istore (pc := 208) (lv2 := [(0, .ref l0), (2, .int l2), (3, .int l3), (4, .int l4), (6, .int s0)]) G dX9_unit_208 (by decide) rfl rfl ?_
  refine z_aload_n (pc := 210) G 0 dX9_unit_210 rfl rfl ?_
  obtain ⟨hi211, hX⟩ := z_gu_s hX
  obtain ⟨h211, hv211, hX⟩ := z_bd hX
  refine z_cVV (pc := 211) (As := []) (c2 := 0) (s2 := 0) G kK9 (lX9_goOn hO hv211) hi211 kt_1418 kt_11 kt_1415 kt_1417 ks_38 ydX9_goOn ⟨by decide, by decide⟩ rfl (Nat.le_of_ble_eq_true rfl) ⟨rfl, rfl⟩ ⟨by decide, by decide⟩ rfl dX9_unit_211 ?_
  refine z_iload_n (pc := 214) G 1 dX9_unit_214 rfl rfl ?_
  refine z_if_ne (pc := 215) (tgt := 222) G dX9_unit_215 (by decide) (fun hc215 => ?_) (fun hc215 => ?_)
  · have hX := z_if hc215 hX
    refine z_drop (lv2 := [(0, .ref l0), (2, .int l2)]) [0, 1] rfl ?_
    exact wX9_unit_B222 hO G hr hnm _ _ _ hX
  · have hX := z_it hc215 hX
    refine z_iload_n (pc := 218) G 2 dX9_unit_218 rfl rfl ?_
    refine z_if_eq (pc := 219) (tgt := 250) G dX9_unit_219 (by decide) (fun hc219 => ?_) (fun hc219 => ?_)
    · have hX := z_it hc219 hX
      refine z_aload_n (pc := 250) G 0 dX9_unit_250 rfl rfl ?_
      refine z_iload (pc := 251) G 3 dX9_unit_251 rfl ?_
      refine z_if_ne (pc := 253) (tgt := 261) G dX9_unit_253 (by decide) (fun hc253 => ?_) (fun hc253 => ?_)
      · have hX := z_if hc253 hX
        refine z_iload (pc := 261) G 3 dX9_unit_261 rfl ?_
        refine z_iload (pc := 263) G 4 dX9_unit_263 rfl ?_
        obtain ⟨hi265, hX⟩ := z_gu_s hX
        obtain ⟨h265, hv265, hX⟩ := z_bd hX
        refine z_cVV (pc := 265) (As := [.int l4, .int s0]) (c2 := 0) (s2 := 0) G kK9 (lX9_emit hO hv265) hi265 kt_1532 kt_11 kt_1529 kt_1531 ks_58 ydX9_emit ⟨by decide, by decide⟩ rfl (Nat.le_of_ble_eq_true rfl) ⟨rfl, rfl⟩ ⟨by decide, by decide⟩ rfl dX9_unit_265 ?_
        refine z_iconst (pc := 268) (v := 0) G dX9_unit_268 (by decide) ?_
        exact z_zretX (pc := 269) hX G hr rfl dX9_unit_269 (by decide) (by decide)
      · have hX := z_it hc253 hX
        refine z_bipush (pc := 256) (v := 110) G dX9_unit_256 (by decide) ?_
        refine z_goto (pc := 258) (tgt := 263) G dX9_unit_258 (by decide) ?_
        refine z_iload (pc := 263) G 4 dX9_unit_263 rfl ?_
        obtain ⟨hi265, hX⟩ := z_gu_s hX
        obtain ⟨h265, hv265, hX⟩ := z_bd hX
        refine z_cVV (pc := 265) (As := [.int (110 : Int32), .int s0]) (c2 := 0) (s2 := 0) G kK9 (lX9_emit hO hv265) hi265 kt_1532 kt_11 kt_1529 kt_1531 ks_58 ydX9_emit ⟨by decide, by decide⟩ rfl (Nat.le_of_ble_eq_true rfl) ⟨rfl, rfl⟩ ⟨by decide, by decide⟩ rfl dX9_unit_265 ?_
        refine z_iconst (pc := 268) (v := 0) G dX9_unit_268 (by decide) ?_
        exact z_zretX (pc := 269) hX G hr rfl dX9_unit_269 (by decide) (by decide)
    · have hX := z_if hc219 hX
      refine z_drop (lv2 := [(0, .ref l0), (2, .int l2)]) [0, 1] rfl ?_
      exact wX9_unit_B222 hO G hr hnm _ _ _ hX
noncomputable def xX9_unit_B191 (l0 : Nat) (l2 : Int32) (l3 : Int32) (l4 : Int32) (s0 : Int32) (s1 : Int32) (s2 : Nat) (h : ZH) : Option (Int32 × ZH) := ((z_sF h s2 9 39 (.int (s1 + s0))).bind fun h192 => (if l4 = 0 then ((z_gI h192 l0 9 9).bind fun x201 => xX9_unit_B208 l0 l2 l3 l4 x201 h192) else xX9_unit_B208 l0 l2 l3 l4 (0 : Int32) h192))
set_option maxHeartbeats 4000000 in
set_option maxRecDepth 100000 in
theorem wX9_unit_B191 {Γ : ZG} {p : Program} {l : Launch} {e : Env} {s : State} {m : MethodId} {args : Array Value} {below : List Frame} {meth : Method} {c : Code} (hO : z_OK Γ) (G : z_GG Γ p s m args meth c cX9_unit 7 RX9) (hr : meth.sig.returnType = (some .boolean)) (hnm : meth.name = "unit") {r : (Int32 × ZH)} : ∀ (l0 : Nat) (l2 : Int32) (l3 : Int32) (l4 : Int32) (s0 : Int32) (s1 : Int32) (s2 : Nat) (h : ZH), xX9_unit_B191  l0 l2 l3 l4 s0 s1 s2 h = some r → z_W Γ p l e rmX9_unit s m args below meth c 7 0 0 (MQ below (z_Qc Γ (some (.int r.1)) r.2) args s rmX9_unit.cells rmX9_unit.slots (z_A Γ)) 191 [(0, .ref l0), (2, .int l2), (3, .int l3), (4, .int l4)] [.int s0, .int s1, .ref s2] h := by
  intro l0 l2 l3 l4 s0 s1 s2 h hX
  refine z_iadd (pc := 191) G dX9_unit_191 ?_
  obtain ⟨h192, hv192, hX⟩ := z_bd hX
  refine z_putF (pc := 192) G kK9 (k := 39) (by decide) kt_1265 (Or.inl rfl) rfl rfl dX9_unit_192 hv192 ?_
  refine z_iload (pc := 195) G 3 dX9_unit_195 rfl ?_
  refine z_if_ne (pc := 197) (tgt := 207) G dX9_unit_197 (by decide) (fun hc197 => ?_) (fun hc197 => ?_)
  · have hX := z_if hc197 hX
    refine z_iconst (pc := 207) (v := 0) G dX9_unit_207 (by decide) ?_
    exact wX9_unit_B208 hO G hr hnm _ _ _ _ _ _ hX
  · have hX := z_it hc197 hX
    refine z_aload_n (pc := 200) G 0 dX9_unit_200 rfl rfl ?_
    obtain ⟨x201, hv201, hX⟩ := z_bd hX
    refine z_getI (pc := 201) G kK9 (k := 9) (by decide) kt_1235 dX9_unit_201 hv201 ?_
    refine z_goto (pc := 204) (tgt := 208) G dX9_unit_204 (by decide) ?_
    exact wX9_unit_B208 hO G hr hnm _ _ _ _ _ _ hX
noncomputable def xX9_unit_B175 (l0 : Nat) (l2 : Int32) (l3 : Int32) (l4 : Int32) (s0 : Int32) (s1 : Int32) (s2 : Int32) (s3 : Nat) (h : ZH) : Option (Int32 × ZH) := ((z_uI h s3 s2 (s1 + s0)).bind fun h176 => ((z_gI h176 l0 9 39).bind fun x179 => (if l2 = 0 then xX9_unit_B191 l0 l2 l3 l4 (1 : Int32) x179 l0 h176 else xX9_unit_B191 l0 l2 l3 l4 (0 : Int32) x179 l0 h176)))
set_option maxHeartbeats 4000000 in
set_option maxRecDepth 100000 in
theorem wX9_unit_B175 {Γ : ZG} {p : Program} {l : Launch} {e : Env} {s : State} {m : MethodId} {args : Array Value} {below : List Frame} {meth : Method} {c : Code} (hO : z_OK Γ) (G : z_GG Γ p s m args meth c cX9_unit 7 RX9) (hr : meth.sig.returnType = (some .boolean)) (hnm : meth.name = "unit") {r : (Int32 × ZH)} : ∀ (l0 : Nat) (l2 : Int32) (l3 : Int32) (l4 : Int32) (s0 : Int32) (s1 : Int32) (s2 : Int32) (s3 : Nat) (h : ZH), xX9_unit_B175  l0 l2 l3 l4 s0 s1 s2 s3 h = some r → z_W Γ p l e rmX9_unit s m args below meth c 7 0 0 (MQ below (z_Qc Γ (some (.int r.1)) r.2) args s rmX9_unit.cells rmX9_unit.slots (z_A Γ)) 175 [(0, .ref l0), (2, .int l2), (3, .int l3), (4, .int l4)] [.int s0, .int s1, .int s2, .ref s3] h := by
  intro l0 l2 l3 l4 s0 s1 s2 s3 h hX
  refine z_iadd (pc := 175) G dX9_unit_175 ?_
  obtain ⟨h176, hv176, hX⟩ := z_bd hX
  refine z_iast (pc := 176) G dX9_unit_176 hv176 ?_
  refine z_aload_n (pc := 177) G 0 dX9_unit_177 rfl rfl ?_
  refine z_dup (pc := 178) G dX9_unit_178 rfl ?_
  obtain ⟨x179, hv179, hX⟩ := z_bd hX
  refine z_getI (pc := 179) G kK9 (k := 39) (by decide) kt_1265 dX9_unit_179 hv179 ?_
  refine z_iload_n (pc := 182) G 1 dX9_unit_182 rfl rfl ?_
  refine z_if_eq (pc := 183) (tgt := 190) G dX9_unit_183 (by decide) (fun hc183 => ?_) (fun hc183 => ?_)
  · have hX := z_it hc183 hX
    refine z_iconst (pc := 190) (v := 1) G dX9_unit_190 (by decide) ?_
    exact wX9_unit_B191 hO G hr hnm _ _ _ _ _ _ _ _ hX
  · have hX := z_if hc183 hX
    refine z_iconst (pc := 186) (v := 0) G dX9_unit_186 (by decide) ?_
    refine z_goto (pc := 187) (tgt := 191) G dX9_unit_187 (by decide) ?_
    exact wX9_unit_B191 hO G hr hnm _ _ _ _ _ _ _ _ hX
noncomputable def xX9_unit_B147 (l0 : Nat) (l2 : Int32) (l3 : Int32) (l4 : Int32) (h : ZH) : Option (Int32 × ZH) := (z_gu (z_is h l0 9) ((xX9_isGood l0 h).bind fun r148 => (if r148.1 = 0 then some ((1 : Int32), r148.2) else ((z_gR r148.2 l0 9 17).bind fun x157 => ((z_gI r148.2 l0 9 35).bind fun x161 => ((z_aI r148.2 x157 x161).bind fun x165 => (if l2 = 0 then xX9_unit_B175 l0 l2 l3 l4 (1 : Int32) x165 x161 x157 r148.2 else xX9_unit_B175 l0 l2 l3 l4 (0 : Int32) x165 x161 x157 r148.2)))))))
set_option maxHeartbeats 4000000 in
set_option maxRecDepth 100000 in
theorem wX9_unit_B147 {Γ : ZG} {p : Program} {l : Launch} {e : Env} {s : State} {m : MethodId} {args : Array Value} {below : List Frame} {meth : Method} {c : Code} (hO : z_OK Γ) (G : z_GG Γ p s m args meth c cX9_unit 7 RX9) (hr : meth.sig.returnType = (some .boolean)) (hnm : meth.name = "unit") {r : (Int32 × ZH)} : ∀ (l0 : Nat) (l2 : Int32) (l3 : Int32) (l4 : Int32) (h : ZH), xX9_unit_B147  l0 l2 l3 l4 h = some r → z_W Γ p l e rmX9_unit s m args below meth c 7 0 0 (MQ below (z_Qc Γ (some (.int r.1)) r.2) args s rmX9_unit.cells rmX9_unit.slots (z_A Γ)) 147 [(0, .ref l0), (2, .int l2), (3, .int l3), (4, .int l4)] [] h := by
  intro l0 l2 l3 l4 h hX
  refine z_aload_n (pc := 147) G 0 dX9_unit_147 rfl rfl ?_
  obtain ⟨hi148, hX⟩ := z_gu_s hX
  obtain ⟨r148, hv148, hX⟩ := z_bd hX
  refine z_cVI (pc := 148) (As := []) (c2 := 0) (s2 := 0) G kK9 (lX9_isGood hO hv148) hi148 kt_1457 kt_11 kt_1454 kt_1456 ks_40 ydX9_isGood ⟨by decide, by decide⟩ rfl (Nat.le_of_ble_eq_true rfl) ⟨rfl, rfl⟩ ⟨by decide, by decide⟩ rfl dX9_unit_148 ?_
  refine z_if_ne (pc := 151) (tgt := 156) G dX9_unit_151 (by decide) (fun hc151 => ?_) (fun hc151 => ?_)
  · have hX := z_if hc151 hX
    refine z_aload_n (pc := 156) G 0 dX9_unit_156 rfl rfl ?_
    obtain ⟨x157, hv157, hX⟩ := z_bd hX
    refine z_getR (pc := 157) G kK9 (k := 17) (by decide) kt_1243 dX9_unit_157 hv157 ?_
    refine z_aload_n (pc := 160) G 0 dX9_unit_160 rfl rfl ?_
    obtain ⟨x161, hv161, hX⟩ := z_bd hX
    refine z_getI (pc := 161) G kK9 (k := 35) (by decide) kt_1261 dX9_unit_161 hv161 ?_
    refine z_dup2 (pc := 164) G dX9_unit_164 rfl rfl ?_
    obtain ⟨x165, hv165, hX⟩ := z_bd hX
    refine z_iald (pc := 165) G dX9_unit_165 hv165 ?_
    refine z_iload_n (pc := 166) G 1 dX9_unit_166 rfl rfl ?_
    refine z_if_eq (pc := 167) (tgt := 174) G dX9_unit_167 (by decide) (fun hc167 => ?_) (fun hc167 => ?_)
    · have hX := z_it hc167 hX
      refine z_iconst (pc := 174) (v := 1) G dX9_unit_174 (by decide) ?_
      exact wX9_unit_B175 hO G hr hnm _ _ _ _ _ _ _ _ _ hX
    · have hX := z_if hc167 hX
      refine z_iconst (pc := 170) (v := 0) G dX9_unit_170 (by decide) ?_
      refine z_goto (pc := 171) (tgt := 175) G dX9_unit_171 (by decide) ?_
      exact wX9_unit_B175 hO G hr hnm _ _ _ _ _ _ _ _ _ hX
  · have hX := z_it hc151 hX
    refine z_iconst (pc := 154) (v := 1) G dX9_unit_154 (by decide) ?_
    exact z_zretX (pc := 155) hX G hr rfl dX9_unit_155 (by decide) (by decide)
noncomputable def xX9_unit_B143 (l0 : Nat) (l2 : Int32) (l3 : Int32) (l4 : Int32) (h : ZH) : Option (Int32 × ZH) := (z_gu (z_is h l0 9) ((xX9_misplaced l0 h).bind fun h144 => xX9_unit_B147 l0 l2 l3 l4 h144))
set_option maxHeartbeats 4000000 in
set_option maxRecDepth 100000 in
theorem wX9_unit_B143 {Γ : ZG} {p : Program} {l : Launch} {e : Env} {s : State} {m : MethodId} {args : Array Value} {below : List Frame} {meth : Method} {c : Code} (hO : z_OK Γ) (G : z_GG Γ p s m args meth c cX9_unit 7 RX9) (hr : meth.sig.returnType = (some .boolean)) (hnm : meth.name = "unit") {r : (Int32 × ZH)} : ∀ (l0 : Nat) (l2 : Int32) (l3 : Int32) (l4 : Int32) (h : ZH), xX9_unit_B143  l0 l2 l3 l4 h = some r → z_W Γ p l e rmX9_unit s m args below meth c 7 0 0 (MQ below (z_Qc Γ (some (.int r.1)) r.2) args s rmX9_unit.cells rmX9_unit.slots (z_A Γ)) 143 [(0, .ref l0), (2, .int l2), (3, .int l3), (4, .int l4)] [] h := by
  intro l0 l2 l3 l4 h hX
  refine z_aload_n (pc := 143) G 0 dX9_unit_143 rfl rfl ?_
  obtain ⟨hi144, hX⟩ := z_gu_s hX
  obtain ⟨h144, hv144, hX⟩ := z_bd hX
  refine z_cVV (pc := 144) (As := []) (c2 := 0) (s2 := 0) G kK9 (lX9_misplaced hO hv144) hi144 kt_1480 kt_11 kt_1477 kt_1479 ks_45 ydX9_misplaced ⟨by decide, by decide⟩ rfl (Nat.le_of_ble_eq_true rfl) ⟨rfl, rfl⟩ ⟨by decide, by decide⟩ rfl dX9_unit_144 ?_
  exact wX9_unit_B147 hO G hr hnm _ _ _ _ _ hX
noncomputable def xX9_unit_B134 (l0 : Nat) (l2 : Int32) (l3 : Int32) (l4 : Int32) (h : ZH) : Option (Int32 × ZH) := ((z_gI h l0 9 37).bind fun x135 => (if x135 = (7 : Int32) then xX9_unit_B143 l0 l2 l3 l4 h else xX9_unit_B147 l0 l2 l3 l4 h))
set_option maxHeartbeats 4000000 in
set_option maxRecDepth 100000 in
theorem wX9_unit_B134 {Γ : ZG} {p : Program} {l : Launch} {e : Env} {s : State} {m : MethodId} {args : Array Value} {below : List Frame} {meth : Method} {c : Code} (hO : z_OK Γ) (G : z_GG Γ p s m args meth c cX9_unit 7 RX9) (hr : meth.sig.returnType = (some .boolean)) (hnm : meth.name = "unit") {r : (Int32 × ZH)} : ∀ (l0 : Nat) (l2 : Int32) (l3 : Int32) (l4 : Int32) (h : ZH), xX9_unit_B134  l0 l2 l3 l4 h = some r → z_W Γ p l e rmX9_unit s m args below meth c 7 0 0 (MQ below (z_Qc Γ (some (.int r.1)) r.2) args s rmX9_unit.cells rmX9_unit.slots (z_A Γ)) 134 [(0, .ref l0), (2, .int l2), (3, .int l3), (4, .int l4)] [] h := by
  intro l0 l2 l3 l4 h hX
  refine z_aload_n (pc := 134) G 0 dX9_unit_134 rfl rfl ?_
  obtain ⟨x135, hv135, hX⟩ := z_bd hX
  refine z_getI (pc := 135) G kK9 (k := 37) (by decide) kt_1263 dX9_unit_135 hv135 ?_
  refine z_bipush (pc := 138) (v := 7) G dX9_unit_138 (by decide) ?_
  refine z_icmp_ne (pc := 140) (tgt := 147) G dX9_unit_140 (by decide) (fun hc140 => ?_) (fun hc140 => ?_)
  · have hX := z_if hc140 hX
    exact wX9_unit_B147 hO G hr hnm _ _ _ _ _ hX
  · have hX := z_it hc140 hX
    exact wX9_unit_B143 hO G hr hnm _ _ _ _ _ hX
noncomputable def xX9_unit_B126 (l0 : Nat) (l2 : Int32) (l3 : Int32) (l4 : Int32) (h : ZH) : Option (Int32 × ZH) := (if l2 = 0 then (if l3 = 0 then xX9_unit_B147 l0 l2 l3 l4 h else xX9_unit_B134 l0 l2 l3 l4 h) else xX9_unit_B134 l0 l2 l3 l4 h)
set_option maxHeartbeats 4000000 in
set_option maxRecDepth 100000 in
theorem wX9_unit_B126 {Γ : ZG} {p : Program} {l : Launch} {e : Env} {s : State} {m : MethodId} {args : Array Value} {below : List Frame} {meth : Method} {c : Code} (hO : z_OK Γ) (G : z_GG Γ p s m args meth c cX9_unit 7 RX9) (hr : meth.sig.returnType = (some .boolean)) (hnm : meth.name = "unit") {r : (Int32 × ZH)} : ∀ (l0 : Nat) (l2 : Int32) (l3 : Int32) (l4 : Int32) (h : ZH), xX9_unit_B126  l0 l2 l3 l4 h = some r → z_W Γ p l e rmX9_unit s m args below meth c 7 0 0 (MQ below (z_Qc Γ (some (.int r.1)) r.2) args s rmX9_unit.cells rmX9_unit.slots (z_A Γ)) 126 [(0, .ref l0), (2, .int l2), (3, .int l3), (4, .int l4)] [] h := by
  intro l0 l2 l3 l4 h hX
  refine z_iload_n (pc := 126) G 1 dX9_unit_126 rfl rfl ?_
  refine z_if_ne (pc := 127) (tgt := 134) G dX9_unit_127 (by decide) (fun hc127 => ?_) (fun hc127 => ?_)
  · have hX := z_if hc127 hX
    exact wX9_unit_B134 hO G hr hnm _ _ _ _ _ hX
  · have hX := z_it hc127 hX
    refine z_iload_n (pc := 130) G 2 dX9_unit_130 rfl rfl ?_
    refine z_if_eq (pc := 131) (tgt := 147) G dX9_unit_131 (by decide) (fun hc131 => ?_) (fun hc131 => ?_)
    · have hX := z_it hc131 hX
      exact wX9_unit_B147 hO G hr hnm _ _ _ _ _ hX
    · have hX := z_if hc131 hX
      exact wX9_unit_B134 hO G hr hnm _ _ _ _ _ hX
noncomputable def xX9_unit_B121 (l0 : Nat) (l2 : Int32) (l3 : Int32) (l4 : Int32) (l5 : Int32) (h : ZH) : Option (Int32 × ZH) := (if l5 = 0 then xX9_unit_B126 l0 l2 l3 l4 h else xX9_unit_B143 l0 l2 l3 l4 h)
set_option maxHeartbeats 4000000 in
set_option maxRecDepth 100000 in
theorem wX9_unit_B121 {Γ : ZG} {p : Program} {l : Launch} {e : Env} {s : State} {m : MethodId} {args : Array Value} {below : List Frame} {meth : Method} {c : Code} (hO : z_OK Γ) (G : z_GG Γ p s m args meth c cX9_unit 7 RX9) (hr : meth.sig.returnType = (some .boolean)) (hnm : meth.name = "unit") {r : (Int32 × ZH)} : ∀ (l0 : Nat) (l2 : Int32) (l3 : Int32) (l4 : Int32) (l5 : Int32) (h : ZH), xX9_unit_B121  l0 l2 l3 l4 l5 h = some r → z_W Γ p l e rmX9_unit s m args below meth c 7 0 0 (MQ below (z_Qc Γ (some (.int r.1)) r.2) args s rmX9_unit.cells rmX9_unit.slots (z_A Γ)) 121 [(0, .ref l0), (2, .int l2), (3, .int l3), (4, .int l4), (5, .int l5)] [] h := by
  intro l0 l2 l3 l4 l5 h hX
  refine z_iload (pc := 121) G 4 dX9_unit_121 rfl ?_
  refine z_if_ne (pc := 123) (tgt := 143) G dX9_unit_123 (by decide) (fun hc123 => ?_) (fun hc123 => ?_)
  · have hX := z_if hc123 hX
    refine z_drop (lv2 := [(0, .ref l0), (2, .int l2), (3, .int l3), (4, .int l4)]) [0, 1, 2, 3] rfl ?_
    exact wX9_unit_B143 hO G hr hnm _ _ _ _ _ hX
  · have hX := z_it hc123 hX
    refine z_drop (lv2 := [(0, .ref l0), (2, .int l2), (3, .int l3), (4, .int l4)]) [0, 1, 2, 3] rfl ?_
    exact wX9_unit_B126 hO G hr hnm _ _ _ _ _ hX
noncomputable def xX9_unit_B98 (l0 : Nat) (l2 : Int32) (l3 : Int32) (l4 : Int32) (s0 : Int32) (h : ZH) : Option (Int32 × ZH) := (if l2 = 0 then (if l4 = 0 then ((z_gI h l0 9 8).bind fun x110 => (if x110 = (4 : Int32) then xX9_unit_B121 l0 l2 l3 l4 s0 h else (if l3 = 0 then xX9_unit_B143 l0 l2 l3 l4 h else xX9_unit_B121 l0 l2 l3 l4 s0 h))) else xX9_unit_B121 l0 l2 l3 l4 s0 h) else xX9_unit_B126 l0 l2 l3 l4 h)
set_option maxHeartbeats 4000000 in
set_option maxRecDepth 100000 in
theorem wX9_unit_B98 {Γ : ZG} {p : Program} {l : Launch} {e : Env} {s : State} {m : MethodId} {args : Array Value} {below : List Frame} {meth : Method} {c : Code} (hO : z_OK Γ) (G : z_GG Γ p s m args meth c cX9_unit 7 RX9) (hr : meth.sig.returnType = (some .boolean)) (hnm : meth.name = "unit") {r : (Int32 × ZH)} : ∀ (l0 : Nat) (l2 : Int32) (l3 : Int32) (l4 : Int32) (s0 : Int32) (h : ZH), xX9_unit_B98  l0 l2 l3 l4 s0 h = some r → z_W Γ p l e rmX9_unit s m args below meth c 7 0 0 (MQ below (z_Qc Γ (some (.int r.1)) r.2) args s rmX9_unit.cells rmX9_unit.slots (z_A Γ)) 98 [(0, .ref l0), (2, .int l2), (3, .int l3), (4, .int l4)] [.int s0] h := by
  intro l0 l2 l3 l4 s0 h hX
  refine z_istore (pc := 98) (lv2 := [(0, .ref l0), (2, .int l2), (3, .int l3), (4, .int l4), (5, .int s0)]) G dX9_unit_98 (by decide) rfl rfl ?_
  refine z_iload_n (pc := 100) G 1 dX9_unit_100 rfl rfl ?_
  refine z_if_ne (pc := 101) (tgt := 126) G dX9_unit_101 (by decide) (fun hc101 => ?_) (fun hc101 => ?_)
  · have hX := z_if hc101 hX
    refine z_drop (lv2 := [(0, .ref l0), (2, .int l2), (3, .int l3), (4, .int l4)]) [0, 1, 2, 3] rfl ?_
    exact wX9_unit_B126 hO G hr hnm _ _ _ _ _ hX
  · have hX := z_it hc101 hX
    refine z_iload (pc := 104) G 3 dX9_unit_104 rfl ?_
    refine z_if_ne (pc := 106) (tgt := 121) G dX9_unit_106 (by decide) (fun hc106 => ?_) (fun hc106 => ?_)
    · have hX := z_if hc106 hX
      exact wX9_unit_B121 hO G hr hnm _ _ _ _ _ _ hX
    · have hX := z_it hc106 hX
      refine z_aload_n (pc := 109) G 0 dX9_unit_109 rfl rfl ?_
      obtain ⟨x110, hv110, hX⟩ := z_bd hX
      refine z_getI (pc := 110) G kK9 (k := 8) (by decide) kt_1234 dX9_unit_110 hv110 ?_
      refine z_iconst (pc := 113) (v := 4) G dX9_unit_113 (by decide) ?_
      refine z_icmp_eq (pc := 114) (tgt := 121) G dX9_unit_114 (by decide) (fun hc114 => ?_) (fun hc114 => ?_)
      · have hX := z_it hc114 hX
        exact wX9_unit_B121 hO G hr hnm _ _ _ _ _ _ hX
      · have hX := z_if hc114 hX
        refine z_iload_n (pc := 117) G 2 dX9_unit_117 rfl rfl ?_
        refine z_if_eq (pc := 118) (tgt := 143) G dX9_unit_118 (by decide) (fun hc118 => ?_) (fun hc118 => ?_)
        · have hX := z_it hc118 hX
          refine z_drop (lv2 := [(0, .ref l0), (2, .int l2), (3, .int l3), (4, .int l4)]) [0, 1, 2, 3] rfl ?_
          exact wX9_unit_B143 hO G hr hnm _ _ _ _ _ hX
        · have hX := z_if hc118 hX
          exact wX9_unit_B121 hO G hr hnm _ _ _ _ _ _ hX
noncomputable def xX9_unit_B93 (l0 : Nat) (l2 : Int32) (l3 : Int32) (l4 : Int32) (h : ZH) : Option (Int32 × ZH) := xX9_unit_B98 l0 l2 l3 l4 (1 : Int32) h
set_option maxHeartbeats 4000000 in
set_option maxRecDepth 100000 in
theorem wX9_unit_B93 {Γ : ZG} {p : Program} {l : Launch} {e : Env} {s : State} {m : MethodId} {args : Array Value} {below : List Frame} {meth : Method} {c : Code} (hO : z_OK Γ) (G : z_GG Γ p s m args meth c cX9_unit 7 RX9) (hr : meth.sig.returnType = (some .boolean)) (hnm : meth.name = "unit") {r : (Int32 × ZH)} : ∀ (l0 : Nat) (l2 : Int32) (l3 : Int32) (l4 : Int32) (h : ZH), xX9_unit_B93  l0 l2 l3 l4 h = some r → z_W Γ p l e rmX9_unit s m args below meth c 7 0 0 (MQ below (z_Qc Γ (some (.int r.1)) r.2) args s rmX9_unit.cells rmX9_unit.slots (z_A Γ)) 93 [(0, .ref l0), (2, .int l2), (3, .int l3), (4, .int l4)] [] h := by
  intro l0 l2 l3 l4 h hX
  refine z_iconst (pc := 93) (v := 1) G dX9_unit_93 (by decide) ?_
  refine z_goto (pc := 94) (tgt := 98) G dX9_unit_94 (by decide) ?_
  exact wX9_unit_B98 hO G hr hnm _ _ _ _ _ _ hX
noncomputable def xX9_unit_B56 (l0 : Nat) (s0 : Int32) (h : ZH) : Option (Int32 × ZH) := (z_gu (z_is h l0 9) ((xX9_isSignHere l0 (40 : Int32) h).bind fun r60 => (z_gu (z_is r60.2 l0 9) ((xX9_wordHere l0 r60.2).bind fun r65 => ((z_gR r65.2 l0 9 17).bind fun x71 => ((z_gI r65.2 l0 9 35).bind fun x75 => ((z_aI r65.2 x71 x75).bind fun x78 => (if x78 = (60 : Int32) then xX9_unit_B93 l0 s0 r60.1 r65.1 r65.2 else ((z_gI r65.2 l0 9 39).bind fun x85 => (if x85 = (30 : Int32) then xX9_unit_B93 l0 s0 r60.1 r65.1 r65.2 else xX9_unit_B98 l0 s0 r60.1 r65.1 (0 : Int32) r65.2))))))))))
set_option maxHeartbeats 4000000 in
set_option maxRecDepth 100000 in
theorem wX9_unit_B56 {Γ : ZG} {p : Program} {l : Launch} {e : Env} {s : State} {m : MethodId} {args : Array Value} {below : List Frame} {meth : Method} {c : Code} (hO : z_OK Γ) (G : z_GG Γ p s m args meth c cX9_unit 7 RX9) (hr : meth.sig.returnType = (some .boolean)) (hnm : meth.name = "unit") {r : (Int32 × ZH)} : ∀ (l0 : Nat) (s0 : Int32) (h : ZH), xX9_unit_B56  l0 s0 h = some r → z_W Γ p l e rmX9_unit s m args below meth c 7 0 0 (MQ below (z_Qc Γ (some (.int r.1)) r.2) args s rmX9_unit.cells rmX9_unit.slots (z_A Γ)) 56 [(0, .ref l0)] [.int s0] h := by
  intro l0 s0 h hX
  refine z_istore_n (pc := 56) (lv2 := [(0, .ref l0), (2, .int s0)]) G dX9_unit_56 rfl (by decide) rfl rfl ?_
  refine z_aload_n (pc := 57) G 0 dX9_unit_57 rfl rfl ?_
  refine z_bipush (pc := 58) (v := 40) G dX9_unit_58 (by decide) ?_
  obtain ⟨hi60, hX⟩ := z_gu_s hX
  obtain ⟨r60, hv60, hX⟩ := z_bd hX
  refine z_cVI (pc := 60) (As := [.int (40 : Int32)]) (c2 := 0) (s2 := 0) G kK9 (lX9_isSignHere hO hv60) hi60 kt_1524 kt_11 kt_1521 kt_1523 ks_56 ydX9_isSignHere ⟨by decide, by decide⟩ rfl (Nat.le_of_ble_eq_true rfl) ⟨rfl, rfl⟩ ⟨by decide, by decide⟩ rfl dX9_unit_60 ?_
  refine z_istore_n (pc := 63) (lv2 := [(0, .ref l0), (2, .int s0), (3, .int r60.1)]) G dX9_unit_63 rfl (by decide) rfl rfl ?_
  refine z_aload_n (pc := 64) G 0 dX9_unit_64 rfl rfl ?_
  obtain ⟨hi65, hX⟩ := z_gu_s hX
  obtain ⟨r65, hv65, hX⟩ := z_bd hX
  refine z_cVI (pc := 65) (As := []) (c2 := 0) (s2 := 0) G kK9 (lX9_wordHere hO hv65) hi65 kt_1528 kt_11 kt_1525 kt_1527 ks_57 ydX9_wordHere ⟨by decide, by decide⟩ rfl (Nat.le_of_ble_eq_true rfl) ⟨rfl, rfl⟩ ⟨by decide, by decide⟩ rfl dX9_unit_65 ?_
  refine z_istore (pc := 68) (lv2 := [(0, .ref l0), (2, .int s0), (3, .int r60.1), (4, .int r65.1)]) G dX9_unit_68 (by decide) rfl rfl ?_
  refine z_aload_n (pc := 70) G 0 dX9_unit_70 rfl rfl ?_
  obtain ⟨x71, hv71, hX⟩ := z_bd hX
  refine z_getR (pc := 71) G kK9 (k := 17) (by decide) kt_1243 dX9_unit_71 hv71 ?_
  refine z_aload_n (pc := 74) G 0 dX9_unit_74 rfl rfl ?_
  obtain ⟨x75, hv75, hX⟩ := z_bd hX
  refine z_getI (pc := 75) G kK9 (k := 35) (by decide) kt_1261 dX9_unit_75 hv75 ?_
  obtain ⟨x78, hv78, hX⟩ := z_bd hX
  refine z_iald (pc := 78) G dX9_unit_78 hv78 ?_
  refine z_bipush (pc := 79) (v := 60) G dX9_unit_79 (by decide) ?_
  refine z_icmp_eq (pc := 81) (tgt := 93) G dX9_unit_81 (by decide) (fun hc81 => ?_) (fun hc81 => ?_)
  · have hX := z_it hc81 hX
    exact wX9_unit_B93 hO G hr hnm _ _ _ _ _ hX
  · have hX := z_if hc81 hX
    refine z_aload_n (pc := 84) G 0 dX9_unit_84 rfl rfl ?_
    obtain ⟨x85, hv85, hX⟩ := z_bd hX
    refine z_getI (pc := 85) G kK9 (k := 39) (by decide) kt_1265 dX9_unit_85 hv85 ?_
    refine z_bipush (pc := 88) (v := 30) G dX9_unit_88 (by decide) ?_
    refine z_icmp_ne (pc := 90) (tgt := 97) G dX9_unit_90 (by decide) (fun hc90 => ?_) (fun hc90 => ?_)
    · have hX := z_if hc90 hX
      refine z_iconst (pc := 97) (v := 0) G dX9_unit_97 (by decide) ?_
      exact wX9_unit_B98 hO G hr hnm _ _ _ _ _ _ hX
    · have hX := z_it hc90 hX
      exact wX9_unit_B93 hO G hr hnm _ _ _ _ _ hX
noncomputable def xX9_unit_B55 (l0 : Nat) (h : ZH) : Option (Int32 × ZH) := xX9_unit_B56 l0 (0 : Int32) h
set_option maxHeartbeats 4000000 in
set_option maxRecDepth 100000 in
theorem wX9_unit_B55 {Γ : ZG} {p : Program} {l : Launch} {e : Env} {s : State} {m : MethodId} {args : Array Value} {below : List Frame} {meth : Method} {c : Code} (hO : z_OK Γ) (G : z_GG Γ p s m args meth c cX9_unit 7 RX9) (hr : meth.sig.returnType = (some .boolean)) (hnm : meth.name = "unit") {r : (Int32 × ZH)} : ∀ (l0 : Nat) (h : ZH), xX9_unit_B55  l0 h = some r → z_W Γ p l e rmX9_unit s m args below meth c 7 0 0 (MQ below (z_Qc Γ (some (.int r.1)) r.2) args s rmX9_unit.cells rmX9_unit.slots (z_A Γ)) 55 [(0, .ref l0)] [] h := by
  intro l0 h hX
  refine z_iconst (pc := 55) (v := 0) G dX9_unit_55 (by decide) ?_
  exact wX9_unit_B56 hO G hr hnm _ _ _ hX
noncomputable def xX9_unit_B36 (l0 : Nat) (s0 : Int32) (h : ZH) : Option (Int32 × ZH) := (if s0 = 0 then xX9_unit_B55 l0 h else (z_gu (z_is h l0 9) ((xX9_isWord l0 (7237492 : Int64) h).bind fun r45 => (if r45.1 = 0 then xX9_unit_B55 l0 r45.2 else xX9_unit_B56 l0 (1 : Int32) r45.2))))
set_option maxHeartbeats 4000000 in
set_option maxRecDepth 100000 in
theorem wX9_unit_B36 {Γ : ZG} {p : Program} {l : Launch} {e : Env} {s : State} {m : MethodId} {args : Array Value} {below : List Frame} {meth : Method} {c : Code} (hO : z_OK Γ) (G : z_GG Γ p s m args meth c cX9_unit 7 RX9) (hr : meth.sig.returnType = (some .boolean)) (hnm : meth.name = "unit") {r : (Int32 × ZH)} : ∀ (l0 : Nat) (s0 : Int32) (h : ZH), xX9_unit_B36  l0 s0 h = some r → z_W Γ p l e rmX9_unit s m args below meth c 7 0 0 (MQ below (z_Qc Γ (some (.int r.1)) r.2) args s rmX9_unit.cells rmX9_unit.slots (z_A Γ)) 36 [(0, .ref l0)] [.int s0] h := by
  intro l0 s0 h hX
  refine z_istore_n (pc := 36) (lv2 := [(0, .ref l0), (1, .int s0)]) G dX9_unit_36 rfl (by decide) rfl rfl ?_
  refine z_iload_n (pc := 37) G 1 dX9_unit_37 rfl rfl ?_
  refine z_if_eq (pc := 38) (tgt := 55) G dX9_unit_38 (by decide) (fun hc38 => ?_) (fun hc38 => ?_)
  · have hX := z_it hc38 hX
    refine z_drop (lv2 := [(0, .ref l0)]) [0] rfl ?_
    exact wX9_unit_B55 hO G hr hnm _ _ hX
  · have hX := z_if hc38 hX
    refine z_aload_n (pc := 41) G 0 dX9_unit_41 rfl rfl ?_
    refine z_ldc2 (pc := 42) G kt_1447 dX9_unit_42 ?_
    obtain ⟨hi45, hX⟩ := z_gu_s hX
    obtain ⟨r45, hv45, hX⟩ := z_bd hX
    refine z_cVI (pc := 45) (As := [.long (7237492 : Int64)]) (c2 := 0) (s2 := 0) G kK9 (lX9_isWord hO hv45) hi45 kt_1469 kt_11 kt_1466 kt_1468 ks_43 ydX9_isWord ⟨by decide, by decide⟩ rfl (Nat.le_of_ble_eq_true rfl) ⟨rfl, rfl⟩ ⟨by decide, by decide⟩ rfl dX9_unit_45 ?_
    refine z_if_eq (pc := 48) (tgt := 55) G dX9_unit_48 (by decide) (fun hc48 => ?_) (fun hc48 => ?_)
    · have hX := z_it hc48 hX
      refine z_drop (lv2 := [(0, .ref l0)]) [0] rfl ?_
      exact wX9_unit_B55 hO G hr hnm _ _ hX
    · have hX := z_if hc48 hX
      refine z_iconst (pc := 51) (v := 1) G dX9_unit_51 (by decide) ?_
      refine z_goto (pc := 52) (tgt := 56) G dX9_unit_52 (by decide) ?_
      refine z_drop (lv2 := [(0, .ref l0)]) [0] rfl ?_
      exact wX9_unit_B56 hO G hr hnm _ _ _ hX
noncomputable def xX9_unit_B31 (l0 : Nat) (h : ZH) : Option (Int32 × ZH) := xX9_unit_B36 l0 (1 : Int32) h
set_option maxHeartbeats 4000000 in
set_option maxRecDepth 100000 in
theorem wX9_unit_B31 {Γ : ZG} {p : Program} {l : Launch} {e : Env} {s : State} {m : MethodId} {args : Array Value} {below : List Frame} {meth : Method} {c : Code} (hO : z_OK Γ) (G : z_GG Γ p s m args meth c cX9_unit 7 RX9) (hr : meth.sig.returnType = (some .boolean)) (hnm : meth.name = "unit") {r : (Int32 × ZH)} : ∀ (l0 : Nat) (h : ZH), xX9_unit_B31  l0 h = some r → z_W Γ p l e rmX9_unit s m args below meth c 7 0 0 (MQ below (z_Qc Γ (some (.int r.1)) r.2) args s rmX9_unit.cells rmX9_unit.slots (z_A Γ)) 31 [(0, .ref l0)] [] h := by
  intro l0 h hX
  refine z_iconst (pc := 31) (v := 1) G dX9_unit_31 (by decide) ?_
  refine z_goto (pc := 32) (tgt := 36) G dX9_unit_32 (by decide) ?_
  exact wX9_unit_B36 hO G hr hnm _ _ _ hX
noncomputable def xX9_unit (l0 : Nat) (h : ZH) : Option (Int32 × ZH) := ((z_gR h l0 9 31).bind fun x1 => ((z_gI h l0 9 38).bind fun x5 => ((z_aI h x1 (x5 - (1 : Int32))).bind fun x10 => (if x10 ≤ (3 : Int32) then xX9_unit_B31 l0 h else ((z_gR h l0 9 31).bind fun x16 => ((z_gI h l0 9 38).bind fun x20 => ((z_aI h x16 (x20 - (1 : Int32))).bind fun x25 => (if x25 < (7 : Int32) then xX9_unit_B36 l0 (0 : Int32) h else xX9_unit_B31 l0 h))))))))
set_option maxHeartbeats 4000000 in
set_option maxRecDepth 100000 in
theorem lX9_unit {Γ : ZG} {l : Launch} (hO : z_OK Γ) {l0 : Nat} {h : ZH} {r : (Int32 × ZH)} (hX : xX9_unit l0 h = some r) : z_M Γ l yX9_unit (z_ws1 yX9_unit cX9_unit 7 (some .boolean)) rmX9_unit [.ref l0] h (some (.int r.1)) r.2 := by
  refine z_start hO (plainFor_of_name (by decide)) (Nat.le_of_ble_eq_true rfl) ?_
  intro p e s m args below meth c G hr hnm
  refine z_lvc (lv2 := [(0, .ref l0)]) rfl ?_
  refine z_aload_n (pc := 0) G 0 dX9_unit_0 rfl rfl ?_
  obtain ⟨x1, hv1, hX⟩ := z_bd hX
  refine z_getR (pc := 1) G kK9 (k := 31) (by decide) kt_1257 dX9_unit_1 hv1 ?_
  refine z_aload_n (pc := 4) G 0 dX9_unit_4 rfl rfl ?_
  obtain ⟨x5, hv5, hX⟩ := z_bd hX
  refine z_getI (pc := 5) G kK9 (k := 38) (by decide) kt_1264 dX9_unit_5 hv5 ?_
  refine z_iconst (pc := 8) (v := 1) G dX9_unit_8 (by decide) ?_
  refine z_isub (pc := 9) G dX9_unit_9 ?_
  obtain ⟨x10, hv10, hX⟩ := z_bd hX
  refine z_iald (pc := 10) G dX9_unit_10 hv10 ?_
  refine z_iconst (pc := 11) (v := 3) G dX9_unit_11 (by decide) ?_
  refine z_icmp_le (pc := 12) (tgt := 31) G dX9_unit_12 (by decide) (fun hc12 => ?_) (fun hc12 => ?_)
  · have hX := z_it hc12 hX
    exact wX9_unit_B31 hO G hr hnm _ _ hX
  · have hX := z_if hc12 hX
    refine z_aload_n (pc := 15) G 0 dX9_unit_15 rfl rfl ?_
    obtain ⟨x16, hv16, hX⟩ := z_bd hX
    refine z_getR (pc := 16) G kK9 (k := 31) (by decide) kt_1257 dX9_unit_16 hv16 ?_
    refine z_aload_n (pc := 19) G 0 dX9_unit_19 rfl rfl ?_
    obtain ⟨x20, hv20, hX⟩ := z_bd hX
    refine z_getI (pc := 20) G kK9 (k := 38) (by decide) kt_1264 dX9_unit_20 hv20 ?_
    refine z_iconst (pc := 23) (v := 1) G dX9_unit_23 (by decide) ?_
    refine z_isub (pc := 24) G dX9_unit_24 ?_
    obtain ⟨x25, hv25, hX⟩ := z_bd hX
    refine z_iald (pc := 25) G dX9_unit_25 hv25 ?_
    refine z_bipush (pc := 26) (v := 7) G dX9_unit_26 (by decide) ?_
    refine z_icmp_lt (pc := 28) (tgt := 35) G dX9_unit_28 (by decide) (fun hc28 => ?_) (fun hc28 => ?_)
    · have hX := z_it hc28 hX
      refine z_iconst (pc := 35) (v := 0) G dX9_unit_35 (by decide) ?_
      exact wX9_unit_B36 hO G hr hnm _ _ _ hX
    · have hX := z_if hc28 hX
      exact wX9_unit_B31 hO G hr hnm _ _ hX
theorem dX9_e_0 : decode cX9_e 0 = .ok (.aload_n 0, 1) := by decide +kernel
theorem dX9_e_1 : decode cX9_e 1 = .ok (.iconst 0, 1) := by decide +kernel
theorem dX9_e_2 : decode cX9_e 2 = .ok (.putfield 295, 3) := by decide +kernel
theorem dX9_e_5 : decode cX9_e 5 = .ok (.aload_n 0, 1) := by decide +kernel
theorem dX9_e_6 : decode cX9_e 6 = .ok (.iconst 0, 1) := by decide +kernel
theorem dX9_e_7 : decode cX9_e 7 = .ok (.putfield 298, 3) := by decide +kernel
theorem dX9_e_10 : decode cX9_e 10 = .ok (.aload_n 0, 1) := by decide +kernel
theorem dX9_e_11 : decode cX9_e 11 = .ok (.bipush 8, 2) := by decide +kernel
theorem dX9_e_13 : decode cX9_e 13 = .ok (.iconst 0, 1) := by decide +kernel
theorem dX9_e_14 : decode cX9_e 14 = .ok (.invokevirtual 301, 3) := by decide +kernel
theorem dX9_e_17 : decode cX9_e 17 = .ok (.iconst 1, 1) := by decide +kernel
theorem dX9_e_18 : decode cX9_e 18 = .ok (.istore_n 1, 1) := by decide +kernel
theorem dX9_e_19 : decode cX9_e 19 = .ok (.aload_n 0, 1) := by decide +kernel
theorem dX9_e_20 : decode cX9_e 20 = .ok (.invokevirtual 225, 3) := by decide +kernel
theorem dX9_e_23 : decode cX9_e 23 = .ok (.ifCond .eq 29, 3) := by decide +kernel
theorem dX9_e_26 : decode cX9_e 26 = .ok (.aload_n 0, 1) := by decide +kernel
theorem dX9_e_27 : decode cX9_e 27 = .ok (.getfield 295, 3) := by decide +kernel
theorem dX9_e_30 : decode cX9_e 30 = .ok (.ifCond .le 22, 3) := by decide +kernel
theorem dX9_e_33 : decode cX9_e 33 = .ok (.iload_n 1, 1) := by decide +kernel
theorem dX9_e_34 : decode cX9_e 34 = .ok (.ifCond .eq 10, 3) := by decide +kernel
theorem dX9_e_37 : decode cX9_e 37 = .ok (.aload_n 0, 1) := by decide +kernel
theorem dX9_e_38 : decode cX9_e 38 = .ok (.invokevirtual 304, 3) := by decide +kernel
theorem dX9_e_41 : decode cX9_e 41 = .ok (.goto 7, 3) := by decide +kernel
theorem dX9_e_44 : decode cX9_e 44 = .ok (.aload_n 0, 1) := by decide +kernel
theorem dX9_e_45 : decode cX9_e 45 = .ok (.invokevirtual 307, 3) := by decide +kernel
theorem dX9_e_48 : decode cX9_e 48 = .ok (.istore_n 1, 1) := by decide +kernel
theorem dX9_e_49 : decode cX9_e 49 = .ok (.goto (-30), 3) := by decide +kernel
theorem dX9_e_52 : decode cX9_e 52 = .ok (.return_, 1) := by decide +kernel
theorem ydX9_e : z_yd yX9_e 0 := ⟨by decide, by decide, by decide +kernel⟩
abbrev rmX9_e : Room := { frames := 4, cells := 0, slots := 0, locals := 86 }
noncomputable def xX9_e_B19 (r19 : Nat → Int32 → ZH → Option ZH) (l0 : Nat) (l1 : Int32) (h : ZH) : Option ZH := (z_gu (z_is h l0 9) ((xX9_isGood l0 h).bind fun r20 => (if r20.1 = 0 then some r20.2 else ((z_gI r20.2 l0 9 38).bind fun x27 => (if x27 ≤ 0 then some r20.2 else (if l1 = 0 then (z_gu (z_is r20.2 l0 9) ((xX9_behindUnit l0 r20.2).bind fun r45 => r19 l0 r45.1 r45.2)) else (z_gu (z_is r20.2 l0 9) ((xX9_unit l0 r20.2).bind fun r38 => r19 l0 r38.1 r38.2))))))))
noncomputable def xX9_e_L19 (n : Nat) : Nat → Int32 → ZH → Option ZH := Nat.rec (motive := fun _ => Nat → Int32 → ZH → Option ZH) (fun _ _ _ => none) (fun _ rec => xX9_e_B19  rec) n
set_option maxHeartbeats 4000000 in
set_option maxRecDepth 100000 in
theorem wX9_e_B19 {Γ : ZG} {p : Program} {l : Launch} {e : Env} {s : State} {m : MethodId} {args : Array Value} {below : List Frame} {meth : Method} {c : Code} (hO : z_OK Γ) (G : z_GG Γ p s m args meth c cX9_e 2 RX9) (hr : meth.sig.returnType = none) (hnm : meth.name = "e") {r : ZH} {r19 : Nat → Int32 → ZH → Option ZH} (H19 : ∀ (l0 : Nat) (l1 : Int32) (h : ZH), r19 l0 l1 h = some r → z_W Γ p l e rmX9_e s m args below meth c 2 0 0 (MQ below (z_Qc Γ none r) args s rmX9_e.cells rmX9_e.slots (z_A Γ)) 19 [(0, .ref l0), (1, .int l1)] [] h) : ∀ (l0 : Nat) (l1 : Int32) (h : ZH), xX9_e_B19  r19 l0 l1 h = some r → z_W Γ p l e rmX9_e s m args below meth c 2 0 0 (MQ below (z_Qc Γ none r) args s rmX9_e.cells rmX9_e.slots (z_A Γ)) 19 [(0, .ref l0), (1, .int l1)] [] h := by
  intro l0 l1 h hX
  refine z_aload_n (pc := 19) G 0 dX9_e_19 rfl rfl ?_
  obtain ⟨hi20, hX⟩ := z_gu_s hX
  obtain ⟨r20, hv20, hX⟩ := z_bd hX
  refine z_cVI (pc := 20) (As := []) (c2 := 0) (s2 := 0) G kK9 (lX9_isGood hO hv20) hi20 kt_1457 kt_11 kt_1454 kt_1456 ks_40 ydX9_isGood ⟨by decide, by decide⟩ rfl (Nat.le_of_ble_eq_true rfl) ⟨rfl, rfl⟩ ⟨by decide, by decide⟩ rfl dX9_e_20 ?_
  refine z_if_eq (pc := 23) (tgt := 52) G dX9_e_23 (by decide) (fun hc23 => ?_) (fun hc23 => ?_)
  · have hX := z_it hc23 hX
    exact z_vretX (pc := 52) hX G hr dX9_e_52 (by decide) (by decide)
  · have hX := z_if hc23 hX
    refine z_aload_n (pc := 26) G 0 dX9_e_26 rfl rfl ?_
    obtain ⟨x27, hv27, hX⟩ := z_bd hX
    refine z_getI (pc := 27) G kK9 (k := 38) (by decide) kt_1264 dX9_e_27 hv27 ?_
    refine z_if_le (pc := 30) (tgt := 52) G dX9_e_30 (by decide) (fun hc30 => ?_) (fun hc30 => ?_)
    · have hX := z_it hc30 hX
      exact z_vretX (pc := 52) hX G hr dX9_e_52 (by decide) (by decide)
    · have hX := z_if hc30 hX
      refine z_iload_n (pc := 33) G 1 dX9_e_33 rfl rfl ?_
      refine z_if_eq (pc := 34) (tgt := 44) G dX9_e_34 (by decide) (fun hc34 => ?_) (fun hc34 => ?_)
      · have hX := z_it hc34 hX
        refine z_aload_n (pc := 44) G 0 dX9_e_44 rfl rfl ?_
        obtain ⟨hi45, hX⟩ := z_gu_s hX
        obtain ⟨r45, hv45, hX⟩ := z_bd hX
        refine z_cVI (pc := 45) (As := []) (c2 := 0) (s2 := 0) G kK9 (lX9_behindUnit hO hv45) hi45 kt_1536 kt_11 kt_1533 kt_1535 ks_59 ydX9_behindUnit ⟨by decide, by decide⟩ rfl (Nat.le_of_ble_eq_true rfl) ⟨rfl, rfl⟩ ⟨by decide, by decide⟩ rfl dX9_e_45 ?_
        refine z_istore_n (pc := 48) (lv2 := [(0, .ref l0), (1, .int r45.1)]) G dX9_e_48 rfl (by decide) rfl rfl ?_
        refine z_goto (pc := 49) (tgt := 19) G dX9_e_49 (by decide) ?_
        exact H19 _ _ _ hX
      · have hX := z_if hc34 hX
        refine z_aload_n (pc := 37) G 0 dX9_e_37 rfl rfl ?_
        obtain ⟨hi38, hX⟩ := z_gu_s hX
        obtain ⟨r38, hv38, hX⟩ := z_bd hX
        refine z_cVI (pc := 38) (As := []) (c2 := 0) (s2 := 0) G kK9 (lX9_unit hO hv38) hi38 kt_1520 kt_11 kt_1517 kt_1519 ks_55 ydX9_unit ⟨by decide, by decide⟩ rfl (Nat.le_of_ble_eq_true rfl) ⟨rfl, rfl⟩ ⟨by decide, by decide⟩ rfl dX9_e_38 ?_
        refine z_goto (pc := 41) (tgt := 48) G dX9_e_41 (by decide) ?_
        refine z_istore_n (pc := 48) (lv2 := [(0, .ref l0), (1, .int r38.1)]) G dX9_e_48 rfl (by decide) rfl rfl ?_
        refine z_goto (pc := 49) (tgt := 19) G dX9_e_49 (by decide) ?_
        exact H19 _ _ _ hX
set_option maxHeartbeats 4000000 in
set_option maxRecDepth 100000 in
theorem wX9_e_L19 {Γ : ZG} {p : Program} {l : Launch} {e : Env} {s : State} {m : MethodId} {args : Array Value} {below : List Frame} {meth : Method} {c : Code} (hO : z_OK Γ) (G : z_GG Γ p s m args meth c cX9_e 2 RX9) (hr : meth.sig.returnType = none) (hnm : meth.name = "e") {r : ZH} : ∀ (nn : Nat) (l0 : Nat) (l1 : Int32) (h : ZH), xX9_e_L19  nn l0 l1 h = some r → z_W Γ p l e rmX9_e s m args below meth c 2 0 0 (MQ below (z_Qc Γ none r) args s rmX9_e.cells rmX9_e.slots (z_A Γ)) 19 [(0, .ref l0), (1, .int l1)] [] h := by
  intro nn
  induction nn with
  | zero => intro l0 l1 h hX; cases hX
  | succ nn ih => intro l0 l1 h hX; exact wX9_e_B19 hO G hr hnm  ih l0 l1 h hX
noncomputable def xX9_e (l0 : Nat) (h : ZH) : Option ZH := ((z_sF h l0 9 38 (.int (0 : Int32))).bind fun h2 => ((z_sF h2 l0 9 37 (.int (0 : Int32))).bind fun h7 => (z_gu (z_is h7 l0 9) ((xX9_pushE l0 (8 : Int32) (0 : Int32) h7).bind fun h14 => xX9_e_L19 zFU l0 (1 : Int32) h14))))
set_option maxHeartbeats 4000000 in
set_option maxRecDepth 100000 in
theorem lX9_e {Γ : ZG} {l : Launch} (hO : z_OK Γ) {l0 : Nat} {h : ZH} {r : ZH} (hX : xX9_e l0 h = some r) : z_M Γ l yX9_e (z_ws1 yX9_e cX9_e 2 none) rmX9_e [.ref l0] h none r := by
  refine z_start hO (plainFor_of_name (by decide)) (Nat.le_of_ble_eq_true rfl) ?_
  intro p e s m args below meth c G hr hnm
  refine z_lvc (lv2 := [(0, .ref l0)]) rfl ?_
  refine z_aload_n (pc := 0) G 0 dX9_e_0 rfl rfl ?_
  refine z_iconst (pc := 1) (v := 0) G dX9_e_1 (by decide) ?_
  obtain ⟨h2, hv2, hX⟩ := z_bd hX
  refine z_putF (pc := 2) G kK9 (k := 38) (by decide) kt_1264 (Or.inl rfl) rfl rfl dX9_e_2 hv2 ?_
  refine z_aload_n (pc := 5) G 0 dX9_e_5 rfl rfl ?_
  refine z_iconst (pc := 6) (v := 0) G dX9_e_6 (by decide) ?_
  obtain ⟨h7, hv7, hX⟩ := z_bd hX
  refine z_putF (pc := 7) G kK9 (k := 37) (by decide) kt_1263 (Or.inl rfl) rfl rfl dX9_e_7 hv7 ?_
  refine z_aload_n (pc := 10) G 0 dX9_e_10 rfl rfl ?_
  refine z_bipush (pc := 11) (v := 8) G dX9_e_11 (by decide) ?_
  refine z_iconst (pc := 13) (v := 0) G dX9_e_13 (by decide) ?_
  obtain ⟨hi14, hX⟩ := z_gu_s hX
  obtain ⟨h14, hv14, hX⟩ := z_bd hX
  refine z_cVV (pc := 14) (As := [.int (8 : Int32), .int (0 : Int32)]) (c2 := 0) (s2 := 0) G kK9 (lX9_pushE hO hv14) hi14 kt_1516 kt_11 kt_1513 kt_1515 ks_54 ydX9_pushE ⟨by decide, by decide⟩ rfl (Nat.le_of_ble_eq_true rfl) ⟨rfl, rfl⟩ ⟨by decide, by decide⟩ rfl dX9_e_14 ?_
  refine z_iconst (pc := 17) (v := 1) G dX9_e_17 (by decide) ?_
  refine z_istore_n (pc := 18) (lv2 := [(0, .ref l0), (1, .int (1 : Int32))]) G dX9_e_18 rfl (by decide) rfl rfl ?_
  exact wX9_e_L19 hO G hr hnm zFU _ _ _ hX
theorem dX9_readRule_0 : decode cX9_readRule 0 = .ok (.aload_n 0, 1) := by decide +kernel
theorem dX9_readRule_1 : decode cX9_readRule 1 = .ok (.getfield 48, 3) := by decide +kernel
theorem dX9_readRule_4 : decode cX9_readRule 4 = .ok (.aload_n 0, 1) := by decide +kernel
theorem dX9_readRule_5 : decode cX9_readRule 5 = .ok (.getfield 246, 3) := by decide +kernel
theorem dX9_readRule_8 : decode cX9_readRule 8 = .ok (.dup2, 1) := by decide +kernel
theorem dX9_readRule_9 : decode cX9_readRule 9 = .ok (.iaload, 1) := by decide +kernel
theorem dX9_readRule_10 : decode cX9_readRule 10 = .ok (.bipush 32, 2) := by decide +kernel
theorem dX9_readRule_12 : decode cX9_readRule 12 = .ok (.ior, 1) := by decide +kernel
theorem dX9_readRule_13 : decode cX9_readRule 13 = .ok (.iastore, 1) := by decide +kernel
theorem dX9_readRule_14 : decode cX9_readRule 14 = .ok (.aload_n 0, 1) := by decide +kernel
theorem dX9_readRule_15 : decode cX9_readRule 15 = .ok (.iconst 0, 1) := by decide +kernel
theorem dX9_readRule_16 : decode cX9_readRule 16 = .ok (.putfield 289, 3) := by decide +kernel
theorem dX9_readRule_19 : decode cX9_readRule 19 = .ok (.aload_n 0, 1) := by decide +kernel
theorem dX9_readRule_20 : decode cX9_readRule 20 = .ok (.getfield 66, 3) := by decide +kernel
theorem dX9_readRule_23 : decode cX9_readRule 23 = .ok (.aload_n 0, 1) := by decide +kernel
theorem dX9_readRule_24 : decode cX9_readRule 24 = .ok (.getfield 246, 3) := by decide +kernel
theorem dX9_readRule_27 : decode cX9_readRule 27 = .ok (.aload_n 0, 1) := by decide +kernel
theorem dX9_readRule_28 : decode cX9_readRule 28 = .ok (.getfield 249, 3) := by decide +kernel
theorem dX9_readRule_31 : decode cX9_readRule 31 = .ok (.iastore, 1) := by decide +kernel
theorem dX9_readRule_32 : decode cX9_readRule 32 = .ok (.aload_n 0, 1) := by decide +kernel
theorem dX9_readRule_33 : decode cX9_readRule 33 = .ok (.invokevirtual 292, 3) := by decide +kernel
theorem dX9_readRule_36 : decode cX9_readRule 36 = .ok (.aload_n 0, 1) := by decide +kernel
theorem dX9_readRule_37 : decode cX9_readRule 37 = .ok (.getfield 69, 3) := by decide +kernel
theorem dX9_readRule_40 : decode cX9_readRule 40 = .ok (.aload_n 0, 1) := by decide +kernel
theorem dX9_readRule_41 : decode cX9_readRule 41 = .ok (.getfield 246, 3) := by decide +kernel
theorem dX9_readRule_44 : decode cX9_readRule 44 = .ok (.aload_n 0, 1) := by decide +kernel
theorem dX9_readRule_45 : decode cX9_readRule 45 = .ok (.getfield 249, 3) := by decide +kernel
theorem dX9_readRule_48 : decode cX9_readRule 48 = .ok (.iastore, 1) := by decide +kernel
theorem dX9_readRule_49 : decode cX9_readRule 49 = .ok (.return_, 1) := by decide +kernel
theorem ydX9_readRule : z_yd yX9_readRule 0 := ⟨by decide, by decide, by decide +kernel⟩
abbrev rmX9_readRule : Room := { frames := 5, cells := 0, slots := 0, locals := 107 }
noncomputable def xX9_readRule (l0 : Nat) (h : ZH) : Option ZH := ((z_gR h l0 9 20).bind fun x1 => ((z_gI h l0 9 35).bind fun x5 => ((z_aI h x1 x5).bind fun x9 => ((z_uI h x1 x5 (x9 ||| (32 : Int32))).bind fun h13 => ((z_sF h13 l0 9 39 (.int (0 : Int32))).bind fun h16 => ((z_gR h16 l0 9 26).bind fun x20 => ((z_gI h16 l0 9 35).bind fun x24 => ((z_gI h16 l0 9 36).bind fun x28 => ((z_uI h16 x20 x24 x28).bind fun h31 => (z_gu (z_is h31 l0 9) ((xX9_e l0 h31).bind fun h33 => ((z_gR h33 l0 9 27).bind fun x37 => ((z_gI h33 l0 9 35).bind fun x41 => ((z_gI h33 l0 9 36).bind fun x45 => ((z_uI h33 x37 x41 x45).bind fun h48 => some h48)))))))))))))))
set_option maxHeartbeats 4000000 in
set_option maxRecDepth 100000 in
theorem lX9_readRule {Γ : ZG} {l : Launch} (hO : z_OK Γ) {l0 : Nat} {h : ZH} {r : ZH} (hX : xX9_readRule l0 h = some r) : z_M Γ l yX9_readRule (z_ws1 yX9_readRule cX9_readRule 1 none) rmX9_readRule [.ref l0] h none r := by
  refine z_start hO (plainFor_of_name (by decide)) (Nat.le_of_ble_eq_true rfl) ?_
  intro p e s m args below meth c G hr hnm
  refine z_lvc (lv2 := [(0, .ref l0)]) rfl ?_
  refine z_aload_n (pc := 0) G 0 dX9_readRule_0 rfl rfl ?_
  obtain ⟨x1, hv1, hX⟩ := z_bd hX
  refine z_getR (pc := 1) G kK9 (k := 20) (by decide) kt_1246 dX9_readRule_1 hv1 ?_
  refine z_aload_n (pc := 4) G 0 dX9_readRule_4 rfl rfl ?_
  obtain ⟨x5, hv5, hX⟩ := z_bd hX
  refine z_getI (pc := 5) G kK9 (k := 35) (by decide) kt_1261 dX9_readRule_5 hv5 ?_
  refine z_dup2 (pc := 8) G dX9_readRule_8 rfl rfl ?_
  obtain ⟨x9, hv9, hX⟩ := z_bd hX
  refine z_iald (pc := 9) G dX9_readRule_9 hv9 ?_
  refine z_bipush (pc := 10) (v := 32) G dX9_readRule_10 (by decide) ?_
  refine z_ior (pc := 12) G dX9_readRule_12 ?_
  obtain ⟨h13, hv13, hX⟩ := z_bd hX
  refine z_iast (pc := 13) G dX9_readRule_13 hv13 ?_
  refine z_aload_n (pc := 14) G 0 dX9_readRule_14 rfl rfl ?_
  refine z_iconst (pc := 15) (v := 0) G dX9_readRule_15 (by decide) ?_
  obtain ⟨h16, hv16, hX⟩ := z_bd hX
  refine z_putF (pc := 16) G kK9 (k := 39) (by decide) kt_1265 (Or.inl rfl) rfl rfl dX9_readRule_16 hv16 ?_
  refine z_aload_n (pc := 19) G 0 dX9_readRule_19 rfl rfl ?_
  obtain ⟨x20, hv20, hX⟩ := z_bd hX
  refine z_getR (pc := 20) G kK9 (k := 26) (by decide) kt_1252 dX9_readRule_20 hv20 ?_
  refine z_aload_n (pc := 23) G 0 dX9_readRule_23 rfl rfl ?_
  obtain ⟨x24, hv24, hX⟩ := z_bd hX
  refine z_getI (pc := 24) G kK9 (k := 35) (by decide) kt_1261 dX9_readRule_24 hv24 ?_
  refine z_aload_n (pc := 27) G 0 dX9_readRule_27 rfl rfl ?_
  obtain ⟨x28, hv28, hX⟩ := z_bd hX
  refine z_getI (pc := 28) G kK9 (k := 36) (by decide) kt_1262 dX9_readRule_28 hv28 ?_
  obtain ⟨h31, hv31, hX⟩ := z_bd hX
  refine z_iast (pc := 31) G dX9_readRule_31 hv31 ?_
  refine z_aload_n (pc := 32) G 0 dX9_readRule_32 rfl rfl ?_
  obtain ⟨hi33, hX⟩ := z_gu_s hX
  obtain ⟨h33, hv33, hX⟩ := z_bd hX
  refine z_cVV (pc := 33) (As := []) (c2 := 0) (s2 := 0) G kK9 (lX9_e hO hv33) hi33 kt_1512 kt_11 kt_1509 kt_1511 ks_53 ydX9_e ⟨by decide, by decide⟩ rfl (Nat.le_of_ble_eq_true rfl) ⟨rfl, rfl⟩ ⟨by decide, by decide⟩ rfl dX9_readRule_33 ?_
  refine z_aload_n (pc := 36) G 0 dX9_readRule_36 rfl rfl ?_
  obtain ⟨x37, hv37, hX⟩ := z_bd hX
  refine z_getR (pc := 37) G kK9 (k := 27) (by decide) kt_1253 dX9_readRule_37 hv37 ?_
  refine z_aload_n (pc := 40) G 0 dX9_readRule_40 rfl rfl ?_
  obtain ⟨x41, hv41, hX⟩ := z_bd hX
  refine z_getI (pc := 41) G kK9 (k := 35) (by decide) kt_1261 dX9_readRule_41 hv41 ?_
  refine z_aload_n (pc := 44) G 0 dX9_readRule_44 rfl rfl ?_
  obtain ⟨x45, hv45, hX⟩ := z_bd hX
  refine z_getI (pc := 45) G kK9 (k := 36) (by decide) kt_1262 dX9_readRule_45 hv45 ?_
  obtain ⟨h48, hv48, hX⟩ := z_bd hX
  refine z_iast (pc := 48) G dX9_readRule_48 hv48 ?_
  exact z_vretX (pc := 49) hX G hr dX9_readRule_49 (by decide) (by decide)
theorem dX9_readShip_0 : decode cX9_readShip 0 = .ok (.bipush 6, 2) := by decide +kernel
theorem dX9_readShip_2 : decode cX9_readShip 2 = .ok (.aload_n 0, 1) := by decide +kernel
theorem dX9_readShip_3 : decode cX9_readShip 3 = .ok (.getfield 246, 3) := by decide +kernel
theorem dX9_readShip_6 : decode cX9_readShip 6 = .ok (.imul, 1) := by decide +kernel
theorem dX9_readShip_7 : decode cX9_readShip 7 = .ok (.aload_n 0, 1) := by decide +kernel
theorem dX9_readShip_8 : decode cX9_readShip 8 = .ok (.getfield 20, 3) := by decide +kernel
theorem dX9_readShip_11 : decode cX9_readShip 11 = .ok (.aload_n 0, 1) := by decide +kernel
theorem dX9_readShip_12 : decode cX9_readShip 12 = .ok (.getfield 246, 3) := by decide +kernel
theorem dX9_readShip_15 : decode cX9_readShip 15 = .ok (.iaload, 1) := by decide +kernel
theorem dX9_readShip_16 : decode cX9_readShip 16 = .ok (.iadd, 1) := by decide +kernel
theorem dX9_readShip_17 : decode cX9_readShip 17 = .ok (.istore_n 1, 1) := by decide +kernel
theorem dX9_readShip_18 : decode cX9_readShip 18 = .ok (.bipush 6, 2) := by decide +kernel
theorem dX9_readShip_20 : decode cX9_readShip 20 = .ok (.aload_n 0, 1) := by decide +kernel
theorem dX9_readShip_21 : decode cX9_readShip 21 = .ok (.getfield 246, 3) := by decide +kernel
theorem dX9_readShip_24 : decode cX9_readShip 24 = .ok (.imul, 1) := by decide +kernel
theorem dX9_readShip_25 : decode cX9_readShip 25 = .ok (.istore_n 2, 1) := by decide +kernel
theorem dX9_readShip_26 : decode cX9_readShip 26 = .ok (.iload_n 2, 1) := by decide +kernel
theorem dX9_readShip_27 : decode cX9_readShip 27 = .ok (.iload_n 1, 1) := by decide +kernel
theorem dX9_readShip_28 : decode cX9_readShip 28 = .ok (.if_icmp .ge 40, 3) := by decide +kernel
theorem dX9_readShip_31 : decode cX9_readShip 31 = .ok (.aload_n 0, 1) := by decide +kernel
theorem dX9_readShip_32 : decode cX9_readShip 32 = .ok (.getfield 197, 3) := by decide +kernel
theorem dX9_readShip_35 : decode cX9_readShip 35 = .ok (.iconst 2, 1) := by decide +kernel
theorem dX9_readShip_36 : decode cX9_readShip 36 = .ok (.if_icmp .ne 26, 3) := by decide +kernel
theorem dX9_readShip_39 : decode cX9_readShip 39 = .ok (.aload_n 0, 1) := by decide +kernel
theorem dX9_readShip_40 : decode cX9_readShip 40 = .ok (.getfield 72, 3) := by decide +kernel
theorem dX9_readShip_43 : decode cX9_readShip 43 = .ok (.iload_n 2, 1) := by decide +kernel
theorem dX9_readShip_44 : decode cX9_readShip 44 = .ok (.laload, 1) := by decide +kernel
theorem dX9_readShip_45 : decode cX9_readShip 45 = .ok (.aload_n 0, 1) := by decide +kernel
theorem dX9_readShip_46 : decode cX9_readShip 46 = .ok (.getfield 204, 3) := by decide +kernel
theorem dX9_readShip_49 : decode cX9_readShip 49 = .ok (.lcmp, 1) := by decide +kernel
theorem dX9_readShip_50 : decode cX9_readShip 50 = .ok (.ifCond .ne 12, 3) := by decide +kernel
theorem dX9_readShip_53 : decode cX9_readShip 53 = .ok (.aload_n 0, 1) := by decide +kernel
theorem dX9_readShip_54 : decode cX9_readShip 54 = .ok (.iconst 3, 1) := by decide +kernel
theorem dX9_readShip_55 : decode cX9_readShip 55 = .ok (.aload_n 0, 1) := by decide +kernel
theorem dX9_readShip_56 : decode cX9_readShip 56 = .ok (.getfield 190, 3) := by decide +kernel
theorem dX9_readShip_59 : decode cX9_readShip 59 = .ok (.invokevirtual 221, 3) := by decide +kernel
theorem dX9_readShip_62 : decode cX9_readShip 62 = .ok (.iinc 2 1, 3) := by decide +kernel
theorem dX9_readShip_65 : decode cX9_readShip 65 = .ok (.goto (-39), 3) := by decide +kernel
theorem dX9_readShip_68 : decode cX9_readShip 68 = .ok (.aload_n 0, 1) := by decide +kernel
theorem dX9_readShip_69 : decode cX9_readShip 69 = .ok (.getfield 72, 3) := by decide +kernel
theorem dX9_readShip_72 : decode cX9_readShip 72 = .ok (.iload_n 1, 1) := by decide +kernel
theorem dX9_readShip_73 : decode cX9_readShip 73 = .ok (.aload_n 0, 1) := by decide +kernel
theorem dX9_readShip_74 : decode cX9_readShip 74 = .ok (.getfield 204, 3) := by decide +kernel
theorem dX9_readShip_77 : decode cX9_readShip 77 = .ok (.lastore, 1) := by decide +kernel
theorem dX9_readShip_78 : decode cX9_readShip 78 = .ok (.aload_n 0, 1) := by decide +kernel
theorem dX9_readShip_79 : decode cX9_readShip 79 = .ok (.aload_n 0, 1) := by decide +kernel
theorem dX9_readShip_80 : decode cX9_readShip 80 = .ok (.getfield 197, 3) := by decide +kernel
theorem dX9_readShip_83 : decode cX9_readShip 83 = .ok (.iconst 2, 1) := by decide +kernel
theorem dX9_readShip_84 : decode cX9_readShip 84 = .ok (.if_icmp .ne 7, 3) := by decide +kernel
theorem dX9_readShip_87 : decode cX9_readShip 87 = .ok (.iconst 1, 1) := by decide +kernel
theorem dX9_readShip_88 : decode cX9_readShip 88 = .ok (.goto 4, 3) := by decide +kernel
theorem dX9_readShip_91 : decode cX9_readShip 91 = .ok (.iconst 0, 1) := by decide +kernel
theorem dX9_readShip_92 : decode cX9_readShip 92 = .ok (.invokevirtual 238, 3) := by decide +kernel
theorem dX9_readShip_95 : decode cX9_readShip 95 = .ok (.aload_n 0, 1) := by decide +kernel
theorem dX9_readShip_96 : decode cX9_readShip 96 = .ok (.getfield 51, 3) := by decide +kernel
theorem dX9_readShip_99 : decode cX9_readShip 99 = .ok (.iload_n 1, 1) := by decide +kernel
theorem dX9_readShip_100 : decode cX9_readShip 100 = .ok (.aload_n 0, 1) := by decide +kernel
theorem dX9_readShip_101 : decode cX9_readShip 101 = .ok (.ldc2_w 161, 3) := by decide +kernel
theorem dX9_readShip_104 : decode cX9_readShip 104 = .ok (.iconst 0, 1) := by decide +kernel
theorem dX9_readShip_105 : decode cX9_readShip 105 = .ok (.bipush 99, 2) := by decide +kernel
theorem dX9_readShip_107 : decode cX9_readShip 107 = .ok (.invokevirtual 285, 3) := by decide +kernel
theorem dX9_readShip_110 : decode cX9_readShip 110 = .ok (.iastore, 1) := by decide +kernel
theorem dX9_readShip_111 : decode cX9_readShip 111 = .ok (.aload_n 0, 1) := by decide +kernel
theorem dX9_readShip_112 : decode cX9_readShip 112 = .ok (.getfield 54, 3) := by decide +kernel
theorem dX9_readShip_115 : decode cX9_readShip 115 = .ok (.iload_n 1, 1) := by decide +kernel
theorem dX9_readShip_116 : decode cX9_readShip 116 = .ok (.aload_n 0, 1) := by decide +kernel
theorem dX9_readShip_117 : decode cX9_readShip 117 = .ok (.iconst 0, 1) := by decide +kernel
theorem dX9_readShip_118 : decode cX9_readShip 118 = .ok (.bipush 99, 2) := by decide +kernel
theorem dX9_readShip_120 : decode cX9_readShip 120 = .ok (.invokevirtual 242, 3) := by decide +kernel
theorem dX9_readShip_123 : decode cX9_readShip 123 = .ok (.iastore, 1) := by decide +kernel
theorem dX9_readShip_124 : decode cX9_readShip 124 = .ok (.aload_n 0, 1) := by decide +kernel
theorem dX9_readShip_125 : decode cX9_readShip 125 = .ok (.getfield 57, 3) := by decide +kernel
theorem dX9_readShip_128 : decode cX9_readShip 128 = .ok (.iload_n 1, 1) := by decide +kernel
theorem dX9_readShip_129 : decode cX9_readShip 129 = .ok (.iconst 0, 1) := by decide +kernel
theorem dX9_readShip_130 : decode cX9_readShip 130 = .ok (.iastore, 1) := by decide +kernel
theorem dX9_readShip_131 : decode cX9_readShip 131 = .ok (.aload_n 0, 1) := by decide +kernel
theorem dX9_readShip_132 : decode cX9_readShip 132 = .ok (.getfield 60, 3) := by decide +kernel
theorem dX9_readShip_135 : decode cX9_readShip 135 = .ok (.iload_n 1, 1) := by decide +kernel
theorem dX9_readShip_136 : decode cX9_readShip 136 = .ok (.iconst 0, 1) := by decide +kernel
theorem dX9_readShip_137 : decode cX9_readShip 137 = .ok (.iastore, 1) := by decide +kernel
theorem dX9_readShip_138 : decode cX9_readShip 138 = .ok (.aload_n 0, 1) := by decide +kernel
theorem dX9_readShip_139 : decode cX9_readShip 139 = .ok (.getfield 63, 3) := by decide +kernel
theorem dX9_readShip_142 : decode cX9_readShip 142 = .ok (.iload_n 1, 1) := by decide +kernel
theorem dX9_readShip_143 : decode cX9_readShip 143 = .ok (.iconst 0, 1) := by decide +kernel
theorem dX9_readShip_144 : decode cX9_readShip 144 = .ok (.iastore, 1) := by decide +kernel
theorem dX9_readShip_145 : decode cX9_readShip 145 = .ok (.aload_n 0, 1) := by decide +kernel
theorem dX9_readShip_146 : decode cX9_readShip 146 = .ok (.invokevirtual 225, 3) := by decide +kernel
theorem dX9_readShip_149 : decode cX9_readShip 149 = .ok (.ifCond .eq 42, 3) := by decide +kernel
theorem dX9_readShip_152 : decode cX9_readShip 152 = .ok (.aload_n 0, 1) := by decide +kernel
theorem dX9_readShip_153 : decode cX9_readShip 153 = .ok (.ldc2_w 163, 3) := by decide +kernel
theorem dX9_readShip_156 : decode cX9_readShip 156 = .ok (.invokevirtual 235, 3) := by decide +kernel
theorem dX9_readShip_159 : decode cX9_readShip 159 = .ok (.ifCond .eq 32, 3) := by decide +kernel
theorem dX9_readShip_162 : decode cX9_readShip 162 = .ok (.aload_n 0, 1) := by decide +kernel
theorem dX9_readShip_163 : decode cX9_readShip 163 = .ok (.getfield 57, 3) := by decide +kernel
theorem dX9_readShip_166 : decode cX9_readShip 166 = .ok (.iload_n 1, 1) := by decide +kernel
theorem dX9_readShip_167 : decode cX9_readShip 167 = .ok (.aload_n 0, 1) := by decide +kernel
theorem dX9_readShip_168 : decode cX9_readShip 168 = .ok (.ldc2_w 163, 3) := by decide +kernel
theorem dX9_readShip_171 : decode cX9_readShip 171 = .ok (.iconst 0, 1) := by decide +kernel
theorem dX9_readShip_172 : decode cX9_readShip 172 = .ok (.bipush 99, 2) := by decide +kernel
theorem dX9_readShip_174 : decode cX9_readShip 174 = .ok (.invokevirtual 285, 3) := by decide +kernel
theorem dX9_readShip_177 : decode cX9_readShip 177 = .ok (.iastore, 1) := by decide +kernel
theorem dX9_readShip_178 : decode cX9_readShip 178 = .ok (.aload_n 0, 1) := by decide +kernel
theorem dX9_readShip_179 : decode cX9_readShip 179 = .ok (.getfield 60, 3) := by decide +kernel
theorem dX9_readShip_182 : decode cX9_readShip 182 = .ok (.iload_n 1, 1) := by decide +kernel
theorem dX9_readShip_183 : decode cX9_readShip 183 = .ok (.aload_n 0, 1) := by decide +kernel
theorem dX9_readShip_184 : decode cX9_readShip 184 = .ok (.iconst 0, 1) := by decide +kernel
theorem dX9_readShip_185 : decode cX9_readShip 185 = .ok (.bipush 99, 2) := by decide +kernel
theorem dX9_readShip_187 : decode cX9_readShip 187 = .ok (.invokevirtual 242, 3) := by decide +kernel
theorem dX9_readShip_190 : decode cX9_readShip 190 = .ok (.iastore, 1) := by decide +kernel
theorem dX9_readShip_191 : decode cX9_readShip 191 = .ok (.aload_n 0, 1) := by decide +kernel
theorem dX9_readShip_192 : decode cX9_readShip 192 = .ok (.invokevirtual 225, 3) := by decide +kernel
theorem dX9_readShip_195 : decode cX9_readShip 195 = .ok (.ifCond .eq 29, 3) := by decide +kernel
theorem dX9_readShip_198 : decode cX9_readShip 198 = .ok (.aload_n 0, 1) := by decide +kernel
theorem dX9_readShip_199 : decode cX9_readShip 199 = .ok (.ldc2_w 165, 3) := by decide +kernel
theorem dX9_readShip_202 : decode cX9_readShip 202 = .ok (.invokevirtual 235, 3) := by decide +kernel
theorem dX9_readShip_205 : decode cX9_readShip 205 = .ok (.ifCond .eq 19, 3) := by decide +kernel
theorem dX9_readShip_208 : decode cX9_readShip 208 = .ok (.aload_n 0, 1) := by decide +kernel
theorem dX9_readShip_209 : decode cX9_readShip 209 = .ok (.getfield 63, 3) := by decide +kernel
theorem dX9_readShip_212 : decode cX9_readShip 212 = .ok (.iload_n 1, 1) := by decide +kernel
theorem dX9_readShip_213 : decode cX9_readShip 213 = .ok (.aload_n 0, 1) := by decide +kernel
theorem dX9_readShip_214 : decode cX9_readShip 214 = .ok (.ldc2_w 165, 3) := by decide +kernel
theorem dX9_readShip_217 : decode cX9_readShip 217 = .ok (.iconst 0, 1) := by decide +kernel
theorem dX9_readShip_218 : decode cX9_readShip 218 = .ok (.bipush 9, 2) := by decide +kernel
theorem dX9_readShip_220 : decode cX9_readShip 220 = .ok (.invokevirtual 285, 3) := by decide +kernel
theorem dX9_readShip_223 : decode cX9_readShip 223 = .ok (.iastore, 1) := by decide +kernel
theorem dX9_readShip_224 : decode cX9_readShip 224 = .ok (.aload_n 0, 1) := by decide +kernel
theorem dX9_readShip_225 : decode cX9_readShip 225 = .ok (.getfield 20, 3) := by decide +kernel
theorem dX9_readShip_228 : decode cX9_readShip 228 = .ok (.aload_n 0, 1) := by decide +kernel
theorem dX9_readShip_229 : decode cX9_readShip 229 = .ok (.getfield 246, 3) := by decide +kernel
theorem dX9_readShip_232 : decode cX9_readShip 232 = .ok (.dup2, 1) := by decide +kernel
theorem dX9_readShip_233 : decode cX9_readShip 233 = .ok (.iaload, 1) := by decide +kernel
theorem dX9_readShip_234 : decode cX9_readShip 234 = .ok (.iconst 1, 1) := by decide +kernel
theorem dX9_readShip_235 : decode cX9_readShip 235 = .ok (.iadd, 1) := by decide +kernel
theorem dX9_readShip_236 : decode cX9_readShip 236 = .ok (.iastore, 1) := by decide +kernel
theorem dX9_readShip_237 : decode cX9_readShip 237 = .ok (.return_, 1) := by decide +kernel
theorem ydX9_readShip : z_yd yX9_readShip 0 := ⟨by decide, by decide, by decide +kernel⟩
abbrev rmX9_readShip : Room := { frames := 4, cells := 0, slots := 0, locals := 91 }
noncomputable def xX9_readShip_B224 (l0 : Nat) (h : ZH) : Option ZH := ((z_gR h l0 9 11).bind fun x225 => ((z_gI h l0 9 35).bind fun x229 => ((z_aI h x225 x229).bind fun x233 => ((z_uI h x225 x229 (x233 + (1 : Int32))).bind fun h236 => some h236))))
set_option maxHeartbeats 4000000 in
set_option maxRecDepth 100000 in
theorem wX9_readShip_B224 {Γ : ZG} {p : Program} {l : Launch} {e : Env} {s : State} {m : MethodId} {args : Array Value} {below : List Frame} {meth : Method} {c : Code} (hO : z_OK Γ) (G : z_GG Γ p s m args meth c cX9_readShip 3 RX9) (hr : meth.sig.returnType = none) (hnm : meth.name = "readShip") {r : ZH} : ∀ (l0 : Nat) (h : ZH), xX9_readShip_B224  l0 h = some r → z_W Γ p l e rmX9_readShip s m args below meth c 3 0 0 (MQ below (z_Qc Γ none r) args s rmX9_readShip.cells rmX9_readShip.slots (z_A Γ)) 224 [(0, .ref l0)] [] h := by
  intro l0 h hX
  refine z_aload_n (pc := 224) G 0 dX9_readShip_224 rfl rfl ?_
  obtain ⟨x225, hv225, hX⟩ := z_bd hX
  refine z_getR (pc := 225) G kK9 (k := 11) (by decide) kt_1237 dX9_readShip_225 hv225 ?_
  refine z_aload_n (pc := 228) G 0 dX9_readShip_228 rfl rfl ?_
  obtain ⟨x229, hv229, hX⟩ := z_bd hX
  refine z_getI (pc := 229) G kK9 (k := 35) (by decide) kt_1261 dX9_readShip_229 hv229 ?_
  refine z_dup2 (pc := 232) G dX9_readShip_232 rfl rfl ?_
  obtain ⟨x233, hv233, hX⟩ := z_bd hX
  refine z_iald (pc := 233) G dX9_readShip_233 hv233 ?_
  refine z_iconst (pc := 234) (v := 1) G dX9_readShip_234 (by decide) ?_
  refine z_iadd (pc := 235) G dX9_readShip_235 ?_
  obtain ⟨h236, hv236, hX⟩ := z_bd hX
  refine z_iast (pc := 236) G dX9_readShip_236 hv236 ?_
  exact z_vretX (pc := 237) hX G hr dX9_readShip_237 (by decide) (by decide)
noncomputable def xX9_readShip_B191 (l0 : Nat) (l1 : Int32) (h : ZH) : Option ZH := (z_gu (z_is h l0 9) ((xX9_isGood l0 h).bind fun r192 => (if r192.1 = 0 then xX9_readShip_B224 l0 r192.2 else (z_gu (z_is r192.2 l0 9) ((xX9_isWord l0 (28526 : Int64) r192.2).bind fun r202 => (if r202.1 = 0 then xX9_readShip_B224 l0 r202.2 else ((z_gR r202.2 l0 9 25).bind fun x209 => (z_gu (z_is r202.2 l0 9) ((xX9_after l0 (28526 : Int64) (0 : Int32) (9 : Int32) r202.2).bind fun r220 => ((z_uI r220.2 x209 l1 r220.1).bind fun h223 => xX9_readShip_B224 l0 h223))))))))))
set_option maxHeartbeats 4000000 in
set_option maxRecDepth 100000 in
theorem wX9_readShip_B191 {Γ : ZG} {p : Program} {l : Launch} {e : Env} {s : State} {m : MethodId} {args : Array Value} {below : List Frame} {meth : Method} {c : Code} (hO : z_OK Γ) (G : z_GG Γ p s m args meth c cX9_readShip 3 RX9) (hr : meth.sig.returnType = none) (hnm : meth.name = "readShip") {r : ZH} : ∀ (l0 : Nat) (l1 : Int32) (h : ZH), xX9_readShip_B191  l0 l1 h = some r → z_W Γ p l e rmX9_readShip s m args below meth c 3 0 0 (MQ below (z_Qc Γ none r) args s rmX9_readShip.cells rmX9_readShip.slots (z_A Γ)) 191 [(0, .ref l0), (1, .int l1)] [] h := by
  intro l0 l1 h hX
  refine z_aload_n (pc := 191) G 0 dX9_readShip_191 rfl rfl ?_
  obtain ⟨hi192, hX⟩ := z_gu_s hX
  obtain ⟨r192, hv192, hX⟩ := z_bd hX
  refine z_cVI (pc := 192) (As := []) (c2 := 0) (s2 := 0) G kK9 (lX9_isGood hO hv192) hi192 kt_1457 kt_11 kt_1454 kt_1456 ks_40 ydX9_isGood ⟨by decide, by decide⟩ rfl (Nat.le_of_ble_eq_true rfl) ⟨rfl, rfl⟩ ⟨by decide, by decide⟩ rfl dX9_readShip_192 ?_
  refine z_if_eq (pc := 195) (tgt := 224) G dX9_readShip_195 (by decide) (fun hc195 => ?_) (fun hc195 => ?_)
  · have hX := z_it hc195 hX
    refine z_drop (lv2 := [(0, .ref l0)]) [0] rfl ?_
    exact wX9_readShip_B224 hO G hr hnm _ _ hX
  · have hX := z_if hc195 hX
    refine z_aload_n (pc := 198) G 0 dX9_readShip_198 rfl rfl ?_
    refine z_ldc2 (pc := 199) G kt_1437 dX9_readShip_199 ?_
    obtain ⟨hi202, hX⟩ := z_gu_s hX
    obtain ⟨r202, hv202, hX⟩ := z_bd hX
    refine z_cVI (pc := 202) (As := [.long (28526 : Int64)]) (c2 := 0) (s2 := 0) G kK9 (lX9_isWord hO hv202) hi202 kt_1469 kt_11 kt_1466 kt_1468 ks_43 ydX9_isWord ⟨by decide, by decide⟩ rfl (Nat.le_of_ble_eq_true rfl) ⟨rfl, rfl⟩ ⟨by decide, by decide⟩ rfl dX9_readShip_202 ?_
    refine z_if_eq (pc := 205) (tgt := 224) G dX9_readShip_205 (by decide) (fun hc205 => ?_) (fun hc205 => ?_)
    · have hX := z_it hc205 hX
      refine z_drop (lv2 := [(0, .ref l0)]) [0] rfl ?_
      exact wX9_readShip_B224 hO G hr hnm _ _ hX
    · have hX := z_if hc205 hX
      refine z_aload_n (pc := 208) G 0 dX9_readShip_208 rfl rfl ?_
      obtain ⟨x209, hv209, hX⟩ := z_bd hX
      refine z_getR (pc := 209) G kK9 (k := 25) (by decide) kt_1251 dX9_readShip_209 hv209 ?_
      refine z_iload_n (pc := 212) G 1 dX9_readShip_212 rfl rfl ?_
      refine z_aload_n (pc := 213) G 0 dX9_readShip_213 rfl rfl ?_
      refine z_ldc2 (pc := 214) G kt_1437 dX9_readShip_214 ?_
      refine z_iconst (pc := 217) (v := 0) G dX9_readShip_217 (by decide) ?_
      refine z_bipush (pc := 218) (v := 9) G dX9_readShip_218 (by decide) ?_
      obtain ⟨hi220, hX⟩ := z_gu_s hX
      obtain ⟨r220, hv220, hX⟩ := z_bd hX
      refine z_cVI (pc := 220) (As := [.long (28526 : Int64), .int (0 : Int32), .int (9 : Int32)]) (c2 := 0) (s2 := 0) G kK9 (lX9_after hO hv220) hi220 kt_1504 kt_11 kt_1501 kt_1503 ks_51 ydX9_after ⟨by decide, by decide⟩ rfl (Nat.le_of_ble_eq_true rfl) ⟨rfl, rfl⟩ ⟨by decide, by decide⟩ rfl dX9_readShip_220 ?_
      obtain ⟨h223, hv223, hX⟩ := z_bd hX
      refine z_iast (pc := 223) G dX9_readShip_223 hv223 ?_
      refine z_drop (lv2 := [(0, .ref l0)]) [0] rfl ?_
      exact wX9_readShip_B224 hO G hr hnm _ _ hX
noncomputable def xX9_readShip_B92 (l0 : Nat) (l1 : Int32) (s0 : Int32) (s1 : Nat) (h : ZH) : Option ZH := (z_gu (z_is h s1 9) ((xX9_must s1 s0 h).bind fun h92 => ((z_gR h92 l0 9 21).bind fun x96 => (z_gu (z_is h92 l0 9) ((xX9_after l0 (24948 : Int64) (0 : Int32) (99 : Int32) h92).bind fun r107 => ((z_uI r107.2 x96 l1 r107.1).bind fun h110 => ((z_gR h110 l0 9 22).bind fun x112 => (z_gu (z_is h110 l0 9) ((xX9_numeral l0 (0 : Int32) (99 : Int32) h110).bind fun r120 => ((z_uI r120.2 x112 l1 r120.1).bind fun h123 => ((z_gR h123 l0 9 23).bind fun x125 => ((z_uI h123 x125 l1 (0 : Int32)).bind fun h130 => ((z_gR h130 l0 9 24).bind fun x132 => ((z_uI h130 x132 l1 (0 : Int32)).bind fun h137 => ((z_gR h137 l0 9 25).bind fun x139 => ((z_uI h137 x139 l1 (0 : Int32)).bind fun h144 => (z_gu (z_is h144 l0 9) ((xX9_isGood l0 h144).bind fun r146 => (if r146.1 = 0 then xX9_readShip_B191 l0 l1 r146.2 else (z_gu (z_is r146.2 l0 9) ((xX9_isWord l0 (470021465459 : Int64) r146.2).bind fun r156 => (if r156.1 = 0 then xX9_readShip_B191 l0 l1 r156.2 else ((z_gR r156.2 l0 9 23).bind fun x163 => (z_gu (z_is r156.2 l0 9) ((xX9_after l0 (470021465459 : Int64) (0 : Int32) (99 : Int32) r156.2).bind fun r174 => ((z_uI r174.2 x163 l1 r174.1).bind fun h177 => ((z_gR h177 l0 9 24).bind fun x179 => (z_gu (z_is h177 l0 9) ((xX9_numeral l0 (0 : Int32) (99 : Int32) h177).bind fun r187 => ((z_uI r187.2 x179 l1 r187.1).bind fun h190 => xX9_readShip_B191 l0 l1 h190))))))))))))))))))))))))))))))
set_option maxHeartbeats 4000000 in
set_option maxRecDepth 100000 in
theorem wX9_readShip_B92 {Γ : ZG} {p : Program} {l : Launch} {e : Env} {s : State} {m : MethodId} {args : Array Value} {below : List Frame} {meth : Method} {c : Code} (hO : z_OK Γ) (G : z_GG Γ p s m args meth c cX9_readShip 3 RX9) (hr : meth.sig.returnType = none) (hnm : meth.name = "readShip") {r : ZH} : ∀ (l0 : Nat) (l1 : Int32) (s0 : Int32) (s1 : Nat) (h : ZH), xX9_readShip_B92  l0 l1 s0 s1 h = some r → z_W Γ p l e rmX9_readShip s m args below meth c 3 0 0 (MQ below (z_Qc Γ none r) args s rmX9_readShip.cells rmX9_readShip.slots (z_A Γ)) 92 [(0, .ref l0), (1, .int l1)] [.int s0, .ref s1] h := by
  intro l0 l1 s0 s1 h hX
  obtain ⟨hi92, hX⟩ := z_gu_s hX
  obtain ⟨h92, hv92, hX⟩ := z_bd hX
  refine z_cVV (pc := 92) (As := [.int s0]) (c2 := 0) (s2 := 0) G kK9 (lX9_must hO hv92) hi92 kt_1500 kt_11 kt_1497 kt_1499 ks_50 ydX9_must ⟨by decide, by decide⟩ rfl (Nat.le_of_ble_eq_true rfl) ⟨rfl, rfl⟩ ⟨by decide, by decide⟩ rfl dX9_readShip_92 ?_
  refine z_aload_n (pc := 95) G 0 dX9_readShip_95 rfl rfl ?_
  obtain ⟨x96, hv96, hX⟩ := z_bd hX
  refine z_getR (pc := 96) G kK9 (k := 21) (by decide) kt_1247 dX9_readShip_96 hv96 ?_
  refine z_iload_n (pc := 99) G 1 dX9_readShip_99 rfl rfl ?_
  refine z_aload_n (pc := 100) G 0 dX9_readShip_100 rfl rfl ?_
  refine z_ldc2 (pc := 101) G kt_1435 dX9_readShip_101 ?_
  refine z_iconst (pc := 104) (v := 0) G dX9_readShip_104 (by decide) ?_
  refine z_bipush (pc := 105) (v := 99) G dX9_readShip_105 (by decide) ?_
  obtain ⟨hi107, hX⟩ := z_gu_s hX
  obtain ⟨r107, hv107, hX⟩ := z_bd hX
  refine z_cVI (pc := 107) (As := [.long (24948 : Int64), .int (0 : Int32), .int (99 : Int32)]) (c2 := 0) (s2 := 0) G kK9 (lX9_after hO hv107) hi107 kt_1504 kt_11 kt_1501 kt_1503 ks_51 ydX9_after ⟨by decide, by decide⟩ rfl (Nat.le_of_ble_eq_true rfl) ⟨rfl, rfl⟩ ⟨by decide, by decide⟩ rfl dX9_readShip_107 ?_
  obtain ⟨h110, hv110, hX⟩ := z_bd hX
  refine z_iast (pc := 110) G dX9_readShip_110 hv110 ?_
  refine z_aload_n (pc := 111) G 0 dX9_readShip_111 rfl rfl ?_
  obtain ⟨x112, hv112, hX⟩ := z_bd hX
  refine z_getR (pc := 112) G kK9 (k := 22) (by decide) kt_1248 dX9_readShip_112 hv112 ?_
  refine z_iload_n (pc := 115) G 1 dX9_readShip_115 rfl rfl ?_
  refine z_aload_n (pc := 116) G 0 dX9_readShip_116 rfl rfl ?_
  refine z_iconst (pc := 117) (v := 0) G dX9_readShip_117 (by decide) ?_
  refine z_bipush (pc := 118) (v := 99) G dX9_readShip_118 (by decide) ?_
  obtain ⟨hi120, hX⟩ := z_gu_s hX
  obtain ⟨r120, hv120, hX⟩ := z_bd hX
  refine z_cVI (pc := 120) (As := [.int (0 : Int32), .int (99 : Int32)]) (c2 := 0) (s2 := 0) G kK9 (lX9_numeral hO hv120) hi120 kt_1492 kt_11 kt_1489 kt_1491 ks_48 ydX9_numeral ⟨by decide, by decide⟩ rfl (Nat.le_of_ble_eq_true rfl) ⟨rfl, rfl⟩ ⟨by decide, by decide⟩ rfl dX9_readShip_120 ?_
  obtain ⟨h123, hv123, hX⟩ := z_bd hX
  refine z_iast (pc := 123) G dX9_readShip_123 hv123 ?_
  refine z_aload_n (pc := 124) G 0 dX9_readShip_124 rfl rfl ?_
  obtain ⟨x125, hv125, hX⟩ := z_bd hX
  refine z_getR (pc := 125) G kK9 (k := 23) (by decide) kt_1249 dX9_readShip_125 hv125 ?_
  refine z_iload_n (pc := 128) G 1 dX9_readShip_128 rfl rfl ?_
  refine z_iconst (pc := 129) (v := 0) G dX9_readShip_129 (by decide) ?_
  obtain ⟨h130, hv130, hX⟩ := z_bd hX
  refine z_iast (pc := 130) G dX9_readShip_130 hv130 ?_
  refine z_aload_n (pc := 131) G 0 dX9_readShip_131 rfl rfl ?_
  obtain ⟨x132, hv132, hX⟩ := z_bd hX
  refine z_getR (pc := 132) G kK9 (k := 24) (by decide) kt_1250 dX9_readShip_132 hv132 ?_
  refine z_iload_n (pc := 135) G 1 dX9_readShip_135 rfl rfl ?_
  refine z_iconst (pc := 136) (v := 0) G dX9_readShip_136 (by decide) ?_
  obtain ⟨h137, hv137, hX⟩ := z_bd hX
  refine z_iast (pc := 137) G dX9_readShip_137 hv137 ?_
  refine z_aload_n (pc := 138) G 0 dX9_readShip_138 rfl rfl ?_
  obtain ⟨x139, hv139, hX⟩ := z_bd hX
  refine z_getR (pc := 139) G kK9 (k := 25) (by decide) kt_1251 dX9_readShip_139 hv139 ?_
  refine z_iload_n (pc := 142) G 1 dX9_readShip_142 rfl rfl ?_
  refine z_iconst (pc := 143) (v := 0) G dX9_readShip_143 (by decide) ?_
  obtain ⟨h144, hv144, hX⟩ := z_bd hX
  refine z_iast (pc := 144) G dX9_readShip_144 hv144 ?_
  refine z_aload_n (pc := 145) G 0 dX9_readShip_145 rfl rfl ?_
  obtain ⟨hi146, hX⟩ := z_gu_s hX
  obtain ⟨r146, hv146, hX⟩ := z_bd hX
  refine z_cVI (pc := 146) (As := []) (c2 := 0) (s2 := 0) G kK9 (lX9_isGood hO hv146) hi146 kt_1457 kt_11 kt_1454 kt_1456 ks_40 ydX9_isGood ⟨by decide, by decide⟩ rfl (Nat.le_of_ble_eq_true rfl) ⟨rfl, rfl⟩ ⟨by decide, by decide⟩ rfl dX9_readShip_146 ?_
  refine z_if_eq (pc := 149) (tgt := 191) G dX9_readShip_149 (by decide) (fun hc149 => ?_) (fun hc149 => ?_)
  · have hX := z_it hc149 hX
    exact wX9_readShip_B191 hO G hr hnm _ _ _ hX
  · have hX := z_if hc149 hX
    refine z_aload_n (pc := 152) G 0 dX9_readShip_152 rfl rfl ?_
    refine z_ldc2 (pc := 153) G kt_1436 dX9_readShip_153 ?_
    obtain ⟨hi156, hX⟩ := z_gu_s hX
    obtain ⟨r156, hv156, hX⟩ := z_bd hX
    refine z_cVI (pc := 156) (As := [.long (470021465459 : Int64)]) (c2 := 0) (s2 := 0) G kK9 (lX9_isWord hO hv156) hi156 kt_1469 kt_11 kt_1466 kt_1468 ks_43 ydX9_isWord ⟨by decide, by decide⟩ rfl (Nat.le_of_ble_eq_true rfl) ⟨rfl, rfl⟩ ⟨by decide, by decide⟩ rfl dX9_readShip_156 ?_
    refine z_if_eq (pc := 159) (tgt := 191) G dX9_readShip_159 (by decide) (fun hc159 => ?_) (fun hc159 => ?_)
    · have hX := z_it hc159 hX
      exact wX9_readShip_B191 hO G hr hnm _ _ _ hX
    · have hX := z_if hc159 hX
      refine z_aload_n (pc := 162) G 0 dX9_readShip_162 rfl rfl ?_
      obtain ⟨x163, hv163, hX⟩ := z_bd hX
      refine z_getR (pc := 163) G kK9 (k := 23) (by decide) kt_1249 dX9_readShip_163 hv163 ?_
      refine z_iload_n (pc := 166) G 1 dX9_readShip_166 rfl rfl ?_
      refine z_aload_n (pc := 167) G 0 dX9_readShip_167 rfl rfl ?_
      refine z_ldc2 (pc := 168) G kt_1436 dX9_readShip_168 ?_
      refine z_iconst (pc := 171) (v := 0) G dX9_readShip_171 (by decide) ?_
      refine z_bipush (pc := 172) (v := 99) G dX9_readShip_172 (by decide) ?_
      obtain ⟨hi174, hX⟩ := z_gu_s hX
      obtain ⟨r174, hv174, hX⟩ := z_bd hX
      refine z_cVI (pc := 174) (As := [.long (470021465459 : Int64), .int (0 : Int32), .int (99 : Int32)]) (c2 := 0) (s2 := 0) G kK9 (lX9_after hO hv174) hi174 kt_1504 kt_11 kt_1501 kt_1503 ks_51 ydX9_after ⟨by decide, by decide⟩ rfl (Nat.le_of_ble_eq_true rfl) ⟨rfl, rfl⟩ ⟨by decide, by decide⟩ rfl dX9_readShip_174 ?_
      obtain ⟨h177, hv177, hX⟩ := z_bd hX
      refine z_iast (pc := 177) G dX9_readShip_177 hv177 ?_
      refine z_aload_n (pc := 178) G 0 dX9_readShip_178 rfl rfl ?_
      obtain ⟨x179, hv179, hX⟩ := z_bd hX
      refine z_getR (pc := 179) G kK9 (k := 24) (by decide) kt_1250 dX9_readShip_179 hv179 ?_
      refine z_iload_n (pc := 182) G 1 dX9_readShip_182 rfl rfl ?_
      refine z_aload_n (pc := 183) G 0 dX9_readShip_183 rfl rfl ?_
      refine z_iconst (pc := 184) (v := 0) G dX9_readShip_184 (by decide) ?_
      refine z_bipush (pc := 185) (v := 99) G dX9_readShip_185 (by decide) ?_
      obtain ⟨hi187, hX⟩ := z_gu_s hX
      obtain ⟨r187, hv187, hX⟩ := z_bd hX
      refine z_cVI (pc := 187) (As := [.int (0 : Int32), .int (99 : Int32)]) (c2 := 0) (s2 := 0) G kK9 (lX9_numeral hO hv187) hi187 kt_1492 kt_11 kt_1489 kt_1491 ks_48 ydX9_numeral ⟨by decide, by decide⟩ rfl (Nat.le_of_ble_eq_true rfl) ⟨rfl, rfl⟩ ⟨by decide, by decide⟩ rfl dX9_readShip_187 ?_
      obtain ⟨h190, hv190, hX⟩ := z_bd hX
      refine z_iast (pc := 190) G dX9_readShip_190 hv190 ?_
      exact wX9_readShip_B191 hO G hr hnm _ _ _ hX
noncomputable def xX9_readShip_B68 (l0 : Nat) (l1 : Int32) (h : ZH) : Option ZH := ((z_gR h l0 9 28).bind fun x69 => ((z_gJ h l0 9 10).bind fun x74 => ((z_uJ h x69 l1 x74).bind fun h77 => ((z_gI h77 l0 9 8).bind fun x80 => (if x80 = (2 : Int32) then xX9_readShip_B92 l0 l1 (1 : Int32) l0 h77 else xX9_readShip_B92 l0 l1 (0 : Int32) l0 h77)))))
set_option maxHeartbeats 4000000 in
set_option maxRecDepth 100000 in
theorem wX9_readShip_B68 {Γ : ZG} {p : Program} {l : Launch} {e : Env} {s : State} {m : MethodId} {args : Array Value} {below : List Frame} {meth : Method} {c : Code} (hO : z_OK Γ) (G : z_GG Γ p s m args meth c cX9_readShip 3 RX9) (hr : meth.sig.returnType = none) (hnm : meth.name = "readShip") {r : ZH} : ∀ (l0 : Nat) (l1 : Int32) (h : ZH), xX9_readShip_B68  l0 l1 h = some r → z_W Γ p l e rmX9_readShip s m args below meth c 3 0 0 (MQ below (z_Qc Γ none r) args s rmX9_readShip.cells rmX9_readShip.slots (z_A Γ)) 68 [(0, .ref l0), (1, .int l1)] [] h := by
  intro l0 l1 h hX
  refine z_aload_n (pc := 68) G 0 dX9_readShip_68 rfl rfl ?_
  obtain ⟨x69, hv69, hX⟩ := z_bd hX
  refine z_getR (pc := 69) G kK9 (k := 28) (by decide) kt_1254 dX9_readShip_69 hv69 ?_
  refine z_iload_n (pc := 72) G 1 dX9_readShip_72 rfl rfl ?_
  refine z_aload_n (pc := 73) G 0 dX9_readShip_73 rfl rfl ?_
  obtain ⟨x74, hv74, hX⟩ := z_bd hX
  refine z_getJ (pc := 74) G kK9 (k := 10) (by decide) kt_1236 dX9_readShip_74 hv74 ?_
  obtain ⟨h77, hv77, hX⟩ := z_bd hX
  refine z_last (pc := 77) G dX9_readShip_77 hv77 ?_
  refine z_aload_n (pc := 78) G 0 dX9_readShip_78 rfl rfl ?_
  refine z_aload_n (pc := 79) G 0 dX9_readShip_79 rfl rfl ?_
  obtain ⟨x80, hv80, hX⟩ := z_bd hX
  refine z_getI (pc := 80) G kK9 (k := 8) (by decide) kt_1234 dX9_readShip_80 hv80 ?_
  refine z_iconst (pc := 83) (v := 2) G dX9_readShip_83 (by decide) ?_
  refine z_icmp_ne (pc := 84) (tgt := 91) G dX9_readShip_84 (by decide) (fun hc84 => ?_) (fun hc84 => ?_)
  · have hX := z_if hc84 hX
    refine z_iconst (pc := 91) (v := 0) G dX9_readShip_91 (by decide) ?_
    exact wX9_readShip_B92 hO G hr hnm _ _ _ _ _ hX
  · have hX := z_it hc84 hX
    refine z_iconst (pc := 87) (v := 1) G dX9_readShip_87 (by decide) ?_
    refine z_goto (pc := 88) (tgt := 92) G dX9_readShip_88 (by decide) ?_
    exact wX9_readShip_B92 hO G hr hnm _ _ _ _ _ hX
noncomputable def xX9_readShip_B26 (r26 : Nat → Int32 → Int32 → ZH → Option ZH) (l0 : Nat) (l1 : Int32) (l2 : Int32) (h : ZH) : Option ZH := (if l1 ≤ l2 then xX9_readShip_B68 l0 l1 h else ((z_gI h l0 9 8).bind fun x32 => (if x32 = (2 : Int32) then ((z_gR h l0 9 28).bind fun x40 => ((z_aJ h x40 l2).bind fun x44 => ((z_gJ h l0 9 10).bind fun x46 => (if (lg_cmp x44 x46) = 0 then ((z_gI h l0 9 6).bind fun x56 => (z_gu (z_is h l0 9) ((xX9_fails l0 (3 : Int32) x56 h).bind fun h59 => r26 l0 l1 (l2 + 1) h59))) else r26 l0 l1 (l2 + 1) h)))) else r26 l0 l1 (l2 + 1) h)))
noncomputable def xX9_readShip_L26 (n : Nat) : Nat → Int32 → Int32 → ZH → Option ZH := Nat.rec (motive := fun _ => Nat → Int32 → Int32 → ZH → Option ZH) (fun _ _ _ _ => none) (fun _ rec => xX9_readShip_B26  rec) n
set_option maxHeartbeats 4000000 in
set_option maxRecDepth 100000 in
theorem wX9_readShip_B26 {Γ : ZG} {p : Program} {l : Launch} {e : Env} {s : State} {m : MethodId} {args : Array Value} {below : List Frame} {meth : Method} {c : Code} (hO : z_OK Γ) (G : z_GG Γ p s m args meth c cX9_readShip 3 RX9) (hr : meth.sig.returnType = none) (hnm : meth.name = "readShip") {r : ZH} {r26 : Nat → Int32 → Int32 → ZH → Option ZH} (H26 : ∀ (l0 : Nat) (l1 : Int32) (l2 : Int32) (h : ZH), r26 l0 l1 l2 h = some r → z_W Γ p l e rmX9_readShip s m args below meth c 3 0 0 (MQ below (z_Qc Γ none r) args s rmX9_readShip.cells rmX9_readShip.slots (z_A Γ)) 26 [(0, .ref l0), (1, .int l1), (2, .int l2)] [] h) : ∀ (l0 : Nat) (l1 : Int32) (l2 : Int32) (h : ZH), xX9_readShip_B26  r26 l0 l1 l2 h = some r → z_W Γ p l e rmX9_readShip s m args below meth c 3 0 0 (MQ below (z_Qc Γ none r) args s rmX9_readShip.cells rmX9_readShip.slots (z_A Γ)) 26 [(0, .ref l0), (1, .int l1), (2, .int l2)] [] h := by
  intro l0 l1 l2 h hX
  refine z_iload_n (pc := 26) G 2 dX9_readShip_26 rfl rfl ?_
  refine z_iload_n (pc := 27) G 1 dX9_readShip_27 rfl rfl ?_
  refine z_icmp_ge (pc := 28) (tgt := 68) G dX9_readShip_28 (by decide) (fun hc28 => ?_) (fun hc28 => ?_)
  · have hX := z_it hc28 hX
    refine z_drop (lv2 := [(0, .ref l0), (1, .int l1)]) [0, 1] rfl ?_
    exact wX9_readShip_B68 hO G hr hnm _ _ _ hX
  · have hX := z_if hc28 hX
    refine z_aload_n (pc := 31) G 0 dX9_readShip_31 rfl rfl ?_
    obtain ⟨x32, hv32, hX⟩ := z_bd hX
    refine z_getI (pc := 32) G kK9 (k := 8) (by decide) kt_1234 dX9_readShip_32 hv32 ?_
    refine z_iconst (pc := 35) (v := 2) G dX9_readShip_35 (by decide) ?_
    refine z_icmp_ne (pc := 36) (tgt := 62) G dX9_readShip_36 (by decide) (fun hc36 => ?_) (fun hc36 => ?_)
    · have hX := z_if hc36 hX
      refine z_iincw (pc := 62) (w := 1) (lv2 := [(0, .ref l0), (1, .int l1), (2, .int (l2 + 1))]) G 2 dX9_readShip_62 rfl (by decide) (by decide) rfl rfl ?_
      refine z_goto (pc := 65) (tgt := 26) G dX9_readShip_65 (by decide) ?_
      exact H26 _ _ _ _ hX
    · have hX := z_it hc36 hX
      refine z_aload_n (pc := 39) G 0 dX9_readShip_39 rfl rfl ?_
      obtain ⟨x40, hv40, hX⟩ := z_bd hX
      refine z_getR (pc := 40) G kK9 (k := 28) (by decide) kt_1254 dX9_readShip_40 hv40 ?_
      refine z_iload_n (pc := 43) G 2 dX9_readShip_43 rfl rfl ?_
      obtain ⟨x44, hv44, hX⟩ := z_bd hX
      refine z_lald (pc := 44) G dX9_readShip_44 hv44 ?_
      refine z_aload_n (pc := 45) G 0 dX9_readShip_45 rfl rfl ?_
      obtain ⟨x46, hv46, hX⟩ := z_bd hX
      refine z_getJ (pc := 46) G kK9 (k := 10) (by decide) kt_1236 dX9_readShip_46 hv46 ?_
      refine z_lcmp (pc := 49) G dX9_readShip_49 ?_
      refine z_if_ne (pc := 50) (tgt := 62) G dX9_readShip_50 (by decide) (fun hc50 => ?_) (fun hc50 => ?_)
      · have hX := z_if hc50 hX
        refine z_iincw (pc := 62) (w := 1) (lv2 := [(0, .ref l0), (1, .int l1), (2, .int (l2 + 1))]) G 2 dX9_readShip_62 rfl (by decide) (by decide) rfl rfl ?_
        refine z_goto (pc := 65) (tgt := 26) G dX9_readShip_65 (by decide) ?_
        exact H26 _ _ _ _ hX
      · have hX := z_it hc50 hX
        refine z_aload_n (pc := 53) G 0 dX9_readShip_53 rfl rfl ?_
        refine z_iconst (pc := 54) (v := 3) G dX9_readShip_54 (by decide) ?_
        refine z_aload_n (pc := 55) G 0 dX9_readShip_55 rfl rfl ?_
        obtain ⟨x56, hv56, hX⟩ := z_bd hX
        refine z_getI (pc := 56) G kK9 (k := 6) (by decide) kt_1232 dX9_readShip_56 hv56 ?_
        obtain ⟨hi59, hX⟩ := z_gu_s hX
        obtain ⟨h59, hv59, hX⟩ := z_bd hX
        refine z_cVV (pc := 59) (As := [.int (3 : Int32), .int x56]) (c2 := 0) (s2 := 0) G kK9 (lX9_fails hO hv59) hi59 kt_1484 kt_11 kt_1481 kt_1483 ks_46 ydX9_fails ⟨by decide, by decide⟩ rfl (Nat.le_of_ble_eq_true rfl) ⟨rfl, rfl⟩ ⟨by decide, by decide⟩ rfl dX9_readShip_59 ?_
        refine z_iincw (pc := 62) (w := 1) (lv2 := [(0, .ref l0), (1, .int l1), (2, .int (l2 + 1))]) G 2 dX9_readShip_62 rfl (by decide) (by decide) rfl rfl ?_
        refine z_goto (pc := 65) (tgt := 26) G dX9_readShip_65 (by decide) ?_
        exact H26 _ _ _ _ hX
set_option maxHeartbeats 4000000 in
set_option maxRecDepth 100000 in
theorem wX9_readShip_L26 {Γ : ZG} {p : Program} {l : Launch} {e : Env} {s : State} {m : MethodId} {args : Array Value} {below : List Frame} {meth : Method} {c : Code} (hO : z_OK Γ) (G : z_GG Γ p s m args meth c cX9_readShip 3 RX9) (hr : meth.sig.returnType = none) (hnm : meth.name = "readShip") {r : ZH} : ∀ (nn : Nat) (l0 : Nat) (l1 : Int32) (l2 : Int32) (h : ZH), xX9_readShip_L26  nn l0 l1 l2 h = some r → z_W Γ p l e rmX9_readShip s m args below meth c 3 0 0 (MQ below (z_Qc Γ none r) args s rmX9_readShip.cells rmX9_readShip.slots (z_A Γ)) 26 [(0, .ref l0), (1, .int l1), (2, .int l2)] [] h := by
  intro nn
  induction nn with
  | zero => intro l0 l1 l2 h hX; cases hX
  | succ nn ih => intro l0 l1 l2 h hX; exact wX9_readShip_B26 hO G hr hnm  ih l0 l1 l2 h hX
noncomputable def xX9_readShip (l0 : Nat) (h : ZH) : Option ZH := ((z_gI h l0 9 35).bind fun x3 => ((z_gR h l0 9 11).bind fun x8 => ((z_gI h l0 9 35).bind fun x12 => ((z_aI h x8 x12).bind fun x15 => ((z_gI h l0 9 35).bind fun x21 => xX9_readShip_L26 zFU l0 (((6 : Int32) * x3) + x15) ((6 : Int32) * x21) h)))))
set_option maxHeartbeats 4000000 in
set_option maxRecDepth 100000 in
theorem lX9_readShip {Γ : ZG} {l : Launch} (hO : z_OK Γ) {l0 : Nat} {h : ZH} {r : ZH} (hX : xX9_readShip l0 h = some r) : z_M Γ l yX9_readShip (z_ws1 yX9_readShip cX9_readShip 3 none) rmX9_readShip [.ref l0] h none r := by
  refine z_start hO (plainFor_of_name (by decide)) (Nat.le_of_ble_eq_true rfl) ?_
  intro p e s m args below meth c G hr hnm
  refine z_lvc (lv2 := [(0, .ref l0)]) rfl ?_
  refine z_bipush (pc := 0) (v := 6) G dX9_readShip_0 (by decide) ?_
  refine z_aload_n (pc := 2) G 0 dX9_readShip_2 rfl rfl ?_
  obtain ⟨x3, hv3, hX⟩ := z_bd hX
  refine z_getI (pc := 3) G kK9 (k := 35) (by decide) kt_1261 dX9_readShip_3 hv3 ?_
  refine z_imul (pc := 6) G dX9_readShip_6 ?_
  refine z_aload_n (pc := 7) G 0 dX9_readShip_7 rfl rfl ?_
  obtain ⟨x8, hv8, hX⟩ := z_bd hX
  refine z_getR (pc := 8) G kK9 (k := 11) (by decide) kt_1237 dX9_readShip_8 hv8 ?_
  refine z_aload_n (pc := 11) G 0 dX9_readShip_11 rfl rfl ?_
  obtain ⟨x12, hv12, hX⟩ := z_bd hX
  refine z_getI (pc := 12) G kK9 (k := 35) (by decide) kt_1261 dX9_readShip_12 hv12 ?_
  obtain ⟨x15, hv15, hX⟩ := z_bd hX
  refine z_iald (pc := 15) G dX9_readShip_15 hv15 ?_
  refine z_iadd (pc := 16) G dX9_readShip_16 ?_
  refine z_istore_n (pc := 17) (lv2 := [(0, .ref l0), (1, .int (((6 : Int32) * x3) + x15))]) G dX9_readShip_17 rfl (by decide) rfl rfl ?_
  refine z_bipush (pc := 18) (v := 6) G dX9_readShip_18 (by decide) ?_
  refine z_aload_n (pc := 20) G 0 dX9_readShip_20 rfl rfl ?_
  obtain ⟨x21, hv21, hX⟩ := z_bd hX
  refine z_getI (pc := 21) G kK9 (k := 35) (by decide) kt_1261 dX9_readShip_21 hv21 ?_
  refine z_imul (pc := 24) G dX9_readShip_24 ?_
  refine z_istore_n (pc := 25) (lv2 := [(0, .ref l0), (1, .int (((6 : Int32) * x3) + x15)), (2, .int ((6 : Int32) * x21))]) G dX9_readShip_25 rfl (by decide) rfl rfl ?_
  exact wX9_readShip_L26 hO G hr hnm zFU _ _ _ _ hX
theorem dX9_readLine_0 : decode cX9_readLine 0 = .ok (.aload_n 0, 1) := by decide +kernel
theorem dX9_readLine_1 : decode cX9_readLine 1 = .ok (.getfield 204, 3) := by decide +kernel
theorem dX9_readLine_4 : decode cX9_readLine 4 = .ok (.lstore_n 1, 1) := by decide +kernel
theorem dX9_readLine_5 : decode cX9_readLine 5 = .ok (.aload_n 0, 1) := by decide +kernel
theorem dX9_readLine_6 : decode cX9_readLine 6 = .ok (.getfield 197, 3) := by decide +kernel
theorem dX9_readLine_9 : decode cX9_readLine 9 = .ok (.iconst 3, 1) := by decide +kernel
theorem dX9_readLine_10 : decode cX9_readLine 10 = .ok (.if_icmp .ne 10, 3) := by decide +kernel
theorem dX9_readLine_13 : decode cX9_readLine 13 = .ok (.aload_n 0, 1) := by decide +kernel
theorem dX9_readLine_14 : decode cX9_readLine 14 = .ok (.invokevirtual 269, 3) := by decide +kernel
theorem dX9_readLine_17 : decode cX9_readLine 17 = .ok (.ifCond .eq 7, 3) := by decide +kernel
theorem dX9_readLine_20 : decode cX9_readLine 20 = .ok (.aload_n 0, 1) := by decide +kernel
theorem dX9_readLine_21 : decode cX9_readLine 21 = .ok (.invokevirtual 232, 3) := by decide +kernel
theorem dX9_readLine_24 : decode cX9_readLine 24 = .ok (.aload_n 0, 1) := by decide +kernel
theorem dX9_readLine_25 : decode cX9_readLine 25 = .ok (.invokevirtual 225, 3) := by decide +kernel
theorem dX9_readLine_28 : decode cX9_readLine 28 = .ok (.ifCond .ne 4, 3) := by decide +kernel
theorem dX9_readLine_31 : decode cX9_readLine 31 = .ok (.return_, 1) := by decide +kernel
theorem dX9_readLine_32 : decode cX9_readLine 32 = .ok (.aload_n 0, 1) := by decide +kernel
theorem dX9_readLine_33 : decode cX9_readLine 33 = .ok (.invokevirtual 229, 3) := by decide +kernel
theorem dX9_readLine_36 : decode cX9_readLine 36 = .ok (.lload_n 1, 1) := by decide +kernel
theorem dX9_readLine_37 : decode cX9_readLine 37 = .ok (.ldc2_w 149, 3) := by decide +kernel
theorem dX9_readLine_40 : decode cX9_readLine 40 = .ok (.lcmp, 1) := by decide +kernel
theorem dX9_readLine_41 : decode cX9_readLine 41 = .ok (.ifCond .ne 21, 3) := by decide +kernel
theorem dX9_readLine_44 : decode cX9_readLine 44 = .ok (.aload_n 0, 1) := by decide +kernel
theorem dX9_readLine_45 : decode cX9_readLine 45 = .ok (.getfield 24, 3) := by decide +kernel
theorem dX9_readLine_48 : decode cX9_readLine 48 = .ok (.aload_n 0, 1) := by decide +kernel
theorem dX9_readLine_49 : decode cX9_readLine 49 = .ok (.getfield 246, 3) := by decide +kernel
theorem dX9_readLine_52 : decode cX9_readLine 52 = .ok (.aload_n 0, 1) := by decide +kernel
theorem dX9_readLine_53 : decode cX9_readLine 53 = .ok (.iconst 0, 1) := by decide +kernel
theorem dX9_readLine_54 : decode cX9_readLine 54 = .ok (.bipush 6, 2) := by decide +kernel
theorem dX9_readLine_56 : decode cX9_readLine 56 = .ok (.bipush 30, 2) := by decide +kernel
theorem dX9_readLine_58 : decode cX9_readLine 58 = .ok (.invokevirtual 272, 3) := by decide +kernel
theorem dX9_readLine_61 : decode cX9_readLine 61 = .ok (.iastore, 1) := by decide +kernel
theorem dX9_readLine_62 : decode cX9_readLine 62 = .ok (.lload_n 1, 1) := by decide +kernel
theorem dX9_readLine_63 : decode cX9_readLine 63 = .ok (.ldc2_w 151, 3) := by decide +kernel
theorem dX9_readLine_66 : decode cX9_readLine 66 = .ok (.lcmp, 1) := by decide +kernel
theorem dX9_readLine_67 : decode cX9_readLine 67 = .ok (.ifCond .ne 20, 3) := by decide +kernel
theorem dX9_readLine_70 : decode cX9_readLine 70 = .ok (.aload_n 0, 1) := by decide +kernel
theorem dX9_readLine_71 : decode cX9_readLine 71 = .ok (.getfield 27, 3) := by decide +kernel
theorem dX9_readLine_74 : decode cX9_readLine 74 = .ok (.aload_n 0, 1) := by decide +kernel
theorem dX9_readLine_75 : decode cX9_readLine 75 = .ok (.getfield 246, 3) := by decide +kernel
theorem dX9_readLine_78 : decode cX9_readLine 78 = .ok (.aload_n 0, 1) := by decide +kernel
theorem dX9_readLine_79 : decode cX9_readLine 79 = .ok (.iconst 1, 1) := by decide +kernel
theorem dX9_readLine_80 : decode cX9_readLine 80 = .ok (.iconst 1, 1) := by decide +kernel
theorem dX9_readLine_81 : decode cX9_readLine 81 = .ok (.bipush 99, 2) := by decide +kernel
theorem dX9_readLine_83 : decode cX9_readLine 83 = .ok (.invokevirtual 272, 3) := by decide +kernel
theorem dX9_readLine_86 : decode cX9_readLine 86 = .ok (.iastore, 1) := by decide +kernel
theorem dX9_readLine_87 : decode cX9_readLine 87 = .ok (.lload_n 1, 1) := by decide +kernel
theorem dX9_readLine_88 : decode cX9_readLine 88 = .ok (.ldc2_w 153, 3) := by decide +kernel
theorem dX9_readLine_91 : decode cX9_readLine 91 = .ok (.lcmp, 1) := by decide +kernel
theorem dX9_readLine_92 : decode cX9_readLine 92 = .ok (.ifCond .ne 20, 3) := by decide +kernel
theorem dX9_readLine_95 : decode cX9_readLine 95 = .ok (.aload_n 0, 1) := by decide +kernel
theorem dX9_readLine_96 : decode cX9_readLine 96 = .ok (.getfield 30, 3) := by decide +kernel
theorem dX9_readLine_99 : decode cX9_readLine 99 = .ok (.aload_n 0, 1) := by decide +kernel
theorem dX9_readLine_100 : decode cX9_readLine 100 = .ok (.getfield 246, 3) := by decide +kernel
theorem dX9_readLine_103 : decode cX9_readLine 103 = .ok (.aload_n 0, 1) := by decide +kernel
theorem dX9_readLine_104 : decode cX9_readLine 104 = .ok (.iconst 2, 1) := by decide +kernel
theorem dX9_readLine_105 : decode cX9_readLine 105 = .ok (.iconst 0, 1) := by decide +kernel
theorem dX9_readLine_106 : decode cX9_readLine 106 = .ok (.bipush 9, 2) := by decide +kernel
theorem dX9_readLine_108 : decode cX9_readLine 108 = .ok (.invokevirtual 272, 3) := by decide +kernel
theorem dX9_readLine_111 : decode cX9_readLine 111 = .ok (.iastore, 1) := by decide +kernel
theorem dX9_readLine_112 : decode cX9_readLine 112 = .ok (.lload_n 1, 1) := by decide +kernel
theorem dX9_readLine_113 : decode cX9_readLine 113 = .ok (.ldc2_w 155, 3) := by decide +kernel
theorem dX9_readLine_116 : decode cX9_readLine 116 = .ok (.lcmp, 1) := by decide +kernel
theorem dX9_readLine_117 : decode cX9_readLine 117 = .ok (.ifCond .ne 19, 3) := by decide +kernel
theorem dX9_readLine_120 : decode cX9_readLine 120 = .ok (.aload_n 0, 1) := by decide +kernel
theorem dX9_readLine_121 : decode cX9_readLine 121 = .ok (.getfield 33, 3) := by decide +kernel
theorem dX9_readLine_124 : decode cX9_readLine 124 = .ok (.aload_n 0, 1) := by decide +kernel
theorem dX9_readLine_125 : decode cX9_readLine 125 = .ok (.getfield 246, 3) := by decide +kernel
theorem dX9_readLine_128 : decode cX9_readLine 128 = .ok (.aload_n 0, 1) := by decide +kernel
theorem dX9_readLine_129 : decode cX9_readLine 129 = .ok (.iconst 3, 1) := by decide +kernel
theorem dX9_readLine_130 : decode cX9_readLine 130 = .ok (.iconst 1, 1) := by decide +kernel
theorem dX9_readLine_131 : decode cX9_readLine 131 = .ok (.iconst 4, 1) := by decide +kernel
theorem dX9_readLine_132 : decode cX9_readLine 132 = .ok (.invokevirtual 272, 3) := by decide +kernel
theorem dX9_readLine_135 : decode cX9_readLine 135 = .ok (.iastore, 1) := by decide +kernel
theorem dX9_readLine_136 : decode cX9_readLine 136 = .ok (.lload_n 1, 1) := by decide +kernel
theorem dX9_readLine_137 : decode cX9_readLine 137 = .ok (.ldc2_w 157, 3) := by decide +kernel
theorem dX9_readLine_140 : decode cX9_readLine 140 = .ok (.lcmp, 1) := by decide +kernel
theorem dX9_readLine_141 : decode cX9_readLine 141 = .ok (.ifCond .ne 20, 3) := by decide +kernel
theorem dX9_readLine_144 : decode cX9_readLine 144 = .ok (.aload_n 0, 1) := by decide +kernel
theorem dX9_readLine_145 : decode cX9_readLine 145 = .ok (.getfield 36, 3) := by decide +kernel
theorem dX9_readLine_148 : decode cX9_readLine 148 = .ok (.aload_n 0, 1) := by decide +kernel
theorem dX9_readLine_149 : decode cX9_readLine 149 = .ok (.getfield 246, 3) := by decide +kernel
theorem dX9_readLine_152 : decode cX9_readLine 152 = .ok (.aload_n 0, 1) := by decide +kernel
theorem dX9_readLine_153 : decode cX9_readLine 153 = .ok (.iconst 4, 1) := by decide +kernel
theorem dX9_readLine_154 : decode cX9_readLine 154 = .ok (.iconst 1, 1) := by decide +kernel
theorem dX9_readLine_155 : decode cX9_readLine 155 = .ok (.bipush 7, 2) := by decide +kernel
theorem dX9_readLine_157 : decode cX9_readLine 157 = .ok (.invokevirtual 272, 3) := by decide +kernel
theorem dX9_readLine_160 : decode cX9_readLine 160 = .ok (.iastore, 1) := by decide +kernel
theorem dX9_readLine_161 : decode cX9_readLine 161 = .ok (.lload_n 1, 1) := by decide +kernel
theorem dX9_readLine_162 : decode cX9_readLine 162 = .ok (.ldc2_w 159, 3) := by decide +kernel
theorem dX9_readLine_165 : decode cX9_readLine 165 = .ok (.lcmp, 1) := by decide +kernel
theorem dX9_readLine_166 : decode cX9_readLine 166 = .ok (.ifCond .ne 7, 3) := by decide +kernel
theorem dX9_readLine_169 : decode cX9_readLine 169 = .ok (.aload_n 0, 1) := by decide +kernel
theorem dX9_readLine_170 : decode cX9_readLine 170 = .ok (.invokevirtual 276, 3) := by decide +kernel
theorem dX9_readLine_173 : decode cX9_readLine 173 = .ok (.lload_n 1, 1) := by decide +kernel
theorem dX9_readLine_174 : decode cX9_readLine 174 = .ok (.ldc2_w 167, 3) := by decide +kernel
theorem dX9_readLine_177 : decode cX9_readLine 177 = .ok (.lcmp, 1) := by decide +kernel
theorem dX9_readLine_178 : decode cX9_readLine 178 = .ok (.ifCond .ne 7, 3) := by decide +kernel
theorem dX9_readLine_181 : decode cX9_readLine 181 = .ok (.aload_n 0, 1) := by decide +kernel
theorem dX9_readLine_182 : decode cX9_readLine 182 = .ok (.invokevirtual 279, 3) := by decide +kernel
theorem dX9_readLine_185 : decode cX9_readLine 185 = .ok (.lload_n 1, 1) := by decide +kernel
theorem dX9_readLine_186 : decode cX9_readLine 186 = .ok (.ldc2_w 169, 3) := by decide +kernel
theorem dX9_readLine_189 : decode cX9_readLine 189 = .ok (.lcmp, 1) := by decide +kernel
theorem dX9_readLine_190 : decode cX9_readLine 190 = .ok (.ifCond .ne 21, 3) := by decide +kernel
theorem dX9_readLine_193 : decode cX9_readLine 193 = .ok (.aload_n 0, 1) := by decide +kernel
theorem dX9_readLine_194 : decode cX9_readLine 194 = .ok (.getfield 42, 3) := by decide +kernel
theorem dX9_readLine_197 : decode cX9_readLine 197 = .ok (.aload_n 0, 1) := by decide +kernel
theorem dX9_readLine_198 : decode cX9_readLine 198 = .ok (.getfield 246, 3) := by decide +kernel
theorem dX9_readLine_201 : decode cX9_readLine 201 = .ok (.aload_n 0, 1) := by decide +kernel
theorem dX9_readLine_202 : decode cX9_readLine 202 = .ok (.bipush 6, 2) := by decide +kernel
theorem dX9_readLine_204 : decode cX9_readLine 204 = .ok (.iconst 0, 1) := by decide +kernel
theorem dX9_readLine_205 : decode cX9_readLine 205 = .ok (.bipush 100, 2) := by decide +kernel
theorem dX9_readLine_207 : decode cX9_readLine 207 = .ok (.invokevirtual 272, 3) := by decide +kernel
theorem dX9_readLine_210 : decode cX9_readLine 210 = .ok (.iastore, 1) := by decide +kernel
theorem dX9_readLine_211 : decode cX9_readLine 211 = .ok (.lload_n 1, 1) := by decide +kernel
theorem dX9_readLine_212 : decode cX9_readLine 212 = .ok (.ldc2_w 171, 3) := by decide +kernel
theorem dX9_readLine_215 : decode cX9_readLine 215 = .ok (.lcmp, 1) := by decide +kernel
theorem dX9_readLine_216 : decode cX9_readLine 216 = .ok (.ifCond .ne 22, 3) := by decide +kernel
theorem dX9_readLine_219 : decode cX9_readLine 219 = .ok (.aload_n 0, 1) := by decide +kernel
theorem dX9_readLine_220 : decode cX9_readLine 220 = .ok (.getfield 45, 3) := by decide +kernel
theorem dX9_readLine_223 : decode cX9_readLine 223 = .ok (.aload_n 0, 1) := by decide +kernel
theorem dX9_readLine_224 : decode cX9_readLine 224 = .ok (.getfield 246, 3) := by decide +kernel
theorem dX9_readLine_227 : decode cX9_readLine 227 = .ok (.aload_n 0, 1) := by decide +kernel
theorem dX9_readLine_228 : decode cX9_readLine 228 = .ok (.bipush 7, 2) := by decide +kernel
theorem dX9_readLine_230 : decode cX9_readLine 230 = .ok (.iconst 0, 1) := by decide +kernel
theorem dX9_readLine_231 : decode cX9_readLine 231 = .ok (.sipush 999, 3) := by decide +kernel
theorem dX9_readLine_234 : decode cX9_readLine 234 = .ok (.invokevirtual 272, 3) := by decide +kernel
theorem dX9_readLine_237 : decode cX9_readLine 237 = .ok (.iastore, 1) := by decide +kernel
theorem dX9_readLine_238 : decode cX9_readLine 238 = .ok (.aload_n 0, 1) := by decide +kernel
theorem dX9_readLine_239 : decode cX9_readLine 239 = .ok (.aload_n 0, 1) := by decide +kernel
theorem dX9_readLine_240 : decode cX9_readLine 240 = .ok (.bipush 59, 2) := by decide +kernel
theorem dX9_readLine_242 : decode cX9_readLine 242 = .ok (.invokevirtual 282, 3) := by decide +kernel
theorem dX9_readLine_245 : decode cX9_readLine 245 = .ok (.invokevirtual 238, 3) := by decide +kernel
theorem dX9_readLine_248 : decode cX9_readLine 248 = .ok (.return_, 1) := by decide +kernel
theorem ydX9_readLine : z_yd yX9_readLine 0 := ⟨by decide, by decide, by decide +kernel⟩
abbrev rmX9_readLine : Room := { frames := 6, cells := 0, slots := 0, locals := 127 }
noncomputable def xX9_readLine_B238 (l0 : Nat) (h : ZH) : Option ZH := (z_gu (z_is h l0 9) ((xX9_isSignHere l0 (59 : Int32) h).bind fun r242 => (z_gu (z_is r242.2 l0 9) ((xX9_must l0 r242.1 r242.2).bind fun h245 => some h245))))
set_option maxHeartbeats 4000000 in
set_option maxRecDepth 100000 in
theorem wX9_readLine_B238 {Γ : ZG} {p : Program} {l : Launch} {e : Env} {s : State} {m : MethodId} {args : Array Value} {below : List Frame} {meth : Method} {c : Code} (hO : z_OK Γ) (G : z_GG Γ p s m args meth c cX9_readLine 3 RX9) (hr : meth.sig.returnType = none) (hnm : meth.name = "readLine") {r : ZH} : ∀ (l0 : Nat) (h : ZH), xX9_readLine_B238  l0 h = some r → z_W Γ p l e rmX9_readLine s m args below meth c 3 0 0 (MQ below (z_Qc Γ none r) args s rmX9_readLine.cells rmX9_readLine.slots (z_A Γ)) 238 [(0, .ref l0)] [] h := by
  intro l0 h hX
  refine z_aload_n (pc := 238) G 0 dX9_readLine_238 rfl rfl ?_
  refine z_aload_n (pc := 239) G 0 dX9_readLine_239 rfl rfl ?_
  refine z_bipush (pc := 240) (v := 59) G dX9_readLine_240 (by decide) ?_
  obtain ⟨hi242, hX⟩ := z_gu_s hX
  obtain ⟨r242, hv242, hX⟩ := z_bd hX
  refine z_cVI (pc := 242) (As := [.int (59 : Int32)]) (c2 := 0) (s2 := 0) G kK9 (lX9_isSignHere hO hv242) hi242 kt_1524 kt_11 kt_1521 kt_1523 ks_56 ydX9_isSignHere ⟨by decide, by decide⟩ rfl (Nat.le_of_ble_eq_true rfl) ⟨rfl, rfl⟩ ⟨by decide, by decide⟩ rfl dX9_readLine_242 ?_
  obtain ⟨hi245, hX⟩ := z_gu_s hX
  obtain ⟨h245, hv245, hX⟩ := z_bd hX
  refine z_cVV (pc := 245) (As := [.int r242.1]) (c2 := 0) (s2 := 0) G kK9 (lX9_must hO hv245) hi245 kt_1500 kt_11 kt_1497 kt_1499 ks_50 ydX9_must ⟨by decide, by decide⟩ rfl (Nat.le_of_ble_eq_true rfl) ⟨rfl, rfl⟩ ⟨by decide, by decide⟩ rfl dX9_readLine_245 ?_
  exact z_vretX (pc := 248) hX G hr dX9_readLine_248 (by decide) (by decide)
noncomputable def xX9_readLine_B211 (l0 : Nat) (l1 : Int64) (h : ZH) : Option ZH := (if (lg_cmp l1 (1685217655 : Int64)) = 0 then ((z_gR h l0 9 19).bind fun x220 => ((z_gI h l0 9 35).bind fun x224 => (z_gu (z_is h l0 9) ((xX9_once l0 (7 : Int32) (0 : Int32) (999 : Int32) h).bind fun r234 => ((z_uI r234.2 x220 x224 r234.1).bind fun h237 => xX9_readLine_B238 l0 h237))))) else xX9_readLine_B238 l0 h)
set_option maxHeartbeats 4000000 in
set_option maxRecDepth 100000 in
theorem wX9_readLine_B211 {Γ : ZG} {p : Program} {l : Launch} {e : Env} {s : State} {m : MethodId} {args : Array Value} {below : List Frame} {meth : Method} {c : Code} (hO : z_OK Γ) (G : z_GG Γ p s m args meth c cX9_readLine 3 RX9) (hr : meth.sig.returnType = none) (hnm : meth.name = "readLine") {r : ZH} : ∀ (l0 : Nat) (l1 : Int64) (h : ZH), xX9_readLine_B211  l0 l1 h = some r → z_W Γ p l e rmX9_readLine s m args below meth c 3 0 0 (MQ below (z_Qc Γ none r) args s rmX9_readLine.cells rmX9_readLine.slots (z_A Γ)) 211 [(0, .ref l0), (1, .long l1)] [] h := by
  intro l0 l1 h hX
  refine z_lload_n (pc := 211) G 1 dX9_readLine_211 rfl rfl ?_
  refine z_ldc2 (pc := 212) G kt_1440 dX9_readLine_212 ?_
  refine z_lcmp (pc := 215) G dX9_readLine_215 ?_
  refine z_if_ne (pc := 216) (tgt := 238) G dX9_readLine_216 (by decide) (fun hc216 => ?_) (fun hc216 => ?_)
  · have hX := z_if hc216 hX
    refine z_drop (lv2 := [(0, .ref l0)]) [0] rfl ?_
    exact wX9_readLine_B238 hO G hr hnm _ _ hX
  · have hX := z_it hc216 hX
    refine z_aload_n (pc := 219) G 0 dX9_readLine_219 rfl rfl ?_
    obtain ⟨x220, hv220, hX⟩ := z_bd hX
    refine z_getR (pc := 220) G kK9 (k := 19) (by decide) kt_1245 dX9_readLine_220 hv220 ?_
    refine z_aload_n (pc := 223) G 0 dX9_readLine_223 rfl rfl ?_
    obtain ⟨x224, hv224, hX⟩ := z_bd hX
    refine z_getI (pc := 224) G kK9 (k := 35) (by decide) kt_1261 dX9_readLine_224 hv224 ?_
    refine z_aload_n (pc := 227) G 0 dX9_readLine_227 rfl rfl ?_
    refine z_bipush (pc := 228) (v := 7) G dX9_readLine_228 (by decide) ?_
    refine z_iconst (pc := 230) (v := 0) G dX9_readLine_230 (by decide) ?_
    refine z_sipush (pc := 231) (v := 999) G dX9_readLine_231 (by decide) ?_
    obtain ⟨hi234, hX⟩ := z_gu_s hX
    obtain ⟨r234, hv234, hX⟩ := z_bd hX
    refine z_cVI (pc := 234) (As := [.int (7 : Int32), .int (0 : Int32), .int (999 : Int32)]) (c2 := 0) (s2 := 0) G kK9 (lX9_once hO hv234) hi234 kt_1488 kt_11 kt_1485 kt_1487 ks_47 ydX9_once ⟨by decide, by decide⟩ rfl (Nat.le_of_ble_eq_true rfl) ⟨rfl, rfl⟩ ⟨by decide, by decide⟩ rfl dX9_readLine_234 ?_
    obtain ⟨h237, hv237, hX⟩ := z_bd hX
    refine z_iast (pc := 237) G dX9_readLine_237 hv237 ?_
    refine z_drop (lv2 := [(0, .ref l0)]) [0] rfl ?_
    exact wX9_readLine_B238 hO G hr hnm _ _ hX
noncomputable def xX9_readLine_B185 (l0 : Nat) (l1 : Int64) (h : ZH) : Option ZH := (if (lg_cmp l1 (439720633715 : Int64)) = 0 then ((z_gR h l0 9 18).bind fun x194 => ((z_gI h l0 9 35).bind fun x198 => (z_gu (z_is h l0 9) ((xX9_once l0 (6 : Int32) (0 : Int32) (100 : Int32) h).bind fun r207 => ((z_uI r207.2 x194 x198 r207.1).bind fun h210 => xX9_readLine_B211 l0 l1 h210))))) else xX9_readLine_B211 l0 l1 h)
set_option maxHeartbeats 4000000 in
set_option maxRecDepth 100000 in
theorem wX9_readLine_B185 {Γ : ZG} {p : Program} {l : Launch} {e : Env} {s : State} {m : MethodId} {args : Array Value} {below : List Frame} {meth : Method} {c : Code} (hO : z_OK Γ) (G : z_GG Γ p s m args meth c cX9_readLine 3 RX9) (hr : meth.sig.returnType = none) (hnm : meth.name = "readLine") {r : ZH} : ∀ (l0 : Nat) (l1 : Int64) (h : ZH), xX9_readLine_B185  l0 l1 h = some r → z_W Γ p l e rmX9_readLine s m args below meth c 3 0 0 (MQ below (z_Qc Γ none r) args s rmX9_readLine.cells rmX9_readLine.slots (z_A Γ)) 185 [(0, .ref l0), (1, .long l1)] [] h := by
  intro l0 l1 h hX
  refine z_lload_n (pc := 185) G 1 dX9_readLine_185 rfl rfl ?_
  refine z_ldc2 (pc := 186) G kt_1439 dX9_readLine_186 ?_
  refine z_lcmp (pc := 189) G dX9_readLine_189 ?_
  refine z_if_ne (pc := 190) (tgt := 211) G dX9_readLine_190 (by decide) (fun hc190 => ?_) (fun hc190 => ?_)
  · have hX := z_if hc190 hX
    exact wX9_readLine_B211 hO G hr hnm _ _ _ hX
  · have hX := z_it hc190 hX
    refine z_aload_n (pc := 193) G 0 dX9_readLine_193 rfl rfl ?_
    obtain ⟨x194, hv194, hX⟩ := z_bd hX
    refine z_getR (pc := 194) G kK9 (k := 18) (by decide) kt_1244 dX9_readLine_194 hv194 ?_
    refine z_aload_n (pc := 197) G 0 dX9_readLine_197 rfl rfl ?_
    obtain ⟨x198, hv198, hX⟩ := z_bd hX
    refine z_getI (pc := 198) G kK9 (k := 35) (by decide) kt_1261 dX9_readLine_198 hv198 ?_
    refine z_aload_n (pc := 201) G 0 dX9_readLine_201 rfl rfl ?_
    refine z_bipush (pc := 202) (v := 6) G dX9_readLine_202 (by decide) ?_
    refine z_iconst (pc := 204) (v := 0) G dX9_readLine_204 (by decide) ?_
    refine z_bipush (pc := 205) (v := 100) G dX9_readLine_205 (by decide) ?_
    obtain ⟨hi207, hX⟩ := z_gu_s hX
    obtain ⟨r207, hv207, hX⟩ := z_bd hX
    refine z_cVI (pc := 207) (As := [.int (6 : Int32), .int (0 : Int32), .int (100 : Int32)]) (c2 := 0) (s2 := 0) G kK9 (lX9_once hO hv207) hi207 kt_1488 kt_11 kt_1485 kt_1487 ks_47 ydX9_once ⟨by decide, by decide⟩ rfl (Nat.le_of_ble_eq_true rfl) ⟨rfl, rfl⟩ ⟨by decide, by decide⟩ rfl dX9_readLine_207 ?_
    obtain ⟨h210, hv210, hX⟩ := z_bd hX
    refine z_iast (pc := 210) G dX9_readLine_210 hv210 ?_
    exact wX9_readLine_B211 hO G hr hnm _ _ _ hX
noncomputable def xX9_readLine_B173 (l0 : Nat) (l1 : Int64) (h : ZH) : Option ZH := (if (lg_cmp l1 (32199680925529203 : Int64)) = 0 then (z_gu (z_is h l0 9) ((xX9_readRule l0 h).bind fun h182 => xX9_readLine_B185 l0 l1 h182)) else xX9_readLine_B185 l0 l1 h)
set_option maxHeartbeats 4000000 in
set_option maxRecDepth 100000 in
theorem wX9_readLine_B173 {Γ : ZG} {p : Program} {l : Launch} {e : Env} {s : State} {m : MethodId} {args : Array Value} {below : List Frame} {meth : Method} {c : Code} (hO : z_OK Γ) (G : z_GG Γ p s m args meth c cX9_readLine 3 RX9) (hr : meth.sig.returnType = none) (hnm : meth.name = "readLine") {r : ZH} : ∀ (l0 : Nat) (l1 : Int64) (h : ZH), xX9_readLine_B173  l0 l1 h = some r → z_W Γ p l e rmX9_readLine s m args below meth c 3 0 0 (MQ below (z_Qc Γ none r) args s rmX9_readLine.cells rmX9_readLine.slots (z_A Γ)) 173 [(0, .ref l0), (1, .long l1)] [] h := by
  intro l0 l1 h hX
  refine z_lload_n (pc := 173) G 1 dX9_readLine_173 rfl rfl ?_
  refine z_ldc2 (pc := 174) G kt_1438 dX9_readLine_174 ?_
  refine z_lcmp (pc := 177) G dX9_readLine_177 ?_
  refine z_if_ne (pc := 178) (tgt := 185) G dX9_readLine_178 (by decide) (fun hc178 => ?_) (fun hc178 => ?_)
  · have hX := z_if hc178 hX
    exact wX9_readLine_B185 hO G hr hnm _ _ _ hX
  · have hX := z_it hc178 hX
    refine z_aload_n (pc := 181) G 0 dX9_readLine_181 rfl rfl ?_
    obtain ⟨hi182, hX⟩ := z_gu_s hX
    obtain ⟨h182, hv182, hX⟩ := z_bd hX
    refine z_cVV (pc := 182) (As := []) (c2 := 0) (s2 := 0) G kK9 (lX9_readRule hO hv182) hi182 kt_1508 kt_11 kt_1505 kt_1507 ks_52 ydX9_readRule ⟨by decide, by decide⟩ rfl (Nat.le_of_ble_eq_true rfl) ⟨rfl, rfl⟩ ⟨by decide, by decide⟩ rfl dX9_readLine_182 ?_
    exact wX9_readLine_B185 hO G hr hnm _ _ _ hX
noncomputable def xX9_readLine_B161 (l0 : Nat) (l1 : Int64) (h : ZH) : Option ZH := (if (lg_cmp l1 (1936222576 : Int64)) = 0 then (z_gu (z_is h l0 9) ((xX9_readShip l0 h).bind fun h170 => xX9_readLine_B173 l0 l1 h170)) else xX9_readLine_B173 l0 l1 h)
set_option maxHeartbeats 4000000 in
set_option maxRecDepth 100000 in
theorem wX9_readLine_B161 {Γ : ZG} {p : Program} {l : Launch} {e : Env} {s : State} {m : MethodId} {args : Array Value} {below : List Frame} {meth : Method} {c : Code} (hO : z_OK Γ) (G : z_GG Γ p s m args meth c cX9_readLine 3 RX9) (hr : meth.sig.returnType = none) (hnm : meth.name = "readLine") {r : ZH} : ∀ (l0 : Nat) (l1 : Int64) (h : ZH), xX9_readLine_B161  l0 l1 h = some r → z_W Γ p l e rmX9_readLine s m args below meth c 3 0 0 (MQ below (z_Qc Γ none r) args s rmX9_readLine.cells rmX9_readLine.slots (z_A Γ)) 161 [(0, .ref l0), (1, .long l1)] [] h := by
  intro l0 l1 h hX
  refine z_lload_n (pc := 161) G 1 dX9_readLine_161 rfl rfl ?_
  refine z_ldc2 (pc := 162) G kt_1434 dX9_readLine_162 ?_
  refine z_lcmp (pc := 165) G dX9_readLine_165 ?_
  refine z_if_ne (pc := 166) (tgt := 173) G dX9_readLine_166 (by decide) (fun hc166 => ?_) (fun hc166 => ?_)
  · have hX := z_if hc166 hX
    exact wX9_readLine_B173 hO G hr hnm _ _ _ hX
  · have hX := z_it hc166 hX
    refine z_aload_n (pc := 169) G 0 dX9_readLine_169 rfl rfl ?_
    obtain ⟨hi170, hX⟩ := z_gu_s hX
    obtain ⟨h170, hv170, hX⟩ := z_bd hX
    refine z_cVV (pc := 170) (As := []) (c2 := 0) (s2 := 0) G kK9 (lX9_readShip hO hv170) hi170 kt_1496 kt_11 kt_1493 kt_1495 ks_49 ydX9_readShip ⟨by decide, by decide⟩ rfl (Nat.le_of_ble_eq_true rfl) ⟨rfl, rfl⟩ ⟨by decide, by decide⟩ rfl dX9_readLine_170 ?_
    exact wX9_readLine_B173 hO G hr hnm _ _ _ hX
noncomputable def xX9_readLine_B136 (l0 : Nat) (l1 : Int64) (h : ZH) : Option ZH := (if (lg_cmp l1 (461262647411 : Int64)) = 0 then ((z_gR h l0 9 16).bind fun x145 => ((z_gI h l0 9 35).bind fun x149 => (z_gu (z_is h l0 9) ((xX9_once l0 (4 : Int32) (1 : Int32) (7 : Int32) h).bind fun r157 => ((z_uI r157.2 x145 x149 r157.1).bind fun h160 => xX9_readLine_B161 l0 l1 h160))))) else xX9_readLine_B161 l0 l1 h)
set_option maxHeartbeats 4000000 in
set_option maxRecDepth 100000 in
theorem wX9_readLine_B136 {Γ : ZG} {p : Program} {l : Launch} {e : Env} {s : State} {m : MethodId} {args : Array Value} {below : List Frame} {meth : Method} {c : Code} (hO : z_OK Γ) (G : z_GG Γ p s m args meth c cX9_readLine 3 RX9) (hr : meth.sig.returnType = none) (hnm : meth.name = "readLine") {r : ZH} : ∀ (l0 : Nat) (l1 : Int64) (h : ZH), xX9_readLine_B136  l0 l1 h = some r → z_W Γ p l e rmX9_readLine s m args below meth c 3 0 0 (MQ below (z_Qc Γ none r) args s rmX9_readLine.cells rmX9_readLine.slots (z_A Γ)) 136 [(0, .ref l0), (1, .long l1)] [] h := by
  intro l0 l1 h hX
  refine z_lload_n (pc := 136) G 1 dX9_readLine_136 rfl rfl ?_
  refine z_ldc2 (pc := 137) G kt_1433 dX9_readLine_137 ?_
  refine z_lcmp (pc := 140) G dX9_readLine_140 ?_
  refine z_if_ne (pc := 141) (tgt := 161) G dX9_readLine_141 (by decide) (fun hc141 => ?_) (fun hc141 => ?_)
  · have hX := z_if hc141 hX
    exact wX9_readLine_B161 hO G hr hnm _ _ _ hX
  · have hX := z_it hc141 hX
    refine z_aload_n (pc := 144) G 0 dX9_readLine_144 rfl rfl ?_
    obtain ⟨x145, hv145, hX⟩ := z_bd hX
    refine z_getR (pc := 145) G kK9 (k := 16) (by decide) kt_1242 dX9_readLine_145 hv145 ?_
    refine z_aload_n (pc := 148) G 0 dX9_readLine_148 rfl rfl ?_
    obtain ⟨x149, hv149, hX⟩ := z_bd hX
    refine z_getI (pc := 149) G kK9 (k := 35) (by decide) kt_1261 dX9_readLine_149 hv149 ?_
    refine z_aload_n (pc := 152) G 0 dX9_readLine_152 rfl rfl ?_
    refine z_iconst (pc := 153) (v := 4) G dX9_readLine_153 (by decide) ?_
    refine z_iconst (pc := 154) (v := 1) G dX9_readLine_154 (by decide) ?_
    refine z_bipush (pc := 155) (v := 7) G dX9_readLine_155 (by decide) ?_
    obtain ⟨hi157, hX⟩ := z_gu_s hX
    obtain ⟨r157, hv157, hX⟩ := z_bd hX
    refine z_cVI (pc := 157) (As := [.int (4 : Int32), .int (1 : Int32), .int (7 : Int32)]) (c2 := 0) (s2 := 0) G kK9 (lX9_once hO hv157) hi157 kt_1488 kt_11 kt_1485 kt_1487 ks_47 ydX9_once ⟨by decide, by decide⟩ rfl (Nat.le_of_ble_eq_true rfl) ⟨rfl, rfl⟩ ⟨by decide, by decide⟩ rfl dX9_readLine_157 ?_
    obtain ⟨h160, hv160, hX⟩ := z_bd hX
    refine z_iast (pc := 160) G dX9_readLine_160 hv160 ?_
    exact wX9_readLine_B161 hO G hr hnm _ _ _ hX
noncomputable def xX9_readLine_B112 (l0 : Nat) (l1 : Int64) (h : ZH) : Option ZH := (if (lg_cmp l1 (465557353332 : Int64)) = 0 then ((z_gR h l0 9 15).bind fun x121 => ((z_gI h l0 9 35).bind fun x125 => (z_gu (z_is h l0 9) ((xX9_once l0 (3 : Int32) (1 : Int32) (4 : Int32) h).bind fun r132 => ((z_uI r132.2 x121 x125 r132.1).bind fun h135 => xX9_readLine_B136 l0 l1 h135))))) else xX9_readLine_B136 l0 l1 h)
set_option maxHeartbeats 4000000 in
set_option maxRecDepth 100000 in
theorem wX9_readLine_B112 {Γ : ZG} {p : Program} {l : Launch} {e : Env} {s : State} {m : MethodId} {args : Array Value} {below : List Frame} {meth : Method} {c : Code} (hO : z_OK Γ) (G : z_GG Γ p s m args meth c cX9_readLine 3 RX9) (hr : meth.sig.returnType = none) (hnm : meth.name = "readLine") {r : ZH} : ∀ (l0 : Nat) (l1 : Int64) (h : ZH), xX9_readLine_B112  l0 l1 h = some r → z_W Γ p l e rmX9_readLine s m args below meth c 3 0 0 (MQ below (z_Qc Γ none r) args s rmX9_readLine.cells rmX9_readLine.slots (z_A Γ)) 112 [(0, .ref l0), (1, .long l1)] [] h := by
  intro l0 l1 h hX
  refine z_lload_n (pc := 112) G 1 dX9_readLine_112 rfl rfl ?_
  refine z_ldc2 (pc := 113) G kt_1432 dX9_readLine_113 ?_
  refine z_lcmp (pc := 116) G dX9_readLine_116 ?_
  refine z_if_ne (pc := 117) (tgt := 136) G dX9_readLine_117 (by decide) (fun hc117 => ?_) (fun hc117 => ?_)
  · have hX := z_if hc117 hX
    exact wX9_readLine_B136 hO G hr hnm _ _ _ hX
  · have hX := z_it hc117 hX
    refine z_aload_n (pc := 120) G 0 dX9_readLine_120 rfl rfl ?_
    obtain ⟨x121, hv121, hX⟩ := z_bd hX
    refine z_getR (pc := 121) G kK9 (k := 15) (by decide) kt_1241 dX9_readLine_121 hv121 ?_
    refine z_aload_n (pc := 124) G 0 dX9_readLine_124 rfl rfl ?_
    obtain ⟨x125, hv125, hX⟩ := z_bd hX
    refine z_getI (pc := 125) G kK9 (k := 35) (by decide) kt_1261 dX9_readLine_125 hv125 ?_
    refine z_aload_n (pc := 128) G 0 dX9_readLine_128 rfl rfl ?_
    refine z_iconst (pc := 129) (v := 3) G dX9_readLine_129 (by decide) ?_
    refine z_iconst (pc := 130) (v := 1) G dX9_readLine_130 (by decide) ?_
    refine z_iconst (pc := 131) (v := 4) G dX9_readLine_131 (by decide) ?_
    obtain ⟨hi132, hX⟩ := z_gu_s hX
    obtain ⟨r132, hv132, hX⟩ := z_bd hX
    refine z_cVI (pc := 132) (As := [.int (3 : Int32), .int (1 : Int32), .int (4 : Int32)]) (c2 := 0) (s2 := 0) G kK9 (lX9_once hO hv132) hi132 kt_1488 kt_11 kt_1485 kt_1487 ks_47 ydX9_once ⟨by decide, by decide⟩ rfl (Nat.le_of_ble_eq_true rfl) ⟨rfl, rfl⟩ ⟨by decide, by decide⟩ rfl dX9_readLine_132 ?_
    obtain ⟨h135, hv135, hX⟩ := z_bd hX
    refine z_iast (pc := 135) G dX9_readLine_135 hv135 ?_
    exact wX9_readLine_B136 hO G hr hnm _ _ _ hX
noncomputable def xX9_readLine_B87 (l0 : Nat) (l1 : Int64) (h : ZH) : Option ZH := (if (lg_cmp l1 (2003395685 : Int64)) = 0 then ((z_gR h l0 9 14).bind fun x96 => ((z_gI h l0 9 35).bind fun x100 => (z_gu (z_is h l0 9) ((xX9_once l0 (2 : Int32) (0 : Int32) (9 : Int32) h).bind fun r108 => ((z_uI r108.2 x96 x100 r108.1).bind fun h111 => xX9_readLine_B112 l0 l1 h111))))) else xX9_readLine_B112 l0 l1 h)
set_option maxHeartbeats 4000000 in
set_option maxRecDepth 100000 in
theorem wX9_readLine_B87 {Γ : ZG} {p : Program} {l : Launch} {e : Env} {s : State} {m : MethodId} {args : Array Value} {below : List Frame} {meth : Method} {c : Code} (hO : z_OK Γ) (G : z_GG Γ p s m args meth c cX9_readLine 3 RX9) (hr : meth.sig.returnType = none) (hnm : meth.name = "readLine") {r : ZH} : ∀ (l0 : Nat) (l1 : Int64) (h : ZH), xX9_readLine_B87  l0 l1 h = some r → z_W Γ p l e rmX9_readLine s m args below meth c 3 0 0 (MQ below (z_Qc Γ none r) args s rmX9_readLine.cells rmX9_readLine.slots (z_A Γ)) 87 [(0, .ref l0), (1, .long l1)] [] h := by
  intro l0 l1 h hX
  refine z_lload_n (pc := 87) G 1 dX9_readLine_87 rfl rfl ?_
  refine z_ldc2 (pc := 88) G kt_1431 dX9_readLine_88 ?_
  refine z_lcmp (pc := 91) G dX9_readLine_91 ?_
  refine z_if_ne (pc := 92) (tgt := 112) G dX9_readLine_92 (by decide) (fun hc92 => ?_) (fun hc92 => ?_)
  · have hX := z_if hc92 hX
    exact wX9_readLine_B112 hO G hr hnm _ _ _ hX
  · have hX := z_it hc92 hX
    refine z_aload_n (pc := 95) G 0 dX9_readLine_95 rfl rfl ?_
    obtain ⟨x96, hv96, hX⟩ := z_bd hX
    refine z_getR (pc := 96) G kK9 (k := 14) (by decide) kt_1240 dX9_readLine_96 hv96 ?_
    refine z_aload_n (pc := 99) G 0 dX9_readLine_99 rfl rfl ?_
    obtain ⟨x100, hv100, hX⟩ := z_bd hX
    refine z_getI (pc := 100) G kK9 (k := 35) (by decide) kt_1261 dX9_readLine_100 hv100 ?_
    refine z_aload_n (pc := 103) G 0 dX9_readLine_103 rfl rfl ?_
    refine z_iconst (pc := 104) (v := 2) G dX9_readLine_104 (by decide) ?_
    refine z_iconst (pc := 105) (v := 0) G dX9_readLine_105 (by decide) ?_
    refine z_bipush (pc := 106) (v := 9) G dX9_readLine_106 (by decide) ?_
    obtain ⟨hi108, hX⟩ := z_gu_s hX
    obtain ⟨r108, hv108, hX⟩ := z_bd hX
    refine z_cVI (pc := 108) (As := [.int (2 : Int32), .int (0 : Int32), .int (9 : Int32)]) (c2 := 0) (s2 := 0) G kK9 (lX9_once hO hv108) hi108 kt_1488 kt_11 kt_1485 kt_1487 ks_47 ydX9_once ⟨by decide, by decide⟩ rfl (Nat.le_of_ble_eq_true rfl) ⟨rfl, rfl⟩ ⟨by decide, by decide⟩ rfl dX9_readLine_108 ?_
    obtain ⟨h111, hv111, hX⟩ := z_bd hX
    refine z_iast (pc := 111) G dX9_readLine_111 hv111 ?_
    exact wX9_readLine_B112 hO G hr hnm _ _ _ hX
noncomputable def xX9_readLine_B62 (l0 : Nat) (l1 : Int64) (h : ZH) : Option ZH := (if (lg_cmp l1 (491260897125 : Int64)) = 0 then ((z_gR h l0 9 13).bind fun x71 => ((z_gI h l0 9 35).bind fun x75 => (z_gu (z_is h l0 9) ((xX9_once l0 (1 : Int32) (1 : Int32) (99 : Int32) h).bind fun r83 => ((z_uI r83.2 x71 x75 r83.1).bind fun h86 => xX9_readLine_B87 l0 l1 h86))))) else xX9_readLine_B87 l0 l1 h)
set_option maxHeartbeats 4000000 in
set_option maxRecDepth 100000 in
theorem wX9_readLine_B62 {Γ : ZG} {p : Program} {l : Launch} {e : Env} {s : State} {m : MethodId} {args : Array Value} {below : List Frame} {meth : Method} {c : Code} (hO : z_OK Γ) (G : z_GG Γ p s m args meth c cX9_readLine 3 RX9) (hr : meth.sig.returnType = none) (hnm : meth.name = "readLine") {r : ZH} : ∀ (l0 : Nat) (l1 : Int64) (h : ZH), xX9_readLine_B62  l0 l1 h = some r → z_W Γ p l e rmX9_readLine s m args below meth c 3 0 0 (MQ below (z_Qc Γ none r) args s rmX9_readLine.cells rmX9_readLine.slots (z_A Γ)) 62 [(0, .ref l0), (1, .long l1)] [] h := by
  intro l0 l1 h hX
  refine z_lload_n (pc := 62) G 1 dX9_readLine_62 rfl rfl ?_
  refine z_ldc2 (pc := 63) G kt_1430 dX9_readLine_63 ?_
  refine z_lcmp (pc := 66) G dX9_readLine_66 ?_
  refine z_if_ne (pc := 67) (tgt := 87) G dX9_readLine_67 (by decide) (fun hc67 => ?_) (fun hc67 => ?_)
  · have hX := z_if hc67 hX
    exact wX9_readLine_B87 hO G hr hnm _ _ _ hX
  · have hX := z_it hc67 hX
    refine z_aload_n (pc := 70) G 0 dX9_readLine_70 rfl rfl ?_
    obtain ⟨x71, hv71, hX⟩ := z_bd hX
    refine z_getR (pc := 71) G kK9 (k := 13) (by decide) kt_1239 dX9_readLine_71 hv71 ?_
    refine z_aload_n (pc := 74) G 0 dX9_readLine_74 rfl rfl ?_
    obtain ⟨x75, hv75, hX⟩ := z_bd hX
    refine z_getI (pc := 75) G kK9 (k := 35) (by decide) kt_1261 dX9_readLine_75 hv75 ?_
    refine z_aload_n (pc := 78) G 0 dX9_readLine_78 rfl rfl ?_
    refine z_iconst (pc := 79) (v := 1) G dX9_readLine_79 (by decide) ?_
    refine z_iconst (pc := 80) (v := 1) G dX9_readLine_80 (by decide) ?_
    refine z_bipush (pc := 81) (v := 99) G dX9_readLine_81 (by decide) ?_
    obtain ⟨hi83, hX⟩ := z_gu_s hX
    obtain ⟨r83, hv83, hX⟩ := z_bd hX
    refine z_cVI (pc := 83) (As := [.int (1 : Int32), .int (1 : Int32), .int (99 : Int32)]) (c2 := 0) (s2 := 0) G kK9 (lX9_once hO hv83) hi83 kt_1488 kt_11 kt_1485 kt_1487 ks_47 ydX9_once ⟨by decide, by decide⟩ rfl (Nat.le_of_ble_eq_true rfl) ⟨rfl, rfl⟩ ⟨by decide, by decide⟩ rfl dX9_readLine_83 ?_
    obtain ⟨h86, hv86, hX⟩ := z_bd hX
    refine z_iast (pc := 86) G dX9_readLine_86 hv86 ?_
    exact wX9_readLine_B87 hO G hr hnm _ _ _ hX
noncomputable def xX9_readLine_B24 (l0 : Nat) (l1 : Int64) (h : ZH) : Option ZH := (z_gu (z_is h l0 9) ((xX9_isGood l0 h).bind fun r25 => (if r25.1 = 0 then some r25.2 else (z_gu (z_is r25.2 l0 9) ((xX9_goOn l0 r25.2).bind fun h33 => (if (lg_cmp l1 (495740482675 : Int64)) = 0 then ((z_gR h33 l0 9 12).bind fun x45 => ((z_gI h33 l0 9 35).bind fun x49 => (z_gu (z_is h33 l0 9) ((xX9_once l0 (0 : Int32) (6 : Int32) (30 : Int32) h33).bind fun r58 => ((z_uI r58.2 x45 x49 r58.1).bind fun h61 => xX9_readLine_B62 l0 l1 h61))))) else xX9_readLine_B62 l0 l1 h33))))))
set_option maxHeartbeats 4000000 in
set_option maxRecDepth 100000 in
theorem wX9_readLine_B24 {Γ : ZG} {p : Program} {l : Launch} {e : Env} {s : State} {m : MethodId} {args : Array Value} {below : List Frame} {meth : Method} {c : Code} (hO : z_OK Γ) (G : z_GG Γ p s m args meth c cX9_readLine 3 RX9) (hr : meth.sig.returnType = none) (hnm : meth.name = "readLine") {r : ZH} : ∀ (l0 : Nat) (l1 : Int64) (h : ZH), xX9_readLine_B24  l0 l1 h = some r → z_W Γ p l e rmX9_readLine s m args below meth c 3 0 0 (MQ below (z_Qc Γ none r) args s rmX9_readLine.cells rmX9_readLine.slots (z_A Γ)) 24 [(0, .ref l0), (1, .long l1)] [] h := by
  intro l0 l1 h hX
  refine z_aload_n (pc := 24) G 0 dX9_readLine_24 rfl rfl ?_
  obtain ⟨hi25, hX⟩ := z_gu_s hX
  obtain ⟨r25, hv25, hX⟩ := z_bd hX
  refine z_cVI (pc := 25) (As := []) (c2 := 0) (s2 := 0) G kK9 (lX9_isGood hO hv25) hi25 kt_1457 kt_11 kt_1454 kt_1456 ks_40 ydX9_isGood ⟨by decide, by decide⟩ rfl (Nat.le_of_ble_eq_true rfl) ⟨rfl, rfl⟩ ⟨by decide, by decide⟩ rfl dX9_readLine_25 ?_
  refine z_if_ne (pc := 28) (tgt := 32) G dX9_readLine_28 (by decide) (fun hc28 => ?_) (fun hc28 => ?_)
  · have hX := z_if hc28 hX
    refine z_aload_n (pc := 32) G 0 dX9_readLine_32 rfl rfl ?_
    obtain ⟨hi33, hX⟩ := z_gu_s hX
    obtain ⟨h33, hv33, hX⟩ := z_bd hX
    refine z_cVV (pc := 33) (As := []) (c2 := 0) (s2 := 0) G kK9 (lX9_goOn hO hv33) hi33 kt_1418 kt_11 kt_1415 kt_1417 ks_38 ydX9_goOn ⟨by decide, by decide⟩ rfl (Nat.le_of_ble_eq_true rfl) ⟨rfl, rfl⟩ ⟨by decide, by decide⟩ rfl dX9_readLine_33 ?_
    refine z_lload_n (pc := 36) G 1 dX9_readLine_36 rfl rfl ?_
    refine z_ldc2 (pc := 37) G kt_1429 dX9_readLine_37 ?_
    refine z_lcmp (pc := 40) G dX9_readLine_40 ?_
    refine z_if_ne (pc := 41) (tgt := 62) G dX9_readLine_41 (by decide) (fun hc41 => ?_) (fun hc41 => ?_)
    · have hX := z_if hc41 hX
      exact wX9_readLine_B62 hO G hr hnm _ _ _ hX
    · have hX := z_it hc41 hX
      refine z_aload_n (pc := 44) G 0 dX9_readLine_44 rfl rfl ?_
      obtain ⟨x45, hv45, hX⟩ := z_bd hX
      refine z_getR (pc := 45) G kK9 (k := 12) (by decide) kt_1238 dX9_readLine_45 hv45 ?_
      refine z_aload_n (pc := 48) G 0 dX9_readLine_48 rfl rfl ?_
      obtain ⟨x49, hv49, hX⟩ := z_bd hX
      refine z_getI (pc := 49) G kK9 (k := 35) (by decide) kt_1261 dX9_readLine_49 hv49 ?_
      refine z_aload_n (pc := 52) G 0 dX9_readLine_52 rfl rfl ?_
      refine z_iconst (pc := 53) (v := 0) G dX9_readLine_53 (by decide) ?_
      refine z_bipush (pc := 54) (v := 6) G dX9_readLine_54 (by decide) ?_
      refine z_bipush (pc := 56) (v := 30) G dX9_readLine_56 (by decide) ?_
      obtain ⟨hi58, hX⟩ := z_gu_s hX
      obtain ⟨r58, hv58, hX⟩ := z_bd hX
      refine z_cVI (pc := 58) (As := [.int (0 : Int32), .int (6 : Int32), .int (30 : Int32)]) (c2 := 0) (s2 := 0) G kK9 (lX9_once hO hv58) hi58 kt_1488 kt_11 kt_1485 kt_1487 ks_47 ydX9_once ⟨by decide, by decide⟩ rfl (Nat.le_of_ble_eq_true rfl) ⟨rfl, rfl⟩ ⟨by decide, by decide⟩ rfl dX9_readLine_58 ?_
      obtain ⟨h61, hv61, hX⟩ := z_bd hX
      refine z_iast (pc := 61) G dX9_readLine_61 hv61 ?_
      exact wX9_readLine_B62 hO G hr hnm _ _ _ hX
  · have hX := z_it hc28 hX
    exact z_vretX (pc := 31) hX G hr dX9_readLine_31 (by decide) (by decide)
noncomputable def xX9_readLine_B20 (l0 : Nat) (l1 : Int64) (h : ZH) : Option ZH := (z_gu (z_is h l0 9) ((xX9_misplaced l0 h).bind fun h21 => xX9_readLine_B24 l0 l1 h21))
set_option maxHeartbeats 4000000 in
set_option maxRecDepth 100000 in
theorem wX9_readLine_B20 {Γ : ZG} {p : Program} {l : Launch} {e : Env} {s : State} {m : MethodId} {args : Array Value} {below : List Frame} {meth : Method} {c : Code} (hO : z_OK Γ) (G : z_GG Γ p s m args meth c cX9_readLine 3 RX9) (hr : meth.sig.returnType = none) (hnm : meth.name = "readLine") {r : ZH} : ∀ (l0 : Nat) (l1 : Int64) (h : ZH), xX9_readLine_B20  l0 l1 h = some r → z_W Γ p l e rmX9_readLine s m args below meth c 3 0 0 (MQ below (z_Qc Γ none r) args s rmX9_readLine.cells rmX9_readLine.slots (z_A Γ)) 20 [(0, .ref l0), (1, .long l1)] [] h := by
  intro l0 l1 h hX
  refine z_aload_n (pc := 20) G 0 dX9_readLine_20 rfl rfl ?_
  obtain ⟨hi21, hX⟩ := z_gu_s hX
  obtain ⟨h21, hv21, hX⟩ := z_bd hX
  refine z_cVV (pc := 21) (As := []) (c2 := 0) (s2 := 0) G kK9 (lX9_misplaced hO hv21) hi21 kt_1480 kt_11 kt_1477 kt_1479 ks_45 ydX9_misplaced ⟨by decide, by decide⟩ rfl (Nat.le_of_ble_eq_true rfl) ⟨rfl, rfl⟩ ⟨by decide, by decide⟩ rfl dX9_readLine_21 ?_
  exact wX9_readLine_B24 hO G hr hnm _ _ _ hX
noncomputable def xX9_readLine (l0 : Nat) (h : ZH) : Option ZH := ((z_gJ h l0 9 10).bind fun x1 => ((z_gI h l0 9 8).bind fun x6 => (if x6 = (3 : Int32) then (z_gu (z_is h l0 9) ((xX9_isFull l0 h).bind fun r14 => (if r14.1 = 0 then xX9_readLine_B24 l0 x1 r14.2 else xX9_readLine_B20 l0 x1 r14.2))) else xX9_readLine_B20 l0 x1 h)))
set_option maxHeartbeats 4000000 in
set_option maxRecDepth 100000 in
theorem lX9_readLine {Γ : ZG} {l : Launch} (hO : z_OK Γ) {l0 : Nat} {h : ZH} {r : ZH} (hX : xX9_readLine l0 h = some r) : z_M Γ l yX9_readLine (z_ws1 yX9_readLine cX9_readLine 3 none) rmX9_readLine [.ref l0] h none r := by
  refine z_start hO (plainFor_of_name (by decide)) (Nat.le_of_ble_eq_true rfl) ?_
  intro p e s m args below meth c G hr hnm
  refine z_lvc (lv2 := [(0, .ref l0)]) rfl ?_
  refine z_aload_n (pc := 0) G 0 dX9_readLine_0 rfl rfl ?_
  obtain ⟨x1, hv1, hX⟩ := z_bd hX
  refine z_getJ (pc := 1) G kK9 (k := 10) (by decide) kt_1236 dX9_readLine_1 hv1 ?_
  refine z_lstore_n (pc := 4) (lv2 := [(0, .ref l0), (1, .long x1)]) G dX9_readLine_4 rfl (by decide) rfl rfl ?_
  refine z_aload_n (pc := 5) G 0 dX9_readLine_5 rfl rfl ?_
  obtain ⟨x6, hv6, hX⟩ := z_bd hX
  refine z_getI (pc := 6) G kK9 (k := 8) (by decide) kt_1234 dX9_readLine_6 hv6 ?_
  refine z_iconst (pc := 9) (v := 3) G dX9_readLine_9 (by decide) ?_
  refine z_icmp_ne (pc := 10) (tgt := 20) G dX9_readLine_10 (by decide) (fun hc10 => ?_) (fun hc10 => ?_)
  · have hX := z_if hc10 hX
    exact wX9_readLine_B20 hO G hr hnm _ _ _ hX
  · have hX := z_it hc10 hX
    refine z_aload_n (pc := 13) G 0 dX9_readLine_13 rfl rfl ?_
    obtain ⟨hi14, hX⟩ := z_gu_s hX
    obtain ⟨r14, hv14, hX⟩ := z_bd hX
    refine z_cVI (pc := 14) (As := []) (c2 := 0) (s2 := 0) G kK9 (lX9_isFull hO hv14) hi14 kt_1465 kt_11 kt_1462 kt_1464 ks_42 ydX9_isFull ⟨by decide, by decide⟩ rfl (Nat.le_of_ble_eq_true rfl) ⟨rfl, rfl⟩ ⟨by decide, by decide⟩ rfl dX9_readLine_14 ?_
    refine z_if_eq (pc := 17) (tgt := 24) G dX9_readLine_17 (by decide) (fun hc17 => ?_) (fun hc17 => ?_)
    · have hX := z_it hc17 hX
      exact wX9_readLine_B24 hO G hr hnm _ _ _ hX
    · have hX := z_if hc17 hX
      exact wX9_readLine_B20 hO G hr hnm _ _ _ hX
theorem dX9_fleet_0 : decode cX9_fleet 0 = .ok (.aload_n 0, 1) := by decide +kernel
theorem dX9_fleet_1 : decode cX9_fleet 1 = .ok (.iconst 0, 1) := by decide +kernel
theorem dX9_fleet_2 : decode cX9_fleet 2 = .ok (.putfield 146, 3) := by decide +kernel
theorem dX9_fleet_5 : decode cX9_fleet 5 = .ok (.aload_n 0, 1) := by decide +kernel
theorem dX9_fleet_6 : decode cX9_fleet 6 = .ok (.iconst (-1), 1) := by decide +kernel
theorem dX9_fleet_7 : decode cX9_fleet 7 = .ok (.putfield 16, 3) := by decide +kernel
theorem dX9_fleet_10 : decode cX9_fleet 10 = .ok (.aload_n 0, 1) := by decide +kernel
theorem dX9_fleet_11 : decode cX9_fleet 11 = .ok (.aload_n 0, 1) := by decide +kernel
theorem dX9_fleet_12 : decode cX9_fleet 12 = .ok (.getfield 252, 3) := by decide +kernel
theorem dX9_fleet_15 : decode cX9_fleet 15 = .ok (.putfield 143, 3) := by decide +kernel
theorem dX9_fleet_18 : decode cX9_fleet 18 = .ok (.iconst 0, 1) := by decide +kernel
theorem dX9_fleet_19 : decode cX9_fleet 19 = .ok (.istore_n 1, 1) := by decide +kernel
theorem dX9_fleet_20 : decode cX9_fleet 20 = .ok (.iload_n 1, 1) := by decide +kernel
theorem dX9_fleet_21 : decode cX9_fleet 21 = .ok (.aload_n 0, 1) := by decide +kernel
theorem dX9_fleet_22 : decode cX9_fleet 22 = .ok (.getfield 143, 3) := by decide +kernel
theorem dX9_fleet_25 : decode cX9_fleet 25 = .ok (.if_icmp .ge 21, 3) := by decide +kernel
theorem dX9_fleet_28 : decode cX9_fleet 28 = .ok (.aload_n 0, 1) := by decide +kernel
theorem dX9_fleet_29 : decode cX9_fleet 29 = .ok (.getfield 13, 3) := by decide +kernel
theorem dX9_fleet_32 : decode cX9_fleet 32 = .ok (.iload_n 1, 1) := by decide +kernel
theorem dX9_fleet_33 : decode cX9_fleet 33 = .ok (.aload_n 0, 1) := by decide +kernel
theorem dX9_fleet_34 : decode cX9_fleet 34 = .ok (.getfield 7, 3) := by decide +kernel
theorem dX9_fleet_37 : decode cX9_fleet 37 = .ok (.iload_n 1, 1) := by decide +kernel
theorem dX9_fleet_38 : decode cX9_fleet 38 = .ok (.baload, 1) := by decide +kernel
theorem dX9_fleet_39 : decode cX9_fleet 39 = .ok (.bastore, 1) := by decide +kernel
theorem dX9_fleet_40 : decode cX9_fleet 40 = .ok (.iinc 1 1, 3) := by decide +kernel
theorem dX9_fleet_43 : decode cX9_fleet 43 = .ok (.goto (-23), 3) := by decide +kernel
theorem dX9_fleet_46 : decode cX9_fleet 46 = .ok (.aload_n 0, 1) := by decide +kernel
theorem dX9_fleet_47 : decode cX9_fleet 47 = .ok (.iconst 0, 1) := by decide +kernel
theorem dX9_fleet_48 : decode cX9_fleet 48 = .ok (.putfield 252, 3) := by decide +kernel
theorem dX9_fleet_51 : decode cX9_fleet 51 = .ok (.aload_n 0, 1) := by decide +kernel
theorem dX9_fleet_52 : decode cX9_fleet 52 = .ok (.iconst 0, 1) := by decide +kernel
theorem dX9_fleet_53 : decode cX9_fleet 53 = .ok (.putfield 187, 3) := by decide +kernel
theorem dX9_fleet_56 : decode cX9_fleet 56 = .ok (.aload_n 0, 1) := by decide +kernel
theorem dX9_fleet_57 : decode cX9_fleet 57 = .ok (.iconst 1, 1) := by decide +kernel
theorem dX9_fleet_58 : decode cX9_fleet 58 = .ok (.aload_n 0, 1) := by decide +kernel
theorem dX9_fleet_59 : decode cX9_fleet 59 = .ok (.getfield 255, 3) := by decide +kernel
theorem dX9_fleet_62 : decode cX9_fleet 62 = .ok (.isub, 1) := by decide +kernel
theorem dX9_fleet_63 : decode cX9_fleet 63 = .ok (.putfield 246, 3) := by decide +kernel
theorem dX9_fleet_66 : decode cX9_fleet 66 = .ok (.aload_n 0, 1) := by decide +kernel
theorem dX9_fleet_67 : decode cX9_fleet 67 = .ok (.invokevirtual 137, 3) := by decide +kernel
theorem dX9_fleet_70 : decode cX9_fleet 70 = .ok (.aload_n 0, 1) := by decide +kernel
theorem dX9_fleet_71 : decode cX9_fleet 71 = .ok (.invokevirtual 229, 3) := by decide +kernel
theorem dX9_fleet_74 : decode cX9_fleet 74 = .ok (.aload_n 0, 1) := by decide +kernel
theorem dX9_fleet_75 : decode cX9_fleet 75 = .ok (.invokevirtual 225, 3) := by decide +kernel
theorem dX9_fleet_78 : decode cX9_fleet 78 = .ok (.ifCond .eq 17, 3) := by decide +kernel
theorem dX9_fleet_81 : decode cX9_fleet 81 = .ok (.aload_n 0, 1) := by decide +kernel
theorem dX9_fleet_82 : decode cX9_fleet 82 = .ok (.getfield 197, 3) := by decide +kernel
theorem dX9_fleet_85 : decode cX9_fleet 85 = .ok (.ifCond .eq 10, 3) := by decide +kernel
theorem dX9_fleet_88 : decode cX9_fleet 88 = .ok (.aload_n 0, 1) := by decide +kernel
theorem dX9_fleet_89 : decode cX9_fleet 89 = .ok (.invokevirtual 258, 3) := by decide +kernel
theorem dX9_fleet_92 : decode cX9_fleet 92 = .ok (.goto (-18), 3) := by decide +kernel
theorem dX9_fleet_95 : decode cX9_fleet 95 = .ok (.aload_n 0, 1) := by decide +kernel
theorem dX9_fleet_96 : decode cX9_fleet 96 = .ok (.invokevirtual 225, 3) := by decide +kernel
theorem dX9_fleet_99 : decode cX9_fleet 99 = .ok (.ifCond .ne 5, 3) := by decide +kernel
theorem dX9_fleet_102 : decode cX9_fleet 102 = .ok (.iconst (-1), 1) := by decide +kernel
theorem dX9_fleet_103 : decode cX9_fleet 103 = .ok (.ireturn, 1) := by decide +kernel
theorem dX9_fleet_104 : decode cX9_fleet 104 = .ok (.aload_n 0, 1) := by decide +kernel
theorem dX9_fleet_105 : decode cX9_fleet 105 = .ok (.aload_n 0, 1) := by decide +kernel
theorem dX9_fleet_106 : decode cX9_fleet 106 = .ok (.getfield 246, 3) := by decide +kernel
theorem dX9_fleet_109 : decode cX9_fleet 109 = .ok (.putfield 255, 3) := by decide +kernel
theorem dX9_fleet_112 : decode cX9_fleet 112 = .ok (.aload_n 0, 1) := by decide +kernel
theorem dX9_fleet_113 : decode cX9_fleet 113 = .ok (.invokevirtual 140, 3) := by decide +kernel
theorem dX9_fleet_116 : decode cX9_fleet 116 = .ok (.aload_n 0, 1) := by decide +kernel
theorem dX9_fleet_117 : decode cX9_fleet 117 = .ok (.getfield 20, 3) := by decide +kernel
theorem dX9_fleet_120 : decode cX9_fleet 120 = .ok (.aload_n 0, 1) := by decide +kernel
theorem dX9_fleet_121 : decode cX9_fleet 121 = .ok (.getfield 255, 3) := by decide +kernel
theorem dX9_fleet_124 : decode cX9_fleet 124 = .ok (.iaload, 1) := by decide +kernel
theorem dX9_fleet_125 : decode cX9_fleet 125 = .ok (.ireturn, 1) := by decide +kernel
theorem ydX9_fleet : z_yd yX9_fleet 0 := ⟨by decide, by decide, by decide +kernel⟩
abbrev rmX9_fleet : Room := { frames := 7, cells := 0, slots := 0, locals := 149 }
noncomputable def xX9_fleet_B95 (l0 : Nat) (h : ZH) : Option (Int32 × ZH) := (z_gu (z_is h l0 9) ((xX9_isGood l0 h).bind fun r96 => (if r96.1 = 0 then some ((-1 : Int32), r96.2) else ((z_gI r96.2 l0 9 35).bind fun x106 => ((z_sF r96.2 l0 9 34 (.int x106)).bind fun h109 => (z_gu (z_is h109 l0 9) ((xX9_startAnew l0 h109).bind fun h113 => ((z_gR h113 l0 9 11).bind fun x117 => ((z_gI h113 l0 9 34).bind fun x121 => ((z_aI h113 x117 x121).bind fun x124 => some (x124, h113)))))))))))
set_option maxHeartbeats 4000000 in
set_option maxRecDepth 100000 in
theorem wX9_fleet_B95 {Γ : ZG} {p : Program} {l : Launch} {e : Env} {s : State} {m : MethodId} {args : Array Value} {below : List Frame} {meth : Method} {c : Code} (hO : z_OK Γ) (G : z_GG Γ p s m args meth c cX9_fleet 2 RX9) (hr : meth.sig.returnType = (some .int)) (hnm : meth.name = "fleet") {r : (Int32 × ZH)} : ∀ (l0 : Nat) (h : ZH), xX9_fleet_B95  l0 h = some r → z_W Γ p l e rmX9_fleet s m args below meth c 2 0 0 (MQ below (z_Qc Γ (some (.int r.1)) r.2) args s rmX9_fleet.cells rmX9_fleet.slots (z_A Γ)) 95 [(0, .ref l0)] [] h := by
  intro l0 h hX
  refine z_aload_n (pc := 95) G 0 dX9_fleet_95 rfl rfl ?_
  obtain ⟨hi96, hX⟩ := z_gu_s hX
  obtain ⟨r96, hv96, hX⟩ := z_bd hX
  refine z_cVI (pc := 96) (As := []) (c2 := 0) (s2 := 0) G kK9 (lX9_isGood hO hv96) hi96 kt_1457 kt_11 kt_1454 kt_1456 ks_40 ydX9_isGood ⟨by decide, by decide⟩ rfl (Nat.le_of_ble_eq_true rfl) ⟨rfl, rfl⟩ ⟨by decide, by decide⟩ rfl dX9_fleet_96 ?_
  refine z_if_ne (pc := 99) (tgt := 104) G dX9_fleet_99 (by decide) (fun hc99 => ?_) (fun hc99 => ?_)
  · have hX := z_if hc99 hX
    refine z_aload_n (pc := 104) G 0 dX9_fleet_104 rfl rfl ?_
    refine z_aload_n (pc := 105) G 0 dX9_fleet_105 rfl rfl ?_
    obtain ⟨x106, hv106, hX⟩ := z_bd hX
    refine z_getI (pc := 106) G kK9 (k := 35) (by decide) kt_1261 dX9_fleet_106 hv106 ?_
    obtain ⟨h109, hv109, hX⟩ := z_bd hX
    refine z_putF (pc := 109) G kK9 (k := 34) (by decide) kt_1260 (Or.inl rfl) rfl rfl dX9_fleet_109 hv109 ?_
    refine z_aload_n (pc := 112) G 0 dX9_fleet_112 rfl rfl ?_
    obtain ⟨hi113, hX⟩ := z_gu_s hX
    obtain ⟨h113, hv113, hX⟩ := z_bd hX
    refine z_cVV (pc := 113) (As := []) (c2 := 0) (s2 := 0) G kK9 (lX9_startAnew hO hv113) hi113 kt_1213 kt_11 kt_1210 kt_1212 ks_34 ydX9_startAnew ⟨by decide, by decide⟩ rfl (Nat.le_of_ble_eq_true rfl) ⟨rfl, rfl⟩ ⟨by decide, by decide⟩ rfl dX9_fleet_113 ?_
    refine z_aload_n (pc := 116) G 0 dX9_fleet_116 rfl rfl ?_
    obtain ⟨x117, hv117, hX⟩ := z_bd hX
    refine z_getR (pc := 117) G kK9 (k := 11) (by decide) kt_1237 dX9_fleet_117 hv117 ?_
    refine z_aload_n (pc := 120) G 0 dX9_fleet_120 rfl rfl ?_
    obtain ⟨x121, hv121, hX⟩ := z_bd hX
    refine z_getI (pc := 121) G kK9 (k := 34) (by decide) kt_1260 dX9_fleet_121 hv121 ?_
    obtain ⟨x124, hv124, hX⟩ := z_bd hX
    refine z_iald (pc := 124) G dX9_fleet_124 hv124 ?_
    exact z_iretX (pc := 125) hX G hr dX9_fleet_125 (by decide) (by decide)
  · have hX := z_it hc99 hX
    refine z_iconst (pc := 102) (v := (-1)) G dX9_fleet_102 (by decide) ?_
    exact z_iretX (pc := 103) hX G hr dX9_fleet_103 (by decide) (by decide)
noncomputable def xX9_fleet_B74 (r74 : Nat → ZH → Option (Int32 × ZH)) (l0 : Nat) (h : ZH) : Option (Int32 × ZH) := (z_gu (z_is h l0 9) ((xX9_isGood l0 h).bind fun r75 => (if r75.1 = 0 then xX9_fleet_B95 l0 r75.2 else ((z_gI r75.2 l0 9 8).bind fun x82 => (if x82 = 0 then xX9_fleet_B95 l0 r75.2 else (z_gu (z_is r75.2 l0 9) ((xX9_readLine l0 r75.2).bind fun h89 => r74 l0 h89)))))))
noncomputable def xX9_fleet_L74 (n : Nat) : Nat → ZH → Option (Int32 × ZH) := Nat.rec (motive := fun _ => Nat → ZH → Option (Int32 × ZH)) (fun _ _ => none) (fun _ rec => xX9_fleet_B74  rec) n
set_option maxHeartbeats 4000000 in
set_option maxRecDepth 100000 in
theorem wX9_fleet_B74 {Γ : ZG} {p : Program} {l : Launch} {e : Env} {s : State} {m : MethodId} {args : Array Value} {below : List Frame} {meth : Method} {c : Code} (hO : z_OK Γ) (G : z_GG Γ p s m args meth c cX9_fleet 2 RX9) (hr : meth.sig.returnType = (some .int)) (hnm : meth.name = "fleet") {r : (Int32 × ZH)} {r74 : Nat → ZH → Option (Int32 × ZH)} (H74 : ∀ (l0 : Nat) (h : ZH), r74 l0 h = some r → z_W Γ p l e rmX9_fleet s m args below meth c 2 0 0 (MQ below (z_Qc Γ (some (.int r.1)) r.2) args s rmX9_fleet.cells rmX9_fleet.slots (z_A Γ)) 74 [(0, .ref l0)] [] h) : ∀ (l0 : Nat) (h : ZH), xX9_fleet_B74  r74 l0 h = some r → z_W Γ p l e rmX9_fleet s m args below meth c 2 0 0 (MQ below (z_Qc Γ (some (.int r.1)) r.2) args s rmX9_fleet.cells rmX9_fleet.slots (z_A Γ)) 74 [(0, .ref l0)] [] h := by
  intro l0 h hX
  refine z_aload_n (pc := 74) G 0 dX9_fleet_74 rfl rfl ?_
  obtain ⟨hi75, hX⟩ := z_gu_s hX
  obtain ⟨r75, hv75, hX⟩ := z_bd hX
  refine z_cVI (pc := 75) (As := []) (c2 := 0) (s2 := 0) G kK9 (lX9_isGood hO hv75) hi75 kt_1457 kt_11 kt_1454 kt_1456 ks_40 ydX9_isGood ⟨by decide, by decide⟩ rfl (Nat.le_of_ble_eq_true rfl) ⟨rfl, rfl⟩ ⟨by decide, by decide⟩ rfl dX9_fleet_75 ?_
  refine z_if_eq (pc := 78) (tgt := 95) G dX9_fleet_78 (by decide) (fun hc78 => ?_) (fun hc78 => ?_)
  · have hX := z_it hc78 hX
    exact wX9_fleet_B95 hO G hr hnm _ _ hX
  · have hX := z_if hc78 hX
    refine z_aload_n (pc := 81) G 0 dX9_fleet_81 rfl rfl ?_
    obtain ⟨x82, hv82, hX⟩ := z_bd hX
    refine z_getI (pc := 82) G kK9 (k := 8) (by decide) kt_1234 dX9_fleet_82 hv82 ?_
    refine z_if_eq (pc := 85) (tgt := 95) G dX9_fleet_85 (by decide) (fun hc85 => ?_) (fun hc85 => ?_)
    · have hX := z_it hc85 hX
      exact wX9_fleet_B95 hO G hr hnm _ _ hX
    · have hX := z_if hc85 hX
      refine z_aload_n (pc := 88) G 0 dX9_fleet_88 rfl rfl ?_
      obtain ⟨hi89, hX⟩ := z_gu_s hX
      obtain ⟨h89, hv89, hX⟩ := z_bd hX
      refine z_cVV (pc := 89) (As := []) (c2 := 0) (s2 := 0) G kK9 (lX9_readLine hO hv89) hi89 kt_1461 kt_11 kt_1458 kt_1460 ks_41 ydX9_readLine ⟨by decide, by decide⟩ rfl (Nat.le_of_ble_eq_true rfl) ⟨rfl, rfl⟩ ⟨by decide, by decide⟩ rfl dX9_fleet_89 ?_
      refine z_goto (pc := 92) (tgt := 74) G dX9_fleet_92 (by decide) ?_
      exact H74 _ _ hX
set_option maxHeartbeats 4000000 in
set_option maxRecDepth 100000 in
theorem wX9_fleet_L74 {Γ : ZG} {p : Program} {l : Launch} {e : Env} {s : State} {m : MethodId} {args : Array Value} {below : List Frame} {meth : Method} {c : Code} (hO : z_OK Γ) (G : z_GG Γ p s m args meth c cX9_fleet 2 RX9) (hr : meth.sig.returnType = (some .int)) (hnm : meth.name = "fleet") {r : (Int32 × ZH)} : ∀ (nn : Nat) (l0 : Nat) (h : ZH), xX9_fleet_L74  nn l0 h = some r → z_W Γ p l e rmX9_fleet s m args below meth c 2 0 0 (MQ below (z_Qc Γ (some (.int r.1)) r.2) args s rmX9_fleet.cells rmX9_fleet.slots (z_A Γ)) 74 [(0, .ref l0)] [] h := by
  intro nn
  induction nn with
  | zero => intro l0 h hX; cases hX
  | succ nn ih => intro l0 h hX; exact wX9_fleet_B74 hO G hr hnm  ih l0 h hX
noncomputable def xX9_fleet_B46 (l0 : Nat) (h : ZH) : Option (Int32 × ZH) := ((z_sF h l0 9 2 (.int (0 : Int32))).bind fun h48 => ((z_sF h48 l0 9 7 (.int (0 : Int32))).bind fun h53 => ((z_gI h53 l0 9 34).bind fun x59 => ((z_sF h53 l0 9 35 (.int ((1 : Int32) - x59))).bind fun h63 => (z_gu (z_is h63 l0 9) ((xX9_clearBank l0 h63).bind fun h67 => (z_gu (z_is h67 l0 9) ((xX9_goOn l0 h67).bind fun h71 => xX9_fleet_L74 zFU l0 h71))))))))
set_option maxHeartbeats 4000000 in
set_option maxRecDepth 100000 in
theorem wX9_fleet_B46 {Γ : ZG} {p : Program} {l : Launch} {e : Env} {s : State} {m : MethodId} {args : Array Value} {below : List Frame} {meth : Method} {c : Code} (hO : z_OK Γ) (G : z_GG Γ p s m args meth c cX9_fleet 2 RX9) (hr : meth.sig.returnType = (some .int)) (hnm : meth.name = "fleet") {r : (Int32 × ZH)} : ∀ (l0 : Nat) (h : ZH), xX9_fleet_B46  l0 h = some r → z_W Γ p l e rmX9_fleet s m args below meth c 2 0 0 (MQ below (z_Qc Γ (some (.int r.1)) r.2) args s rmX9_fleet.cells rmX9_fleet.slots (z_A Γ)) 46 [(0, .ref l0)] [] h := by
  intro l0 h hX
  refine z_aload_n (pc := 46) G 0 dX9_fleet_46 rfl rfl ?_
  refine z_iconst (pc := 47) (v := 0) G dX9_fleet_47 (by decide) ?_
  obtain ⟨h48, hv48, hX⟩ := z_bd hX
  refine z_putF (pc := 48) G kK9 (k := 2) (by decide) kt_1228 (Or.inl rfl) rfl rfl dX9_fleet_48 hv48 ?_
  refine z_aload_n (pc := 51) G 0 dX9_fleet_51 rfl rfl ?_
  refine z_iconst (pc := 52) (v := 0) G dX9_fleet_52 (by decide) ?_
  obtain ⟨h53, hv53, hX⟩ := z_bd hX
  refine z_putF (pc := 53) G kK9 (k := 7) (by decide) kt_1233 (Or.inl rfl) rfl rfl dX9_fleet_53 hv53 ?_
  refine z_aload_n (pc := 56) G 0 dX9_fleet_56 rfl rfl ?_
  refine z_iconst (pc := 57) (v := 1) G dX9_fleet_57 (by decide) ?_
  refine z_aload_n (pc := 58) G 0 dX9_fleet_58 rfl rfl ?_
  obtain ⟨x59, hv59, hX⟩ := z_bd hX
  refine z_getI (pc := 59) G kK9 (k := 34) (by decide) kt_1260 dX9_fleet_59 hv59 ?_
  refine z_isub (pc := 62) G dX9_fleet_62 ?_
  obtain ⟨h63, hv63, hX⟩ := z_bd hX
  refine z_putF (pc := 63) G kK9 (k := 35) (by decide) kt_1261 (Or.inl rfl) rfl rfl dX9_fleet_63 hv63 ?_
  refine z_aload_n (pc := 66) G 0 dX9_fleet_66 rfl rfl ?_
  obtain ⟨hi67, hX⟩ := z_gu_s hX
  obtain ⟨h67, hv67, hX⟩ := z_bd hX
  refine z_cVV (pc := 67) (As := []) (c2 := 0) (s2 := 0) G kK9 (lX9_clearBank hO hv67) hi67 kt_1209 kt_11 kt_1206 kt_1208 ks_33 ydX9_clearBank ⟨by decide, by decide⟩ rfl (Nat.le_of_ble_eq_true rfl) ⟨rfl, rfl⟩ ⟨by decide, by decide⟩ rfl dX9_fleet_67 ?_
  refine z_aload_n (pc := 70) G 0 dX9_fleet_70 rfl rfl ?_
  obtain ⟨hi71, hX⟩ := z_gu_s hX
  obtain ⟨h71, hv71, hX⟩ := z_bd hX
  refine z_cVV (pc := 71) (As := []) (c2 := 0) (s2 := 0) G kK9 (lX9_goOn hO hv71) hi71 kt_1418 kt_11 kt_1415 kt_1417 ks_38 ydX9_goOn ⟨by decide, by decide⟩ rfl (Nat.le_of_ble_eq_true rfl) ⟨rfl, rfl⟩ ⟨by decide, by decide⟩ rfl dX9_fleet_71 ?_
  exact wX9_fleet_L74 hO G hr hnm zFU _ _ hX
noncomputable def xX9_fleet_B20 (r20 : Nat → Int32 → ZH → Option (Int32 × ZH)) (l0 : Nat) (l1 : Int32) (h : ZH) : Option (Int32 × ZH) := ((z_gI h l0 9 3).bind fun x22 => (if x22 ≤ l1 then xX9_fleet_B46 l0 h else ((z_gR h l0 9 1).bind fun x29 => ((z_gR h l0 9 0).bind fun x34 => ((z_aB h x34 l1).bind fun x38 => ((z_uB h x29 l1 x38).bind fun h39 => r20 l0 (l1 + 1) h39))))))
noncomputable def xX9_fleet_L20 (n : Nat) : Nat → Int32 → ZH → Option (Int32 × ZH) := Nat.rec (motive := fun _ => Nat → Int32 → ZH → Option (Int32 × ZH)) (fun _ _ _ => none) (fun _ rec => xX9_fleet_B20  rec) n
set_option maxHeartbeats 4000000 in
set_option maxRecDepth 100000 in
theorem wX9_fleet_B20 {Γ : ZG} {p : Program} {l : Launch} {e : Env} {s : State} {m : MethodId} {args : Array Value} {below : List Frame} {meth : Method} {c : Code} (hO : z_OK Γ) (G : z_GG Γ p s m args meth c cX9_fleet 2 RX9) (hr : meth.sig.returnType = (some .int)) (hnm : meth.name = "fleet") {r : (Int32 × ZH)} {r20 : Nat → Int32 → ZH → Option (Int32 × ZH)} (H20 : ∀ (l0 : Nat) (l1 : Int32) (h : ZH), r20 l0 l1 h = some r → z_W Γ p l e rmX9_fleet s m args below meth c 2 0 0 (MQ below (z_Qc Γ (some (.int r.1)) r.2) args s rmX9_fleet.cells rmX9_fleet.slots (z_A Γ)) 20 [(0, .ref l0), (1, .int l1)] [] h) : ∀ (l0 : Nat) (l1 : Int32) (h : ZH), xX9_fleet_B20  r20 l0 l1 h = some r → z_W Γ p l e rmX9_fleet s m args below meth c 2 0 0 (MQ below (z_Qc Γ (some (.int r.1)) r.2) args s rmX9_fleet.cells rmX9_fleet.slots (z_A Γ)) 20 [(0, .ref l0), (1, .int l1)] [] h := by
  intro l0 l1 h hX
  refine z_iload_n (pc := 20) G 1 dX9_fleet_20 rfl rfl ?_
  refine z_aload_n (pc := 21) G 0 dX9_fleet_21 rfl rfl ?_
  obtain ⟨x22, hv22, hX⟩ := z_bd hX
  refine z_getI (pc := 22) G kK9 (k := 3) (by decide) kt_1229 dX9_fleet_22 hv22 ?_
  refine z_icmp_ge (pc := 25) (tgt := 46) G dX9_fleet_25 (by decide) (fun hc25 => ?_) (fun hc25 => ?_)
  · have hX := z_it hc25 hX
    refine z_drop (lv2 := [(0, .ref l0)]) [0] rfl ?_
    exact wX9_fleet_B46 hO G hr hnm _ _ hX
  · have hX := z_if hc25 hX
    refine z_aload_n (pc := 28) G 0 dX9_fleet_28 rfl rfl ?_
    obtain ⟨x29, hv29, hX⟩ := z_bd hX
    refine z_getR (pc := 29) G kK9 (k := 1) (by decide) kt_1227 dX9_fleet_29 hv29 ?_
    refine z_iload_n (pc := 32) G 1 dX9_fleet_32 rfl rfl ?_
    refine z_aload_n (pc := 33) G 0 dX9_fleet_33 rfl rfl ?_
    obtain ⟨x34, hv34, hX⟩ := z_bd hX
    refine z_getR (pc := 34) G kK9 (k := 0) (by decide) kt_1226 dX9_fleet_34 hv34 ?_
    refine z_iload_n (pc := 37) G 1 dX9_fleet_37 rfl rfl ?_
    obtain ⟨x38, hv38, hX⟩ := z_bd hX
    refine z_bald (pc := 38) G dX9_fleet_38 hv38 ?_
    obtain ⟨h39, hv39, hX⟩ := z_bd hX
    refine z_bast (pc := 39) G dX9_fleet_39 hv39 ?_
    refine z_iincw (pc := 40) (w := 1) (lv2 := [(0, .ref l0), (1, .int (l1 + 1))]) G 1 dX9_fleet_40 rfl (by decide) (by decide) rfl rfl ?_
    refine z_goto (pc := 43) (tgt := 20) G dX9_fleet_43 (by decide) ?_
    exact H20 _ _ _ hX
set_option maxHeartbeats 4000000 in
set_option maxRecDepth 100000 in
theorem wX9_fleet_L20 {Γ : ZG} {p : Program} {l : Launch} {e : Env} {s : State} {m : MethodId} {args : Array Value} {below : List Frame} {meth : Method} {c : Code} (hO : z_OK Γ) (G : z_GG Γ p s m args meth c cX9_fleet 2 RX9) (hr : meth.sig.returnType = (some .int)) (hnm : meth.name = "fleet") {r : (Int32 × ZH)} : ∀ (nn : Nat) (l0 : Nat) (l1 : Int32) (h : ZH), xX9_fleet_L20  nn l0 l1 h = some r → z_W Γ p l e rmX9_fleet s m args below meth c 2 0 0 (MQ below (z_Qc Γ (some (.int r.1)) r.2) args s rmX9_fleet.cells rmX9_fleet.slots (z_A Γ)) 20 [(0, .ref l0), (1, .int l1)] [] h := by
  intro nn
  induction nn with
  | zero => intro l0 l1 h hX; cases hX
  | succ nn ih => intro l0 l1 h hX; exact wX9_fleet_B20 hO G hr hnm  ih l0 l1 h hX
noncomputable def xX9_fleet (l0 : Nat) (h : ZH) : Option (Int32 × ZH) := ((z_sF h l0 9 4 (.int (0 : Int32))).bind fun h2 => ((z_sF h2 l0 9 5 (.int (-1 : Int32))).bind fun h7 => ((z_gI h7 l0 9 2).bind fun x12 => ((z_sF h7 l0 9 3 (.int x12)).bind fun h15 => xX9_fleet_L20 zFU l0 (0 : Int32) h15))))
set_option maxHeartbeats 4000000 in
set_option maxRecDepth 100000 in
theorem lX9_fleet {Γ : ZG} {l : Launch} (hO : z_OK Γ) {l0 : Nat} {h : ZH} {r : (Int32 × ZH)} (hX : xX9_fleet l0 h = some r) : z_M Γ l yX9_fleet (z_ws1 yX9_fleet cX9_fleet 2 (some .int)) rmX9_fleet [.ref l0] h (some (.int r.1)) r.2 := by
  refine z_start hO (plainFor_of_name (by decide)) (Nat.le_of_ble_eq_true rfl) ?_
  intro p e s m args below meth c G hr hnm
  refine z_lvc (lv2 := [(0, .ref l0)]) rfl ?_
  refine z_aload_n (pc := 0) G 0 dX9_fleet_0 rfl rfl ?_
  refine z_iconst (pc := 1) (v := 0) G dX9_fleet_1 (by decide) ?_
  obtain ⟨h2, hv2, hX⟩ := z_bd hX
  refine z_putF (pc := 2) G kK9 (k := 4) (by decide) kt_1230 (Or.inl rfl) rfl rfl dX9_fleet_2 hv2 ?_
  refine z_aload_n (pc := 5) G 0 dX9_fleet_5 rfl rfl ?_
  refine z_iconst (pc := 6) (v := (-1)) G dX9_fleet_6 (by decide) ?_
  obtain ⟨h7, hv7, hX⟩ := z_bd hX
  refine z_putF (pc := 7) G kK9 (k := 5) (by decide) kt_1231 (Or.inl rfl) rfl rfl dX9_fleet_7 hv7 ?_
  refine z_aload_n (pc := 10) G 0 dX9_fleet_10 rfl rfl ?_
  refine z_aload_n (pc := 11) G 0 dX9_fleet_11 rfl rfl ?_
  obtain ⟨x12, hv12, hX⟩ := z_bd hX
  refine z_getI (pc := 12) G kK9 (k := 2) (by decide) kt_1228 dX9_fleet_12 hv12 ?_
  obtain ⟨h15, hv15, hX⟩ := z_bd hX
  refine z_putF (pc := 15) G kK9 (k := 3) (by decide) kt_1229 (Or.inl rfl) rfl rfl dX9_fleet_15 hv15 ?_
  refine z_iconst (pc := 18) (v := 0) G dX9_fleet_18 (by decide) ?_
  refine z_istore_n (pc := 19) (lv2 := [(0, .ref l0), (1, .int (0 : Int32))]) G dX9_fleet_19 rfl (by decide) rfl rfl ?_
  exact wX9_fleet_L20 hO G hr hnm zFU _ _ _ hX
