theorem dX9_own_0 : decode cX9_own 0 = .ok (.aload_n 0, 1) := by decide +kernel
theorem dX9_own_1 : decode cX9_own 1 = .ok (.iload_n 1, 1) := by decide +kernel
theorem dX9_own_2 : decode cX9_own 2 = .ok (.invokevirtual 450, 3) := by decide +kernel
theorem dX9_own_5 : decode cX9_own 5 = .ok (.ifCond .eq 22, 3) := by decide +kernel
theorem dX9_own_8 : decode cX9_own 8 = .ok (.iload_n 2, 1) := by decide +kernel
theorem dX9_own_9 : decode cX9_own 9 = .ok (.iconst 0, 1) := by decide +kernel
theorem dX9_own_10 : decode cX9_own 10 = .ok (.aload_n 0, 1) := by decide +kernel
theorem dX9_own_11 : decode cX9_own 11 = .ok (.getfield 91, 3) := by decide +kernel
theorem dX9_own_14 : decode cX9_own 14 = .ok (.bipush 24, 2) := by decide +kernel
theorem dX9_own_16 : decode cX9_own 16 = .ok (.iload_n 1, 1) := by decide +kernel
theorem dX9_own_17 : decode cX9_own 17 = .ok (.iadd, 1) := by decide +kernel
theorem dX9_own_18 : decode cX9_own 18 = .ok (.iaload, 1) := by decide +kernel
theorem dX9_own_19 : decode cX9_own 19 = .ok (.iconst 1, 1) := by decide +kernel
theorem dX9_own_20 : decode cX9_own 20 = .ok (.isub, 1) := by decide +kernel
theorem dX9_own_21 : decode cX9_own 21 = .ok (.invokestatic 340, 3) := by decide +kernel
theorem dX9_own_24 : decode cX9_own 24 = .ok (.ifCond .ne 5, 3) := by decide +kernel
theorem dX9_own_27 : decode cX9_own 27 = .ok (.iconst (-1), 1) := by decide +kernel
theorem dX9_own_28 : decode cX9_own 28 = .ok (.ireturn, 1) := by decide +kernel
theorem dX9_own_29 : decode cX9_own 29 = .ok (.iconst 3, 1) := by decide +kernel
theorem dX9_own_30 : decode cX9_own 30 = .ok (.iload_n 1, 1) := by decide +kernel
theorem dX9_own_31 : decode cX9_own 31 = .ok (.imul, 1) := by decide +kernel
theorem dX9_own_32 : decode cX9_own 32 = .ok (.iload_n 2, 1) := by decide +kernel
theorem dX9_own_33 : decode cX9_own 33 = .ok (.iadd, 1) := by decide +kernel
theorem dX9_own_34 : decode cX9_own 34 = .ok (.istore 4, 2) := by decide +kernel
theorem dX9_own_36 : decode cX9_own 36 = .ok (.iload_n 3, 1) := by decide +kernel
theorem dX9_own_37 : decode cX9_own 37 = .ok (.ifCond .ne 16, 3) := by decide +kernel
theorem dX9_own_40 : decode cX9_own 40 = .ok (.aload_n 0, 1) := by decide +kernel
theorem dX9_own_41 : decode cX9_own 41 = .ok (.getfield 91, 3) := by decide +kernel
theorem dX9_own_44 : decode cX9_own 44 = .ok (.bipush 30, 2) := by decide +kernel
theorem dX9_own_46 : decode cX9_own 46 = .ok (.iload 4, 2) := by decide +kernel
theorem dX9_own_48 : decode cX9_own 48 = .ok (.iadd, 1) := by decide +kernel
theorem dX9_own_49 : decode cX9_own 49 = .ok (.iaload, 1) := by decide +kernel
theorem dX9_own_50 : decode cX9_own 50 = .ok (.goto 40, 3) := by decide +kernel
theorem dX9_own_53 : decode cX9_own 53 = .ok (.iload_n 3, 1) := by decide +kernel
theorem dX9_own_54 : decode cX9_own 54 = .ok (.iconst 1, 1) := by decide +kernel
theorem dX9_own_55 : decode cX9_own 55 = .ok (.if_icmp .ne 16, 3) := by decide +kernel
theorem dX9_own_58 : decode cX9_own 58 = .ok (.aload_n 0, 1) := by decide +kernel
theorem dX9_own_59 : decode cX9_own 59 = .ok (.getfield 91, 3) := by decide +kernel
theorem dX9_own_62 : decode cX9_own 62 = .ok (.bipush 48, 2) := by decide +kernel
theorem dX9_own_64 : decode cX9_own 64 = .ok (.iload 4, 2) := by decide +kernel
theorem dX9_own_66 : decode cX9_own 66 = .ok (.iadd, 1) := by decide +kernel
theorem dX9_own_67 : decode cX9_own 67 = .ok (.iaload, 1) := by decide +kernel
theorem dX9_own_68 : decode cX9_own 68 = .ok (.goto 22, 3) := by decide +kernel
theorem dX9_own_71 : decode cX9_own 71 = .ok (.iload_n 3, 1) := by decide +kernel
theorem dX9_own_72 : decode cX9_own 72 = .ok (.iconst 2, 1) := by decide +kernel
theorem dX9_own_73 : decode cX9_own 73 = .ok (.if_icmp .ne 16, 3) := by decide +kernel
theorem dX9_own_76 : decode cX9_own 76 = .ok (.aload_n 0, 1) := by decide +kernel
theorem dX9_own_77 : decode cX9_own 77 = .ok (.getfield 91, 3) := by decide +kernel
theorem dX9_own_80 : decode cX9_own 80 = .ok (.bipush 66, 2) := by decide +kernel
theorem dX9_own_82 : decode cX9_own 82 = .ok (.iload 4, 2) := by decide +kernel
theorem dX9_own_84 : decode cX9_own 84 = .ok (.iadd, 1) := by decide +kernel
theorem dX9_own_85 : decode cX9_own 85 = .ok (.iaload, 1) := by decide +kernel
theorem dX9_own_86 : decode cX9_own 86 = .ok (.goto 4, 3) := by decide +kernel
theorem dX9_own_89 : decode cX9_own 89 = .ok (.iconst (-1), 1) := by decide +kernel
theorem dX9_own_90 : decode cX9_own 90 = .ok (.ireturn, 1) := by decide +kernel
theorem ydX9_own : z_yd yX9_own 3 := ⟨by decide, by decide, by decide +kernel⟩
abbrev rmX9_own : Room := { frames := 2, cells := 0, slots := 0, locals := 43 }
noncomputable def xX9_own (l0 : Nat) (l1 : Int32) (l2 : Int32) (l3 : Int32) (h : ZH) : Option (Int32 × ZH) := (z_gu (z_is h l0 9) ((xX9_isShip l0 l1 h).bind fun r2 => (if r2.1 = 0 then some ((-1 : Int32), r2.2) else ((z_gR r2.2 l0 9 41).bind fun x11 => ((z_aI r2.2 x11 ((24 : Int32) + l1)).bind fun x18 => ((xX9_isIn l2 (0 : Int32) (x18 - (1 : Int32)) r2.2).bind fun r21 => (if r21.1 = 0 then some ((-1 : Int32), r21.2) else (if l3 = 0 then ((z_gR r21.2 l0 9 41).bind fun x41 => ((z_aI r21.2 x41 ((30 : Int32) + (((3 : Int32) * l1) + l2))).bind fun x49 => some (x49, r21.2))) else (if l3 = (1 : Int32) then ((z_gR r21.2 l0 9 41).bind fun x59 => ((z_aI r21.2 x59 ((48 : Int32) + (((3 : Int32) * l1) + l2))).bind fun x67 => some (x67, r21.2))) else (if l3 = (2 : Int32) then ((z_gR r21.2 l0 9 41).bind fun x77 => ((z_aI r21.2 x77 ((66 : Int32) + (((3 : Int32) * l1) + l2))).bind fun x85 => some (x85, r21.2))) else some ((-1 : Int32), r21.2)))))))))))
set_option maxHeartbeats 4000000 in
set_option maxRecDepth 100000 in
theorem lX9_own {Γ : ZG} {l : Launch} (hO : z_OK Γ) {l0 : Nat} {l1 : Int32} {l2 : Int32} {l3 : Int32} {h : ZH} {r : (Int32 × ZH)} (hX : xX9_own l0 l1 l2 l3 h = some r) : z_M Γ l yX9_own (z_ws1 yX9_own cX9_own 5 (some .int)) rmX9_own [.ref l0, .int l1, .int l2, .int l3] h (some (.int r.1)) r.2 := by
  refine z_start hO (plainFor_of_name (by decide)) (Nat.le_of_ble_eq_true rfl) ?_
  intro p e s m args below meth c G hr hnm
  refine z_lvc (lv2 := [(0, .ref l0), (1, .int l1), (2, .int l2), (3, .int l3)]) rfl ?_
  refine z_aload_n (pc := 0) G 0 dX9_own_0 rfl rfl ?_
  refine z_iload_n (pc := 1) G 1 dX9_own_1 rfl rfl ?_
  obtain ⟨hi2, hX⟩ := z_gu_s hX
  obtain ⟨r2, hv2, hX⟩ := z_bd hX
  refine z_cVI (pc := 2) (As := [.int l1]) (c2 := 0) (s2 := 0) G kK9 (lX9_isShip hO hv2) hi2 kt_1556 kt_11 kt_1553 kt_1555 ks_62 ydX9_isShip ⟨by decide, by decide⟩ rfl (Nat.le_of_ble_eq_true rfl) ⟨rfl, rfl⟩ ⟨by decide, by decide⟩ rfl dX9_own_2 ?_
  refine z_if_eq (pc := 5) (tgt := 27) G dX9_own_5 (by decide) (fun hc5 => ?_) (fun hc5 => ?_)
  · have hX := z_it hc5 hX
    refine z_iconst (pc := 27) (v := (-1)) G dX9_own_27 (by decide) ?_
    exact z_iretX (pc := 28) hX G hr dX9_own_28 (by decide) (by decide)
  · have hX := z_if hc5 hX
    refine z_iload_n (pc := 8) G 2 dX9_own_8 rfl rfl ?_
    refine z_iconst (pc := 9) (v := 0) G dX9_own_9 (by decide) ?_
    refine z_aload_n (pc := 10) G 0 dX9_own_10 rfl rfl ?_
    obtain ⟨x11, hv11, hX⟩ := z_bd hX
    refine z_getR (pc := 11) G kK9 (k := 41) (by decide) kt_1267 dX9_own_11 hv11 ?_
    refine z_bipush (pc := 14) (v := 24) G dX9_own_14 (by decide) ?_
    refine z_iload_n (pc := 16) G 1 dX9_own_16 rfl rfl ?_
    refine z_iadd (pc := 17) G dX9_own_17 ?_
    obtain ⟨x18, hv18, hX⟩ := z_bd hX
    refine z_iald (pc := 18) G dX9_own_18 hv18 ?_
    refine z_iconst (pc := 19) (v := 1) G dX9_own_19 (by decide) ?_
    refine z_isub (pc := 20) G dX9_own_20 ?_
    obtain ⟨r21, hv21, hX⟩ := z_bd hX
    refine z_cSI (pc := 21) (As := [.int l2, .int (0 : Int32), .int (x18 - (1 : Int32))]) (c2 := 0) (s2 := 0) G (lX9_isIn hO hv21) kt_1559 kt_11 kt_1557 kt_1558 ydX9_isIn ⟨by decide, by decide⟩ rfl (Nat.le_of_ble_eq_true rfl) ⟨rfl, rfl⟩ ⟨by decide, by decide⟩ rfl dX9_own_21 ?_
    refine z_if_ne (pc := 24) (tgt := 29) G dX9_own_24 (by decide) (fun hc24 => ?_) (fun hc24 => ?_)
    · have hX := z_if hc24 hX
      refine z_iconst (pc := 29) (v := 3) G dX9_own_29 (by decide) ?_
      refine z_iload_n (pc := 30) G 1 dX9_own_30 rfl rfl ?_
      refine z_imul (pc := 31) G dX9_own_31 ?_
      refine z_iload_n (pc := 32) G 2 dX9_own_32 rfl rfl ?_
      refine z_iadd (pc := 33) G dX9_own_33 ?_
      refine z_istore (pc := 34) (lv2 := [(0, .ref l0), (1, .int l1), (2, .int l2), (3, .int l3), (4, .int (((3 : Int32) * l1) + l2))]) G dX9_own_34 (by decide) rfl rfl ?_
      refine z_iload_n (pc := 36) G 3 dX9_own_36 rfl rfl ?_
      refine z_if_ne (pc := 37) (tgt := 53) G dX9_own_37 (by decide) (fun hc37 => ?_) (fun hc37 => ?_)
      · have hX := z_if hc37 hX
        refine z_iload_n (pc := 53) G 3 dX9_own_53 rfl rfl ?_
        refine z_iconst (pc := 54) (v := 1) G dX9_own_54 (by decide) ?_
        refine z_icmp_ne (pc := 55) (tgt := 71) G dX9_own_55 (by decide) (fun hc55 => ?_) (fun hc55 => ?_)
        · have hX := z_if hc55 hX
          refine z_iload_n (pc := 71) G 3 dX9_own_71 rfl rfl ?_
          refine z_iconst (pc := 72) (v := 2) G dX9_own_72 (by decide) ?_
          refine z_icmp_ne (pc := 73) (tgt := 89) G dX9_own_73 (by decide) (fun hc73 => ?_) (fun hc73 => ?_)
          · have hX := z_if hc73 hX
            refine z_iconst (pc := 89) (v := (-1)) G dX9_own_89 (by decide) ?_
            exact z_iretX (pc := 90) hX G hr dX9_own_90 (by decide) (by decide)
          · have hX := z_it hc73 hX
            refine z_aload_n (pc := 76) G 0 dX9_own_76 rfl rfl ?_
            obtain ⟨x77, hv77, hX⟩ := z_bd hX
            refine z_getR (pc := 77) G kK9 (k := 41) (by decide) kt_1267 dX9_own_77 hv77 ?_
            refine z_bipush (pc := 80) (v := 66) G dX9_own_80 (by decide) ?_
            refine z_iload (pc := 82) G 4 dX9_own_82 rfl ?_
            refine z_iadd (pc := 84) G dX9_own_84 ?_
            obtain ⟨x85, hv85, hX⟩ := z_bd hX
            refine z_iald (pc := 85) G dX9_own_85 hv85 ?_
            refine z_goto (pc := 86) (tgt := 90) G dX9_own_86 (by decide) ?_
            exact z_iretX (pc := 90) hX G hr dX9_own_90 (by decide) (by decide)
        · have hX := z_it hc55 hX
          refine z_aload_n (pc := 58) G 0 dX9_own_58 rfl rfl ?_
          obtain ⟨x59, hv59, hX⟩ := z_bd hX
          refine z_getR (pc := 59) G kK9 (k := 41) (by decide) kt_1267 dX9_own_59 hv59 ?_
          refine z_bipush (pc := 62) (v := 48) G dX9_own_62 (by decide) ?_
          refine z_iload (pc := 64) G 4 dX9_own_64 rfl ?_
          refine z_iadd (pc := 66) G dX9_own_66 ?_
          obtain ⟨x67, hv67, hX⟩ := z_bd hX
          refine z_iald (pc := 67) G dX9_own_67 hv67 ?_
          refine z_goto (pc := 68) (tgt := 90) G dX9_own_68 (by decide) ?_
          exact z_iretX (pc := 90) hX G hr dX9_own_90 (by decide) (by decide)
      · have hX := z_it hc37 hX
        refine z_aload_n (pc := 40) G 0 dX9_own_40 rfl rfl ?_
        obtain ⟨x41, hv41, hX⟩ := z_bd hX
        refine z_getR (pc := 41) G kK9 (k := 41) (by decide) kt_1267 dX9_own_41 hv41 ?_
        refine z_bipush (pc := 44) (v := 30) G dX9_own_44 (by decide) ?_
        refine z_iload (pc := 46) G 4 dX9_own_46 rfl ?_
        refine z_iadd (pc := 48) G dX9_own_48 ?_
        obtain ⟨x49, hv49, hX⟩ := z_bd hX
        refine z_iald (pc := 49) G dX9_own_49 hv49 ?_
        refine z_goto (pc := 50) (tgt := 90) G dX9_own_50 (by decide) ?_
        exact z_iretX (pc := 90) hX G hr dX9_own_90 (by decide) (by decide)
    · have hX := z_it hc24 hX
      refine z_iconst (pc := 27) (v := (-1)) G dX9_own_27 (by decide) ?_
      exact z_iretX (pc := 28) hX G hr dX9_own_28 (by decide) (by decide)
theorem dX9_map_0 : decode cX9_map 0 = .ok (.aload_n 0, 1) := by decide +kernel
theorem dX9_map_1 : decode cX9_map 1 = .ok (.iload_n 1, 1) := by decide +kernel
theorem dX9_map_2 : decode cX9_map 2 = .ok (.invokevirtual 450, 3) := by decide +kernel
theorem dX9_map_5 : decode cX9_map 5 = .ok (.ifCond .eq 11, 3) := by decide +kernel
theorem dX9_map_8 : decode cX9_map 8 = .ok (.aload_n 0, 1) := by decide +kernel
theorem dX9_map_9 : decode cX9_map 9 = .ok (.iload_n 2, 1) := by decide +kernel
theorem dX9_map_10 : decode cX9_map 10 = .ok (.invokevirtual 453, 3) := by decide +kernel
theorem dX9_map_13 : decode cX9_map 13 = .ok (.ifCond .ne 6, 3) := by decide +kernel
theorem dX9_map_16 : decode cX9_map 16 = .ok (.bipush (-2), 2) := by decide +kernel
theorem dX9_map_18 : decode cX9_map 18 = .ok (.ireturn, 1) := by decide +kernel
theorem dX9_map_19 : decode cX9_map 19 = .ok (.iload_n 3, 1) := by decide +kernel
theorem dX9_map_20 : decode cX9_map 20 = .ok (.ifCond .ne 12, 3) := by decide +kernel
theorem dX9_map_23 : decode cX9_map 23 = .ok (.aload_n 0, 1) := by decide +kernel
theorem dX9_map_24 : decode cX9_map 24 = .ok (.iload_n 1, 1) := by decide +kernel
theorem dX9_map_25 : decode cX9_map 25 = .ok (.iload_n 2, 1) := by decide +kernel
theorem dX9_map_26 : decode cX9_map 26 = .ok (.invokevirtual 356, 3) := by decide +kernel
theorem dX9_map_29 : decode cX9_map 29 = .ok (.goto 28, 3) := by decide +kernel
theorem dX9_map_32 : decode cX9_map 32 = .ok (.iload_n 3, 1) := by decide +kernel
theorem dX9_map_33 : decode cX9_map 33 = .ok (.iconst 1, 1) := by decide +kernel
theorem dX9_map_34 : decode cX9_map 34 = .ok (.if_icmp .ne 21, 3) := by decide +kernel
theorem dX9_map_37 : decode cX9_map 37 = .ok (.aload_n 0, 1) := by decide +kernel
theorem dX9_map_38 : decode cX9_map 38 = .ok (.getfield 91, 3) := by decide +kernel
theorem dX9_map_41 : decode cX9_map 41 = .ok (.sipush 264, 3) := by decide +kernel
theorem dX9_map_44 : decode cX9_map 44 = .ok (.bipush 30, 2) := by decide +kernel
theorem dX9_map_46 : decode cX9_map 46 = .ok (.iload_n 1, 1) := by decide +kernel
theorem dX9_map_47 : decode cX9_map 47 = .ok (.imul, 1) := by decide +kernel
theorem dX9_map_48 : decode cX9_map 48 = .ok (.iadd, 1) := by decide +kernel
theorem dX9_map_49 : decode cX9_map 49 = .ok (.iload_n 2, 1) := by decide +kernel
theorem dX9_map_50 : decode cX9_map 50 = .ok (.iadd, 1) := by decide +kernel
theorem dX9_map_51 : decode cX9_map 51 = .ok (.iaload, 1) := by decide +kernel
theorem dX9_map_52 : decode cX9_map 52 = .ok (.goto 5, 3) := by decide +kernel
theorem dX9_map_55 : decode cX9_map 55 = .ok (.bipush (-2), 2) := by decide +kernel
theorem dX9_map_57 : decode cX9_map 57 = .ok (.ireturn, 1) := by decide +kernel
theorem ydX9_map : z_yd yX9_map 3 := ⟨by decide, by decide, by decide +kernel⟩
abbrev rmX9_map : Room := { frames := 2, cells := 0, slots := 0, locals := 43 }
noncomputable def xX9_map (l0 : Nat) (l1 : Int32) (l2 : Int32) (l3 : Int32) (h : ZH) : Option (Int32 × ZH) := (z_gu (z_is h l0 9) ((xX9_isShip l0 l1 h).bind fun r2 => (if r2.1 = 0 then some ((-2 : Int32), r2.2) else (z_gu (z_is r2.2 l0 9) ((xX9_isSlot l0 l2 r2.2).bind fun r10 => (if r10.1 = 0 then some ((-2 : Int32), r10.2) else (if l3 = 0 then (z_gu (z_is r10.2 l0 9) ((xX9_holderIn l0 l1 l2 r10.2).bind fun r26 => some (r26.1, r26.2))) else (if l3 = (1 : Int32) then ((z_gR r10.2 l0 9 41).bind fun x38 => ((z_aI r10.2 x38 (((264 : Int32) + ((30 : Int32) * l1)) + l2)).bind fun x51 => some (x51, r10.2))) else some ((-2 : Int32), r10.2)))))))))
set_option maxHeartbeats 4000000 in
set_option maxRecDepth 100000 in
theorem lX9_map {Γ : ZG} {l : Launch} (hO : z_OK Γ) {l0 : Nat} {l1 : Int32} {l2 : Int32} {l3 : Int32} {h : ZH} {r : (Int32 × ZH)} (hX : xX9_map l0 l1 l2 l3 h = some r) : z_M Γ l yX9_map (z_ws1 yX9_map cX9_map 4 (some .int)) rmX9_map [.ref l0, .int l1, .int l2, .int l3] h (some (.int r.1)) r.2 := by
  refine z_start hO (plainFor_of_name (by decide)) (Nat.le_of_ble_eq_true rfl) ?_
  intro p e s m args below meth c G hr hnm
  refine z_lvc (lv2 := [(0, .ref l0), (1, .int l1), (2, .int l2), (3, .int l3)]) rfl ?_
  refine z_aload_n (pc := 0) G 0 dX9_map_0 rfl rfl ?_
  refine z_iload_n (pc := 1) G 1 dX9_map_1 rfl rfl ?_
  obtain ⟨hi2, hX⟩ := z_gu_s hX
  obtain ⟨r2, hv2, hX⟩ := z_bd hX
  refine z_cVI (pc := 2) (As := [.int l1]) (c2 := 0) (s2 := 0) G kK9 (lX9_isShip hO hv2) hi2 kt_1556 kt_11 kt_1553 kt_1555 ks_62 ydX9_isShip ⟨by decide, by decide⟩ rfl (Nat.le_of_ble_eq_true rfl) ⟨rfl, rfl⟩ ⟨by decide, by decide⟩ rfl dX9_map_2 ?_
  refine z_if_eq (pc := 5) (tgt := 16) G dX9_map_5 (by decide) (fun hc5 => ?_) (fun hc5 => ?_)
  · have hX := z_it hc5 hX
    refine z_bipush (pc := 16) (v := (-2)) G dX9_map_16 (by decide) ?_
    exact z_iretX (pc := 18) hX G hr dX9_map_18 (by decide) (by decide)
  · have hX := z_if hc5 hX
    refine z_aload_n (pc := 8) G 0 dX9_map_8 rfl rfl ?_
    refine z_iload_n (pc := 9) G 2 dX9_map_9 rfl rfl ?_
    obtain ⟨hi10, hX⟩ := z_gu_s hX
    obtain ⟨r10, hv10, hX⟩ := z_bd hX
    refine z_cVI (pc := 10) (As := [.int l2]) (c2 := 0) (s2 := 0) G kK9 (lX9_isSlot hO hv10) hi10 kt_1594 kt_11 kt_1591 kt_1593 ks_68 ydX9_isSlot ⟨by decide, by decide⟩ rfl (Nat.le_of_ble_eq_true rfl) ⟨rfl, rfl⟩ ⟨by decide, by decide⟩ rfl dX9_map_10 ?_
    refine z_if_ne (pc := 13) (tgt := 19) G dX9_map_13 (by decide) (fun hc13 => ?_) (fun hc13 => ?_)
    · have hX := z_if hc13 hX
      refine z_iload_n (pc := 19) G 3 dX9_map_19 rfl rfl ?_
      refine z_if_ne (pc := 20) (tgt := 32) G dX9_map_20 (by decide) (fun hc20 => ?_) (fun hc20 => ?_)
      · have hX := z_if hc20 hX
        refine z_iload_n (pc := 32) G 3 dX9_map_32 rfl rfl ?_
        refine z_iconst (pc := 33) (v := 1) G dX9_map_33 (by decide) ?_
        refine z_icmp_ne (pc := 34) (tgt := 55) G dX9_map_34 (by decide) (fun hc34 => ?_) (fun hc34 => ?_)
        · have hX := z_if hc34 hX
          refine z_bipush (pc := 55) (v := (-2)) G dX9_map_55 (by decide) ?_
          exact z_iretX (pc := 57) hX G hr dX9_map_57 (by decide) (by decide)
        · have hX := z_it hc34 hX
          refine z_aload_n (pc := 37) G 0 dX9_map_37 rfl rfl ?_
          obtain ⟨x38, hv38, hX⟩ := z_bd hX
          refine z_getR (pc := 38) G kK9 (k := 41) (by decide) kt_1267 dX9_map_38 hv38 ?_
          refine z_sipush (pc := 41) (v := 264) G dX9_map_41 (by decide) ?_
          refine z_bipush (pc := 44) (v := 30) G dX9_map_44 (by decide) ?_
          refine z_iload_n (pc := 46) G 1 dX9_map_46 rfl rfl ?_
          refine z_imul (pc := 47) G dX9_map_47 ?_
          refine z_iadd (pc := 48) G dX9_map_48 ?_
          refine z_iload_n (pc := 49) G 2 dX9_map_49 rfl rfl ?_
          refine z_iadd (pc := 50) G dX9_map_50 ?_
          obtain ⟨x51, hv51, hX⟩ := z_bd hX
          refine z_iald (pc := 51) G dX9_map_51 hv51 ?_
          refine z_goto (pc := 52) (tgt := 57) G dX9_map_52 (by decide) ?_
          exact z_iretX (pc := 57) hX G hr dX9_map_57 (by decide) (by decide)
      · have hX := z_it hc20 hX
        refine z_aload_n (pc := 23) G 0 dX9_map_23 rfl rfl ?_
        refine z_iload_n (pc := 24) G 1 dX9_map_24 rfl rfl ?_
        refine z_iload_n (pc := 25) G 2 dX9_map_25 rfl rfl ?_
        obtain ⟨hi26, hX⟩ := z_gu_s hX
        obtain ⟨r26, hv26, hX⟩ := z_bd hX
        refine z_cVI (pc := 26) (As := [.int l1, .int l2]) (c2 := 0) (s2 := 0) G kK9 (lX9_holderIn hO hv26) hi26 kt_1579 kt_11 kt_1576 kt_1578 ks_67 ydX9_holderIn ⟨by decide, by decide⟩ rfl (Nat.le_of_ble_eq_true rfl) ⟨rfl, rfl⟩ ⟨by decide, by decide⟩ rfl dX9_map_26 ?_
        refine z_goto (pc := 29) (tgt := 57) G dX9_map_29 (by decide) ?_
        exact z_iretX (pc := 57) hX G hr dX9_map_57 (by decide) (by decide)
    · have hX := z_it hc13 hX
      refine z_bipush (pc := 16) (v := (-2)) G dX9_map_16 (by decide) ?_
      exact z_iretX (pc := 18) hX G hr dX9_map_18 (by decide) (by decide)
theorem dX9_known_0 : decode cX9_known 0 = .ok (.aload_n 0, 1) := by decide +kernel
theorem dX9_known_1 : decode cX9_known 1 = .ok (.iload_n 1, 1) := by decide +kernel
theorem dX9_known_2 : decode cX9_known 2 = .ok (.invokevirtual 450, 3) := by decide +kernel
theorem dX9_known_5 : decode cX9_known 5 = .ok (.ifCond .eq 16, 3) := by decide +kernel
theorem dX9_known_8 : decode cX9_known 8 = .ok (.aload_n 0, 1) := by decide +kernel
theorem dX9_known_9 : decode cX9_known 9 = .ok (.iload_n 2, 1) := by decide +kernel
theorem dX9_known_10 : decode cX9_known 10 = .ok (.invokevirtual 450, 3) := by decide +kernel
theorem dX9_known_13 : decode cX9_known 13 = .ok (.ifCond .eq 8, 3) := by decide +kernel
theorem dX9_known_16 : decode cX9_known 16 = .ok (.iload_n 1, 1) := by decide +kernel
theorem dX9_known_17 : decode cX9_known 17 = .ok (.iload_n 2, 1) := by decide +kernel
theorem dX9_known_18 : decode cX9_known 18 = .ok (.if_icmp .ne 5, 3) := by decide +kernel
theorem dX9_known_21 : decode cX9_known 21 = .ok (.iconst (-1), 1) := by decide +kernel
theorem dX9_known_22 : decode cX9_known 22 = .ok (.ireturn, 1) := by decide +kernel
theorem dX9_known_23 : decode cX9_known 23 = .ok (.iload_n 3, 1) := by decide +kernel
theorem dX9_known_24 : decode cX9_known 24 = .ok (.ifCond .ne 21, 3) := by decide +kernel
theorem dX9_known_27 : decode cX9_known 27 = .ok (.aload_n 0, 1) := by decide +kernel
theorem dX9_known_28 : decode cX9_known 28 = .ok (.getfield 91, 3) := by decide +kernel
theorem dX9_known_31 : decode cX9_known 31 = .ok (.sipush 444, 3) := by decide +kernel
theorem dX9_known_34 : decode cX9_known 34 = .ok (.bipush 6, 2) := by decide +kernel
theorem dX9_known_36 : decode cX9_known 36 = .ok (.iload_n 1, 1) := by decide +kernel
theorem dX9_known_37 : decode cX9_known 37 = .ok (.imul, 1) := by decide +kernel
theorem dX9_known_38 : decode cX9_known 38 = .ok (.iadd, 1) := by decide +kernel
theorem dX9_known_39 : decode cX9_known 39 = .ok (.iload_n 2, 1) := by decide +kernel
theorem dX9_known_40 : decode cX9_known 40 = .ok (.iadd, 1) := by decide +kernel
theorem dX9_known_41 : decode cX9_known 41 = .ok (.iaload, 1) := by decide +kernel
theorem dX9_known_42 : decode cX9_known 42 = .ok (.goto 27, 3) := by decide +kernel
theorem dX9_known_45 : decode cX9_known 45 = .ok (.iload_n 3, 1) := by decide +kernel
theorem dX9_known_46 : decode cX9_known 46 = .ok (.iconst 1, 1) := by decide +kernel
theorem dX9_known_47 : decode cX9_known 47 = .ok (.if_icmp .ne 21, 3) := by decide +kernel
theorem dX9_known_50 : decode cX9_known 50 = .ok (.aload_n 0, 1) := by decide +kernel
theorem dX9_known_51 : decode cX9_known 51 = .ok (.getfield 91, 3) := by decide +kernel
theorem dX9_known_54 : decode cX9_known 54 = .ok (.sipush 480, 3) := by decide +kernel
theorem dX9_known_57 : decode cX9_known 57 = .ok (.bipush 6, 2) := by decide +kernel
theorem dX9_known_59 : decode cX9_known 59 = .ok (.iload_n 1, 1) := by decide +kernel
theorem dX9_known_60 : decode cX9_known 60 = .ok (.imul, 1) := by decide +kernel
theorem dX9_known_61 : decode cX9_known 61 = .ok (.iadd, 1) := by decide +kernel
theorem dX9_known_62 : decode cX9_known 62 = .ok (.iload_n 2, 1) := by decide +kernel
theorem dX9_known_63 : decode cX9_known 63 = .ok (.iadd, 1) := by decide +kernel
theorem dX9_known_64 : decode cX9_known 64 = .ok (.iaload, 1) := by decide +kernel
theorem dX9_known_65 : decode cX9_known 65 = .ok (.goto 4, 3) := by decide +kernel
theorem dX9_known_68 : decode cX9_known 68 = .ok (.iconst (-1), 1) := by decide +kernel
theorem dX9_known_69 : decode cX9_known 69 = .ok (.ireturn, 1) := by decide +kernel
theorem ydX9_known : z_yd yX9_known 3 := ⟨by decide, by decide, by decide +kernel⟩
abbrev rmX9_known : Room := { frames := 2, cells := 0, slots := 0, locals := 43 }
noncomputable def xX9_known (l0 : Nat) (l1 : Int32) (l2 : Int32) (l3 : Int32) (h : ZH) : Option (Int32 × ZH) := (z_gu (z_is h l0 9) ((xX9_isShip l0 l1 h).bind fun r2 => (if r2.1 = 0 then some ((-1 : Int32), r2.2) else (z_gu (z_is r2.2 l0 9) ((xX9_isShip l0 l2 r2.2).bind fun r10 => (if r10.1 = 0 then some ((-1 : Int32), r10.2) else (if l1 = l2 then some ((-1 : Int32), r10.2) else (if l3 = 0 then ((z_gR r10.2 l0 9 41).bind fun x28 => ((z_aI r10.2 x28 (((444 : Int32) + ((6 : Int32) * l1)) + l2)).bind fun x41 => some (x41, r10.2))) else (if l3 = (1 : Int32) then ((z_gR r10.2 l0 9 41).bind fun x51 => ((z_aI r10.2 x51 (((480 : Int32) + ((6 : Int32) * l1)) + l2)).bind fun x64 => some (x64, r10.2))) else some ((-1 : Int32), r10.2))))))))))
set_option maxHeartbeats 4000000 in
set_option maxRecDepth 100000 in
theorem lX9_known {Γ : ZG} {l : Launch} (hO : z_OK Γ) {l0 : Nat} {l1 : Int32} {l2 : Int32} {l3 : Int32} {h : ZH} {r : (Int32 × ZH)} (hX : xX9_known l0 l1 l2 l3 h = some r) : z_M Γ l yX9_known (z_ws1 yX9_known cX9_known 4 (some .int)) rmX9_known [.ref l0, .int l1, .int l2, .int l3] h (some (.int r.1)) r.2 := by
  refine z_start hO (plainFor_of_name (by decide)) (Nat.le_of_ble_eq_true rfl) ?_
  intro p e s m args below meth c G hr hnm
  refine z_lvc (lv2 := [(0, .ref l0), (1, .int l1), (2, .int l2), (3, .int l3)]) rfl ?_
  refine z_aload_n (pc := 0) G 0 dX9_known_0 rfl rfl ?_
  refine z_iload_n (pc := 1) G 1 dX9_known_1 rfl rfl ?_
  obtain ⟨hi2, hX⟩ := z_gu_s hX
  obtain ⟨r2, hv2, hX⟩ := z_bd hX
  refine z_cVI (pc := 2) (As := [.int l1]) (c2 := 0) (s2 := 0) G kK9 (lX9_isShip hO hv2) hi2 kt_1556 kt_11 kt_1553 kt_1555 ks_62 ydX9_isShip ⟨by decide, by decide⟩ rfl (Nat.le_of_ble_eq_true rfl) ⟨rfl, rfl⟩ ⟨by decide, by decide⟩ rfl dX9_known_2 ?_
  refine z_if_eq (pc := 5) (tgt := 21) G dX9_known_5 (by decide) (fun hc5 => ?_) (fun hc5 => ?_)
  · have hX := z_it hc5 hX
    refine z_iconst (pc := 21) (v := (-1)) G dX9_known_21 (by decide) ?_
    exact z_iretX (pc := 22) hX G hr dX9_known_22 (by decide) (by decide)
  · have hX := z_if hc5 hX
    refine z_aload_n (pc := 8) G 0 dX9_known_8 rfl rfl ?_
    refine z_iload_n (pc := 9) G 2 dX9_known_9 rfl rfl ?_
    obtain ⟨hi10, hX⟩ := z_gu_s hX
    obtain ⟨r10, hv10, hX⟩ := z_bd hX
    refine z_cVI (pc := 10) (As := [.int l2]) (c2 := 0) (s2 := 0) G kK9 (lX9_isShip hO hv10) hi10 kt_1556 kt_11 kt_1553 kt_1555 ks_62 ydX9_isShip ⟨by decide, by decide⟩ rfl (Nat.le_of_ble_eq_true rfl) ⟨rfl, rfl⟩ ⟨by decide, by decide⟩ rfl dX9_known_10 ?_
    refine z_if_eq (pc := 13) (tgt := 21) G dX9_known_13 (by decide) (fun hc13 => ?_) (fun hc13 => ?_)
    · have hX := z_it hc13 hX
      refine z_iconst (pc := 21) (v := (-1)) G dX9_known_21 (by decide) ?_
      exact z_iretX (pc := 22) hX G hr dX9_known_22 (by decide) (by decide)
    · have hX := z_if hc13 hX
      refine z_iload_n (pc := 16) G 1 dX9_known_16 rfl rfl ?_
      refine z_iload_n (pc := 17) G 2 dX9_known_17 rfl rfl ?_
      refine z_icmp_ne (pc := 18) (tgt := 23) G dX9_known_18 (by decide) (fun hc18 => ?_) (fun hc18 => ?_)
      · have hX := z_if hc18 hX
        refine z_iload_n (pc := 23) G 3 dX9_known_23 rfl rfl ?_
        refine z_if_ne (pc := 24) (tgt := 45) G dX9_known_24 (by decide) (fun hc24 => ?_) (fun hc24 => ?_)
        · have hX := z_if hc24 hX
          refine z_iload_n (pc := 45) G 3 dX9_known_45 rfl rfl ?_
          refine z_iconst (pc := 46) (v := 1) G dX9_known_46 (by decide) ?_
          refine z_icmp_ne (pc := 47) (tgt := 68) G dX9_known_47 (by decide) (fun hc47 => ?_) (fun hc47 => ?_)
          · have hX := z_if hc47 hX
            refine z_iconst (pc := 68) (v := (-1)) G dX9_known_68 (by decide) ?_
            exact z_iretX (pc := 69) hX G hr dX9_known_69 (by decide) (by decide)
          · have hX := z_it hc47 hX
            refine z_aload_n (pc := 50) G 0 dX9_known_50 rfl rfl ?_
            obtain ⟨x51, hv51, hX⟩ := z_bd hX
            refine z_getR (pc := 51) G kK9 (k := 41) (by decide) kt_1267 dX9_known_51 hv51 ?_
            refine z_sipush (pc := 54) (v := 480) G dX9_known_54 (by decide) ?_
            refine z_bipush (pc := 57) (v := 6) G dX9_known_57 (by decide) ?_
            refine z_iload_n (pc := 59) G 1 dX9_known_59 rfl rfl ?_
            refine z_imul (pc := 60) G dX9_known_60 ?_
            refine z_iadd (pc := 61) G dX9_known_61 ?_
            refine z_iload_n (pc := 62) G 2 dX9_known_62 rfl rfl ?_
            refine z_iadd (pc := 63) G dX9_known_63 ?_
            obtain ⟨x64, hv64, hX⟩ := z_bd hX
            refine z_iald (pc := 64) G dX9_known_64 hv64 ?_
            refine z_goto (pc := 65) (tgt := 69) G dX9_known_65 (by decide) ?_
            exact z_iretX (pc := 69) hX G hr dX9_known_69 (by decide) (by decide)
        · have hX := z_it hc24 hX
          refine z_aload_n (pc := 27) G 0 dX9_known_27 rfl rfl ?_
          obtain ⟨x28, hv28, hX⟩ := z_bd hX
          refine z_getR (pc := 28) G kK9 (k := 41) (by decide) kt_1267 dX9_known_28 hv28 ?_
          refine z_sipush (pc := 31) (v := 444) G dX9_known_31 (by decide) ?_
          refine z_bipush (pc := 34) (v := 6) G dX9_known_34 (by decide) ?_
          refine z_iload_n (pc := 36) G 1 dX9_known_36 rfl rfl ?_
          refine z_imul (pc := 37) G dX9_known_37 ?_
          refine z_iadd (pc := 38) G dX9_known_38 ?_
          refine z_iload_n (pc := 39) G 2 dX9_known_39 rfl rfl ?_
          refine z_iadd (pc := 40) G dX9_known_40 ?_
          obtain ⟨x41, hv41, hX⟩ := z_bd hX
          refine z_iald (pc := 41) G dX9_known_41 hv41 ?_
          refine z_goto (pc := 42) (tgt := 69) G dX9_known_42 (by decide) ?_
          exact z_iretX (pc := 69) hX G hr dX9_known_69 (by decide) (by decide)
      · have hX := z_it hc18 hX
        refine z_iconst (pc := 21) (v := (-1)) G dX9_known_21 (by decide) ?_
        exact z_iretX (pc := 22) hX G hr dX9_known_22 (by decide) (by decide)
theorem dX9_far_0 : decode cX9_far 0 = .ok (.aload_n 0, 1) := by decide +kernel
theorem dX9_far_1 : decode cX9_far 1 = .ok (.iload_n 1, 1) := by decide +kernel
theorem dX9_far_2 : decode cX9_far 2 = .ok (.invokevirtual 450, 3) := by decide +kernel
theorem dX9_far_5 : decode cX9_far 5 = .ok (.ifCond .eq 20, 3) := by decide +kernel
theorem dX9_far_8 : decode cX9_far 8 = .ok (.aload_n 0, 1) := by decide +kernel
theorem dX9_far_9 : decode cX9_far 9 = .ok (.iload_n 2, 1) := by decide +kernel
theorem dX9_far_10 : decode cX9_far 10 = .ok (.invokevirtual 450, 3) := by decide +kernel
theorem dX9_far_13 : decode cX9_far 13 = .ok (.ifCond .eq 12, 3) := by decide +kernel
theorem dX9_far_16 : decode cX9_far 16 = .ok (.aload_n 0, 1) := by decide +kernel
theorem dX9_far_17 : decode cX9_far 17 = .ok (.iload_n 1, 1) := by decide +kernel
theorem dX9_far_18 : decode cX9_far 18 = .ok (.iload_n 2, 1) := by decide +kernel
theorem dX9_far_19 : decode cX9_far 19 = .ok (.invokevirtual 353, 3) := by decide +kernel
theorem dX9_far_22 : decode cX9_far 22 = .ok (.goto 4, 3) := by decide +kernel
theorem dX9_far_25 : decode cX9_far 25 = .ok (.iconst (-1), 1) := by decide +kernel
theorem dX9_far_26 : decode cX9_far 26 = .ok (.ireturn, 1) := by decide +kernel
theorem ydX9_far : z_yd yX9_far 2 := ⟨by decide, by decide, by decide +kernel⟩
abbrev rmX9_far : Room := { frames := 2, cells := 0, slots := 0, locals := 43 }
noncomputable def xX9_far (l0 : Nat) (l1 : Int32) (l2 : Int32) (h : ZH) : Option (Int32 × ZH) := (z_gu (z_is h l0 9) ((xX9_isShip l0 l1 h).bind fun r2 => (if r2.1 = 0 then some ((-1 : Int32), r2.2) else (z_gu (z_is r2.2 l0 9) ((xX9_isShip l0 l2 r2.2).bind fun r10 => (if r10.1 = 0 then some ((-1 : Int32), r10.2) else (z_gu (z_is r10.2 l0 9) ((xX9_apart l0 l1 l2 r10.2).bind fun r19 => some (r19.1, r19.2)))))))))
set_option maxHeartbeats 4000000 in
set_option maxRecDepth 100000 in
theorem lX9_far {Γ : ZG} {l : Launch} (hO : z_OK Γ) {l0 : Nat} {l1 : Int32} {l2 : Int32} {h : ZH} {r : (Int32 × ZH)} (hX : xX9_far l0 l1 l2 h = some r) : z_M Γ l yX9_far (z_ws1 yX9_far cX9_far 3 (some .int)) rmX9_far [.ref l0, .int l1, .int l2] h (some (.int r.1)) r.2 := by
  refine z_start hO (plainFor_of_name (by decide)) (Nat.le_of_ble_eq_true rfl) ?_
  intro p e s m args below meth c G hr hnm
  refine z_lvc (lv2 := [(0, .ref l0), (1, .int l1), (2, .int l2)]) rfl ?_
  refine z_aload_n (pc := 0) G 0 dX9_far_0 rfl rfl ?_
  refine z_iload_n (pc := 1) G 1 dX9_far_1 rfl rfl ?_
  obtain ⟨hi2, hX⟩ := z_gu_s hX
  obtain ⟨r2, hv2, hX⟩ := z_bd hX
  refine z_cVI (pc := 2) (As := [.int l1]) (c2 := 0) (s2 := 0) G kK9 (lX9_isShip hO hv2) hi2 kt_1556 kt_11 kt_1553 kt_1555 ks_62 ydX9_isShip ⟨by decide, by decide⟩ rfl (Nat.le_of_ble_eq_true rfl) ⟨rfl, rfl⟩ ⟨by decide, by decide⟩ rfl dX9_far_2 ?_
  refine z_if_eq (pc := 5) (tgt := 25) G dX9_far_5 (by decide) (fun hc5 => ?_) (fun hc5 => ?_)
  · have hX := z_it hc5 hX
    refine z_iconst (pc := 25) (v := (-1)) G dX9_far_25 (by decide) ?_
    exact z_iretX (pc := 26) hX G hr dX9_far_26 (by decide) (by decide)
  · have hX := z_if hc5 hX
    refine z_aload_n (pc := 8) G 0 dX9_far_8 rfl rfl ?_
    refine z_iload_n (pc := 9) G 2 dX9_far_9 rfl rfl ?_
    obtain ⟨hi10, hX⟩ := z_gu_s hX
    obtain ⟨r10, hv10, hX⟩ := z_bd hX
    refine z_cVI (pc := 10) (As := [.int l2]) (c2 := 0) (s2 := 0) G kK9 (lX9_isShip hO hv10) hi10 kt_1556 kt_11 kt_1553 kt_1555 ks_62 ydX9_isShip ⟨by decide, by decide⟩ rfl (Nat.le_of_ble_eq_true rfl) ⟨rfl, rfl⟩ ⟨by decide, by decide⟩ rfl dX9_far_10 ?_
    refine z_if_eq (pc := 13) (tgt := 25) G dX9_far_13 (by decide) (fun hc13 => ?_) (fun hc13 => ?_)
    · have hX := z_it hc13 hX
      refine z_iconst (pc := 25) (v := (-1)) G dX9_far_25 (by decide) ?_
      exact z_iretX (pc := 26) hX G hr dX9_far_26 (by decide) (by decide)
    · have hX := z_if hc13 hX
      refine z_aload_n (pc := 16) G 0 dX9_far_16 rfl rfl ?_
      refine z_iload_n (pc := 17) G 1 dX9_far_17 rfl rfl ?_
      refine z_iload_n (pc := 18) G 2 dX9_far_18 rfl rfl ?_
      obtain ⟨hi19, hX⟩ := z_gu_s hX
      obtain ⟨r19, hv19, hX⟩ := z_bd hX
      refine z_cVI (pc := 19) (As := [.int l1, .int l2]) (c2 := 0) (s2 := 0) G kK9 (lX9_apart hO hv19) hi19 kt_1606 kt_11 kt_1603 kt_1605 ks_69 ydX9_apart ⟨by decide, by decide⟩ rfl (Nat.le_of_ble_eq_true rfl) ⟨rfl, rfl⟩ ⟨by decide, by decide⟩ rfl dX9_far_19 ?_
      refine z_goto (pc := 22) (tgt := 26) G dX9_far_22 (by decide) ?_
      exact z_iretX (pc := 26) hX G hr dX9_far_26 (by decide) (by decide)
theorem dX9_candidates_0 : decode cX9_candidates 0 = .ok (.aload_n 0, 1) := by decide +kernel
theorem dX9_candidates_1 : decode cX9_candidates 1 = .ok (.iload_n 1, 1) := by decide +kernel
theorem dX9_candidates_2 : decode cX9_candidates 2 = .ok (.invokevirtual 450, 3) := by decide +kernel
theorem dX9_candidates_5 : decode cX9_candidates 5 = .ok (.ifCond .eq 20, 3) := by decide +kernel
theorem dX9_candidates_8 : decode cX9_candidates 8 = .ok (.aload_n 0, 1) := by decide +kernel
theorem dX9_candidates_9 : decode cX9_candidates 9 = .ok (.iload_n 2, 1) := by decide +kernel
theorem dX9_candidates_10 : decode cX9_candidates 10 = .ok (.invokevirtual 453, 3) := by decide +kernel
theorem dX9_candidates_13 : decode cX9_candidates 13 = .ok (.ifCond .eq 12, 3) := by decide +kernel
theorem dX9_candidates_16 : decode cX9_candidates 16 = .ok (.aload_n 0, 1) := by decide +kernel
theorem dX9_candidates_17 : decode cX9_candidates 17 = .ok (.iload_n 1, 1) := by decide +kernel
theorem dX9_candidates_18 : decode cX9_candidates 18 = .ok (.iload_n 2, 1) := by decide +kernel
theorem dX9_candidates_19 : decode cX9_candidates 19 = .ok (.invokevirtual 402, 3) := by decide +kernel
theorem dX9_candidates_22 : decode cX9_candidates 22 = .ok (.goto 4, 3) := by decide +kernel
theorem dX9_candidates_25 : decode cX9_candidates 25 = .ok (.iconst (-1), 1) := by decide +kernel
theorem dX9_candidates_26 : decode cX9_candidates 26 = .ok (.ireturn, 1) := by decide +kernel
theorem ydX9_candidates : z_yd yX9_candidates 2 := ⟨by decide, by decide, by decide +kernel⟩
abbrev rmX9_candidates : Room := { frames := 4, cells := 0, slots := 0, locals := 94 }
noncomputable def xX9_candidates (l0 : Nat) (l1 : Int32) (l2 : Int32) (h : ZH) : Option (Int32 × ZH) := (z_gu (z_is h l0 9) ((xX9_isShip l0 l1 h).bind fun r2 => (if r2.1 = 0 then some ((-1 : Int32), r2.2) else (z_gu (z_is r2.2 l0 9) ((xX9_isSlot l0 l2 r2.2).bind fun r10 => (if r10.1 = 0 then some ((-1 : Int32), r10.2) else (z_gu (z_is r10.2 l0 9) ((xX9_candidatesOf l0 l1 l2 r10.2).bind fun r19 => some (r19.1, r19.2)))))))))
set_option maxHeartbeats 4000000 in
set_option maxRecDepth 100000 in
theorem lX9_candidates {Γ : ZG} {l : Launch} (hO : z_OK Γ) {l0 : Nat} {l1 : Int32} {l2 : Int32} {h : ZH} {r : (Int32 × ZH)} (hX : xX9_candidates l0 l1 l2 h = some r) : z_M Γ l yX9_candidates (z_ws1 yX9_candidates cX9_candidates 3 (some .int)) rmX9_candidates [.ref l0, .int l1, .int l2] h (some (.int r.1)) r.2 := by
  refine z_start hO (plainFor_of_name (by decide)) (Nat.le_of_ble_eq_true rfl) ?_
  intro p e s m args below meth c G hr hnm
  refine z_lvc (lv2 := [(0, .ref l0), (1, .int l1), (2, .int l2)]) rfl ?_
  refine z_aload_n (pc := 0) G 0 dX9_candidates_0 rfl rfl ?_
  refine z_iload_n (pc := 1) G 1 dX9_candidates_1 rfl rfl ?_
  obtain ⟨hi2, hX⟩ := z_gu_s hX
  obtain ⟨r2, hv2, hX⟩ := z_bd hX
  refine z_cVI (pc := 2) (As := [.int l1]) (c2 := 0) (s2 := 0) G kK9 (lX9_isShip hO hv2) hi2 kt_1556 kt_11 kt_1553 kt_1555 ks_62 ydX9_isShip ⟨by decide, by decide⟩ rfl (Nat.le_of_ble_eq_true rfl) ⟨rfl, rfl⟩ ⟨by decide, by decide⟩ rfl dX9_candidates_2 ?_
  refine z_if_eq (pc := 5) (tgt := 25) G dX9_candidates_5 (by decide) (fun hc5 => ?_) (fun hc5 => ?_)
  · have hX := z_it hc5 hX
    refine z_iconst (pc := 25) (v := (-1)) G dX9_candidates_25 (by decide) ?_
    exact z_iretX (pc := 26) hX G hr dX9_candidates_26 (by decide) (by decide)
  · have hX := z_if hc5 hX
    refine z_aload_n (pc := 8) G 0 dX9_candidates_8 rfl rfl ?_
    refine z_iload_n (pc := 9) G 2 dX9_candidates_9 rfl rfl ?_
    obtain ⟨hi10, hX⟩ := z_gu_s hX
    obtain ⟨r10, hv10, hX⟩ := z_bd hX
    refine z_cVI (pc := 10) (As := [.int l2]) (c2 := 0) (s2 := 0) G kK9 (lX9_isSlot hO hv10) hi10 kt_1594 kt_11 kt_1591 kt_1593 ks_68 ydX9_isSlot ⟨by decide, by decide⟩ rfl (Nat.le_of_ble_eq_true rfl) ⟨rfl, rfl⟩ ⟨by decide, by decide⟩ rfl dX9_candidates_10 ?_
    refine z_if_eq (pc := 13) (tgt := 25) G dX9_candidates_13 (by decide) (fun hc13 => ?_) (fun hc13 => ?_)
    · have hX := z_it hc13 hX
      refine z_iconst (pc := 25) (v := (-1)) G dX9_candidates_25 (by decide) ?_
      exact z_iretX (pc := 26) hX G hr dX9_candidates_26 (by decide) (by decide)
    · have hX := z_if hc13 hX
      refine z_aload_n (pc := 16) G 0 dX9_candidates_16 rfl rfl ?_
      refine z_iload_n (pc := 17) G 1 dX9_candidates_17 rfl rfl ?_
      refine z_iload_n (pc := 18) G 2 dX9_candidates_18 rfl rfl ?_
      obtain ⟨hi19, hX⟩ := z_gu_s hX
      obtain ⟨r19, hv19, hX⟩ := z_bd hX
      refine z_cVI (pc := 19) (As := [.int l1, .int l2]) (c2 := 0) (s2 := 0) G kK9 (lX9_candidatesOf hO hv19) hi19 kt_1617 kt_11 kt_1614 kt_1616 ks_70 ydX9_candidatesOf ⟨by decide, by decide⟩ rfl (Nat.le_of_ble_eq_true rfl) ⟨rfl, rfl⟩ ⟨by decide, by decide⟩ rfl dX9_candidates_19 ?_
      refine z_goto (pc := 22) (tgt := 26) G dX9_candidates_22 (by decide) ?_
      exact z_iretX (pc := 26) hX G hr dX9_candidates_26 (by decide) (by decide)
theorem dX9_free_0 : decode cX9_free 0 = .ok (.aload_n 0, 1) := by decide +kernel
theorem dX9_free_1 : decode cX9_free 1 = .ok (.iload_n 1, 1) := by decide +kernel
theorem dX9_free_2 : decode cX9_free 2 = .ok (.invokevirtual 450, 3) := by decide +kernel
theorem dX9_free_5 : decode cX9_free 5 = .ok (.ifCond .eq 11, 3) := by decide +kernel
theorem dX9_free_8 : decode cX9_free 8 = .ok (.aload_n 0, 1) := by decide +kernel
theorem dX9_free_9 : decode cX9_free 9 = .ok (.iload_n 1, 1) := by decide +kernel
theorem dX9_free_10 : decode cX9_free 10 = .ok (.invokevirtual 396, 3) := by decide +kernel
theorem dX9_free_13 : decode cX9_free 13 = .ok (.goto 4, 3) := by decide +kernel
theorem dX9_free_16 : decode cX9_free 16 = .ok (.iconst (-1), 1) := by decide +kernel
theorem dX9_free_17 : decode cX9_free 17 = .ok (.ireturn, 1) := by decide +kernel
theorem ydX9_free : z_yd yX9_free 1 := ⟨by decide, by decide, by decide +kernel⟩
abbrev rmX9_free : Room := { frames := 2, cells := 0, slots := 0, locals := 46 }
noncomputable def xX9_free (l0 : Nat) (l1 : Int32) (h : ZH) : Option (Int32 × ZH) := (z_gu (z_is h l0 9) ((xX9_isShip l0 l1 h).bind fun r2 => (if r2.1 = 0 then some ((-1 : Int32), r2.2) else (z_gu (z_is r2.2 l0 9) ((xX9_freeOf l0 l1 r2.2).bind fun r10 => some (r10.1, r10.2))))))
set_option maxHeartbeats 4000000 in
set_option maxRecDepth 100000 in
theorem lX9_free {Γ : ZG} {l : Launch} (hO : z_OK Γ) {l0 : Nat} {l1 : Int32} {h : ZH} {r : (Int32 × ZH)} (hX : xX9_free l0 l1 h = some r) : z_M Γ l yX9_free (z_ws1 yX9_free cX9_free 2 (some .int)) rmX9_free [.ref l0, .int l1] h (some (.int r.1)) r.2 := by
  refine z_start hO (plainFor_of_name (by decide)) (Nat.le_of_ble_eq_true rfl) ?_
  intro p e s m args below meth c G hr hnm
  refine z_lvc (lv2 := [(0, .ref l0), (1, .int l1)]) rfl ?_
  refine z_aload_n (pc := 0) G 0 dX9_free_0 rfl rfl ?_
  refine z_iload_n (pc := 1) G 1 dX9_free_1 rfl rfl ?_
  obtain ⟨hi2, hX⟩ := z_gu_s hX
  obtain ⟨r2, hv2, hX⟩ := z_bd hX
  refine z_cVI (pc := 2) (As := [.int l1]) (c2 := 0) (s2 := 0) G kK9 (lX9_isShip hO hv2) hi2 kt_1556 kt_11 kt_1553 kt_1555 ks_62 ydX9_isShip ⟨by decide, by decide⟩ rfl (Nat.le_of_ble_eq_true rfl) ⟨rfl, rfl⟩ ⟨by decide, by decide⟩ rfl dX9_free_2 ?_
  refine z_if_eq (pc := 5) (tgt := 16) G dX9_free_5 (by decide) (fun hc5 => ?_) (fun hc5 => ?_)
  · have hX := z_it hc5 hX
    refine z_iconst (pc := 16) (v := (-1)) G dX9_free_16 (by decide) ?_
    exact z_iretX (pc := 17) hX G hr dX9_free_17 (by decide) (by decide)
  · have hX := z_if hc5 hX
    refine z_aload_n (pc := 8) G 0 dX9_free_8 rfl rfl ?_
    refine z_iload_n (pc := 9) G 1 dX9_free_9 rfl rfl ?_
    obtain ⟨hi10, hX⟩ := z_gu_s hX
    obtain ⟨r10, hv10, hX⟩ := z_bd hX
    refine z_cVI (pc := 10) (As := [.int l1]) (c2 := 0) (s2 := 0) G kK9 (lX9_freeOf hO hv10) hi10 kt_1625 kt_11 kt_1622 kt_1624 ks_72 ydX9_freeOf ⟨by decide, by decide⟩ rfl (Nat.le_of_ble_eq_true rfl) ⟨rfl, rfl⟩ ⟨by decide, by decide⟩ rfl dX9_free_10 ?_
    refine z_goto (pc := 13) (tgt := 17) G dX9_free_13 (by decide) ?_
    exact z_iretX (pc := 17) hX G hr dX9_free_17 (by decide) (by decide)
theorem dX9_reuse_0 : decode cX9_reuse 0 = .ok (.aload_n 0, 1) := by decide +kernel
theorem dX9_reuse_1 : decode cX9_reuse 1 = .ok (.iload_n 1, 1) := by decide +kernel
theorem dX9_reuse_2 : decode cX9_reuse 2 = .ok (.invokevirtual 450, 3) := by decide +kernel
theorem dX9_reuse_5 : decode cX9_reuse 5 = .ok (.ifCond .eq 25, 3) := by decide +kernel
theorem dX9_reuse_8 : decode cX9_reuse 8 = .ok (.aload_n 0, 1) := by decide +kernel
theorem dX9_reuse_9 : decode cX9_reuse 9 = .ok (.iload_n 2, 1) := by decide +kernel
theorem dX9_reuse_10 : decode cX9_reuse 10 = .ok (.invokevirtual 453, 3) := by decide +kernel
theorem dX9_reuse_13 : decode cX9_reuse 13 = .ok (.ifCond .eq 17, 3) := by decide +kernel
theorem dX9_reuse_16 : decode cX9_reuse 16 = .ok (.aload_n 0, 1) := by decide +kernel
theorem dX9_reuse_17 : decode cX9_reuse 17 = .ok (.iload_n 1, 1) := by decide +kernel
theorem dX9_reuse_18 : decode cX9_reuse 18 = .ok (.aload_n 0, 1) := by decide +kernel
theorem dX9_reuse_19 : decode cX9_reuse 19 = .ok (.iload_n 2, 1) := by decide +kernel
theorem dX9_reuse_20 : decode cX9_reuse 20 = .ok (.invokevirtual 393, 3) := by decide +kernel
theorem dX9_reuse_23 : decode cX9_reuse 23 = .ok (.iconst 0, 1) := by decide +kernel
theorem dX9_reuse_24 : decode cX9_reuse 24 = .ok (.invokevirtual 399, 3) := by decide +kernel
theorem dX9_reuse_27 : decode cX9_reuse 27 = .ok (.goto 4, 3) := by decide +kernel
theorem dX9_reuse_30 : decode cX9_reuse 30 = .ok (.iconst (-1), 1) := by decide +kernel
theorem dX9_reuse_31 : decode cX9_reuse 31 = .ok (.ireturn, 1) := by decide +kernel
theorem ydX9_reuse : z_yd yX9_reuse 2 := ⟨by decide, by decide, by decide +kernel⟩
abbrev rmX9_reuse : Room := { frames := 3, cells := 0, slots := 0, locals := 69 }
noncomputable def xX9_reuse (l0 : Nat) (l1 : Int32) (l2 : Int32) (h : ZH) : Option (Int32 × ZH) := (z_gu (z_is h l0 9) ((xX9_isShip l0 l1 h).bind fun r2 => (if r2.1 = 0 then some ((-1 : Int32), r2.2) else (z_gu (z_is r2.2 l0 9) ((xX9_isSlot l0 l2 r2.2).bind fun r10 => (if r10.1 = 0 then some ((-1 : Int32), r10.2) else (z_gu (z_is r10.2 l0 9) ((xX9_layWindow l0 l2 r10.2).bind fun r20 => (z_gu (z_is r20.2 l0 9) ((xX9_farthestOf l0 l1 r20.1 (0 : Int32) r20.2).bind fun r24 => some (r24.1, r24.2)))))))))))
set_option maxHeartbeats 4000000 in
set_option maxRecDepth 100000 in
theorem lX9_reuse {Γ : ZG} {l : Launch} (hO : z_OK Γ) {l0 : Nat} {l1 : Int32} {l2 : Int32} {h : ZH} {r : (Int32 × ZH)} (hX : xX9_reuse l0 l1 l2 h = some r) : z_M Γ l yX9_reuse (z_ws1 yX9_reuse cX9_reuse 3 (some .int)) rmX9_reuse [.ref l0, .int l1, .int l2] h (some (.int r.1)) r.2 := by
  refine z_start hO (plainFor_of_name (by decide)) (Nat.le_of_ble_eq_true rfl) ?_
  intro p e s m args below meth c G hr hnm
  refine z_lvc (lv2 := [(0, .ref l0), (1, .int l1), (2, .int l2)]) rfl ?_
  refine z_aload_n (pc := 0) G 0 dX9_reuse_0 rfl rfl ?_
  refine z_iload_n (pc := 1) G 1 dX9_reuse_1 rfl rfl ?_
  obtain ⟨hi2, hX⟩ := z_gu_s hX
  obtain ⟨r2, hv2, hX⟩ := z_bd hX
  refine z_cVI (pc := 2) (As := [.int l1]) (c2 := 0) (s2 := 0) G kK9 (lX9_isShip hO hv2) hi2 kt_1556 kt_11 kt_1553 kt_1555 ks_62 ydX9_isShip ⟨by decide, by decide⟩ rfl (Nat.le_of_ble_eq_true rfl) ⟨rfl, rfl⟩ ⟨by decide, by decide⟩ rfl dX9_reuse_2 ?_
  refine z_if_eq (pc := 5) (tgt := 30) G dX9_reuse_5 (by decide) (fun hc5 => ?_) (fun hc5 => ?_)
  · have hX := z_it hc5 hX
    refine z_iconst (pc := 30) (v := (-1)) G dX9_reuse_30 (by decide) ?_
    exact z_iretX (pc := 31) hX G hr dX9_reuse_31 (by decide) (by decide)
  · have hX := z_if hc5 hX
    refine z_aload_n (pc := 8) G 0 dX9_reuse_8 rfl rfl ?_
    refine z_iload_n (pc := 9) G 2 dX9_reuse_9 rfl rfl ?_
    obtain ⟨hi10, hX⟩ := z_gu_s hX
    obtain ⟨r10, hv10, hX⟩ := z_bd hX
    refine z_cVI (pc := 10) (As := [.int l2]) (c2 := 0) (s2 := 0) G kK9 (lX9_isSlot hO hv10) hi10 kt_1594 kt_11 kt_1591 kt_1593 ks_68 ydX9_isSlot ⟨by decide, by decide⟩ rfl (Nat.le_of_ble_eq_true rfl) ⟨rfl, rfl⟩ ⟨by decide, by decide⟩ rfl dX9_reuse_10 ?_
    refine z_if_eq (pc := 13) (tgt := 30) G dX9_reuse_13 (by decide) (fun hc13 => ?_) (fun hc13 => ?_)
    · have hX := z_it hc13 hX
      refine z_iconst (pc := 30) (v := (-1)) G dX9_reuse_30 (by decide) ?_
      exact z_iretX (pc := 31) hX G hr dX9_reuse_31 (by decide) (by decide)
    · have hX := z_if hc13 hX
      refine z_aload_n (pc := 16) G 0 dX9_reuse_16 rfl rfl ?_
      refine z_iload_n (pc := 17) G 1 dX9_reuse_17 rfl rfl ?_
      refine z_aload_n (pc := 18) G 0 dX9_reuse_18 rfl rfl ?_
      refine z_iload_n (pc := 19) G 2 dX9_reuse_19 rfl rfl ?_
      obtain ⟨hi20, hX⟩ := z_gu_s hX
      obtain ⟨r20, hv20, hX⟩ := z_bd hX
      refine z_cVI (pc := 20) (As := [.int l2]) (c2 := 0) (s2 := 0) G kK9 (lX9_layWindow hO hv20) hi20 kt_1621 kt_11 kt_1618 kt_1620 ks_71 ydX9_layWindow ⟨by decide, by decide⟩ rfl (Nat.le_of_ble_eq_true rfl) ⟨rfl, rfl⟩ ⟨by decide, by decide⟩ rfl dX9_reuse_20 ?_
      refine z_iconst (pc := 23) (v := 0) G dX9_reuse_23 (by decide) ?_
      obtain ⟨hi24, hX⟩ := z_gu_s hX
      obtain ⟨r24, hv24, hX⟩ := z_bd hX
      refine z_cVI (pc := 24) (As := [.int l1, .int r20.1, .int (0 : Int32)]) (c2 := 0) (s2 := 0) G kK9 (lX9_farthestOf hO hv24) hi24 kt_1633 kt_11 kt_1630 kt_1632 ks_74 ydX9_farthestOf ⟨by decide, by decide⟩ rfl (Nat.le_of_ble_eq_true rfl) ⟨rfl, rfl⟩ ⟨by decide, by decide⟩ rfl dX9_reuse_24 ?_
      refine z_goto (pc := 27) (tgt := 31) G dX9_reuse_27 (by decide) ?_
      exact z_iretX (pc := 31) hX G hr dX9_reuse_31 (by decide) (by decide)
theorem dX9_rate_0 : decode cX9_rate 0 = .ok (.aload_n 0, 1) := by decide +kernel
theorem dX9_rate_1 : decode cX9_rate 1 = .ok (.iload_n 1, 1) := by decide +kernel
theorem dX9_rate_2 : decode cX9_rate 2 = .ok (.invokevirtual 450, 3) := by decide +kernel
theorem dX9_rate_5 : decode cX9_rate 5 = .ok (.ifCond .eq 11, 3) := by decide +kernel
theorem dX9_rate_8 : decode cX9_rate 8 = .ok (.aload_n 0, 1) := by decide +kernel
theorem dX9_rate_9 : decode cX9_rate 9 = .ok (.iload_n 1, 1) := by decide +kernel
theorem dX9_rate_10 : decode cX9_rate 10 = .ok (.invokevirtual 414, 3) := by decide +kernel
theorem dX9_rate_13 : decode cX9_rate 13 = .ok (.goto 4, 3) := by decide +kernel
theorem dX9_rate_16 : decode cX9_rate 16 = .ok (.iconst (-1), 1) := by decide +kernel
theorem dX9_rate_17 : decode cX9_rate 17 = .ok (.ireturn, 1) := by decide +kernel
theorem ydX9_rate : z_yd yX9_rate 1 := ⟨by decide, by decide, by decide +kernel⟩
abbrev rmX9_rate : Room := { frames := 5, cells := 0, slots := 0, locals := 111 }
noncomputable def xX9_rate (l0 : Nat) (l1 : Int32) (h : ZH) : Option (Int32 × ZH) := (z_gu (z_is h l0 9) ((xX9_isShip l0 l1 h).bind fun r2 => (if r2.1 = 0 then some ((-1 : Int32), r2.2) else (z_gu (z_is r2.2 l0 9) ((xX9_rateOf l0 l1 r2.2).bind fun r10 => some (r10.1, r10.2))))))
set_option maxHeartbeats 4000000 in
set_option maxRecDepth 100000 in
theorem lX9_rate {Γ : ZG} {l : Launch} (hO : z_OK Γ) {l0 : Nat} {l1 : Int32} {h : ZH} {r : (Int32 × ZH)} (hX : xX9_rate l0 l1 h = some r) : z_M Γ l yX9_rate (z_ws1 yX9_rate cX9_rate 2 (some .int)) rmX9_rate [.ref l0, .int l1] h (some (.int r.1)) r.2 := by
  refine z_start hO (plainFor_of_name (by decide)) (Nat.le_of_ble_eq_true rfl) ?_
  intro p e s m args below meth c G hr hnm
  refine z_lvc (lv2 := [(0, .ref l0), (1, .int l1)]) rfl ?_
  refine z_aload_n (pc := 0) G 0 dX9_rate_0 rfl rfl ?_
  refine z_iload_n (pc := 1) G 1 dX9_rate_1 rfl rfl ?_
  obtain ⟨hi2, hX⟩ := z_gu_s hX
  obtain ⟨r2, hv2, hX⟩ := z_bd hX
  refine z_cVI (pc := 2) (As := [.int l1]) (c2 := 0) (s2 := 0) G kK9 (lX9_isShip hO hv2) hi2 kt_1556 kt_11 kt_1553 kt_1555 ks_62 ydX9_isShip ⟨by decide, by decide⟩ rfl (Nat.le_of_ble_eq_true rfl) ⟨rfl, rfl⟩ ⟨by decide, by decide⟩ rfl dX9_rate_2 ?_
  refine z_if_eq (pc := 5) (tgt := 16) G dX9_rate_5 (by decide) (fun hc5 => ?_) (fun hc5 => ?_)
  · have hX := z_it hc5 hX
    refine z_iconst (pc := 16) (v := (-1)) G dX9_rate_16 (by decide) ?_
    exact z_iretX (pc := 17) hX G hr dX9_rate_17 (by decide) (by decide)
  · have hX := z_if hc5 hX
    refine z_aload_n (pc := 8) G 0 dX9_rate_8 rfl rfl ?_
    refine z_iload_n (pc := 9) G 1 dX9_rate_9 rfl rfl ?_
    obtain ⟨hi10, hX⟩ := z_gu_s hX
    obtain ⟨r10, hv10, hX⟩ := z_bd hX
    refine z_cVI (pc := 10) (As := [.int l1]) (c2 := 0) (s2 := 0) G kK9 (lX9_rateOf hO hv10) hi10 kt_1653 kt_11 kt_1650 kt_1652 ks_76 ydX9_rateOf ⟨by decide, by decide⟩ rfl (Nat.le_of_ble_eq_true rfl) ⟨rfl, rfl⟩ ⟨by decide, by decide⟩ rfl dX9_rate_10 ?_
    refine z_goto (pc := 13) (tgt := 17) G dX9_rate_13 (by decide) ?_
    exact z_iretX (pc := 17) hX G hr dX9_rate_17 (by decide) (by decide)
theorem dX9_law_0 : decode cX9_law 0 = .ok (.aload_n 0, 1) := by decide +kernel
theorem dX9_law_1 : decode cX9_law 1 = .ok (.iload_n 1, 1) := by decide +kernel
theorem dX9_law_2 : decode cX9_law 2 = .ok (.invokevirtual 450, 3) := by decide +kernel
theorem dX9_law_5 : decode cX9_law 5 = .ok (.ifCond .eq 21, 3) := by decide +kernel
theorem dX9_law_8 : decode cX9_law 8 = .ok (.aload_n 0, 1) := by decide +kernel
theorem dX9_law_9 : decode cX9_law 9 = .ok (.iload_n 2, 1) := by decide +kernel
theorem dX9_law_10 : decode cX9_law 10 = .ok (.invokevirtual 453, 3) := by decide +kernel
theorem dX9_law_13 : decode cX9_law 13 = .ok (.ifCond .eq 13, 3) := by decide +kernel
theorem dX9_law_16 : decode cX9_law 16 = .ok (.iload_n 3, 1) := by decide +kernel
theorem dX9_law_17 : decode cX9_law 17 = .ok (.iconst 0, 1) := by decide +kernel
theorem dX9_law_18 : decode cX9_law 18 = .ok (.bipush 9, 2) := by decide +kernel
theorem dX9_law_20 : decode cX9_law 20 = .ok (.invokestatic 340, 3) := by decide +kernel
theorem dX9_law_23 : decode cX9_law 23 = .ok (.ifCond .ne 5, 3) := by decide +kernel
theorem dX9_law_26 : decode cX9_law 26 = .ok (.iconst (-1), 1) := by decide +kernel
theorem dX9_law_27 : decode cX9_law 27 = .ok (.ireturn, 1) := by decide +kernel
theorem dX9_law_28 : decode cX9_law 28 = .ok (.aload_n 0, 1) := by decide +kernel
theorem dX9_law_29 : decode cX9_law 29 = .ok (.iload_n 3, 1) := by decide +kernel
theorem dX9_law_30 : decode cX9_law 30 = .ok (.putfield 97, 3) := by decide +kernel
theorem dX9_law_33 : decode cX9_law 33 = .ok (.aload_n 0, 1) := by decide +kernel
theorem dX9_law_34 : decode cX9_law 34 = .ok (.iload_n 1, 1) := by decide +kernel
theorem dX9_law_35 : decode cX9_law 35 = .ok (.iload_n 2, 1) := by decide +kernel
theorem dX9_law_36 : decode cX9_law 36 = .ok (.invokevirtual 402, 3) := by decide +kernel
theorem dX9_law_39 : decode cX9_law 39 = .ok (.invokestatic 359, 3) := by decide +kernel
theorem dX9_law_42 : decode cX9_law 42 = .ok (.istore 4, 2) := by decide +kernel
theorem dX9_law_44 : decode cX9_law 44 = .ok (.aload_n 0, 1) := by decide +kernel
theorem dX9_law_45 : decode cX9_law 45 = .ok (.iconst (-1), 1) := by decide +kernel
theorem dX9_law_46 : decode cX9_law 46 = .ok (.putfield 97, 3) := by decide +kernel
theorem dX9_law_49 : decode cX9_law 49 = .ok (.iload 4, 2) := by decide +kernel
theorem dX9_law_51 : decode cX9_law 51 = .ok (.ireturn, 1) := by decide +kernel
theorem ydX9_law : z_yd yX9_law 3 := ⟨by decide, by decide, by decide +kernel⟩
abbrev rmX9_law : Room := { frames := 4, cells := 0, slots := 0, locals := 94 }
noncomputable def xX9_law (l0 : Nat) (l1 : Int32) (l2 : Int32) (l3 : Int32) (h : ZH) : Option (Int32 × ZH) := (z_gu (z_is h l0 9) ((xX9_isShip l0 l1 h).bind fun r2 => (if r2.1 = 0 then some ((-1 : Int32), r2.2) else (z_gu (z_is r2.2 l0 9) ((xX9_isSlot l0 l2 r2.2).bind fun r10 => (if r10.1 = 0 then some ((-1 : Int32), r10.2) else ((xX9_isIn l3 (0 : Int32) (9 : Int32) r10.2).bind fun r20 => (if r20.1 = 0 then some ((-1 : Int32), r20.2) else ((z_sF r20.2 l0 9 43 (.int l3)).bind fun h30 => (z_gu (z_is h30 l0 9) ((xX9_candidatesOf l0 l1 l2 h30).bind fun r36 => ((xX9_bitsOf r36.1 r36.2).bind fun r39 => ((z_sF r39.2 l0 9 43 (.int (-1 : Int32))).bind fun h46 => some (r39.1, h46))))))))))))))
set_option maxHeartbeats 4000000 in
set_option maxRecDepth 100000 in
theorem lX9_law {Γ : ZG} {l : Launch} (hO : z_OK Γ) {l0 : Nat} {l1 : Int32} {l2 : Int32} {l3 : Int32} {h : ZH} {r : (Int32 × ZH)} (hX : xX9_law l0 l1 l2 l3 h = some r) : z_M Γ l yX9_law (z_ws1 yX9_law cX9_law 5 (some .int)) rmX9_law [.ref l0, .int l1, .int l2, .int l3] h (some (.int r.1)) r.2 := by
  refine z_start hO (plainFor_of_name (by decide)) (Nat.le_of_ble_eq_true rfl) ?_
  intro p e s m args below meth c G hr hnm
  refine z_lvc (lv2 := [(0, .ref l0), (1, .int l1), (2, .int l2), (3, .int l3)]) rfl ?_
  refine z_aload_n (pc := 0) G 0 dX9_law_0 rfl rfl ?_
  refine z_iload_n (pc := 1) G 1 dX9_law_1 rfl rfl ?_
  obtain ⟨hi2, hX⟩ := z_gu_s hX
  obtain ⟨r2, hv2, hX⟩ := z_bd hX
  refine z_cVI (pc := 2) (As := [.int l1]) (c2 := 0) (s2 := 0) G kK9 (lX9_isShip hO hv2) hi2 kt_1556 kt_11 kt_1553 kt_1555 ks_62 ydX9_isShip ⟨by decide, by decide⟩ rfl (Nat.le_of_ble_eq_true rfl) ⟨rfl, rfl⟩ ⟨by decide, by decide⟩ rfl dX9_law_2 ?_
  refine z_if_eq (pc := 5) (tgt := 26) G dX9_law_5 (by decide) (fun hc5 => ?_) (fun hc5 => ?_)
  · have hX := z_it hc5 hX
    refine z_iconst (pc := 26) (v := (-1)) G dX9_law_26 (by decide) ?_
    exact z_iretX (pc := 27) hX G hr dX9_law_27 (by decide) (by decide)
  · have hX := z_if hc5 hX
    refine z_aload_n (pc := 8) G 0 dX9_law_8 rfl rfl ?_
    refine z_iload_n (pc := 9) G 2 dX9_law_9 rfl rfl ?_
    obtain ⟨hi10, hX⟩ := z_gu_s hX
    obtain ⟨r10, hv10, hX⟩ := z_bd hX
    refine z_cVI (pc := 10) (As := [.int l2]) (c2 := 0) (s2 := 0) G kK9 (lX9_isSlot hO hv10) hi10 kt_1594 kt_11 kt_1591 kt_1593 ks_68 ydX9_isSlot ⟨by decide, by decide⟩ rfl (Nat.le_of_ble_eq_true rfl) ⟨rfl, rfl⟩ ⟨by decide, by decide⟩ rfl dX9_law_10 ?_
    refine z_if_eq (pc := 13) (tgt := 26) G dX9_law_13 (by decide) (fun hc13 => ?_) (fun hc13 => ?_)
    · have hX := z_it hc13 hX
      refine z_iconst (pc := 26) (v := (-1)) G dX9_law_26 (by decide) ?_
      exact z_iretX (pc := 27) hX G hr dX9_law_27 (by decide) (by decide)
    · have hX := z_if hc13 hX
      refine z_iload_n (pc := 16) G 3 dX9_law_16 rfl rfl ?_
      refine z_iconst (pc := 17) (v := 0) G dX9_law_17 (by decide) ?_
      refine z_bipush (pc := 18) (v := 9) G dX9_law_18 (by decide) ?_
      obtain ⟨r20, hv20, hX⟩ := z_bd hX
      refine z_cSI (pc := 20) (As := [.int l3, .int (0 : Int32), .int (9 : Int32)]) (c2 := 0) (s2 := 0) G (lX9_isIn hO hv20) kt_1559 kt_11 kt_1557 kt_1558 ydX9_isIn ⟨by decide, by decide⟩ rfl (Nat.le_of_ble_eq_true rfl) ⟨rfl, rfl⟩ ⟨by decide, by decide⟩ rfl dX9_law_20 ?_
      refine z_if_ne (pc := 23) (tgt := 28) G dX9_law_23 (by decide) (fun hc23 => ?_) (fun hc23 => ?_)
      · have hX := z_if hc23 hX
        refine z_aload_n (pc := 28) G 0 dX9_law_28 rfl rfl ?_
        refine z_iload_n (pc := 29) G 3 dX9_law_29 rfl rfl ?_
        obtain ⟨h30, hv30, hX⟩ := z_bd hX
        refine z_putF (pc := 30) G kK9 (k := 43) (by decide) kt_1269 (Or.inl rfl) rfl rfl dX9_law_30 hv30 ?_
        refine z_aload_n (pc := 33) G 0 dX9_law_33 rfl rfl ?_
        refine z_iload_n (pc := 34) G 1 dX9_law_34 rfl rfl ?_
        refine z_iload_n (pc := 35) G 2 dX9_law_35 rfl rfl ?_
        obtain ⟨hi36, hX⟩ := z_gu_s hX
        obtain ⟨r36, hv36, hX⟩ := z_bd hX
        refine z_cVI (pc := 36) (As := [.int l1, .int l2]) (c2 := 0) (s2 := 0) G kK9 (lX9_candidatesOf hO hv36) hi36 kt_1617 kt_11 kt_1614 kt_1616 ks_70 ydX9_candidatesOf ⟨by decide, by decide⟩ rfl (Nat.le_of_ble_eq_true rfl) ⟨rfl, rfl⟩ ⟨by decide, by decide⟩ rfl dX9_law_36 ?_
        obtain ⟨r39, hv39, hX⟩ := z_bd hX
        refine z_cSI (pc := 39) (As := [.int r36.1]) (c2 := 0) (s2 := 0) G (lX9_bitsOf hO hv39) kt_1582 kt_11 kt_1580 kt_1581 ydX9_bitsOf ⟨by decide, by decide⟩ rfl (Nat.le_of_ble_eq_true rfl) ⟨rfl, rfl⟩ ⟨by decide, by decide⟩ rfl dX9_law_39 ?_
        refine z_istore (pc := 42) (lv2 := [(0, .ref l0), (1, .int l1), (2, .int l2), (3, .int l3), (4, .int r39.1)]) G dX9_law_42 (by decide) rfl rfl ?_
        refine z_aload_n (pc := 44) G 0 dX9_law_44 rfl rfl ?_
        refine z_iconst (pc := 45) (v := (-1)) G dX9_law_45 (by decide) ?_
        obtain ⟨h46, hv46, hX⟩ := z_bd hX
        refine z_putF (pc := 46) G kK9 (k := 43) (by decide) kt_1269 (Or.inl rfl) rfl rfl dX9_law_46 hv46 ?_
        refine z_iload (pc := 49) G 4 dX9_law_49 rfl ?_
        exact z_iretX (pc := 51) hX G hr dX9_law_51 (by decide) (by decide)
      · have hX := z_it hc23 hX
        refine z_iconst (pc := 26) (v := (-1)) G dX9_law_26 (by decide) ?_
        exact z_iretX (pc := 27) hX G hr dX9_law_27 (by decide) (by decide)
theorem dX9_agree_0 : decode cX9_agree 0 = .ok (.aload_n 0, 1) := by decide +kernel
theorem dX9_agree_1 : decode cX9_agree 1 = .ok (.iload_n 1, 1) := by decide +kernel
theorem dX9_agree_2 : decode cX9_agree 2 = .ok (.invokevirtual 450, 3) := by decide +kernel
theorem dX9_agree_5 : decode cX9_agree 5 = .ok (.ifCond .eq 11, 3) := by decide +kernel
theorem dX9_agree_8 : decode cX9_agree 8 = .ok (.aload_n 0, 1) := by decide +kernel
theorem dX9_agree_9 : decode cX9_agree 9 = .ok (.iload_n 2, 1) := by decide +kernel
theorem dX9_agree_10 : decode cX9_agree 10 = .ok (.invokevirtual 450, 3) := by decide +kernel
theorem dX9_agree_13 : decode cX9_agree 13 = .ok (.ifCond .ne 5, 3) := by decide +kernel
theorem dX9_agree_16 : decode cX9_agree 16 = .ok (.iconst (-1), 1) := by decide +kernel
theorem dX9_agree_17 : decode cX9_agree 17 = .ok (.ireturn, 1) := by decide +kernel
theorem dX9_agree_18 : decode cX9_agree 18 = .ok (.iconst 0, 1) := by decide +kernel
theorem dX9_agree_19 : decode cX9_agree 19 = .ok (.istore_n 3, 1) := by decide +kernel
theorem dX9_agree_20 : decode cX9_agree 20 = .ok (.iconst 0, 1) := by decide +kernel
theorem dX9_agree_21 : decode cX9_agree 21 = .ok (.istore 4, 2) := by decide +kernel
theorem dX9_agree_23 : decode cX9_agree 23 = .ok (.iload 4, 2) := by decide +kernel
theorem dX9_agree_25 : decode cX9_agree 25 = .ok (.aload_n 0, 1) := by decide +kernel
theorem dX9_agree_26 : decode cX9_agree 26 = .ok (.invokevirtual 344, 3) := by decide +kernel
theorem dX9_agree_29 : decode cX9_agree 29 = .ok (.if_icmp .ge 34, 3) := by decide +kernel
theorem dX9_agree_32 : decode cX9_agree 32 = .ok (.iload_n 3, 1) := by decide +kernel
theorem dX9_agree_33 : decode cX9_agree 33 = .ok (.aload_n 0, 1) := by decide +kernel
theorem dX9_agree_34 : decode cX9_agree 34 = .ok (.iload_n 1, 1) := by decide +kernel
theorem dX9_agree_35 : decode cX9_agree 35 = .ok (.iload 4, 2) := by decide +kernel
theorem dX9_agree_37 : decode cX9_agree 37 = .ok (.invokevirtual 356, 3) := by decide +kernel
theorem dX9_agree_40 : decode cX9_agree 40 = .ok (.aload_n 0, 1) := by decide +kernel
theorem dX9_agree_41 : decode cX9_agree 41 = .ok (.iload_n 2, 1) := by decide +kernel
theorem dX9_agree_42 : decode cX9_agree 42 = .ok (.iload 4, 2) := by decide +kernel
theorem dX9_agree_44 : decode cX9_agree 44 = .ok (.invokevirtual 356, 3) := by decide +kernel
theorem dX9_agree_47 : decode cX9_agree 47 = .ok (.if_icmp .ne 7, 3) := by decide +kernel
theorem dX9_agree_50 : decode cX9_agree 50 = .ok (.iconst 1, 1) := by decide +kernel
theorem dX9_agree_51 : decode cX9_agree 51 = .ok (.goto 4, 3) := by decide +kernel
theorem dX9_agree_54 : decode cX9_agree 54 = .ok (.iconst 0, 1) := by decide +kernel
theorem dX9_agree_55 : decode cX9_agree 55 = .ok (.iadd, 1) := by decide +kernel
theorem dX9_agree_56 : decode cX9_agree 56 = .ok (.istore_n 3, 1) := by decide +kernel
theorem dX9_agree_57 : decode cX9_agree 57 = .ok (.iinc 4 1, 3) := by decide +kernel
theorem dX9_agree_60 : decode cX9_agree 60 = .ok (.goto (-37), 3) := by decide +kernel
theorem dX9_agree_63 : decode cX9_agree 63 = .ok (.iload_n 3, 1) := by decide +kernel
theorem dX9_agree_64 : decode cX9_agree 64 = .ok (.ireturn, 1) := by decide +kernel
theorem ydX9_agree : z_yd yX9_agree 2 := ⟨by decide, by decide, by decide +kernel⟩
abbrev rmX9_agree : Room := { frames := 2, cells := 0, slots := 0, locals := 43 }
noncomputable def xX9_agree_B23 (r23 : Nat → Int32 → Int32 → Int32 → Int32 → ZH → Option (Int32 × ZH)) (l0 : Nat) (l1 : Int32) (l2 : Int32) (l3 : Int32) (l4 : Int32) (h : ZH) : Option (Int32 × ZH) := (z_gu (z_is h l0 9) ((xX9_round l0 h).bind fun r26 => (if r26.1 ≤ l4 then some (l3, r26.2) else (z_gu (z_is r26.2 l0 9) ((xX9_holderIn l0 l1 l4 r26.2).bind fun r37 => (z_gu (z_is r37.2 l0 9) ((xX9_holderIn l0 l2 l4 r37.2).bind fun r44 => (if r37.1 = r44.1 then r23 l0 l1 l2 (l3 + (1 : Int32)) (l4 + 1) r44.2 else r23 l0 l1 l2 (l3 + (0 : Int32)) (l4 + 1) r44.2))))))))
noncomputable def xX9_agree_L23 (n : Nat) : Nat → Int32 → Int32 → Int32 → Int32 → ZH → Option (Int32 × ZH) := Nat.rec (motive := fun _ => Nat → Int32 → Int32 → Int32 → Int32 → ZH → Option (Int32 × ZH)) (fun _ _ _ _ _ _ => none) (fun _ rec => xX9_agree_B23  rec) n
set_option maxHeartbeats 4000000 in
set_option maxRecDepth 100000 in
theorem wX9_agree_B23 {Γ : ZG} {p : Program} {l : Launch} {e : Env} {s : State} {m : MethodId} {args : Array Value} {below : List Frame} {meth : Method} {c : Code} (hO : z_OK Γ) (G : z_GG Γ p s m args meth c cX9_agree 5 RX9) (hr : meth.sig.returnType = (some .int)) (hnm : meth.name = "agree") {r : (Int32 × ZH)} {r23 : Nat → Int32 → Int32 → Int32 → Int32 → ZH → Option (Int32 × ZH)} (H23 : ∀ (l0 : Nat) (l1 : Int32) (l2 : Int32) (l3 : Int32) (l4 : Int32) (h : ZH), r23 l0 l1 l2 l3 l4 h = some r → z_W Γ p l e rmX9_agree s m args below meth c 5 0 0 (MQ below (z_Qc Γ (some (.int r.1)) r.2) args s rmX9_agree.cells rmX9_agree.slots (z_A Γ)) 23 [(0, .ref l0), (1, .int l1), (2, .int l2), (3, .int l3), (4, .int l4)] [] h) : ∀ (l0 : Nat) (l1 : Int32) (l2 : Int32) (l3 : Int32) (l4 : Int32) (h : ZH), xX9_agree_B23  r23 l0 l1 l2 l3 l4 h = some r → z_W Γ p l e rmX9_agree s m args below meth c 5 0 0 (MQ below (z_Qc Γ (some (.int r.1)) r.2) args s rmX9_agree.cells rmX9_agree.slots (z_A Γ)) 23 [(0, .ref l0), (1, .int l1), (2, .int l2), (3, .int l3), (4, .int l4)] [] h := by
  intro l0 l1 l2 l3 l4 h hX
  refine z_iload (pc := 23) G 4 dX9_agree_23 rfl ?_
  refine z_aload_n (pc := 25) G 0 dX9_agree_25 rfl rfl ?_
  obtain ⟨hi26, hX⟩ := z_gu_s hX
  obtain ⟨r26, hv26, hX⟩ := z_bd hX
  refine z_cVI (pc := 26) (As := []) (c2 := 0) (s2 := 0) G kK9 (lX9_round hO hv26) hi26 kt_1575 kt_11 kt_1572 kt_1574 ks_66 ydX9_round ⟨by decide, by decide⟩ rfl (Nat.le_of_ble_eq_true rfl) ⟨rfl, rfl⟩ ⟨by decide, by decide⟩ rfl dX9_agree_26 ?_
  refine z_icmp_ge (pc := 29) (tgt := 63) G dX9_agree_29 (by decide) (fun hc29 => ?_) (fun hc29 => ?_)
  · have hX := z_it hc29 hX
    refine z_iload_n (pc := 63) G 3 dX9_agree_63 rfl rfl ?_
    exact z_iretX (pc := 64) hX G hr dX9_agree_64 (by decide) (by decide)
  · have hX := z_if hc29 hX
    refine z_iload_n (pc := 32) G 3 dX9_agree_32 rfl rfl ?_
    refine z_aload_n (pc := 33) G 0 dX9_agree_33 rfl rfl ?_
    refine z_iload_n (pc := 34) G 1 dX9_agree_34 rfl rfl ?_
    refine z_iload (pc := 35) G 4 dX9_agree_35 rfl ?_
    obtain ⟨hi37, hX⟩ := z_gu_s hX
    obtain ⟨r37, hv37, hX⟩ := z_bd hX
    refine z_cVI (pc := 37) (As := [.int l1, .int l4]) (c2 := 0) (s2 := 0) G kK9 (lX9_holderIn hO hv37) hi37 kt_1579 kt_11 kt_1576 kt_1578 ks_67 ydX9_holderIn ⟨by decide, by decide⟩ rfl (Nat.le_of_ble_eq_true rfl) ⟨rfl, rfl⟩ ⟨by decide, by decide⟩ rfl dX9_agree_37 ?_
    refine z_aload_n (pc := 40) G 0 dX9_agree_40 rfl rfl ?_
    refine z_iload_n (pc := 41) G 2 dX9_agree_41 rfl rfl ?_
    refine z_iload (pc := 42) G 4 dX9_agree_42 rfl ?_
    obtain ⟨hi44, hX⟩ := z_gu_s hX
    obtain ⟨r44, hv44, hX⟩ := z_bd hX
    refine z_cVI (pc := 44) (As := [.int l2, .int l4]) (c2 := 0) (s2 := 0) G kK9 (lX9_holderIn hO hv44) hi44 kt_1579 kt_11 kt_1576 kt_1578 ks_67 ydX9_holderIn ⟨by decide, by decide⟩ rfl (Nat.le_of_ble_eq_true rfl) ⟨rfl, rfl⟩ ⟨by decide, by decide⟩ rfl dX9_agree_44 ?_
    refine z_icmp_ne (pc := 47) (tgt := 54) G dX9_agree_47 (by decide) (fun hc47 => ?_) (fun hc47 => ?_)
    · have hX := z_if hc47 hX
      refine z_iconst (pc := 54) (v := 0) G dX9_agree_54 (by decide) ?_
      refine z_iadd (pc := 55) G dX9_agree_55 ?_
      refine z_istore_n (pc := 56) (lv2 := [(0, .ref l0), (1, .int l1), (2, .int l2), (3, .int (l3 + (0 : Int32))), (4, .int l4)]) G dX9_agree_56 rfl (by decide) rfl rfl ?_
      refine z_iincw (pc := 57) (w := 1) (lv2 := [(0, .ref l0), (1, .int l1), (2, .int l2), (3, .int (l3 + (0 : Int32))), (4, .int (l4 + 1))]) G 4 dX9_agree_57 rfl (by decide) (by decide) rfl rfl ?_
      refine z_goto (pc := 60) (tgt := 23) G dX9_agree_60 (by decide) ?_
      exact H23 _ _ _ _ _ _ hX
    · have hX := z_it hc47 hX
      refine z_iconst (pc := 50) (v := 1) G dX9_agree_50 (by decide) ?_
      refine z_goto (pc := 51) (tgt := 55) G dX9_agree_51 (by decide) ?_
      refine z_iadd (pc := 55) G dX9_agree_55 ?_
      refine z_istore_n (pc := 56) (lv2 := [(0, .ref l0), (1, .int l1), (2, .int l2), (3, .int (l3 + (1 : Int32))), (4, .int l4)]) G dX9_agree_56 rfl (by decide) rfl rfl ?_
      refine z_iincw (pc := 57) (w := 1) (lv2 := [(0, .ref l0), (1, .int l1), (2, .int l2), (3, .int (l3 + (1 : Int32))), (4, .int (l4 + 1))]) G 4 dX9_agree_57 rfl (by decide) (by decide) rfl rfl ?_
      refine z_goto (pc := 60) (tgt := 23) G dX9_agree_60 (by decide) ?_
      exact H23 _ _ _ _ _ _ hX
set_option maxHeartbeats 4000000 in
set_option maxRecDepth 100000 in
theorem wX9_agree_L23 {Γ : ZG} {p : Program} {l : Launch} {e : Env} {s : State} {m : MethodId} {args : Array Value} {below : List Frame} {meth : Method} {c : Code} (hO : z_OK Γ) (G : z_GG Γ p s m args meth c cX9_agree 5 RX9) (hr : meth.sig.returnType = (some .int)) (hnm : meth.name = "agree") {r : (Int32 × ZH)} : ∀ (nn : Nat) (l0 : Nat) (l1 : Int32) (l2 : Int32) (l3 : Int32) (l4 : Int32) (h : ZH), xX9_agree_L23  nn l0 l1 l2 l3 l4 h = some r → z_W Γ p l e rmX9_agree s m args below meth c 5 0 0 (MQ below (z_Qc Γ (some (.int r.1)) r.2) args s rmX9_agree.cells rmX9_agree.slots (z_A Γ)) 23 [(0, .ref l0), (1, .int l1), (2, .int l2), (3, .int l3), (4, .int l4)] [] h := by
  intro nn
  induction nn with
  | zero => intro l0 l1 l2 l3 l4 h hX; cases hX
  | succ nn ih => intro l0 l1 l2 l3 l4 h hX; exact wX9_agree_B23 hO G hr hnm  ih l0 l1 l2 l3 l4 h hX
noncomputable def xX9_agree (l0 : Nat) (l1 : Int32) (l2 : Int32) (h : ZH) : Option (Int32 × ZH) := (z_gu (z_is h l0 9) ((xX9_isShip l0 l1 h).bind fun r2 => (if r2.1 = 0 then some ((-1 : Int32), r2.2) else (z_gu (z_is r2.2 l0 9) ((xX9_isShip l0 l2 r2.2).bind fun r10 => (if r10.1 = 0 then some ((-1 : Int32), r10.2) else xX9_agree_L23 zFU l0 l1 l2 (0 : Int32) (0 : Int32) r10.2))))))
set_option maxHeartbeats 4000000 in
set_option maxRecDepth 100000 in
theorem lX9_agree {Γ : ZG} {l : Launch} (hO : z_OK Γ) {l0 : Nat} {l1 : Int32} {l2 : Int32} {h : ZH} {r : (Int32 × ZH)} (hX : xX9_agree l0 l1 l2 h = some r) : z_M Γ l yX9_agree (z_ws1 yX9_agree cX9_agree 5 (some .int)) rmX9_agree [.ref l0, .int l1, .int l2] h (some (.int r.1)) r.2 := by
  refine z_start hO (plainFor_of_name (by decide)) (Nat.le_of_ble_eq_true rfl) ?_
  intro p e s m args below meth c G hr hnm
  refine z_lvc (lv2 := [(0, .ref l0), (1, .int l1), (2, .int l2)]) rfl ?_
  refine z_aload_n (pc := 0) G 0 dX9_agree_0 rfl rfl ?_
  refine z_iload_n (pc := 1) G 1 dX9_agree_1 rfl rfl ?_
  obtain ⟨hi2, hX⟩ := z_gu_s hX
  obtain ⟨r2, hv2, hX⟩ := z_bd hX
  refine z_cVI (pc := 2) (As := [.int l1]) (c2 := 0) (s2 := 0) G kK9 (lX9_isShip hO hv2) hi2 kt_1556 kt_11 kt_1553 kt_1555 ks_62 ydX9_isShip ⟨by decide, by decide⟩ rfl (Nat.le_of_ble_eq_true rfl) ⟨rfl, rfl⟩ ⟨by decide, by decide⟩ rfl dX9_agree_2 ?_
  refine z_if_eq (pc := 5) (tgt := 16) G dX9_agree_5 (by decide) (fun hc5 => ?_) (fun hc5 => ?_)
  · have hX := z_it hc5 hX
    refine z_iconst (pc := 16) (v := (-1)) G dX9_agree_16 (by decide) ?_
    exact z_iretX (pc := 17) hX G hr dX9_agree_17 (by decide) (by decide)
  · have hX := z_if hc5 hX
    refine z_aload_n (pc := 8) G 0 dX9_agree_8 rfl rfl ?_
    refine z_iload_n (pc := 9) G 2 dX9_agree_9 rfl rfl ?_
    obtain ⟨hi10, hX⟩ := z_gu_s hX
    obtain ⟨r10, hv10, hX⟩ := z_bd hX
    refine z_cVI (pc := 10) (As := [.int l2]) (c2 := 0) (s2 := 0) G kK9 (lX9_isShip hO hv10) hi10 kt_1556 kt_11 kt_1553 kt_1555 ks_62 ydX9_isShip ⟨by decide, by decide⟩ rfl (Nat.le_of_ble_eq_true rfl) ⟨rfl, rfl⟩ ⟨by decide, by decide⟩ rfl dX9_agree_10 ?_
    refine z_if_ne (pc := 13) (tgt := 18) G dX9_agree_13 (by decide) (fun hc13 => ?_) (fun hc13 => ?_)
    · have hX := z_if hc13 hX
      refine z_iconst (pc := 18) (v := 0) G dX9_agree_18 (by decide) ?_
      refine z_istore_n (pc := 19) (lv2 := [(0, .ref l0), (1, .int l1), (2, .int l2), (3, .int (0 : Int32))]) G dX9_agree_19 rfl (by decide) rfl rfl ?_
      refine z_iconst (pc := 20) (v := 0) G dX9_agree_20 (by decide) ?_
      refine z_istore (pc := 21) (lv2 := [(0, .ref l0), (1, .int l1), (2, .int l2), (3, .int (0 : Int32)), (4, .int (0 : Int32))]) G dX9_agree_21 (by decide) rfl rfl ?_
      exact wX9_agree_L23 hO G hr hnm zFU _ _ _ _ _ _ hX
    · have hX := z_it hc13 hX
      refine z_iconst (pc := 16) (v := (-1)) G dX9_agree_16 (by decide) ?_
      exact z_iretX (pc := 17) hX G hr dX9_agree_17 (by decide) (by decide)
theorem dX9_wrong_0 : decode cX9_wrong 0 = .ok (.aload_n 0, 1) := by decide +kernel
theorem dX9_wrong_1 : decode cX9_wrong 1 = .ok (.iload_n 1, 1) := by decide +kernel
theorem dX9_wrong_2 : decode cX9_wrong 2 = .ok (.invokevirtual 450, 3) := by decide +kernel
theorem dX9_wrong_5 : decode cX9_wrong 5 = .ok (.ifCond .ne 5, 3) := by decide +kernel
theorem dX9_wrong_8 : decode cX9_wrong 8 = .ok (.iconst (-1), 1) := by decide +kernel
theorem dX9_wrong_9 : decode cX9_wrong 9 = .ok (.ireturn, 1) := by decide +kernel
theorem dX9_wrong_10 : decode cX9_wrong 10 = .ok (.iconst 0, 1) := by decide +kernel
theorem dX9_wrong_11 : decode cX9_wrong 11 = .ok (.istore_n 2, 1) := by decide +kernel
theorem dX9_wrong_12 : decode cX9_wrong 12 = .ok (.iconst 0, 1) := by decide +kernel
theorem dX9_wrong_13 : decode cX9_wrong 13 = .ok (.istore_n 3, 1) := by decide +kernel
theorem dX9_wrong_14 : decode cX9_wrong 14 = .ok (.iload_n 3, 1) := by decide +kernel
theorem dX9_wrong_15 : decode cX9_wrong 15 = .ok (.aload_n 0, 1) := by decide +kernel
theorem dX9_wrong_16 : decode cX9_wrong 16 = .ok (.invokevirtual 344, 3) := by decide +kernel
theorem dX9_wrong_19 : decode cX9_wrong 19 = .ok (.if_icmp .ge 41, 3) := by decide +kernel
theorem dX9_wrong_22 : decode cX9_wrong 22 = .ok (.aload_n 0, 1) := by decide +kernel
theorem dX9_wrong_23 : decode cX9_wrong 23 = .ok (.iload_n 1, 1) := by decide +kernel
theorem dX9_wrong_24 : decode cX9_wrong 24 = .ok (.iload_n 3, 1) := by decide +kernel
theorem dX9_wrong_25 : decode cX9_wrong 25 = .ok (.invokevirtual 356, 3) := by decide +kernel
theorem dX9_wrong_28 : decode cX9_wrong 28 = .ok (.ifCond .lt 26, 3) := by decide +kernel
theorem dX9_wrong_31 : decode cX9_wrong 31 = .ok (.aload_n 0, 1) := by decide +kernel
theorem dX9_wrong_32 : decode cX9_wrong 32 = .ok (.aload_n 0, 1) := by decide +kernel
theorem dX9_wrong_33 : decode cX9_wrong 33 = .ok (.iload_n 1, 1) := by decide +kernel
theorem dX9_wrong_34 : decode cX9_wrong 34 = .ok (.iload_n 3, 1) := by decide +kernel
theorem dX9_wrong_35 : decode cX9_wrong 35 = .ok (.invokevirtual 356, 3) := by decide +kernel
theorem dX9_wrong_38 : decode cX9_wrong 38 = .ok (.invokevirtual 387, 3) := by decide +kernel
theorem dX9_wrong_41 : decode cX9_wrong 41 = .ok (.iload_n 3, 1) := by decide +kernel
theorem dX9_wrong_42 : decode cX9_wrong 42 = .ok (.invokestatic 265, 3) := by decide +kernel
theorem dX9_wrong_45 : decode cX9_wrong 45 = .ok (.ifCond .ne 9, 3) := by decide +kernel
theorem dX9_wrong_48 : decode cX9_wrong 48 = .ok (.iload_n 2, 1) := by decide +kernel
theorem dX9_wrong_49 : decode cX9_wrong 49 = .ok (.iconst 1, 1) := by decide +kernel
theorem dX9_wrong_50 : decode cX9_wrong 50 = .ok (.iload_n 3, 1) := by decide +kernel
theorem dX9_wrong_51 : decode cX9_wrong 51 = .ok (.ishl, 1) := by decide +kernel
theorem dX9_wrong_52 : decode cX9_wrong 52 = .ok (.ior, 1) := by decide +kernel
theorem dX9_wrong_53 : decode cX9_wrong 53 = .ok (.istore_n 2, 1) := by decide +kernel
theorem dX9_wrong_54 : decode cX9_wrong 54 = .ok (.iinc 3 1, 3) := by decide +kernel
theorem dX9_wrong_57 : decode cX9_wrong 57 = .ok (.goto (-43), 3) := by decide +kernel
theorem dX9_wrong_60 : decode cX9_wrong 60 = .ok (.iload_n 2, 1) := by decide +kernel
theorem dX9_wrong_61 : decode cX9_wrong 61 = .ok (.ireturn, 1) := by decide +kernel
theorem ydX9_wrong : z_yd yX9_wrong 1 := ⟨by decide, by decide, by decide +kernel⟩
abbrev rmX9_wrong : Room := { frames := 2, cells := 0, slots := 0, locals := 43 }
noncomputable def xX9_wrong_B14 (r14 : Nat → Int32 → Int32 → Int32 → ZH → Option (Int32 × ZH)) (l0 : Nat) (l1 : Int32) (l2 : Int32) (l3 : Int32) (h : ZH) : Option (Int32 × ZH) := (z_gu (z_is h l0 9) ((xX9_round l0 h).bind fun r16 => (if r16.1 ≤ l3 then some (l2, r16.2) else (z_gu (z_is r16.2 l0 9) ((xX9_holderIn l0 l1 l3 r16.2).bind fun r25 => (if r25.1 < 0 then r14 l0 l1 l2 (l3 + 1) r25.2 else (z_gu (z_is r25.2 l0 9) ((xX9_holderIn l0 l1 l3 r25.2).bind fun r35 => (z_gu (z_is r35.2 l0 9) ((xX9_ownedBy l0 r35.1 r35.2).bind fun r38 => ((xX9_bit r38.1 l3 r38.2).bind fun r42 => (if r42.1 = 0 then r14 l0 l1 (l2 ||| ((1 : Int32) <<< (l3 &&& 31))) (l3 + 1) r42.2 else r14 l0 l1 l2 (l3 + 1) r42.2))))))))))))
noncomputable def xX9_wrong_L14 (n : Nat) : Nat → Int32 → Int32 → Int32 → ZH → Option (Int32 × ZH) := Nat.rec (motive := fun _ => Nat → Int32 → Int32 → Int32 → ZH → Option (Int32 × ZH)) (fun _ _ _ _ _ => none) (fun _ rec => xX9_wrong_B14  rec) n
set_option maxHeartbeats 4000000 in
set_option maxRecDepth 100000 in
theorem wX9_wrong_B14 {Γ : ZG} {p : Program} {l : Launch} {e : Env} {s : State} {m : MethodId} {args : Array Value} {below : List Frame} {meth : Method} {c : Code} (hO : z_OK Γ) (G : z_GG Γ p s m args meth c cX9_wrong 4 RX9) (hr : meth.sig.returnType = (some .int)) (hnm : meth.name = "wrong") {r : (Int32 × ZH)} {r14 : Nat → Int32 → Int32 → Int32 → ZH → Option (Int32 × ZH)} (H14 : ∀ (l0 : Nat) (l1 : Int32) (l2 : Int32) (l3 : Int32) (h : ZH), r14 l0 l1 l2 l3 h = some r → z_W Γ p l e rmX9_wrong s m args below meth c 4 0 0 (MQ below (z_Qc Γ (some (.int r.1)) r.2) args s rmX9_wrong.cells rmX9_wrong.slots (z_A Γ)) 14 [(0, .ref l0), (1, .int l1), (2, .int l2), (3, .int l3)] [] h) : ∀ (l0 : Nat) (l1 : Int32) (l2 : Int32) (l3 : Int32) (h : ZH), xX9_wrong_B14  r14 l0 l1 l2 l3 h = some r → z_W Γ p l e rmX9_wrong s m args below meth c 4 0 0 (MQ below (z_Qc Γ (some (.int r.1)) r.2) args s rmX9_wrong.cells rmX9_wrong.slots (z_A Γ)) 14 [(0, .ref l0), (1, .int l1), (2, .int l2), (3, .int l3)] [] h := by
  intro l0 l1 l2 l3 h hX
  refine z_iload_n (pc := 14) G 3 dX9_wrong_14 rfl rfl ?_
  refine z_aload_n (pc := 15) G 0 dX9_wrong_15 rfl rfl ?_
  obtain ⟨hi16, hX⟩ := z_gu_s hX
  obtain ⟨r16, hv16, hX⟩ := z_bd hX
  refine z_cVI (pc := 16) (As := []) (c2 := 0) (s2 := 0) G kK9 (lX9_round hO hv16) hi16 kt_1575 kt_11 kt_1572 kt_1574 ks_66 ydX9_round ⟨by decide, by decide⟩ rfl (Nat.le_of_ble_eq_true rfl) ⟨rfl, rfl⟩ ⟨by decide, by decide⟩ rfl dX9_wrong_16 ?_
  refine z_icmp_ge (pc := 19) (tgt := 60) G dX9_wrong_19 (by decide) (fun hc19 => ?_) (fun hc19 => ?_)
  · have hX := z_it hc19 hX
    refine z_iload_n (pc := 60) G 2 dX9_wrong_60 rfl rfl ?_
    exact z_iretX (pc := 61) hX G hr dX9_wrong_61 (by decide) (by decide)
  · have hX := z_if hc19 hX
    refine z_aload_n (pc := 22) G 0 dX9_wrong_22 rfl rfl ?_
    refine z_iload_n (pc := 23) G 1 dX9_wrong_23 rfl rfl ?_
    refine z_iload_n (pc := 24) G 3 dX9_wrong_24 rfl rfl ?_
    obtain ⟨hi25, hX⟩ := z_gu_s hX
    obtain ⟨r25, hv25, hX⟩ := z_bd hX
    refine z_cVI (pc := 25) (As := [.int l1, .int l3]) (c2 := 0) (s2 := 0) G kK9 (lX9_holderIn hO hv25) hi25 kt_1579 kt_11 kt_1576 kt_1578 ks_67 ydX9_holderIn ⟨by decide, by decide⟩ rfl (Nat.le_of_ble_eq_true rfl) ⟨rfl, rfl⟩ ⟨by decide, by decide⟩ rfl dX9_wrong_25 ?_
    refine z_if_lt (pc := 28) (tgt := 54) G dX9_wrong_28 (by decide) (fun hc28 => ?_) (fun hc28 => ?_)
    · have hX := z_it hc28 hX
      refine z_iincw (pc := 54) (w := 1) (lv2 := [(0, .ref l0), (1, .int l1), (2, .int l2), (3, .int (l3 + 1))]) G 3 dX9_wrong_54 rfl (by decide) (by decide) rfl rfl ?_
      refine z_goto (pc := 57) (tgt := 14) G dX9_wrong_57 (by decide) ?_
      exact H14 _ _ _ _ _ hX
    · have hX := z_if hc28 hX
      refine z_aload_n (pc := 31) G 0 dX9_wrong_31 rfl rfl ?_
      refine z_aload_n (pc := 32) G 0 dX9_wrong_32 rfl rfl ?_
      refine z_iload_n (pc := 33) G 1 dX9_wrong_33 rfl rfl ?_
      refine z_iload_n (pc := 34) G 3 dX9_wrong_34 rfl rfl ?_
      obtain ⟨hi35, hX⟩ := z_gu_s hX
      obtain ⟨r35, hv35, hX⟩ := z_bd hX
      refine z_cVI (pc := 35) (As := [.int l1, .int l3]) (c2 := 0) (s2 := 0) G kK9 (lX9_holderIn hO hv35) hi35 kt_1579 kt_11 kt_1576 kt_1578 ks_67 ydX9_holderIn ⟨by decide, by decide⟩ rfl (Nat.le_of_ble_eq_true rfl) ⟨rfl, rfl⟩ ⟨by decide, by decide⟩ rfl dX9_wrong_35 ?_
      obtain ⟨hi38, hX⟩ := z_gu_s hX
      obtain ⟨r38, hv38, hX⟩ := z_bd hX
      refine z_cVI (pc := 38) (As := [.int r35.1]) (c2 := 0) (s2 := 0) G kK9 (lX9_ownedBy hO hv38) hi38 kt_1629 kt_11 kt_1626 kt_1628 ks_73 ydX9_ownedBy ⟨by decide, by decide⟩ rfl (Nat.le_of_ble_eq_true rfl) ⟨rfl, rfl⟩ ⟨by decide, by decide⟩ rfl dX9_wrong_38 ?_
      refine z_iload_n (pc := 41) G 3 dX9_wrong_41 rfl rfl ?_
      obtain ⟨r42, hv42, hX⟩ := z_bd hX
      refine z_cSI (pc := 42) (As := [.int r38.1, .int l3]) (c2 := 0) (s2 := 0) G (lX9_bit hO hv42) kt_1476 kt_11 kt_1474 kt_1475 ydX9_bit ⟨by decide, by decide⟩ rfl (Nat.le_of_ble_eq_true rfl) ⟨rfl, rfl⟩ ⟨by decide, by decide⟩ rfl dX9_wrong_42 ?_
      refine z_if_ne (pc := 45) (tgt := 54) G dX9_wrong_45 (by decide) (fun hc45 => ?_) (fun hc45 => ?_)
      · have hX := z_if hc45 hX
        refine z_iincw (pc := 54) (w := 1) (lv2 := [(0, .ref l0), (1, .int l1), (2, .int l2), (3, .int (l3 + 1))]) G 3 dX9_wrong_54 rfl (by decide) (by decide) rfl rfl ?_
        refine z_goto (pc := 57) (tgt := 14) G dX9_wrong_57 (by decide) ?_
        exact H14 _ _ _ _ _ hX
      · have hX := z_it hc45 hX
        refine z_iload_n (pc := 48) G 2 dX9_wrong_48 rfl rfl ?_
        refine z_iconst (pc := 49) (v := 1) G dX9_wrong_49 (by decide) ?_
        refine z_iload_n (pc := 50) G 3 dX9_wrong_50 rfl rfl ?_
        refine z_ishl (pc := 51) G dX9_wrong_51 ?_
        refine z_ior (pc := 52) G dX9_wrong_52 ?_
        refine z_istore_n (pc := 53) (lv2 := [(0, .ref l0), (1, .int l1), (2, .int (l2 ||| ((1 : Int32) <<< (l3 &&& 31)))), (3, .int l3)]) G dX9_wrong_53 rfl (by decide) rfl rfl ?_
        refine z_iincw (pc := 54) (w := 1) (lv2 := [(0, .ref l0), (1, .int l1), (2, .int (l2 ||| ((1 : Int32) <<< (l3 &&& 31)))), (3, .int (l3 + 1))]) G 3 dX9_wrong_54 rfl (by decide) (by decide) rfl rfl ?_
        refine z_goto (pc := 57) (tgt := 14) G dX9_wrong_57 (by decide) ?_
        exact H14 _ _ _ _ _ hX
set_option maxHeartbeats 4000000 in
set_option maxRecDepth 100000 in
theorem wX9_wrong_L14 {Γ : ZG} {p : Program} {l : Launch} {e : Env} {s : State} {m : MethodId} {args : Array Value} {below : List Frame} {meth : Method} {c : Code} (hO : z_OK Γ) (G : z_GG Γ p s m args meth c cX9_wrong 4 RX9) (hr : meth.sig.returnType = (some .int)) (hnm : meth.name = "wrong") {r : (Int32 × ZH)} : ∀ (nn : Nat) (l0 : Nat) (l1 : Int32) (l2 : Int32) (l3 : Int32) (h : ZH), xX9_wrong_L14  nn l0 l1 l2 l3 h = some r → z_W Γ p l e rmX9_wrong s m args below meth c 4 0 0 (MQ below (z_Qc Γ (some (.int r.1)) r.2) args s rmX9_wrong.cells rmX9_wrong.slots (z_A Γ)) 14 [(0, .ref l0), (1, .int l1), (2, .int l2), (3, .int l3)] [] h := by
  intro nn
  induction nn with
  | zero => intro l0 l1 l2 l3 h hX; cases hX
  | succ nn ih => intro l0 l1 l2 l3 h hX; exact wX9_wrong_B14 hO G hr hnm  ih l0 l1 l2 l3 h hX
noncomputable def xX9_wrong (l0 : Nat) (l1 : Int32) (h : ZH) : Option (Int32 × ZH) := (z_gu (z_is h l0 9) ((xX9_isShip l0 l1 h).bind fun r2 => (if r2.1 = 0 then some ((-1 : Int32), r2.2) else xX9_wrong_L14 zFU l0 l1 (0 : Int32) (0 : Int32) r2.2)))
set_option maxHeartbeats 4000000 in
set_option maxRecDepth 100000 in
theorem lX9_wrong {Γ : ZG} {l : Launch} (hO : z_OK Γ) {l0 : Nat} {l1 : Int32} {h : ZH} {r : (Int32 × ZH)} (hX : xX9_wrong l0 l1 h = some r) : z_M Γ l yX9_wrong (z_ws1 yX9_wrong cX9_wrong 4 (some .int)) rmX9_wrong [.ref l0, .int l1] h (some (.int r.1)) r.2 := by
  refine z_start hO (plainFor_of_name (by decide)) (Nat.le_of_ble_eq_true rfl) ?_
  intro p e s m args below meth c G hr hnm
  refine z_lvc (lv2 := [(0, .ref l0), (1, .int l1)]) rfl ?_
  refine z_aload_n (pc := 0) G 0 dX9_wrong_0 rfl rfl ?_
  refine z_iload_n (pc := 1) G 1 dX9_wrong_1 rfl rfl ?_
  obtain ⟨hi2, hX⟩ := z_gu_s hX
  obtain ⟨r2, hv2, hX⟩ := z_bd hX
  refine z_cVI (pc := 2) (As := [.int l1]) (c2 := 0) (s2 := 0) G kK9 (lX9_isShip hO hv2) hi2 kt_1556 kt_11 kt_1553 kt_1555 ks_62 ydX9_isShip ⟨by decide, by decide⟩ rfl (Nat.le_of_ble_eq_true rfl) ⟨rfl, rfl⟩ ⟨by decide, by decide⟩ rfl dX9_wrong_2 ?_
  refine z_if_ne (pc := 5) (tgt := 10) G dX9_wrong_5 (by decide) (fun hc5 => ?_) (fun hc5 => ?_)
  · have hX := z_if hc5 hX
    refine z_iconst (pc := 10) (v := 0) G dX9_wrong_10 (by decide) ?_
    refine z_istore_n (pc := 11) (lv2 := [(0, .ref l0), (1, .int l1), (2, .int (0 : Int32))]) G dX9_wrong_11 rfl (by decide) rfl rfl ?_
    refine z_iconst (pc := 12) (v := 0) G dX9_wrong_12 (by decide) ?_
    refine z_istore_n (pc := 13) (lv2 := [(0, .ref l0), (1, .int l1), (2, .int (0 : Int32)), (3, .int (0 : Int32))]) G dX9_wrong_13 rfl (by decide) rfl rfl ?_
    exact wX9_wrong_L14 hO G hr hnm zFU _ _ _ _ _ hX
  · have hX := z_it hc5 hX
    refine z_iconst (pc := 8) (v := (-1)) G dX9_wrong_8 (by decide) ?_
    exact z_iretX (pc := 9) hX G hr dX9_wrong_9 (by decide) (by decide)
theorem dX9_lit_0 : decode cX9_lit 0 = .ok (.aload_n 0, 1) := by decide +kernel
theorem dX9_lit_1 : decode cX9_lit 1 = .ok (.invokevirtual 456, 3) := by decide +kernel
theorem dX9_lit_4 : decode cX9_lit 4 = .ok (.ireturn, 1) := by decide +kernel
theorem ydX9_lit : z_yd yX9_lit 0 := ⟨by decide, by decide, by decide +kernel⟩
abbrev rmX9_lit : Room := { frames := 3, cells := 0, slots := 0, locals := 64 }
noncomputable def xX9_lit (l0 : Nat) (h : ZH) : Option (Int32 × ZH) := (z_gu (z_is h l0 9) ((xX9_litNow l0 h).bind fun r1 => some (r1.1, r1.2)))
set_option maxHeartbeats 4000000 in
set_option maxRecDepth 100000 in
theorem lX9_lit {Γ : ZG} {l : Launch} (hO : z_OK Γ) {l0 : Nat} {h : ZH} {r : (Int32 × ZH)} (hX : xX9_lit l0 h = some r) : z_M Γ l yX9_lit (z_ws1 yX9_lit cX9_lit 1 (some .int)) rmX9_lit [.ref l0] h (some (.int r.1)) r.2 := by
  refine z_start hO (plainFor_of_name (by decide)) (Nat.le_of_ble_eq_true rfl) ?_
  intro p e s m args below meth c G hr hnm
  refine z_lvc (lv2 := [(0, .ref l0)]) rfl ?_
  refine z_aload_n (pc := 0) G 0 dX9_lit_0 rfl rfl ?_
  obtain ⟨hi1, hX⟩ := z_gu_s hX
  obtain ⟨r1, hv1, hX⟩ := z_bd hX
  refine z_cVI (pc := 1) (As := []) (c2 := 0) (s2 := 0) G kK9 (lX9_litNow hO hv1) hi1 kt_1687 kt_11 kt_1684 kt_1686 ks_79 ydX9_litNow ⟨by decide, by decide⟩ rfl (Nat.le_of_ble_eq_true rfl) ⟨rfl, rfl⟩ ⟨by decide, by decide⟩ rfl dX9_lit_1 ?_
  exact z_iretX (pc := 4) hX G hr dX9_lit_4 (by decide) (by decide)
theorem dX9_taken_0 : decode cX9_taken 0 = .ok (.iconst 0, 1) := by decide +kernel
theorem dX9_taken_1 : decode cX9_taken 1 = .ok (.istore_n 1, 1) := by decide +kernel
theorem dX9_taken_2 : decode cX9_taken 2 = .ok (.iconst 0, 1) := by decide +kernel
theorem dX9_taken_3 : decode cX9_taken 3 = .ok (.istore_n 2, 1) := by decide +kernel
theorem dX9_taken_4 : decode cX9_taken 4 = .ok (.iload_n 2, 1) := by decide +kernel
theorem dX9_taken_5 : decode cX9_taken 5 = .ok (.aload_n 0, 1) := by decide +kernel
theorem dX9_taken_6 : decode cX9_taken 6 = .ok (.invokevirtual 337, 3) := by decide +kernel
theorem dX9_taken_9 : decode cX9_taken 9 = .ok (.if_icmp .ge 25, 3) := by decide +kernel
theorem dX9_taken_12 : decode cX9_taken 12 = .ok (.aload_n 0, 1) := by decide +kernel
theorem dX9_taken_13 : decode cX9_taken 13 = .ok (.iload_n 2, 1) := by decide +kernel
theorem dX9_taken_14 : decode cX9_taken 14 = .ok (.invokevirtual 347, 3) := by decide +kernel
theorem dX9_taken_17 : decode cX9_taken 17 = .ok (.ifCond .eq 11, 3) := by decide +kernel
theorem dX9_taken_20 : decode cX9_taken 20 = .ok (.iload_n 1, 1) := by decide +kernel
theorem dX9_taken_21 : decode cX9_taken 21 = .ok (.aload_n 0, 1) := by decide +kernel
theorem dX9_taken_22 : decode cX9_taken 22 = .ok (.iload_n 2, 1) := by decide +kernel
theorem dX9_taken_23 : decode cX9_taken 23 = .ok (.invokevirtual 387, 3) := by decide +kernel
theorem dX9_taken_26 : decode cX9_taken 26 = .ok (.ior, 1) := by decide +kernel
theorem dX9_taken_27 : decode cX9_taken 27 = .ok (.istore_n 1, 1) := by decide +kernel
theorem dX9_taken_28 : decode cX9_taken 28 = .ok (.iinc 2 1, 3) := by decide +kernel
theorem dX9_taken_31 : decode cX9_taken 31 = .ok (.goto (-27), 3) := by decide +kernel
theorem dX9_taken_34 : decode cX9_taken 34 = .ok (.iload_n 1, 1) := by decide +kernel
theorem dX9_taken_35 : decode cX9_taken 35 = .ok (.ireturn, 1) := by decide +kernel
theorem ydX9_taken : z_yd yX9_taken 0 := ⟨by decide, by decide, by decide +kernel⟩
abbrev rmX9_taken : Room := { frames := 2, cells := 0, slots := 0, locals := 42 }
noncomputable def xX9_taken_B4 (r4 : Nat → Int32 → Int32 → ZH → Option (Int32 × ZH)) (l0 : Nat) (l1 : Int32) (l2 : Int32) (h : ZH) : Option (Int32 × ZH) := (z_gu (z_is h l0 9) ((xX9_lots l0 h).bind fun r6 => (if r6.1 ≤ l2 then some (l1, r6.2) else (z_gu (z_is r6.2 l0 9) ((xX9_isOn l0 l2 r6.2).bind fun r14 => (if r14.1 = 0 then r4 l0 l1 (l2 + 1) r14.2 else (z_gu (z_is r14.2 l0 9) ((xX9_ownedBy l0 l2 r14.2).bind fun r23 => r4 l0 (l1 ||| r23.1) (l2 + 1) r23.2))))))))
noncomputable def xX9_taken_L4 (n : Nat) : Nat → Int32 → Int32 → ZH → Option (Int32 × ZH) := Nat.rec (motive := fun _ => Nat → Int32 → Int32 → ZH → Option (Int32 × ZH)) (fun _ _ _ _ => none) (fun _ rec => xX9_taken_B4  rec) n
set_option maxHeartbeats 4000000 in
set_option maxRecDepth 100000 in
theorem wX9_taken_B4 {Γ : ZG} {p : Program} {l : Launch} {e : Env} {s : State} {m : MethodId} {args : Array Value} {below : List Frame} {meth : Method} {c : Code} (hO : z_OK Γ) (G : z_GG Γ p s m args meth c cX9_taken 3 RX9) (hr : meth.sig.returnType = (some .int)) (hnm : meth.name = "taken") {r : (Int32 × ZH)} {r4 : Nat → Int32 → Int32 → ZH → Option (Int32 × ZH)} (H4 : ∀ (l0 : Nat) (l1 : Int32) (l2 : Int32) (h : ZH), r4 l0 l1 l2 h = some r → z_W Γ p l e rmX9_taken s m args below meth c 3 0 0 (MQ below (z_Qc Γ (some (.int r.1)) r.2) args s rmX9_taken.cells rmX9_taken.slots (z_A Γ)) 4 [(0, .ref l0), (1, .int l1), (2, .int l2)] [] h) : ∀ (l0 : Nat) (l1 : Int32) (l2 : Int32) (h : ZH), xX9_taken_B4  r4 l0 l1 l2 h = some r → z_W Γ p l e rmX9_taken s m args below meth c 3 0 0 (MQ below (z_Qc Γ (some (.int r.1)) r.2) args s rmX9_taken.cells rmX9_taken.slots (z_A Γ)) 4 [(0, .ref l0), (1, .int l1), (2, .int l2)] [] h := by
  intro l0 l1 l2 h hX
  refine z_iload_n (pc := 4) G 2 dX9_taken_4 rfl rfl ?_
  refine z_aload_n (pc := 5) G 0 dX9_taken_5 rfl rfl ?_
  obtain ⟨hi6, hX⟩ := z_gu_s hX
  obtain ⟨r6, hv6, hX⟩ := z_bd hX
  refine z_cVI (pc := 6) (As := []) (c2 := 0) (s2 := 0) G kK9 (lX9_lots hO hv6) hi6 kt_1221 kt_11 kt_1218 kt_1220 ks_36 ydX9_lots ⟨by decide, by decide⟩ rfl (Nat.le_of_ble_eq_true rfl) ⟨rfl, rfl⟩ ⟨by decide, by decide⟩ rfl dX9_taken_6 ?_
  refine z_icmp_ge (pc := 9) (tgt := 34) G dX9_taken_9 (by decide) (fun hc9 => ?_) (fun hc9 => ?_)
  · have hX := z_it hc9 hX
    refine z_iload_n (pc := 34) G 1 dX9_taken_34 rfl rfl ?_
    exact z_iretX (pc := 35) hX G hr dX9_taken_35 (by decide) (by decide)
  · have hX := z_if hc9 hX
    refine z_aload_n (pc := 12) G 0 dX9_taken_12 rfl rfl ?_
    refine z_iload_n (pc := 13) G 2 dX9_taken_13 rfl rfl ?_
    obtain ⟨hi14, hX⟩ := z_gu_s hX
    obtain ⟨r14, hv14, hX⟩ := z_bd hX
    refine z_cVI (pc := 14) (As := [.int l2]) (c2 := 0) (s2 := 0) G kK9 (lX9_isOn hO hv14) hi14 kt_1567 kt_11 kt_1564 kt_1566 ks_64 ydX9_isOn ⟨by decide, by decide⟩ rfl (Nat.le_of_ble_eq_true rfl) ⟨rfl, rfl⟩ ⟨by decide, by decide⟩ rfl dX9_taken_14 ?_
    refine z_if_eq (pc := 17) (tgt := 28) G dX9_taken_17 (by decide) (fun hc17 => ?_) (fun hc17 => ?_)
    · have hX := z_it hc17 hX
      refine z_iincw (pc := 28) (w := 1) (lv2 := [(0, .ref l0), (1, .int l1), (2, .int (l2 + 1))]) G 2 dX9_taken_28 rfl (by decide) (by decide) rfl rfl ?_
      refine z_goto (pc := 31) (tgt := 4) G dX9_taken_31 (by decide) ?_
      exact H4 _ _ _ _ hX
    · have hX := z_if hc17 hX
      refine z_iload_n (pc := 20) G 1 dX9_taken_20 rfl rfl ?_
      refine z_aload_n (pc := 21) G 0 dX9_taken_21 rfl rfl ?_
      refine z_iload_n (pc := 22) G 2 dX9_taken_22 rfl rfl ?_
      obtain ⟨hi23, hX⟩ := z_gu_s hX
      obtain ⟨r23, hv23, hX⟩ := z_bd hX
      refine z_cVI (pc := 23) (As := [.int l2]) (c2 := 0) (s2 := 0) G kK9 (lX9_ownedBy hO hv23) hi23 kt_1629 kt_11 kt_1626 kt_1628 ks_73 ydX9_ownedBy ⟨by decide, by decide⟩ rfl (Nat.le_of_ble_eq_true rfl) ⟨rfl, rfl⟩ ⟨by decide, by decide⟩ rfl dX9_taken_23 ?_
      refine z_ior (pc := 26) G dX9_taken_26 ?_
      refine z_istore_n (pc := 27) (lv2 := [(0, .ref l0), (1, .int (l1 ||| r23.1)), (2, .int l2)]) G dX9_taken_27 rfl (by decide) rfl rfl ?_
      refine z_iincw (pc := 28) (w := 1) (lv2 := [(0, .ref l0), (1, .int (l1 ||| r23.1)), (2, .int (l2 + 1))]) G 2 dX9_taken_28 rfl (by decide) (by decide) rfl rfl ?_
      refine z_goto (pc := 31) (tgt := 4) G dX9_taken_31 (by decide) ?_
      exact H4 _ _ _ _ hX
set_option maxHeartbeats 4000000 in
set_option maxRecDepth 100000 in
theorem wX9_taken_L4 {Γ : ZG} {p : Program} {l : Launch} {e : Env} {s : State} {m : MethodId} {args : Array Value} {below : List Frame} {meth : Method} {c : Code} (hO : z_OK Γ) (G : z_GG Γ p s m args meth c cX9_taken 3 RX9) (hr : meth.sig.returnType = (some .int)) (hnm : meth.name = "taken") {r : (Int32 × ZH)} : ∀ (nn : Nat) (l0 : Nat) (l1 : Int32) (l2 : Int32) (h : ZH), xX9_taken_L4  nn l0 l1 l2 h = some r → z_W Γ p l e rmX9_taken s m args below meth c 3 0 0 (MQ below (z_Qc Γ (some (.int r.1)) r.2) args s rmX9_taken.cells rmX9_taken.slots (z_A Γ)) 4 [(0, .ref l0), (1, .int l1), (2, .int l2)] [] h := by
  intro nn
  induction nn with
  | zero => intro l0 l1 l2 h hX; cases hX
  | succ nn ih => intro l0 l1 l2 h hX; exact wX9_taken_B4 hO G hr hnm  ih l0 l1 l2 h hX
noncomputable def xX9_taken (l0 : Nat) (h : ZH) : Option (Int32 × ZH) := xX9_taken_L4 zFU l0 (0 : Int32) (0 : Int32) h
set_option maxHeartbeats 4000000 in
set_option maxRecDepth 100000 in
theorem lX9_taken {Γ : ZG} {l : Launch} (hO : z_OK Γ) {l0 : Nat} {h : ZH} {r : (Int32 × ZH)} (hX : xX9_taken l0 h = some r) : z_M Γ l yX9_taken (z_ws1 yX9_taken cX9_taken 3 (some .int)) rmX9_taken [.ref l0] h (some (.int r.1)) r.2 := by
  refine z_start hO (plainFor_of_name (by decide)) (Nat.le_of_ble_eq_true rfl) ?_
  intro p e s m args below meth c G hr hnm
  refine z_lvc (lv2 := [(0, .ref l0)]) rfl ?_
  refine z_iconst (pc := 0) (v := 0) G dX9_taken_0 (by decide) ?_
  refine z_istore_n (pc := 1) (lv2 := [(0, .ref l0), (1, .int (0 : Int32))]) G dX9_taken_1 rfl (by decide) rfl rfl ?_
  refine z_iconst (pc := 2) (v := 0) G dX9_taken_2 (by decide) ?_
  refine z_istore_n (pc := 3) (lv2 := [(0, .ref l0), (1, .int (0 : Int32)), (2, .int (0 : Int32))]) G dX9_taken_3 rfl (by decide) rfl rfl ?_
  exact wX9_taken_L4 hO G hr hnm zFU _ _ _ _ hX
theorem dX9_best_0 : decode cX9_best 0 = .ok (.iconst (-1), 1) := by decide +kernel
theorem dX9_best_1 : decode cX9_best 1 = .ok (.istore_n 1, 1) := by decide +kernel
theorem dX9_best_2 : decode cX9_best 2 = .ok (.iconst 0, 1) := by decide +kernel
theorem dX9_best_3 : decode cX9_best 3 = .ok (.istore_n 2, 1) := by decide +kernel
theorem dX9_best_4 : decode cX9_best 4 = .ok (.iload_n 2, 1) := by decide +kernel
theorem dX9_best_5 : decode cX9_best 5 = .ok (.aload_n 0, 1) := by decide +kernel
theorem dX9_best_6 : decode cX9_best 6 = .ok (.invokevirtual 337, 3) := by decide +kernel
theorem dX9_best_9 : decode cX9_best 9 = .ok (.if_icmp .ge 28, 3) := by decide +kernel
theorem dX9_best_12 : decode cX9_best 12 = .ok (.iload_n 1, 1) := by decide +kernel
theorem dX9_best_13 : decode cX9_best 13 = .ok (.ifCond .lt 16, 3) := by decide +kernel
theorem dX9_best_16 : decode cX9_best 16 = .ok (.aload_n 0, 1) := by decide +kernel
theorem dX9_best_17 : decode cX9_best 17 = .ok (.iload_n 2, 1) := by decide +kernel
theorem dX9_best_18 : decode cX9_best 18 = .ok (.invokevirtual 328, 3) := by decide +kernel
theorem dX9_best_21 : decode cX9_best 21 = .ok (.aload_n 0, 1) := by decide +kernel
theorem dX9_best_22 : decode cX9_best 22 = .ok (.iload_n 1, 1) := by decide +kernel
theorem dX9_best_23 : decode cX9_best 23 = .ok (.invokevirtual 328, 3) := by decide +kernel
theorem dX9_best_26 : decode cX9_best 26 = .ok (.if_icmp .le 5, 3) := by decide +kernel
theorem dX9_best_29 : decode cX9_best 29 = .ok (.iload_n 2, 1) := by decide +kernel
theorem dX9_best_30 : decode cX9_best 30 = .ok (.istore_n 1, 1) := by decide +kernel
theorem dX9_best_31 : decode cX9_best 31 = .ok (.iinc 2 1, 3) := by decide +kernel
theorem dX9_best_34 : decode cX9_best 34 = .ok (.goto (-30), 3) := by decide +kernel
theorem dX9_best_37 : decode cX9_best 37 = .ok (.iload_n 1, 1) := by decide +kernel
theorem dX9_best_38 : decode cX9_best 38 = .ok (.ireturn, 1) := by decide +kernel
theorem ydX9_best : z_yd yX9_best 0 := ⟨by decide, by decide, by decide +kernel⟩
abbrev rmX9_best : Room := { frames := 2, cells := 0, slots := 0, locals := 45 }
noncomputable def xX9_best_B4 (r4 : Nat → Int32 → Int32 → ZH → Option (Int32 × ZH)) (l0 : Nat) (l1 : Int32) (l2 : Int32) (h : ZH) : Option (Int32 × ZH) := (z_gu (z_is h l0 9) ((xX9_lots l0 h).bind fun r6 => (if r6.1 ≤ l2 then some (l1, r6.2) else (if l1 < 0 then r4 l0 l2 (l2 + 1) r6.2 else (z_gu (z_is r6.2 l0 9) ((xX9_heardOf l0 l2 r6.2).bind fun r18 => (z_gu (z_is r18.2 l0 9) ((xX9_heardOf l0 l1 r18.2).bind fun r23 => (if r18.1 ≤ r23.1 then r4 l0 l1 (l2 + 1) r23.2 else r4 l0 l2 (l2 + 1) r23.2)))))))))
noncomputable def xX9_best_L4 (n : Nat) : Nat → Int32 → Int32 → ZH → Option (Int32 × ZH) := Nat.rec (motive := fun _ => Nat → Int32 → Int32 → ZH → Option (Int32 × ZH)) (fun _ _ _ _ => none) (fun _ rec => xX9_best_B4  rec) n
set_option maxHeartbeats 4000000 in
set_option maxRecDepth 100000 in
theorem wX9_best_B4 {Γ : ZG} {p : Program} {l : Launch} {e : Env} {s : State} {m : MethodId} {args : Array Value} {below : List Frame} {meth : Method} {c : Code} (hO : z_OK Γ) (G : z_GG Γ p s m args meth c cX9_best 3 RX9) (hr : meth.sig.returnType = (some .int)) (hnm : meth.name = "best") {r : (Int32 × ZH)} {r4 : Nat → Int32 → Int32 → ZH → Option (Int32 × ZH)} (H4 : ∀ (l0 : Nat) (l1 : Int32) (l2 : Int32) (h : ZH), r4 l0 l1 l2 h = some r → z_W Γ p l e rmX9_best s m args below meth c 3 0 0 (MQ below (z_Qc Γ (some (.int r.1)) r.2) args s rmX9_best.cells rmX9_best.slots (z_A Γ)) 4 [(0, .ref l0), (1, .int l1), (2, .int l2)] [] h) : ∀ (l0 : Nat) (l1 : Int32) (l2 : Int32) (h : ZH), xX9_best_B4  r4 l0 l1 l2 h = some r → z_W Γ p l e rmX9_best s m args below meth c 3 0 0 (MQ below (z_Qc Γ (some (.int r.1)) r.2) args s rmX9_best.cells rmX9_best.slots (z_A Γ)) 4 [(0, .ref l0), (1, .int l1), (2, .int l2)] [] h := by
  intro l0 l1 l2 h hX
  refine z_iload_n (pc := 4) G 2 dX9_best_4 rfl rfl ?_
  refine z_aload_n (pc := 5) G 0 dX9_best_5 rfl rfl ?_
  obtain ⟨hi6, hX⟩ := z_gu_s hX
  obtain ⟨r6, hv6, hX⟩ := z_bd hX
  refine z_cVI (pc := 6) (As := []) (c2 := 0) (s2 := 0) G kK9 (lX9_lots hO hv6) hi6 kt_1221 kt_11 kt_1218 kt_1220 ks_36 ydX9_lots ⟨by decide, by decide⟩ rfl (Nat.le_of_ble_eq_true rfl) ⟨rfl, rfl⟩ ⟨by decide, by decide⟩ rfl dX9_best_6 ?_
  refine z_icmp_ge (pc := 9) (tgt := 37) G dX9_best_9 (by decide) (fun hc9 => ?_) (fun hc9 => ?_)
  · have hX := z_it hc9 hX
    refine z_iload_n (pc := 37) G 1 dX9_best_37 rfl rfl ?_
    exact z_iretX (pc := 38) hX G hr dX9_best_38 (by decide) (by decide)
  · have hX := z_if hc9 hX
    refine z_iload_n (pc := 12) G 1 dX9_best_12 rfl rfl ?_
    refine z_if_lt (pc := 13) (tgt := 29) G dX9_best_13 (by decide) (fun hc13 => ?_) (fun hc13 => ?_)
    · have hX := z_it hc13 hX
      refine z_iload_n (pc := 29) G 2 dX9_best_29 rfl rfl ?_
      refine z_istore_n (pc := 30) (lv2 := [(0, .ref l0), (1, .int l2), (2, .int l2)]) G dX9_best_30 rfl (by decide) rfl rfl ?_
      refine z_iincw (pc := 31) (w := 1) (lv2 := [(0, .ref l0), (1, .int l2), (2, .int (l2 + 1))]) G 2 dX9_best_31 rfl (by decide) (by decide) rfl rfl ?_
      refine z_goto (pc := 34) (tgt := 4) G dX9_best_34 (by decide) ?_
      exact H4 _ _ _ _ hX
    · have hX := z_if hc13 hX
      refine z_aload_n (pc := 16) G 0 dX9_best_16 rfl rfl ?_
      refine z_iload_n (pc := 17) G 2 dX9_best_17 rfl rfl ?_
      obtain ⟨hi18, hX⟩ := z_gu_s hX
      obtain ⟨r18, hv18, hX⟩ := z_bd hX
      refine z_cVI (pc := 18) (As := [.int l2]) (c2 := 0) (s2 := 0) G kK9 (lX9_heardOf hO hv18) hi18 kt_1571 kt_11 kt_1568 kt_1570 ks_65 ydX9_heardOf ⟨by decide, by decide⟩ rfl (Nat.le_of_ble_eq_true rfl) ⟨rfl, rfl⟩ ⟨by decide, by decide⟩ rfl dX9_best_18 ?_
      refine z_aload_n (pc := 21) G 0 dX9_best_21 rfl rfl ?_
      refine z_iload_n (pc := 22) G 1 dX9_best_22 rfl rfl ?_
      obtain ⟨hi23, hX⟩ := z_gu_s hX
      obtain ⟨r23, hv23, hX⟩ := z_bd hX
      refine z_cVI (pc := 23) (As := [.int l1]) (c2 := 0) (s2 := 0) G kK9 (lX9_heardOf hO hv23) hi23 kt_1571 kt_11 kt_1568 kt_1570 ks_65 ydX9_heardOf ⟨by decide, by decide⟩ rfl (Nat.le_of_ble_eq_true rfl) ⟨rfl, rfl⟩ ⟨by decide, by decide⟩ rfl dX9_best_23 ?_
      refine z_icmp_le (pc := 26) (tgt := 31) G dX9_best_26 (by decide) (fun hc26 => ?_) (fun hc26 => ?_)
      · have hX := z_it hc26 hX
        refine z_iincw (pc := 31) (w := 1) (lv2 := [(0, .ref l0), (1, .int l1), (2, .int (l2 + 1))]) G 2 dX9_best_31 rfl (by decide) (by decide) rfl rfl ?_
        refine z_goto (pc := 34) (tgt := 4) G dX9_best_34 (by decide) ?_
        exact H4 _ _ _ _ hX
      · have hX := z_if hc26 hX
        refine z_iload_n (pc := 29) G 2 dX9_best_29 rfl rfl ?_
        refine z_istore_n (pc := 30) (lv2 := [(0, .ref l0), (1, .int l2), (2, .int l2)]) G dX9_best_30 rfl (by decide) rfl rfl ?_
        refine z_iincw (pc := 31) (w := 1) (lv2 := [(0, .ref l0), (1, .int l2), (2, .int (l2 + 1))]) G 2 dX9_best_31 rfl (by decide) (by decide) rfl rfl ?_
        refine z_goto (pc := 34) (tgt := 4) G dX9_best_34 (by decide) ?_
        exact H4 _ _ _ _ hX
set_option maxHeartbeats 4000000 in
set_option maxRecDepth 100000 in
theorem wX9_best_L4 {Γ : ZG} {p : Program} {l : Launch} {e : Env} {s : State} {m : MethodId} {args : Array Value} {below : List Frame} {meth : Method} {c : Code} (hO : z_OK Γ) (G : z_GG Γ p s m args meth c cX9_best 3 RX9) (hr : meth.sig.returnType = (some .int)) (hnm : meth.name = "best") {r : (Int32 × ZH)} : ∀ (nn : Nat) (l0 : Nat) (l1 : Int32) (l2 : Int32) (h : ZH), xX9_best_L4  nn l0 l1 l2 h = some r → z_W Γ p l e rmX9_best s m args below meth c 3 0 0 (MQ below (z_Qc Γ (some (.int r.1)) r.2) args s rmX9_best.cells rmX9_best.slots (z_A Γ)) 4 [(0, .ref l0), (1, .int l1), (2, .int l2)] [] h := by
  intro nn
  induction nn with
  | zero => intro l0 l1 l2 h hX; cases hX
  | succ nn ih => intro l0 l1 l2 h hX; exact wX9_best_B4 hO G hr hnm  ih l0 l1 l2 h hX
noncomputable def xX9_best (l0 : Nat) (h : ZH) : Option (Int32 × ZH) := xX9_best_L4 zFU l0 (-1 : Int32) (0 : Int32) h
set_option maxHeartbeats 4000000 in
set_option maxRecDepth 100000 in
theorem lX9_best {Γ : ZG} {l : Launch} (hO : z_OK Γ) {l0 : Nat} {h : ZH} {r : (Int32 × ZH)} (hX : xX9_best l0 h = some r) : z_M Γ l yX9_best (z_ws1 yX9_best cX9_best 3 (some .int)) rmX9_best [.ref l0] h (some (.int r.1)) r.2 := by
  refine z_start hO (plainFor_of_name (by decide)) (Nat.le_of_ble_eq_true rfl) ?_
  intro p e s m args below meth c G hr hnm
  refine z_lvc (lv2 := [(0, .ref l0)]) rfl ?_
  refine z_iconst (pc := 0) (v := (-1)) G dX9_best_0 (by decide) ?_
  refine z_istore_n (pc := 1) (lv2 := [(0, .ref l0), (1, .int (-1 : Int32))]) G dX9_best_1 rfl (by decide) rfl rfl ?_
  refine z_iconst (pc := 2) (v := 0) G dX9_best_2 (by decide) ?_
  refine z_istore_n (pc := 3) (lv2 := [(0, .ref l0), (1, .int (-1 : Int32)), (2, .int (0 : Int32))]) G dX9_best_3 rfl (by decide) rfl rfl ?_
  exact wX9_best_L4 hO G hr hnm zFU _ _ _ _ hX
theorem dX9_fullest_0 : decode cX9_fullest 0 = .ok (.iload_n 1, 1) := by decide +kernel
theorem dX9_fullest_1 : decode cX9_fullest 1 = .ok (.iconst 0, 1) := by decide +kernel
theorem dX9_fullest_2 : decode cX9_fullest 2 = .ok (.iconst 1, 1) := by decide +kernel
theorem dX9_fullest_3 : decode cX9_fullest 3 = .ok (.invokestatic 340, 3) := by decide +kernel
theorem dX9_fullest_6 : decode cX9_fullest 6 = .ok (.ifCond .ne 5, 3) := by decide +kernel
theorem dX9_fullest_9 : decode cX9_fullest 9 = .ok (.iconst (-1), 1) := by decide +kernel
theorem dX9_fullest_10 : decode cX9_fullest 10 = .ok (.ireturn, 1) := by decide +kernel
theorem dX9_fullest_11 : decode cX9_fullest 11 = .ok (.iconst (-1), 1) := by decide +kernel
theorem dX9_fullest_12 : decode cX9_fullest 12 = .ok (.istore_n 2, 1) := by decide +kernel
theorem dX9_fullest_13 : decode cX9_fullest 13 = .ok (.iconst 0, 1) := by decide +kernel
theorem dX9_fullest_14 : decode cX9_fullest 14 = .ok (.istore_n 3, 1) := by decide +kernel
theorem dX9_fullest_15 : decode cX9_fullest 15 = .ok (.iconst 0, 1) := by decide +kernel
theorem dX9_fullest_16 : decode cX9_fullest 16 = .ok (.istore 4, 2) := by decide +kernel
theorem dX9_fullest_18 : decode cX9_fullest 18 = .ok (.iload 4, 2) := by decide +kernel
theorem dX9_fullest_20 : decode cX9_fullest 20 = .ok (.aload_n 0, 1) := by decide +kernel
theorem dX9_fullest_21 : decode cX9_fullest 21 = .ok (.invokevirtual 344, 3) := by decide +kernel
theorem dX9_fullest_24 : decode cX9_fullest 24 = .ok (.if_icmp .ge 78, 3) := by decide +kernel
theorem dX9_fullest_27 : decode cX9_fullest 27 = .ok (.iconst 0, 1) := by decide +kernel
theorem dX9_fullest_28 : decode cX9_fullest 28 = .ok (.istore 5, 2) := by decide +kernel
theorem dX9_fullest_30 : decode cX9_fullest 30 = .ok (.iconst 0, 1) := by decide +kernel
theorem dX9_fullest_31 : decode cX9_fullest 31 = .ok (.istore 6, 2) := by decide +kernel
theorem dX9_fullest_33 : decode cX9_fullest 33 = .ok (.iload 6, 2) := by decide +kernel
theorem dX9_fullest_35 : decode cX9_fullest 35 = .ok (.aload_n 0, 1) := by decide +kernel
theorem dX9_fullest_36 : decode cX9_fullest 36 = .ok (.invokevirtual 337, 3) := by decide +kernel
theorem dX9_fullest_39 : decode cX9_fullest 39 = .ok (.if_icmp .ge 42, 3) := by decide +kernel
theorem dX9_fullest_42 : decode cX9_fullest 42 = .ok (.iload 5, 2) := by decide +kernel
theorem dX9_fullest_44 : decode cX9_fullest 44 = .ok (.aload_n 0, 1) := by decide +kernel
theorem dX9_fullest_45 : decode cX9_fullest 45 = .ok (.iload 6, 2) := by decide +kernel
theorem dX9_fullest_47 : decode cX9_fullest 47 = .ok (.invokevirtual 347, 3) := by decide +kernel
theorem dX9_fullest_50 : decode cX9_fullest 50 = .ok (.ifCond .eq 21, 3) := by decide +kernel
theorem dX9_fullest_53 : decode cX9_fullest 53 = .ok (.aload_n 0, 1) := by decide +kernel
theorem dX9_fullest_54 : decode cX9_fullest 54 = .ok (.iload 6, 2) := by decide +kernel
theorem dX9_fullest_56 : decode cX9_fullest 56 = .ok (.invokevirtual 387, 3) := by decide +kernel
theorem dX9_fullest_59 : decode cX9_fullest 59 = .ok (.iload 4, 2) := by decide +kernel
theorem dX9_fullest_61 : decode cX9_fullest 61 = .ok (.invokestatic 265, 3) := by decide +kernel
theorem dX9_fullest_64 : decode cX9_fullest 64 = .ok (.ifCond .eq 7, 3) := by decide +kernel
theorem dX9_fullest_67 : decode cX9_fullest 67 = .ok (.iconst 1, 1) := by decide +kernel
theorem dX9_fullest_68 : decode cX9_fullest 68 = .ok (.goto 4, 3) := by decide +kernel
theorem dX9_fullest_71 : decode cX9_fullest 71 = .ok (.iconst 0, 1) := by decide +kernel
theorem dX9_fullest_72 : decode cX9_fullest 72 = .ok (.iadd, 1) := by decide +kernel
theorem dX9_fullest_73 : decode cX9_fullest 73 = .ok (.istore 5, 2) := by decide +kernel
theorem dX9_fullest_75 : decode cX9_fullest 75 = .ok (.iinc 6 1, 3) := by decide +kernel
theorem dX9_fullest_78 : decode cX9_fullest 78 = .ok (.goto (-45), 3) := by decide +kernel
theorem dX9_fullest_81 : decode cX9_fullest 81 = .ok (.iload 5, 2) := by decide +kernel
theorem dX9_fullest_83 : decode cX9_fullest 83 = .ok (.iload_n 3, 1) := by decide +kernel
theorem dX9_fullest_84 : decode cX9_fullest 84 = .ok (.if_icmp .gt 6, 3) := by decide +kernel
theorem dX9_fullest_87 : decode cX9_fullest 87 = .ok (.goto 9, 3) := by decide +kernel
theorem dX9_fullest_90 : decode cX9_fullest 90 = .ok (.iload 4, 2) := by decide +kernel
theorem dX9_fullest_92 : decode cX9_fullest 92 = .ok (.istore_n 2, 1) := by decide +kernel
theorem dX9_fullest_93 : decode cX9_fullest 93 = .ok (.iload 5, 2) := by decide +kernel
theorem dX9_fullest_95 : decode cX9_fullest 95 = .ok (.istore_n 3, 1) := by decide +kernel
theorem dX9_fullest_96 : decode cX9_fullest 96 = .ok (.iinc 4 1, 3) := by decide +kernel
theorem dX9_fullest_99 : decode cX9_fullest 99 = .ok (.goto (-81), 3) := by decide +kernel
theorem dX9_fullest_102 : decode cX9_fullest 102 = .ok (.iload_n 2, 1) := by decide +kernel
theorem dX9_fullest_103 : decode cX9_fullest 103 = .ok (.ifCond .ge 7, 3) := by decide +kernel
theorem dX9_fullest_106 : decode cX9_fullest 106 = .ok (.iconst (-1), 1) := by decide +kernel
theorem dX9_fullest_107 : decode cX9_fullest 107 = .ok (.goto 12, 3) := by decide +kernel
theorem dX9_fullest_110 : decode cX9_fullest 110 = .ok (.iload_n 1, 1) := by decide +kernel
theorem dX9_fullest_111 : decode cX9_fullest 111 = .ok (.ifCond .ne 7, 3) := by decide +kernel
theorem dX9_fullest_114 : decode cX9_fullest 114 = .ok (.iload_n 2, 1) := by decide +kernel
theorem dX9_fullest_115 : decode cX9_fullest 115 = .ok (.goto 4, 3) := by decide +kernel
theorem dX9_fullest_118 : decode cX9_fullest 118 = .ok (.iload_n 3, 1) := by decide +kernel
theorem dX9_fullest_119 : decode cX9_fullest 119 = .ok (.ireturn, 1) := by decide +kernel
theorem ydX9_fullest : z_yd yX9_fullest 1 := ⟨by decide, by decide, by decide +kernel⟩
abbrev rmX9_fullest : Room := { frames := 2, cells := 0, slots := 0, locals := 42 }
noncomputable def xX9_fullest_B81 (r18 : Nat → Int32 → Int32 → Int32 → Int32 → ZH → Option (Int32 × ZH)) (l0 : Nat) (l1 : Int32) (l2 : Int32) (l3 : Int32) (l4 : Int32) (l5 : Int32) (h : ZH) : Option (Int32 × ZH) := (if l3 < l5 then r18 l0 l1 l4 l5 (l4 + 1) h else r18 l0 l1 l2 l3 (l4 + 1) h)
set_option maxHeartbeats 4000000 in
set_option maxRecDepth 100000 in
theorem wX9_fullest_B81 {Γ : ZG} {p : Program} {l : Launch} {e : Env} {s : State} {m : MethodId} {args : Array Value} {below : List Frame} {meth : Method} {c : Code} (hO : z_OK Γ) (G : z_GG Γ p s m args meth c cX9_fullest 7 RX9) (hr : meth.sig.returnType = (some .int)) (hnm : meth.name = "fullest") {r : (Int32 × ZH)} {r18 : Nat → Int32 → Int32 → Int32 → Int32 → ZH → Option (Int32 × ZH)} (H18 : ∀ (l0 : Nat) (l1 : Int32) (l2 : Int32) (l3 : Int32) (l4 : Int32) (h : ZH), r18 l0 l1 l2 l3 l4 h = some r → z_W Γ p l e rmX9_fullest s m args below meth c 7 0 0 (MQ below (z_Qc Γ (some (.int r.1)) r.2) args s rmX9_fullest.cells rmX9_fullest.slots (z_A Γ)) 18 [(0, .ref l0), (1, .int l1), (2, .int l2), (3, .int l3), (4, .int l4)] [] h) : ∀ (l0 : Nat) (l1 : Int32) (l2 : Int32) (l3 : Int32) (l4 : Int32) (l5 : Int32) (h : ZH), xX9_fullest_B81  r18 l0 l1 l2 l3 l4 l5 h = some r → z_W Γ p l e rmX9_fullest s m args below meth c 7 0 0 (MQ below (z_Qc Γ (some (.int r.1)) r.2) args s rmX9_fullest.cells rmX9_fullest.slots (z_A Γ)) 81 [(0, .ref l0), (1, .int l1), (2, .int l2), (3, .int l3), (4, .int l4), (5, .int l5)] [] h := by
  intro l0 l1 l2 l3 l4 l5 h hX
  refine z_iload (pc := 81) G 5 dX9_fullest_81 rfl ?_
  refine z_iload_n (pc := 83) G 3 dX9_fullest_83 rfl rfl ?_
  refine z_icmp_gt (pc := 84) (tgt := 90) G dX9_fullest_84 (by decide) (fun hc84 => ?_) (fun hc84 => ?_)
  · have hX := z_it hc84 hX
    refine z_iload (pc := 90) G 4 dX9_fullest_90 rfl ?_
    refine z_istore_n (pc := 92) (lv2 := [(0, .ref l0), (1, .int l1), (2, .int l4), (3, .int l3), (4, .int l4), (5, .int l5)]) G dX9_fullest_92 rfl (by decide) rfl rfl ?_
    refine z_iload (pc := 93) G 5 dX9_fullest_93 rfl ?_
    refine z_istore_n (pc := 95) (lv2 := [(0, .ref l0), (1, .int l1), (2, .int l4), (3, .int l5), (4, .int l4), (5, .int l5)]) G dX9_fullest_95 rfl (by decide) rfl rfl ?_
    refine z_iincw (pc := 96) (w := 1) (lv2 := [(0, .ref l0), (1, .int l1), (2, .int l4), (3, .int l5), (4, .int (l4 + 1)), (5, .int l5)]) G 4 dX9_fullest_96 rfl (by decide) (by decide) rfl rfl ?_
    refine z_goto (pc := 99) (tgt := 18) G dX9_fullest_99 (by decide) ?_
    refine z_drop (lv2 := [(0, .ref l0), (1, .int l1), (2, .int l4), (3, .int l5), (4, .int (l4 + 1))]) [0, 1, 2, 3, 4] rfl ?_
    exact H18 _ _ _ _ _ _ hX
  · have hX := z_if hc84 hX
    refine z_goto (pc := 87) (tgt := 96) G dX9_fullest_87 (by decide) ?_
    refine z_iincw (pc := 96) (w := 1) (lv2 := [(0, .ref l0), (1, .int l1), (2, .int l2), (3, .int l3), (4, .int (l4 + 1)), (5, .int l5)]) G 4 dX9_fullest_96 rfl (by decide) (by decide) rfl rfl ?_
    refine z_goto (pc := 99) (tgt := 18) G dX9_fullest_99 (by decide) ?_
    refine z_drop (lv2 := [(0, .ref l0), (1, .int l1), (2, .int l2), (3, .int l3), (4, .int (l4 + 1))]) [0, 1, 2, 3, 4] rfl ?_
    exact H18 _ _ _ _ _ _ hX
noncomputable def xX9_fullest_B33 (r18 : Nat → Int32 → Int32 → Int32 → Int32 → ZH → Option (Int32 × ZH)) (r33 : Nat → Int32 → Int32 → Int32 → Int32 → Int32 → Int32 → ZH → Option (Int32 × ZH)) (l0 : Nat) (l1 : Int32) (l2 : Int32) (l3 : Int32) (l4 : Int32) (l5 : Int32) (l6 : Int32) (h : ZH) : Option (Int32 × ZH) := (z_gu (z_is h l0 9) ((xX9_lots l0 h).bind fun r36 => (if r36.1 ≤ l6 then xX9_fullest_B81 r18 l0 l1 l2 l3 l4 l5 r36.2 else (z_gu (z_is r36.2 l0 9) ((xX9_isOn l0 l6 r36.2).bind fun r47 => (if r47.1 = 0 then r33 l0 l1 l2 l3 l4 (l5 + (0 : Int32)) (l6 + 1) r47.2 else (z_gu (z_is r47.2 l0 9) ((xX9_ownedBy l0 l6 r47.2).bind fun r56 => ((xX9_bit r56.1 l4 r56.2).bind fun r61 => (if r61.1 = 0 then r33 l0 l1 l2 l3 l4 (l5 + (0 : Int32)) (l6 + 1) r61.2 else r33 l0 l1 l2 l3 l4 (l5 + (1 : Int32)) (l6 + 1) r61.2))))))))))
noncomputable def xX9_fullest_L33 (r18 : Nat → Int32 → Int32 → Int32 → Int32 → ZH → Option (Int32 × ZH)) (n : Nat) : Nat → Int32 → Int32 → Int32 → Int32 → Int32 → Int32 → ZH → Option (Int32 × ZH) := Nat.rec (motive := fun _ => Nat → Int32 → Int32 → Int32 → Int32 → Int32 → Int32 → ZH → Option (Int32 × ZH)) (fun _ _ _ _ _ _ _ _ => none) (fun _ rec => xX9_fullest_B33  r18 rec) n
set_option maxHeartbeats 4000000 in
set_option maxRecDepth 100000 in
theorem wX9_fullest_B33 {Γ : ZG} {p : Program} {l : Launch} {e : Env} {s : State} {m : MethodId} {args : Array Value} {below : List Frame} {meth : Method} {c : Code} (hO : z_OK Γ) (G : z_GG Γ p s m args meth c cX9_fullest 7 RX9) (hr : meth.sig.returnType = (some .int)) (hnm : meth.name = "fullest") {r : (Int32 × ZH)} {r18 : Nat → Int32 → Int32 → Int32 → Int32 → ZH → Option (Int32 × ZH)} (H18 : ∀ (l0 : Nat) (l1 : Int32) (l2 : Int32) (l3 : Int32) (l4 : Int32) (h : ZH), r18 l0 l1 l2 l3 l4 h = some r → z_W Γ p l e rmX9_fullest s m args below meth c 7 0 0 (MQ below (z_Qc Γ (some (.int r.1)) r.2) args s rmX9_fullest.cells rmX9_fullest.slots (z_A Γ)) 18 [(0, .ref l0), (1, .int l1), (2, .int l2), (3, .int l3), (4, .int l4)] [] h) {r33 : Nat → Int32 → Int32 → Int32 → Int32 → Int32 → Int32 → ZH → Option (Int32 × ZH)} (H33 : ∀ (l0 : Nat) (l1 : Int32) (l2 : Int32) (l3 : Int32) (l4 : Int32) (l5 : Int32) (l6 : Int32) (h : ZH), r33 l0 l1 l2 l3 l4 l5 l6 h = some r → z_W Γ p l e rmX9_fullest s m args below meth c 7 0 0 (MQ below (z_Qc Γ (some (.int r.1)) r.2) args s rmX9_fullest.cells rmX9_fullest.slots (z_A Γ)) 33 [(0, .ref l0), (1, .int l1), (2, .int l2), (3, .int l3), (4, .int l4), (5, .int l5), (6, .int l6)] [] h) : ∀ (l0 : Nat) (l1 : Int32) (l2 : Int32) (l3 : Int32) (l4 : Int32) (l5 : Int32) (l6 : Int32) (h : ZH), xX9_fullest_B33  r18 r33 l0 l1 l2 l3 l4 l5 l6 h = some r → z_W Γ p l e rmX9_fullest s m args below meth c 7 0 0 (MQ below (z_Qc Γ (some (.int r.1)) r.2) args s rmX9_fullest.cells rmX9_fullest.slots (z_A Γ)) 33 [(0, .ref l0), (1, .int l1), (2, .int l2), (3, .int l3), (4, .int l4), (5, .int l5), (6, .int l6)] [] h := by
  intro l0 l1 l2 l3 l4 l5 l6 h hX
  refine z_iload (pc := 33) G 6 dX9_fullest_33 rfl ?_
  refine z_aload_n (pc := 35) G 0 dX9_fullest_35 rfl rfl ?_
  obtain ⟨hi36, hX⟩ := z_gu_s hX
  obtain ⟨r36, hv36, hX⟩ := z_bd hX
  refine z_cVI (pc := 36) (As := []) (c2 := 0) (s2 := 0) G kK9 (lX9_lots hO hv36) hi36 kt_1221 kt_11 kt_1218 kt_1220 ks_36 ydX9_lots ⟨by decide, by decide⟩ rfl (Nat.le_of_ble_eq_true rfl) ⟨rfl, rfl⟩ ⟨by decide, by decide⟩ rfl dX9_fullest_36 ?_
  refine z_icmp_ge (pc := 39) (tgt := 81) G dX9_fullest_39 (by decide) (fun hc39 => ?_) (fun hc39 => ?_)
  · have hX := z_it hc39 hX
    refine z_drop (lv2 := [(0, .ref l0), (1, .int l1), (2, .int l2), (3, .int l3), (4, .int l4), (5, .int l5)]) [0, 1, 2, 3, 4, 5] rfl ?_
    exact wX9_fullest_B81 hO G hr hnm H18 _ _ _ _ _ _ _ hX
  · have hX := z_if hc39 hX
    refine z_iload (pc := 42) G 5 dX9_fullest_42 rfl ?_
    refine z_aload_n (pc := 44) G 0 dX9_fullest_44 rfl rfl ?_
    refine z_iload (pc := 45) G 6 dX9_fullest_45 rfl ?_
    obtain ⟨hi47, hX⟩ := z_gu_s hX
    obtain ⟨r47, hv47, hX⟩ := z_bd hX
    refine z_cVI (pc := 47) (As := [.int l6]) (c2 := 0) (s2 := 0) G kK9 (lX9_isOn hO hv47) hi47 kt_1567 kt_11 kt_1564 kt_1566 ks_64 ydX9_isOn ⟨by decide, by decide⟩ rfl (Nat.le_of_ble_eq_true rfl) ⟨rfl, rfl⟩ ⟨by decide, by decide⟩ rfl dX9_fullest_47 ?_
    refine z_if_eq (pc := 50) (tgt := 71) G dX9_fullest_50 (by decide) (fun hc50 => ?_) (fun hc50 => ?_)
    · have hX := z_it hc50 hX
      refine z_iconst (pc := 71) (v := 0) G dX9_fullest_71 (by decide) ?_
      refine z_iadd (pc := 72) G dX9_fullest_72 ?_
      refine z_istore (pc := 73) (lv2 := [(0, .ref l0), (1, .int l1), (2, .int l2), (3, .int l3), (4, .int l4), (5, .int (l5 + (0 : Int32))), (6, .int l6)]) G dX9_fullest_73 (by decide) rfl rfl ?_
      refine z_iincw (pc := 75) (w := 1) (lv2 := [(0, .ref l0), (1, .int l1), (2, .int l2), (3, .int l3), (4, .int l4), (5, .int (l5 + (0 : Int32))), (6, .int (l6 + 1))]) G 6 dX9_fullest_75 rfl (by decide) (by decide) rfl rfl ?_
      refine z_goto (pc := 78) (tgt := 33) G dX9_fullest_78 (by decide) ?_
      exact H33 _ _ _ _ _ _ _ _ hX
    · have hX := z_if hc50 hX
      refine z_aload_n (pc := 53) G 0 dX9_fullest_53 rfl rfl ?_
      refine z_iload (pc := 54) G 6 dX9_fullest_54 rfl ?_
      obtain ⟨hi56, hX⟩ := z_gu_s hX
      obtain ⟨r56, hv56, hX⟩ := z_bd hX
      refine z_cVI (pc := 56) (As := [.int l6]) (c2 := 0) (s2 := 0) G kK9 (lX9_ownedBy hO hv56) hi56 kt_1629 kt_11 kt_1626 kt_1628 ks_73 ydX9_ownedBy ⟨by decide, by decide⟩ rfl (Nat.le_of_ble_eq_true rfl) ⟨rfl, rfl⟩ ⟨by decide, by decide⟩ rfl dX9_fullest_56 ?_
      refine z_iload (pc := 59) G 4 dX9_fullest_59 rfl ?_
      obtain ⟨r61, hv61, hX⟩ := z_bd hX
      refine z_cSI (pc := 61) (As := [.int r56.1, .int l4]) (c2 := 0) (s2 := 0) G (lX9_bit hO hv61) kt_1476 kt_11 kt_1474 kt_1475 ydX9_bit ⟨by decide, by decide⟩ rfl (Nat.le_of_ble_eq_true rfl) ⟨rfl, rfl⟩ ⟨by decide, by decide⟩ rfl dX9_fullest_61 ?_
      refine z_if_eq (pc := 64) (tgt := 71) G dX9_fullest_64 (by decide) (fun hc64 => ?_) (fun hc64 => ?_)
      · have hX := z_it hc64 hX
        refine z_iconst (pc := 71) (v := 0) G dX9_fullest_71 (by decide) ?_
        refine z_iadd (pc := 72) G dX9_fullest_72 ?_
        refine z_istore (pc := 73) (lv2 := [(0, .ref l0), (1, .int l1), (2, .int l2), (3, .int l3), (4, .int l4), (5, .int (l5 + (0 : Int32))), (6, .int l6)]) G dX9_fullest_73 (by decide) rfl rfl ?_
        refine z_iincw (pc := 75) (w := 1) (lv2 := [(0, .ref l0), (1, .int l1), (2, .int l2), (3, .int l3), (4, .int l4), (5, .int (l5 + (0 : Int32))), (6, .int (l6 + 1))]) G 6 dX9_fullest_75 rfl (by decide) (by decide) rfl rfl ?_
        refine z_goto (pc := 78) (tgt := 33) G dX9_fullest_78 (by decide) ?_
        exact H33 _ _ _ _ _ _ _ _ hX
      · have hX := z_if hc64 hX
        refine z_iconst (pc := 67) (v := 1) G dX9_fullest_67 (by decide) ?_
        refine z_goto (pc := 68) (tgt := 72) G dX9_fullest_68 (by decide) ?_
        refine z_iadd (pc := 72) G dX9_fullest_72 ?_
        refine z_istore (pc := 73) (lv2 := [(0, .ref l0), (1, .int l1), (2, .int l2), (3, .int l3), (4, .int l4), (5, .int (l5 + (1 : Int32))), (6, .int l6)]) G dX9_fullest_73 (by decide) rfl rfl ?_
        refine z_iincw (pc := 75) (w := 1) (lv2 := [(0, .ref l0), (1, .int l1), (2, .int l2), (3, .int l3), (4, .int l4), (5, .int (l5 + (1 : Int32))), (6, .int (l6 + 1))]) G 6 dX9_fullest_75 rfl (by decide) (by decide) rfl rfl ?_
        refine z_goto (pc := 78) (tgt := 33) G dX9_fullest_78 (by decide) ?_
        exact H33 _ _ _ _ _ _ _ _ hX
set_option maxHeartbeats 4000000 in
set_option maxRecDepth 100000 in
theorem wX9_fullest_L33 {Γ : ZG} {p : Program} {l : Launch} {e : Env} {s : State} {m : MethodId} {args : Array Value} {below : List Frame} {meth : Method} {c : Code} (hO : z_OK Γ) (G : z_GG Γ p s m args meth c cX9_fullest 7 RX9) (hr : meth.sig.returnType = (some .int)) (hnm : meth.name = "fullest") {r : (Int32 × ZH)} {r18 : Nat → Int32 → Int32 → Int32 → Int32 → ZH → Option (Int32 × ZH)} (H18 : ∀ (l0 : Nat) (l1 : Int32) (l2 : Int32) (l3 : Int32) (l4 : Int32) (h : ZH), r18 l0 l1 l2 l3 l4 h = some r → z_W Γ p l e rmX9_fullest s m args below meth c 7 0 0 (MQ below (z_Qc Γ (some (.int r.1)) r.2) args s rmX9_fullest.cells rmX9_fullest.slots (z_A Γ)) 18 [(0, .ref l0), (1, .int l1), (2, .int l2), (3, .int l3), (4, .int l4)] [] h) : ∀ (nn : Nat) (l0 : Nat) (l1 : Int32) (l2 : Int32) (l3 : Int32) (l4 : Int32) (l5 : Int32) (l6 : Int32) (h : ZH), xX9_fullest_L33  r18 nn l0 l1 l2 l3 l4 l5 l6 h = some r → z_W Γ p l e rmX9_fullest s m args below meth c 7 0 0 (MQ below (z_Qc Γ (some (.int r.1)) r.2) args s rmX9_fullest.cells rmX9_fullest.slots (z_A Γ)) 33 [(0, .ref l0), (1, .int l1), (2, .int l2), (3, .int l3), (4, .int l4), (5, .int l5), (6, .int l6)] [] h := by
  intro nn
  induction nn with
  | zero => intro l0 l1 l2 l3 l4 l5 l6 h hX; cases hX
  | succ nn ih => intro l0 l1 l2 l3 l4 l5 l6 h hX; exact wX9_fullest_B33 hO G hr hnm  H18 ih l0 l1 l2 l3 l4 l5 l6 h hX
noncomputable def xX9_fullest_B102 (l1 : Int32) (l2 : Int32) (l3 : Int32) (h : ZH) : Option (Int32 × ZH) := (if 0 ≤ l2 then (if l1 = 0 then some (l2, h) else some (l3, h)) else some ((-1 : Int32), h))
set_option maxHeartbeats 4000000 in
set_option maxRecDepth 100000 in
theorem wX9_fullest_B102 {Γ : ZG} {p : Program} {l : Launch} {e : Env} {s : State} {m : MethodId} {args : Array Value} {below : List Frame} {meth : Method} {c : Code} (hO : z_OK Γ) (G : z_GG Γ p s m args meth c cX9_fullest 7 RX9) (hr : meth.sig.returnType = (some .int)) (hnm : meth.name = "fullest") {r : (Int32 × ZH)} : ∀ (l1 : Int32) (l2 : Int32) (l3 : Int32) (h : ZH), xX9_fullest_B102  l1 l2 l3 h = some r → z_W Γ p l e rmX9_fullest s m args below meth c 7 0 0 (MQ below (z_Qc Γ (some (.int r.1)) r.2) args s rmX9_fullest.cells rmX9_fullest.slots (z_A Γ)) 102 [(1, .int l1), (2, .int l2), (3, .int l3)] [] h := by
  intro l1 l2 l3 h hX
  refine z_iload_n (pc := 102) G 1 dX9_fullest_102 rfl rfl ?_
  refine z_if_ge (pc := 103) (tgt := 110) G dX9_fullest_103 (by decide) (fun hc103 => ?_) (fun hc103 => ?_)
  · have hX := z_it hc103 hX
    refine z_iload_n (pc := 110) G 0 dX9_fullest_110 rfl rfl ?_
    refine z_if_ne (pc := 111) (tgt := 118) G dX9_fullest_111 (by decide) (fun hc111 => ?_) (fun hc111 => ?_)
    · have hX := z_if hc111 hX
      refine z_iload_n (pc := 118) G 2 dX9_fullest_118 rfl rfl ?_
      exact z_iretX (pc := 119) hX G hr dX9_fullest_119 (by decide) (by decide)
    · have hX := z_it hc111 hX
      refine z_iload_n (pc := 114) G 1 dX9_fullest_114 rfl rfl ?_
      refine z_goto (pc := 115) (tgt := 119) G dX9_fullest_115 (by decide) ?_
      exact z_iretX (pc := 119) hX G hr dX9_fullest_119 (by decide) (by decide)
  · have hX := z_if hc103 hX
    refine z_iconst (pc := 106) (v := (-1)) G dX9_fullest_106 (by decide) ?_
    refine z_goto (pc := 107) (tgt := 119) G dX9_fullest_107 (by decide) ?_
    exact z_iretX (pc := 119) hX G hr dX9_fullest_119 (by decide) (by decide)
noncomputable def xX9_fullest_B18 (r18 : Nat → Int32 → Int32 → Int32 → Int32 → ZH → Option (Int32 × ZH)) (l0 : Nat) (l1 : Int32) (l2 : Int32) (l3 : Int32) (l4 : Int32) (h : ZH) : Option (Int32 × ZH) := (z_gu (z_is h l0 9) ((xX9_round l0 h).bind fun r21 => (if r21.1 ≤ l4 then xX9_fullest_B102 l1 l2 l3 r21.2 else xX9_fullest_L33 r18 zFU l0 l1 l2 l3 l4 (0 : Int32) (0 : Int32) r21.2)))
noncomputable def xX9_fullest_L18 (n : Nat) : Nat → Int32 → Int32 → Int32 → Int32 → ZH → Option (Int32 × ZH) := Nat.rec (motive := fun _ => Nat → Int32 → Int32 → Int32 → Int32 → ZH → Option (Int32 × ZH)) (fun _ _ _ _ _ _ => none) (fun _ rec => xX9_fullest_B18  rec) n
set_option maxHeartbeats 4000000 in
set_option maxRecDepth 100000 in
theorem wX9_fullest_B18 {Γ : ZG} {p : Program} {l : Launch} {e : Env} {s : State} {m : MethodId} {args : Array Value} {below : List Frame} {meth : Method} {c : Code} (hO : z_OK Γ) (G : z_GG Γ p s m args meth c cX9_fullest 7 RX9) (hr : meth.sig.returnType = (some .int)) (hnm : meth.name = "fullest") {r : (Int32 × ZH)} {r18 : Nat → Int32 → Int32 → Int32 → Int32 → ZH → Option (Int32 × ZH)} (H18 : ∀ (l0 : Nat) (l1 : Int32) (l2 : Int32) (l3 : Int32) (l4 : Int32) (h : ZH), r18 l0 l1 l2 l3 l4 h = some r → z_W Γ p l e rmX9_fullest s m args below meth c 7 0 0 (MQ below (z_Qc Γ (some (.int r.1)) r.2) args s rmX9_fullest.cells rmX9_fullest.slots (z_A Γ)) 18 [(0, .ref l0), (1, .int l1), (2, .int l2), (3, .int l3), (4, .int l4)] [] h) : ∀ (l0 : Nat) (l1 : Int32) (l2 : Int32) (l3 : Int32) (l4 : Int32) (h : ZH), xX9_fullest_B18  r18 l0 l1 l2 l3 l4 h = some r → z_W Γ p l e rmX9_fullest s m args below meth c 7 0 0 (MQ below (z_Qc Γ (some (.int r.1)) r.2) args s rmX9_fullest.cells rmX9_fullest.slots (z_A Γ)) 18 [(0, .ref l0), (1, .int l1), (2, .int l2), (3, .int l3), (4, .int l4)] [] h := by
  intro l0 l1 l2 l3 l4 h hX
  refine z_iload (pc := 18) G 4 dX9_fullest_18 rfl ?_
  refine z_aload_n (pc := 20) G 0 dX9_fullest_20 rfl rfl ?_
  obtain ⟨hi21, hX⟩ := z_gu_s hX
  obtain ⟨r21, hv21, hX⟩ := z_bd hX
  refine z_cVI (pc := 21) (As := []) (c2 := 0) (s2 := 0) G kK9 (lX9_round hO hv21) hi21 kt_1575 kt_11 kt_1572 kt_1574 ks_66 ydX9_round ⟨by decide, by decide⟩ rfl (Nat.le_of_ble_eq_true rfl) ⟨rfl, rfl⟩ ⟨by decide, by decide⟩ rfl dX9_fullest_21 ?_
  refine z_icmp_ge (pc := 24) (tgt := 102) G dX9_fullest_24 (by decide) (fun hc24 => ?_) (fun hc24 => ?_)
  · have hX := z_it hc24 hX
    refine z_drop (lv2 := [(1, .int l1), (2, .int l2), (3, .int l3)]) [1, 2, 3] rfl ?_
    exact wX9_fullest_B102 hO G hr hnm _ _ _ _ hX
  · have hX := z_if hc24 hX
    refine z_iconst (pc := 27) (v := 0) G dX9_fullest_27 (by decide) ?_
    refine z_istore (pc := 28) (lv2 := [(0, .ref l0), (1, .int l1), (2, .int l2), (3, .int l3), (4, .int l4), (5, .int (0 : Int32))]) G dX9_fullest_28 (by decide) rfl rfl ?_
    refine z_iconst (pc := 30) (v := 0) G dX9_fullest_30 (by decide) ?_
    refine z_istore (pc := 31) (lv2 := [(0, .ref l0), (1, .int l1), (2, .int l2), (3, .int l3), (4, .int l4), (5, .int (0 : Int32)), (6, .int (0 : Int32))]) G dX9_fullest_31 (by decide) rfl rfl ?_
    exact wX9_fullest_L33 hO G hr hnm H18 zFU _ _ _ _ _ _ _ _ hX
set_option maxHeartbeats 4000000 in
set_option maxRecDepth 100000 in
theorem wX9_fullest_L18 {Γ : ZG} {p : Program} {l : Launch} {e : Env} {s : State} {m : MethodId} {args : Array Value} {below : List Frame} {meth : Method} {c : Code} (hO : z_OK Γ) (G : z_GG Γ p s m args meth c cX9_fullest 7 RX9) (hr : meth.sig.returnType = (some .int)) (hnm : meth.name = "fullest") {r : (Int32 × ZH)} : ∀ (nn : Nat) (l0 : Nat) (l1 : Int32) (l2 : Int32) (l3 : Int32) (l4 : Int32) (h : ZH), xX9_fullest_L18  nn l0 l1 l2 l3 l4 h = some r → z_W Γ p l e rmX9_fullest s m args below meth c 7 0 0 (MQ below (z_Qc Γ (some (.int r.1)) r.2) args s rmX9_fullest.cells rmX9_fullest.slots (z_A Γ)) 18 [(0, .ref l0), (1, .int l1), (2, .int l2), (3, .int l3), (4, .int l4)] [] h := by
  intro nn
  induction nn with
  | zero => intro l0 l1 l2 l3 l4 h hX; cases hX
  | succ nn ih => intro l0 l1 l2 l3 l4 h hX; exact wX9_fullest_B18 hO G hr hnm  ih l0 l1 l2 l3 l4 h hX
noncomputable def xX9_fullest (l0 : Nat) (l1 : Int32) (h : ZH) : Option (Int32 × ZH) := ((xX9_isIn l1 (0 : Int32) (1 : Int32) h).bind fun r3 => (if r3.1 = 0 then some ((-1 : Int32), r3.2) else xX9_fullest_L18 zFU l0 l1 (-1 : Int32) (0 : Int32) (0 : Int32) r3.2))
set_option maxHeartbeats 4000000 in
set_option maxRecDepth 100000 in
theorem lX9_fullest {Γ : ZG} {l : Launch} (hO : z_OK Γ) {l0 : Nat} {l1 : Int32} {h : ZH} {r : (Int32 × ZH)} (hX : xX9_fullest l0 l1 h = some r) : z_M Γ l yX9_fullest (z_ws1 yX9_fullest cX9_fullest 7 (some .int)) rmX9_fullest [.ref l0, .int l1] h (some (.int r.1)) r.2 := by
  refine z_start hO (plainFor_of_name (by decide)) (Nat.le_of_ble_eq_true rfl) ?_
  intro p e s m args below meth c G hr hnm
  refine z_lvc (lv2 := [(0, .ref l0), (1, .int l1)]) rfl ?_
  refine z_iload_n (pc := 0) G 1 dX9_fullest_0 rfl rfl ?_
  refine z_iconst (pc := 1) (v := 0) G dX9_fullest_1 (by decide) ?_
  refine z_iconst (pc := 2) (v := 1) G dX9_fullest_2 (by decide) ?_
  obtain ⟨r3, hv3, hX⟩ := z_bd hX
  refine z_cSI (pc := 3) (As := [.int l1, .int (0 : Int32), .int (1 : Int32)]) (c2 := 0) (s2 := 0) G (lX9_isIn hO hv3) kt_1559 kt_11 kt_1557 kt_1558 ydX9_isIn ⟨by decide, by decide⟩ rfl (Nat.le_of_ble_eq_true rfl) ⟨rfl, rfl⟩ ⟨by decide, by decide⟩ rfl dX9_fullest_3 ?_
  refine z_if_ne (pc := 6) (tgt := 11) G dX9_fullest_6 (by decide) (fun hc6 => ?_) (fun hc6 => ?_)
  · have hX := z_if hc6 hX
    refine z_iconst (pc := 11) (v := (-1)) G dX9_fullest_11 (by decide) ?_
    refine z_istore_n (pc := 12) (lv2 := [(0, .ref l0), (1, .int l1), (2, .int (-1 : Int32))]) G dX9_fullest_12 rfl (by decide) rfl rfl ?_
    refine z_iconst (pc := 13) (v := 0) G dX9_fullest_13 (by decide) ?_
    refine z_istore_n (pc := 14) (lv2 := [(0, .ref l0), (1, .int l1), (2, .int (-1 : Int32)), (3, .int (0 : Int32))]) G dX9_fullest_14 rfl (by decide) rfl rfl ?_
    refine z_iconst (pc := 15) (v := 0) G dX9_fullest_15 (by decide) ?_
    refine z_istore (pc := 16) (lv2 := [(0, .ref l0), (1, .int l1), (2, .int (-1 : Int32)), (3, .int (0 : Int32)), (4, .int (0 : Int32))]) G dX9_fullest_16 (by decide) rfl rfl ?_
    exact wX9_fullest_L18 hO G hr hnm zFU _ _ _ _ _ _ hX
  · have hX := z_it hc6 hX
    refine z_iconst (pc := 9) (v := (-1)) G dX9_fullest_9 (by decide) ?_
    exact z_iretX (pc := 10) hX G hr dX9_fullest_10 (by decide) (by decide)
theorem dX9_inRange_0 : decode cX9_inRange 0 = .ok (.iconst 0, 1) := by decide +kernel
theorem dX9_inRange_1 : decode cX9_inRange 1 = .ok (.istore_n 2, 1) := by decide +kernel
theorem dX9_inRange_2 : decode cX9_inRange 2 = .ok (.iconst 0, 1) := by decide +kernel
theorem dX9_inRange_3 : decode cX9_inRange 3 = .ok (.istore_n 3, 1) := by decide +kernel
theorem dX9_inRange_4 : decode cX9_inRange 4 = .ok (.iload_n 3, 1) := by decide +kernel
theorem dX9_inRange_5 : decode cX9_inRange 5 = .ok (.aload_n 0, 1) := by decide +kernel
theorem dX9_inRange_6 : decode cX9_inRange 6 = .ok (.invokevirtual 337, 3) := by decide +kernel
theorem dX9_inRange_9 : decode cX9_inRange 9 = .ok (.if_icmp .ge 24, 3) := by decide +kernel
theorem dX9_inRange_12 : decode cX9_inRange 12 = .ok (.aload_n 0, 1) := by decide +kernel
theorem dX9_inRange_13 : decode cX9_inRange 13 = .ok (.iload_n 1, 1) := by decide +kernel
theorem dX9_inRange_14 : decode cX9_inRange 14 = .ok (.iload_n 3, 1) := by decide +kernel
theorem dX9_inRange_15 : decode cX9_inRange 15 = .ok (.invokevirtual 431, 3) := by decide +kernel
theorem dX9_inRange_18 : decode cX9_inRange 18 = .ok (.ifCond .eq 9, 3) := by decide +kernel
theorem dX9_inRange_21 : decode cX9_inRange 21 = .ok (.iload_n 2, 1) := by decide +kernel
theorem dX9_inRange_22 : decode cX9_inRange 22 = .ok (.iconst 1, 1) := by decide +kernel
theorem dX9_inRange_23 : decode cX9_inRange 23 = .ok (.iload_n 3, 1) := by decide +kernel
theorem dX9_inRange_24 : decode cX9_inRange 24 = .ok (.ishl, 1) := by decide +kernel
theorem dX9_inRange_25 : decode cX9_inRange 25 = .ok (.ior, 1) := by decide +kernel
theorem dX9_inRange_26 : decode cX9_inRange 26 = .ok (.istore_n 2, 1) := by decide +kernel
theorem dX9_inRange_27 : decode cX9_inRange 27 = .ok (.iinc 3 1, 3) := by decide +kernel
theorem dX9_inRange_30 : decode cX9_inRange 30 = .ok (.goto (-26), 3) := by decide +kernel
theorem dX9_inRange_33 : decode cX9_inRange 33 = .ok (.iload_n 2, 1) := by decide +kernel
theorem dX9_inRange_34 : decode cX9_inRange 34 = .ok (.ireturn, 1) := by decide +kernel
theorem ydX9_inRange : z_yd yX9_inRange 1 := ⟨by decide, by decide, by decide +kernel⟩
abbrev rmX9_inRange : Room := { frames := 3, cells := 0, slots := 0, locals := 64 }
noncomputable def xX9_inRange_B4 (r4 : Nat → Int32 → Int32 → Int32 → ZH → Option (Int32 × ZH)) (l0 : Nat) (l1 : Int32) (l2 : Int32) (l3 : Int32) (h : ZH) : Option (Int32 × ZH) := (z_gu (z_is h l0 9) ((xX9_lots l0 h).bind fun r6 => (if r6.1 ≤ l3 then some (l2, r6.2) else (z_gu (z_is r6.2 l0 9) ((xX9_doHear l0 l1 l3 r6.2).bind fun r15 => (if r15.1 = 0 then r4 l0 l1 l2 (l3 + 1) r15.2 else r4 l0 l1 (l2 ||| ((1 : Int32) <<< (l3 &&& 31))) (l3 + 1) r15.2))))))
noncomputable def xX9_inRange_L4 (n : Nat) : Nat → Int32 → Int32 → Int32 → ZH → Option (Int32 × ZH) := Nat.rec (motive := fun _ => Nat → Int32 → Int32 → Int32 → ZH → Option (Int32 × ZH)) (fun _ _ _ _ _ => none) (fun _ rec => xX9_inRange_B4  rec) n
set_option maxHeartbeats 4000000 in
set_option maxRecDepth 100000 in
theorem wX9_inRange_B4 {Γ : ZG} {p : Program} {l : Launch} {e : Env} {s : State} {m : MethodId} {args : Array Value} {below : List Frame} {meth : Method} {c : Code} (hO : z_OK Γ) (G : z_GG Γ p s m args meth c cX9_inRange 4 RX9) (hr : meth.sig.returnType = (some .int)) (hnm : meth.name = "inRange") {r : (Int32 × ZH)} {r4 : Nat → Int32 → Int32 → Int32 → ZH → Option (Int32 × ZH)} (H4 : ∀ (l0 : Nat) (l1 : Int32) (l2 : Int32) (l3 : Int32) (h : ZH), r4 l0 l1 l2 l3 h = some r → z_W Γ p l e rmX9_inRange s m args below meth c 4 0 0 (MQ below (z_Qc Γ (some (.int r.1)) r.2) args s rmX9_inRange.cells rmX9_inRange.slots (z_A Γ)) 4 [(0, .ref l0), (1, .int l1), (2, .int l2), (3, .int l3)] [] h) : ∀ (l0 : Nat) (l1 : Int32) (l2 : Int32) (l3 : Int32) (h : ZH), xX9_inRange_B4  r4 l0 l1 l2 l3 h = some r → z_W Γ p l e rmX9_inRange s m args below meth c 4 0 0 (MQ below (z_Qc Γ (some (.int r.1)) r.2) args s rmX9_inRange.cells rmX9_inRange.slots (z_A Γ)) 4 [(0, .ref l0), (1, .int l1), (2, .int l2), (3, .int l3)] [] h := by
  intro l0 l1 l2 l3 h hX
  refine z_iload_n (pc := 4) G 3 dX9_inRange_4 rfl rfl ?_
  refine z_aload_n (pc := 5) G 0 dX9_inRange_5 rfl rfl ?_
  obtain ⟨hi6, hX⟩ := z_gu_s hX
  obtain ⟨r6, hv6, hX⟩ := z_bd hX
  refine z_cVI (pc := 6) (As := []) (c2 := 0) (s2 := 0) G kK9 (lX9_lots hO hv6) hi6 kt_1221 kt_11 kt_1218 kt_1220 ks_36 ydX9_lots ⟨by decide, by decide⟩ rfl (Nat.le_of_ble_eq_true rfl) ⟨rfl, rfl⟩ ⟨by decide, by decide⟩ rfl dX9_inRange_6 ?_
  refine z_icmp_ge (pc := 9) (tgt := 33) G dX9_inRange_9 (by decide) (fun hc9 => ?_) (fun hc9 => ?_)
  · have hX := z_it hc9 hX
    refine z_iload_n (pc := 33) G 2 dX9_inRange_33 rfl rfl ?_
    exact z_iretX (pc := 34) hX G hr dX9_inRange_34 (by decide) (by decide)
  · have hX := z_if hc9 hX
    refine z_aload_n (pc := 12) G 0 dX9_inRange_12 rfl rfl ?_
    refine z_iload_n (pc := 13) G 1 dX9_inRange_13 rfl rfl ?_
    refine z_iload_n (pc := 14) G 3 dX9_inRange_14 rfl rfl ?_
    obtain ⟨hi15, hX⟩ := z_gu_s hX
    obtain ⟨r15, hv15, hX⟩ := z_bd hX
    refine z_cVI (pc := 15) (As := [.int l1, .int l3]) (c2 := 0) (s2 := 0) G kK9 (lX9_doHear hO hv15) hi15 kt_1711 kt_11 kt_1708 kt_1710 ks_81 ydX9_doHear ⟨by decide, by decide⟩ rfl (Nat.le_of_ble_eq_true rfl) ⟨rfl, rfl⟩ ⟨by decide, by decide⟩ rfl dX9_inRange_15 ?_
    refine z_if_eq (pc := 18) (tgt := 27) G dX9_inRange_18 (by decide) (fun hc18 => ?_) (fun hc18 => ?_)
    · have hX := z_it hc18 hX
      refine z_iincw (pc := 27) (w := 1) (lv2 := [(0, .ref l0), (1, .int l1), (2, .int l2), (3, .int (l3 + 1))]) G 3 dX9_inRange_27 rfl (by decide) (by decide) rfl rfl ?_
      refine z_goto (pc := 30) (tgt := 4) G dX9_inRange_30 (by decide) ?_
      exact H4 _ _ _ _ _ hX
    · have hX := z_if hc18 hX
      refine z_iload_n (pc := 21) G 2 dX9_inRange_21 rfl rfl ?_
      refine z_iconst (pc := 22) (v := 1) G dX9_inRange_22 (by decide) ?_
      refine z_iload_n (pc := 23) G 3 dX9_inRange_23 rfl rfl ?_
      refine z_ishl (pc := 24) G dX9_inRange_24 ?_
      refine z_ior (pc := 25) G dX9_inRange_25 ?_
      refine z_istore_n (pc := 26) (lv2 := [(0, .ref l0), (1, .int l1), (2, .int (l2 ||| ((1 : Int32) <<< (l3 &&& 31)))), (3, .int l3)]) G dX9_inRange_26 rfl (by decide) rfl rfl ?_
      refine z_iincw (pc := 27) (w := 1) (lv2 := [(0, .ref l0), (1, .int l1), (2, .int (l2 ||| ((1 : Int32) <<< (l3 &&& 31)))), (3, .int (l3 + 1))]) G 3 dX9_inRange_27 rfl (by decide) (by decide) rfl rfl ?_
      refine z_goto (pc := 30) (tgt := 4) G dX9_inRange_30 (by decide) ?_
      exact H4 _ _ _ _ _ hX
set_option maxHeartbeats 4000000 in
set_option maxRecDepth 100000 in
theorem wX9_inRange_L4 {Γ : ZG} {p : Program} {l : Launch} {e : Env} {s : State} {m : MethodId} {args : Array Value} {below : List Frame} {meth : Method} {c : Code} (hO : z_OK Γ) (G : z_GG Γ p s m args meth c cX9_inRange 4 RX9) (hr : meth.sig.returnType = (some .int)) (hnm : meth.name = "inRange") {r : (Int32 × ZH)} : ∀ (nn : Nat) (l0 : Nat) (l1 : Int32) (l2 : Int32) (l3 : Int32) (h : ZH), xX9_inRange_L4  nn l0 l1 l2 l3 h = some r → z_W Γ p l e rmX9_inRange s m args below meth c 4 0 0 (MQ below (z_Qc Γ (some (.int r.1)) r.2) args s rmX9_inRange.cells rmX9_inRange.slots (z_A Γ)) 4 [(0, .ref l0), (1, .int l1), (2, .int l2), (3, .int l3)] [] h := by
  intro nn
  induction nn with
  | zero => intro l0 l1 l2 l3 h hX; cases hX
  | succ nn ih => intro l0 l1 l2 l3 h hX; exact wX9_inRange_B4 hO G hr hnm  ih l0 l1 l2 l3 h hX
noncomputable def xX9_inRange (l0 : Nat) (l1 : Int32) (h : ZH) : Option (Int32 × ZH) := xX9_inRange_L4 zFU l0 l1 (0 : Int32) (0 : Int32) h
set_option maxHeartbeats 4000000 in
set_option maxRecDepth 100000 in
theorem lX9_inRange {Γ : ZG} {l : Launch} (hO : z_OK Γ) {l0 : Nat} {l1 : Int32} {h : ZH} {r : (Int32 × ZH)} (hX : xX9_inRange l0 l1 h = some r) : z_M Γ l yX9_inRange (z_ws1 yX9_inRange cX9_inRange 4 (some .int)) rmX9_inRange [.ref l0, .int l1] h (some (.int r.1)) r.2 := by
  refine z_start hO (plainFor_of_name (by decide)) (Nat.le_of_ble_eq_true rfl) ?_
  intro p e s m args below meth c G hr hnm
  refine z_lvc (lv2 := [(0, .ref l0), (1, .int l1)]) rfl ?_
  refine z_iconst (pc := 0) (v := 0) G dX9_inRange_0 (by decide) ?_
  refine z_istore_n (pc := 1) (lv2 := [(0, .ref l0), (1, .int l1), (2, .int (0 : Int32))]) G dX9_inRange_1 rfl (by decide) rfl rfl ?_
  refine z_iconst (pc := 2) (v := 0) G dX9_inRange_2 (by decide) ?_
  refine z_istore_n (pc := 3) (lv2 := [(0, .ref l0), (1, .int l1), (2, .int (0 : Int32)), (3, .int (0 : Int32))]) G dX9_inRange_3 rfl (by decide) rfl rfl ?_
  exact wX9_inRange_L4 hO G hr hnm zFU _ _ _ _ _ hX
theorem dX9_strangers_0 : decode cX9_strangers 0 = .ok (.aload_n 0, 1) := by decide +kernel
theorem dX9_strangers_1 : decode cX9_strangers 1 = .ok (.iload_n 1, 1) := by decide +kernel
theorem dX9_strangers_2 : decode cX9_strangers 2 = .ok (.invokevirtual 450, 3) := by decide +kernel
theorem dX9_strangers_5 : decode cX9_strangers 5 = .ok (.ifCond .ne 5, 3) := by decide +kernel
theorem dX9_strangers_8 : decode cX9_strangers 8 = .ok (.iconst (-1), 1) := by decide +kernel
theorem dX9_strangers_9 : decode cX9_strangers 9 = .ok (.ireturn, 1) := by decide +kernel
theorem dX9_strangers_10 : decode cX9_strangers 10 = .ok (.aload_n 0, 1) := by decide +kernel
theorem dX9_strangers_11 : decode cX9_strangers 11 = .ok (.iload_n 1, 1) := by decide +kernel
theorem dX9_strangers_12 : decode cX9_strangers 12 = .ok (.invokevirtual 459, 3) := by decide +kernel
theorem dX9_strangers_15 : decode cX9_strangers 15 = .ok (.aload_n 0, 1) := by decide +kernel
theorem dX9_strangers_16 : decode cX9_strangers 16 = .ok (.invokevirtual 456, 3) := by decide +kernel
theorem dX9_strangers_19 : decode cX9_strangers 19 = .ok (.iand, 1) := by decide +kernel
theorem dX9_strangers_20 : decode cX9_strangers 20 = .ok (.iconst 1, 1) := by decide +kernel
theorem dX9_strangers_21 : decode cX9_strangers 21 = .ok (.iload_n 1, 1) := by decide +kernel
theorem dX9_strangers_22 : decode cX9_strangers 22 = .ok (.ishl, 1) := by decide +kernel
theorem dX9_strangers_23 : decode cX9_strangers 23 = .ok (.iconst (-1), 1) := by decide +kernel
theorem dX9_strangers_24 : decode cX9_strangers 24 = .ok (.ixor, 1) := by decide +kernel
theorem dX9_strangers_25 : decode cX9_strangers 25 = .ok (.iand, 1) := by decide +kernel
theorem dX9_strangers_26 : decode cX9_strangers 26 = .ok (.istore_n 2, 1) := by decide +kernel
theorem dX9_strangers_27 : decode cX9_strangers 27 = .ok (.iconst 0, 1) := by decide +kernel
theorem dX9_strangers_28 : decode cX9_strangers 28 = .ok (.istore_n 3, 1) := by decide +kernel
theorem dX9_strangers_29 : decode cX9_strangers 29 = .ok (.iload_n 3, 1) := by decide +kernel
theorem dX9_strangers_30 : decode cX9_strangers 30 = .ok (.aload_n 0, 1) := by decide +kernel
theorem dX9_strangers_31 : decode cX9_strangers 31 = .ok (.invokevirtual 344, 3) := by decide +kernel
theorem dX9_strangers_34 : decode cX9_strangers 34 = .ok (.if_icmp .ge 31, 3) := by decide +kernel
theorem dX9_strangers_37 : decode cX9_strangers 37 = .ok (.aload_n 0, 1) := by decide +kernel
theorem dX9_strangers_38 : decode cX9_strangers 38 = .ok (.iload_n 1, 1) := by decide +kernel
theorem dX9_strangers_39 : decode cX9_strangers 39 = .ok (.iload_n 3, 1) := by decide +kernel
theorem dX9_strangers_40 : decode cX9_strangers 40 = .ok (.invokevirtual 356, 3) := by decide +kernel
theorem dX9_strangers_43 : decode cX9_strangers 43 = .ok (.ifCond .lt 16, 3) := by decide +kernel
theorem dX9_strangers_46 : decode cX9_strangers 46 = .ok (.iload_n 2, 1) := by decide +kernel
theorem dX9_strangers_47 : decode cX9_strangers 47 = .ok (.iconst 1, 1) := by decide +kernel
theorem dX9_strangers_48 : decode cX9_strangers 48 = .ok (.aload_n 0, 1) := by decide +kernel
theorem dX9_strangers_49 : decode cX9_strangers 49 = .ok (.iload_n 1, 1) := by decide +kernel
theorem dX9_strangers_50 : decode cX9_strangers 50 = .ok (.iload_n 3, 1) := by decide +kernel
theorem dX9_strangers_51 : decode cX9_strangers 51 = .ok (.invokevirtual 356, 3) := by decide +kernel
theorem dX9_strangers_54 : decode cX9_strangers 54 = .ok (.ishl, 1) := by decide +kernel
theorem dX9_strangers_55 : decode cX9_strangers 55 = .ok (.iconst (-1), 1) := by decide +kernel
theorem dX9_strangers_56 : decode cX9_strangers 56 = .ok (.ixor, 1) := by decide +kernel
theorem dX9_strangers_57 : decode cX9_strangers 57 = .ok (.iand, 1) := by decide +kernel
theorem dX9_strangers_58 : decode cX9_strangers 58 = .ok (.istore_n 2, 1) := by decide +kernel
theorem dX9_strangers_59 : decode cX9_strangers 59 = .ok (.iinc 3 1, 3) := by decide +kernel
theorem dX9_strangers_62 : decode cX9_strangers 62 = .ok (.goto (-33), 3) := by decide +kernel
theorem dX9_strangers_65 : decode cX9_strangers 65 = .ok (.iload_n 2, 1) := by decide +kernel
theorem dX9_strangers_66 : decode cX9_strangers 66 = .ok (.ireturn, 1) := by decide +kernel
theorem ydX9_strangers : z_yd yX9_strangers 1 := ⟨by decide, by decide, by decide +kernel⟩
abbrev rmX9_strangers : Room := { frames := 4, cells := 0, slots := 0, locals := 87 }
noncomputable def xX9_strangers_B29 (r29 : Nat → Int32 → Int32 → Int32 → ZH → Option (Int32 × ZH)) (l0 : Nat) (l1 : Int32) (l2 : Int32) (l3 : Int32) (h : ZH) : Option (Int32 × ZH) := (z_gu (z_is h l0 9) ((xX9_round l0 h).bind fun r31 => (if r31.1 ≤ l3 then some (l2, r31.2) else (z_gu (z_is r31.2 l0 9) ((xX9_holderIn l0 l1 l3 r31.2).bind fun r40 => (if r40.1 < 0 then r29 l0 l1 l2 (l3 + 1) r40.2 else (z_gu (z_is r40.2 l0 9) ((xX9_holderIn l0 l1 l3 r40.2).bind fun r51 => r29 l0 l1 (l2 &&& (((1 : Int32) <<< (r51.1 &&& 31)) ^^^ (-1 : Int32))) (l3 + 1) r51.2))))))))
noncomputable def xX9_strangers_L29 (n : Nat) : Nat → Int32 → Int32 → Int32 → ZH → Option (Int32 × ZH) := Nat.rec (motive := fun _ => Nat → Int32 → Int32 → Int32 → ZH → Option (Int32 × ZH)) (fun _ _ _ _ _ => none) (fun _ rec => xX9_strangers_B29  rec) n
set_option maxHeartbeats 4000000 in
set_option maxRecDepth 100000 in
theorem wX9_strangers_B29 {Γ : ZG} {p : Program} {l : Launch} {e : Env} {s : State} {m : MethodId} {args : Array Value} {below : List Frame} {meth : Method} {c : Code} (hO : z_OK Γ) (G : z_GG Γ p s m args meth c cX9_strangers 4 RX9) (hr : meth.sig.returnType = (some .int)) (hnm : meth.name = "strangers") {r : (Int32 × ZH)} {r29 : Nat → Int32 → Int32 → Int32 → ZH → Option (Int32 × ZH)} (H29 : ∀ (l0 : Nat) (l1 : Int32) (l2 : Int32) (l3 : Int32) (h : ZH), r29 l0 l1 l2 l3 h = some r → z_W Γ p l e rmX9_strangers s m args below meth c 4 0 0 (MQ below (z_Qc Γ (some (.int r.1)) r.2) args s rmX9_strangers.cells rmX9_strangers.slots (z_A Γ)) 29 [(0, .ref l0), (1, .int l1), (2, .int l2), (3, .int l3)] [] h) : ∀ (l0 : Nat) (l1 : Int32) (l2 : Int32) (l3 : Int32) (h : ZH), xX9_strangers_B29  r29 l0 l1 l2 l3 h = some r → z_W Γ p l e rmX9_strangers s m args below meth c 4 0 0 (MQ below (z_Qc Γ (some (.int r.1)) r.2) args s rmX9_strangers.cells rmX9_strangers.slots (z_A Γ)) 29 [(0, .ref l0), (1, .int l1), (2, .int l2), (3, .int l3)] [] h := by
  intro l0 l1 l2 l3 h hX
  refine z_iload_n (pc := 29) G 3 dX9_strangers_29 rfl rfl ?_
  refine z_aload_n (pc := 30) G 0 dX9_strangers_30 rfl rfl ?_
  obtain ⟨hi31, hX⟩ := z_gu_s hX
  obtain ⟨r31, hv31, hX⟩ := z_bd hX
  refine z_cVI (pc := 31) (As := []) (c2 := 0) (s2 := 0) G kK9 (lX9_round hO hv31) hi31 kt_1575 kt_11 kt_1572 kt_1574 ks_66 ydX9_round ⟨by decide, by decide⟩ rfl (Nat.le_of_ble_eq_true rfl) ⟨rfl, rfl⟩ ⟨by decide, by decide⟩ rfl dX9_strangers_31 ?_
  refine z_icmp_ge (pc := 34) (tgt := 65) G dX9_strangers_34 (by decide) (fun hc34 => ?_) (fun hc34 => ?_)
  · have hX := z_it hc34 hX
    refine z_iload_n (pc := 65) G 2 dX9_strangers_65 rfl rfl ?_
    exact z_iretX (pc := 66) hX G hr dX9_strangers_66 (by decide) (by decide)
  · have hX := z_if hc34 hX
    refine z_aload_n (pc := 37) G 0 dX9_strangers_37 rfl rfl ?_
    refine z_iload_n (pc := 38) G 1 dX9_strangers_38 rfl rfl ?_
    refine z_iload_n (pc := 39) G 3 dX9_strangers_39 rfl rfl ?_
    obtain ⟨hi40, hX⟩ := z_gu_s hX
    obtain ⟨r40, hv40, hX⟩ := z_bd hX
    refine z_cVI (pc := 40) (As := [.int l1, .int l3]) (c2 := 0) (s2 := 0) G kK9 (lX9_holderIn hO hv40) hi40 kt_1579 kt_11 kt_1576 kt_1578 ks_67 ydX9_holderIn ⟨by decide, by decide⟩ rfl (Nat.le_of_ble_eq_true rfl) ⟨rfl, rfl⟩ ⟨by decide, by decide⟩ rfl dX9_strangers_40 ?_
    refine z_if_lt (pc := 43) (tgt := 59) G dX9_strangers_43 (by decide) (fun hc43 => ?_) (fun hc43 => ?_)
    · have hX := z_it hc43 hX
      refine z_iincw (pc := 59) (w := 1) (lv2 := [(0, .ref l0), (1, .int l1), (2, .int l2), (3, .int (l3 + 1))]) G 3 dX9_strangers_59 rfl (by decide) (by decide) rfl rfl ?_
      refine z_goto (pc := 62) (tgt := 29) G dX9_strangers_62 (by decide) ?_
      exact H29 _ _ _ _ _ hX
    · have hX := z_if hc43 hX
      refine z_iload_n (pc := 46) G 2 dX9_strangers_46 rfl rfl ?_
      refine z_iconst (pc := 47) (v := 1) G dX9_strangers_47 (by decide) ?_
      refine z_aload_n (pc := 48) G 0 dX9_strangers_48 rfl rfl ?_
      refine z_iload_n (pc := 49) G 1 dX9_strangers_49 rfl rfl ?_
      refine z_iload_n (pc := 50) G 3 dX9_strangers_50 rfl rfl ?_
      obtain ⟨hi51, hX⟩ := z_gu_s hX
      obtain ⟨r51, hv51, hX⟩ := z_bd hX
      refine z_cVI (pc := 51) (As := [.int l1, .int l3]) (c2 := 0) (s2 := 0) G kK9 (lX9_holderIn hO hv51) hi51 kt_1579 kt_11 kt_1576 kt_1578 ks_67 ydX9_holderIn ⟨by decide, by decide⟩ rfl (Nat.le_of_ble_eq_true rfl) ⟨rfl, rfl⟩ ⟨by decide, by decide⟩ rfl dX9_strangers_51 ?_
      refine z_ishl (pc := 54) G dX9_strangers_54 ?_
      refine z_iconst (pc := 55) (v := (-1)) G dX9_strangers_55 (by decide) ?_
      refine z_ixor (pc := 56) G dX9_strangers_56 ?_
      refine z_iand (pc := 57) G dX9_strangers_57 ?_
      refine z_istore_n (pc := 58) (lv2 := [(0, .ref l0), (1, .int l1), (2, .int (l2 &&& (((1 : Int32) <<< (r51.1 &&& 31)) ^^^ (-1 : Int32)))), (3, .int l3)]) G dX9_strangers_58 rfl (by decide) rfl rfl ?_
      refine z_iincw (pc := 59) (w := 1) (lv2 := [(0, .ref l0), (1, .int l1), (2, .int (l2 &&& (((1 : Int32) <<< (r51.1 &&& 31)) ^^^ (-1 : Int32)))), (3, .int (l3 + 1))]) G 3 dX9_strangers_59 rfl (by decide) (by decide) rfl rfl ?_
      refine z_goto (pc := 62) (tgt := 29) G dX9_strangers_62 (by decide) ?_
      exact H29 _ _ _ _ _ hX
set_option maxHeartbeats 4000000 in
set_option maxRecDepth 100000 in
theorem wX9_strangers_L29 {Γ : ZG} {p : Program} {l : Launch} {e : Env} {s : State} {m : MethodId} {args : Array Value} {below : List Frame} {meth : Method} {c : Code} (hO : z_OK Γ) (G : z_GG Γ p s m args meth c cX9_strangers 4 RX9) (hr : meth.sig.returnType = (some .int)) (hnm : meth.name = "strangers") {r : (Int32 × ZH)} : ∀ (nn : Nat) (l0 : Nat) (l1 : Int32) (l2 : Int32) (l3 : Int32) (h : ZH), xX9_strangers_L29  nn l0 l1 l2 l3 h = some r → z_W Γ p l e rmX9_strangers s m args below meth c 4 0 0 (MQ below (z_Qc Γ (some (.int r.1)) r.2) args s rmX9_strangers.cells rmX9_strangers.slots (z_A Γ)) 29 [(0, .ref l0), (1, .int l1), (2, .int l2), (3, .int l3)] [] h := by
  intro nn
  induction nn with
  | zero => intro l0 l1 l2 l3 h hX; cases hX
  | succ nn ih => intro l0 l1 l2 l3 h hX; exact wX9_strangers_B29 hO G hr hnm  ih l0 l1 l2 l3 h hX
noncomputable def xX9_strangers (l0 : Nat) (l1 : Int32) (h : ZH) : Option (Int32 × ZH) := (z_gu (z_is h l0 9) ((xX9_isShip l0 l1 h).bind fun r2 => (if r2.1 = 0 then some ((-1 : Int32), r2.2) else (z_gu (z_is r2.2 l0 9) ((xX9_inRange l0 l1 r2.2).bind fun r12 => (z_gu (z_is r12.2 l0 9) ((xX9_litNow l0 r12.2).bind fun r16 => ((some ((r12.1 &&& r16.1) &&& (((1 : Int32) <<< (l1 &&& 31)) ^^^ (-1 : Int32)))).bind fun v26 => xX9_strangers_L29 zFU l0 l1 v26 (0 : Int32) r16.2))))))))
set_option maxHeartbeats 4000000 in
set_option maxRecDepth 100000 in
theorem lX9_strangers {Γ : ZG} {l : Launch} (hO : z_OK Γ) {l0 : Nat} {l1 : Int32} {h : ZH} {r : (Int32 × ZH)} (hX : xX9_strangers l0 l1 h = some r) : z_M Γ l yX9_strangers (z_ws1 yX9_strangers cX9_strangers 4 (some .int)) rmX9_strangers [.ref l0, .int l1] h (some (.int r.1)) r.2 := by
  refine z_start hO (plainFor_of_name (by decide)) (Nat.le_of_ble_eq_true rfl) ?_
  intro p e s m args below meth c G hr hnm
  refine z_lvc (lv2 := [(0, .ref l0), (1, .int l1)]) rfl ?_
  refine z_aload_n (pc := 0) G 0 dX9_strangers_0 rfl rfl ?_
  refine z_iload_n (pc := 1) G 1 dX9_strangers_1 rfl rfl ?_
  obtain ⟨hi2, hX⟩ := z_gu_s hX
  obtain ⟨r2, hv2, hX⟩ := z_bd hX
  refine z_cVI (pc := 2) (As := [.int l1]) (c2 := 0) (s2 := 0) G kK9 (lX9_isShip hO hv2) hi2 kt_1556 kt_11 kt_1553 kt_1555 ks_62 ydX9_isShip ⟨by decide, by decide⟩ rfl (Nat.le_of_ble_eq_true rfl) ⟨rfl, rfl⟩ ⟨by decide, by decide⟩ rfl dX9_strangers_2 ?_
  refine z_if_ne (pc := 5) (tgt := 10) G dX9_strangers_5 (by decide) (fun hc5 => ?_) (fun hc5 => ?_)
  · have hX := z_if hc5 hX
    refine z_aload_n (pc := 10) G 0 dX9_strangers_10 rfl rfl ?_
    refine z_iload_n (pc := 11) G 1 dX9_strangers_11 rfl rfl ?_
    obtain ⟨hi12, hX⟩ := z_gu_s hX
    obtain ⟨r12, hv12, hX⟩ := z_bd hX
    refine z_cVI (pc := 12) (As := [.int l1]) (c2 := 0) (s2 := 0) G kK9 (lX9_inRange hO hv12) hi12 kt_1707 kt_11 kt_1704 kt_1706 ks_80 ydX9_inRange ⟨by decide, by decide⟩ rfl (Nat.le_of_ble_eq_true rfl) ⟨rfl, rfl⟩ ⟨by decide, by decide⟩ rfl dX9_strangers_12 ?_
    refine z_aload_n (pc := 15) G 0 dX9_strangers_15 rfl rfl ?_
    obtain ⟨hi16, hX⟩ := z_gu_s hX
    obtain ⟨r16, hv16, hX⟩ := z_bd hX
    refine z_cVI (pc := 16) (As := []) (c2 := 0) (s2 := 0) G kK9 (lX9_litNow hO hv16) hi16 kt_1687 kt_11 kt_1684 kt_1686 ks_79 ydX9_litNow ⟨by decide, by decide⟩ rfl (Nat.le_of_ble_eq_true rfl) ⟨rfl, rfl⟩ ⟨by decide, by decide⟩ rfl dX9_strangers_16 ?_
    refine z_iand (pc := 19) G dX9_strangers_19 ?_
    refine z_iconst (pc := 20) (v := 1) G dX9_strangers_20 (by decide) ?_
    refine z_iload_n (pc := 21) G 1 dX9_strangers_21 rfl rfl ?_
    refine z_ishl (pc := 22) G dX9_strangers_22 ?_
    refine z_iconst (pc := 23) (v := (-1)) G dX9_strangers_23 (by decide) ?_
    refine z_ixor (pc := 24) G dX9_strangers_24 ?_
    refine z_iand (pc := 25) G dX9_strangers_25 ?_
    obtain ⟨v26, hv26, hX⟩ := z_bd hX
    refine z_nmI (pc := 26) hv26 ?_
    refine z_istore_n (pc := 26) (lv2 := [(0, .ref l0), (1, .int l1), (2, .int v26)]) G dX9_strangers_26 rfl (by decide) rfl rfl ?_
    refine z_iconst (pc := 27) (v := 0) G dX9_strangers_27 (by decide) ?_
    refine z_istore_n (pc := 28) (lv2 := [(0, .ref l0), (1, .int l1), (2, .int v26), (3, .int (0 : Int32))]) G dX9_strangers_28 rfl (by decide) rfl rfl ?_
    exact wX9_strangers_L29 hO G hr hnm zFU _ _ _ _ _ hX
  · have hX := z_it hc5 hX
    refine z_iconst (pc := 8) (v := (-1)) G dX9_strangers_8 (by decide) ?_
    exact z_iretX (pc := 9) hX G hr dX9_strangers_9 (by decide) (by decide)
theorem dX9_twins_0 : decode cX9_twins 0 = .ok (.iconst 0, 1) := by decide +kernel
theorem dX9_twins_1 : decode cX9_twins 1 = .ok (.istore_n 1, 1) := by decide +kernel
theorem dX9_twins_2 : decode cX9_twins 2 = .ok (.iconst 0, 1) := by decide +kernel
theorem dX9_twins_3 : decode cX9_twins 3 = .ok (.istore_n 2, 1) := by decide +kernel
theorem dX9_twins_4 : decode cX9_twins 4 = .ok (.iload_n 2, 1) := by decide +kernel
theorem dX9_twins_5 : decode cX9_twins 5 = .ok (.aload_n 0, 1) := by decide +kernel
theorem dX9_twins_6 : decode cX9_twins 6 = .ok (.invokevirtual 337, 3) := by decide +kernel
theorem dX9_twins_9 : decode cX9_twins 9 = .ok (.if_icmp .ge 61, 3) := by decide +kernel
theorem dX9_twins_12 : decode cX9_twins 12 = .ok (.iconst 0, 1) := by decide +kernel
theorem dX9_twins_13 : decode cX9_twins 13 = .ok (.istore_n 3, 1) := by decide +kernel
theorem dX9_twins_14 : decode cX9_twins 14 = .ok (.iload_n 3, 1) := by decide +kernel
theorem dX9_twins_15 : decode cX9_twins 15 = .ok (.iload_n 2, 1) := by decide +kernel
theorem dX9_twins_16 : decode cX9_twins 16 = .ok (.if_icmp .ge 48, 3) := by decide +kernel
theorem dX9_twins_19 : decode cX9_twins 19 = .ok (.aload_n 0, 1) := by decide +kernel
theorem dX9_twins_20 : decode cX9_twins 20 = .ok (.iload_n 2, 1) := by decide +kernel
theorem dX9_twins_21 : decode cX9_twins 21 = .ok (.invokevirtual 347, 3) := by decide +kernel
theorem dX9_twins_24 : decode cX9_twins 24 = .ok (.ifCond .eq 34, 3) := by decide +kernel
theorem dX9_twins_27 : decode cX9_twins 27 = .ok (.aload_n 0, 1) := by decide +kernel
theorem dX9_twins_28 : decode cX9_twins 28 = .ok (.iload_n 3, 1) := by decide +kernel
theorem dX9_twins_29 : decode cX9_twins 29 = .ok (.invokevirtual 347, 3) := by decide +kernel
theorem dX9_twins_32 : decode cX9_twins 32 = .ok (.ifCond .eq 26, 3) := by decide +kernel
theorem dX9_twins_35 : decode cX9_twins 35 = .ok (.aload_n 0, 1) := by decide +kernel
theorem dX9_twins_36 : decode cX9_twins 36 = .ok (.iload_n 2, 1) := by decide +kernel
theorem dX9_twins_37 : decode cX9_twins 37 = .ok (.iload_n 3, 1) := by decide +kernel
theorem dX9_twins_38 : decode cX9_twins 38 = .ok (.invokevirtual 431, 3) := by decide +kernel
theorem dX9_twins_41 : decode cX9_twins 41 = .ok (.ifCond .eq 17, 3) := by decide +kernel
theorem dX9_twins_44 : decode cX9_twins 44 = .ok (.iload_n 1, 1) := by decide +kernel
theorem dX9_twins_45 : decode cX9_twins 45 = .ok (.aload_n 0, 1) := by decide +kernel
theorem dX9_twins_46 : decode cX9_twins 46 = .ok (.iload_n 2, 1) := by decide +kernel
theorem dX9_twins_47 : decode cX9_twins 47 = .ok (.invokevirtual 387, 3) := by decide +kernel
theorem dX9_twins_50 : decode cX9_twins 50 = .ok (.aload_n 0, 1) := by decide +kernel
theorem dX9_twins_51 : decode cX9_twins 51 = .ok (.iload_n 3, 1) := by decide +kernel
theorem dX9_twins_52 : decode cX9_twins 52 = .ok (.invokevirtual 387, 3) := by decide +kernel
theorem dX9_twins_55 : decode cX9_twins 55 = .ok (.iand, 1) := by decide +kernel
theorem dX9_twins_56 : decode cX9_twins 56 = .ok (.ior, 1) := by decide +kernel
theorem dX9_twins_57 : decode cX9_twins 57 = .ok (.istore_n 1, 1) := by decide +kernel
theorem dX9_twins_58 : decode cX9_twins 58 = .ok (.iinc 3 1, 3) := by decide +kernel
theorem dX9_twins_61 : decode cX9_twins 61 = .ok (.goto (-47), 3) := by decide +kernel
theorem dX9_twins_64 : decode cX9_twins 64 = .ok (.iinc 2 1, 3) := by decide +kernel
theorem dX9_twins_67 : decode cX9_twins 67 = .ok (.goto (-63), 3) := by decide +kernel
theorem dX9_twins_70 : decode cX9_twins 70 = .ok (.iload_n 1, 1) := by decide +kernel
theorem dX9_twins_71 : decode cX9_twins 71 = .ok (.ireturn, 1) := by decide +kernel
theorem ydX9_twins : z_yd yX9_twins 0 := ⟨by decide, by decide, by decide +kernel⟩
abbrev rmX9_twins : Room := { frames := 3, cells := 0, slots := 0, locals := 64 }
noncomputable def xX9_twins_B14 (r4 : Nat → Int32 → Int32 → ZH → Option (Int32 × ZH)) (r14 : Nat → Int32 → Int32 → Int32 → ZH → Option (Int32 × ZH)) (l0 : Nat) (l1 : Int32) (l2 : Int32) (l3 : Int32) (h : ZH) : Option (Int32 × ZH) := (if l2 ≤ l3 then r4 l0 l1 (l2 + 1) h else (z_gu (z_is h l0 9) ((xX9_isOn l0 l2 h).bind fun r21 => (if r21.1 = 0 then r14 l0 l1 l2 (l3 + 1) r21.2 else (z_gu (z_is r21.2 l0 9) ((xX9_isOn l0 l3 r21.2).bind fun r29 => (if r29.1 = 0 then r14 l0 l1 l2 (l3 + 1) r29.2 else (z_gu (z_is r29.2 l0 9) ((xX9_doHear l0 l2 l3 r29.2).bind fun r38 => (if r38.1 = 0 then r14 l0 l1 l2 (l3 + 1) r38.2 else (z_gu (z_is r38.2 l0 9) ((xX9_ownedBy l0 l2 r38.2).bind fun r47 => (z_gu (z_is r47.2 l0 9) ((xX9_ownedBy l0 l3 r47.2).bind fun r52 => r14 l0 (l1 ||| (r47.1 &&& r52.1)) l2 (l3 + 1) r52.2))))))))))))))
noncomputable def xX9_twins_L14 (r4 : Nat → Int32 → Int32 → ZH → Option (Int32 × ZH)) (n : Nat) : Nat → Int32 → Int32 → Int32 → ZH → Option (Int32 × ZH) := Nat.rec (motive := fun _ => Nat → Int32 → Int32 → Int32 → ZH → Option (Int32 × ZH)) (fun _ _ _ _ _ => none) (fun _ rec => xX9_twins_B14  r4 rec) n
set_option maxHeartbeats 4000000 in
set_option maxRecDepth 100000 in
theorem wX9_twins_B14 {Γ : ZG} {p : Program} {l : Launch} {e : Env} {s : State} {m : MethodId} {args : Array Value} {below : List Frame} {meth : Method} {c : Code} (hO : z_OK Γ) (G : z_GG Γ p s m args meth c cX9_twins 4 RX9) (hr : meth.sig.returnType = (some .int)) (hnm : meth.name = "twins") {r : (Int32 × ZH)} {r4 : Nat → Int32 → Int32 → ZH → Option (Int32 × ZH)} (H4 : ∀ (l0 : Nat) (l1 : Int32) (l2 : Int32) (h : ZH), r4 l0 l1 l2 h = some r → z_W Γ p l e rmX9_twins s m args below meth c 4 0 0 (MQ below (z_Qc Γ (some (.int r.1)) r.2) args s rmX9_twins.cells rmX9_twins.slots (z_A Γ)) 4 [(0, .ref l0), (1, .int l1), (2, .int l2)] [] h) {r14 : Nat → Int32 → Int32 → Int32 → ZH → Option (Int32 × ZH)} (H14 : ∀ (l0 : Nat) (l1 : Int32) (l2 : Int32) (l3 : Int32) (h : ZH), r14 l0 l1 l2 l3 h = some r → z_W Γ p l e rmX9_twins s m args below meth c 4 0 0 (MQ below (z_Qc Γ (some (.int r.1)) r.2) args s rmX9_twins.cells rmX9_twins.slots (z_A Γ)) 14 [(0, .ref l0), (1, .int l1), (2, .int l2), (3, .int l3)] [] h) : ∀ (l0 : Nat) (l1 : Int32) (l2 : Int32) (l3 : Int32) (h : ZH), xX9_twins_B14  r4 r14 l0 l1 l2 l3 h = some r → z_W Γ p l e rmX9_twins s m args below meth c 4 0 0 (MQ below (z_Qc Γ (some (.int r.1)) r.2) args s rmX9_twins.cells rmX9_twins.slots (z_A Γ)) 14 [(0, .ref l0), (1, .int l1), (2, .int l2), (3, .int l3)] [] h := by
  intro l0 l1 l2 l3 h hX
  refine z_iload_n (pc := 14) G 3 dX9_twins_14 rfl rfl ?_
  refine z_iload_n (pc := 15) G 2 dX9_twins_15 rfl rfl ?_
  refine z_icmp_ge (pc := 16) (tgt := 64) G dX9_twins_16 (by decide) (fun hc16 => ?_) (fun hc16 => ?_)
  · have hX := z_it hc16 hX
    refine z_iincw (pc := 64) (w := 1) (lv2 := [(0, .ref l0), (1, .int l1), (2, .int (l2 + 1)), (3, .int l3)]) G 2 dX9_twins_64 rfl (by decide) (by decide) rfl rfl ?_
    refine z_goto (pc := 67) (tgt := 4) G dX9_twins_67 (by decide) ?_
    refine z_drop (lv2 := [(0, .ref l0), (1, .int l1), (2, .int (l2 + 1))]) [0, 1, 2] rfl ?_
    exact H4 _ _ _ _ hX
  · have hX := z_if hc16 hX
    refine z_aload_n (pc := 19) G 0 dX9_twins_19 rfl rfl ?_
    refine z_iload_n (pc := 20) G 2 dX9_twins_20 rfl rfl ?_
    obtain ⟨hi21, hX⟩ := z_gu_s hX
    obtain ⟨r21, hv21, hX⟩ := z_bd hX
    refine z_cVI (pc := 21) (As := [.int l2]) (c2 := 0) (s2 := 0) G kK9 (lX9_isOn hO hv21) hi21 kt_1567 kt_11 kt_1564 kt_1566 ks_64 ydX9_isOn ⟨by decide, by decide⟩ rfl (Nat.le_of_ble_eq_true rfl) ⟨rfl, rfl⟩ ⟨by decide, by decide⟩ rfl dX9_twins_21 ?_
    refine z_if_eq (pc := 24) (tgt := 58) G dX9_twins_24 (by decide) (fun hc24 => ?_) (fun hc24 => ?_)
    · have hX := z_it hc24 hX
      refine z_iincw (pc := 58) (w := 1) (lv2 := [(0, .ref l0), (1, .int l1), (2, .int l2), (3, .int (l3 + 1))]) G 3 dX9_twins_58 rfl (by decide) (by decide) rfl rfl ?_
      refine z_goto (pc := 61) (tgt := 14) G dX9_twins_61 (by decide) ?_
      exact H14 _ _ _ _ _ hX
    · have hX := z_if hc24 hX
      refine z_aload_n (pc := 27) G 0 dX9_twins_27 rfl rfl ?_
      refine z_iload_n (pc := 28) G 3 dX9_twins_28 rfl rfl ?_
      obtain ⟨hi29, hX⟩ := z_gu_s hX
      obtain ⟨r29, hv29, hX⟩ := z_bd hX
      refine z_cVI (pc := 29) (As := [.int l3]) (c2 := 0) (s2 := 0) G kK9 (lX9_isOn hO hv29) hi29 kt_1567 kt_11 kt_1564 kt_1566 ks_64 ydX9_isOn ⟨by decide, by decide⟩ rfl (Nat.le_of_ble_eq_true rfl) ⟨rfl, rfl⟩ ⟨by decide, by decide⟩ rfl dX9_twins_29 ?_
      refine z_if_eq (pc := 32) (tgt := 58) G dX9_twins_32 (by decide) (fun hc32 => ?_) (fun hc32 => ?_)
      · have hX := z_it hc32 hX
        refine z_iincw (pc := 58) (w := 1) (lv2 := [(0, .ref l0), (1, .int l1), (2, .int l2), (3, .int (l3 + 1))]) G 3 dX9_twins_58 rfl (by decide) (by decide) rfl rfl ?_
        refine z_goto (pc := 61) (tgt := 14) G dX9_twins_61 (by decide) ?_
        exact H14 _ _ _ _ _ hX
      · have hX := z_if hc32 hX
        refine z_aload_n (pc := 35) G 0 dX9_twins_35 rfl rfl ?_
        refine z_iload_n (pc := 36) G 2 dX9_twins_36 rfl rfl ?_
        refine z_iload_n (pc := 37) G 3 dX9_twins_37 rfl rfl ?_
        obtain ⟨hi38, hX⟩ := z_gu_s hX
        obtain ⟨r38, hv38, hX⟩ := z_bd hX
        refine z_cVI (pc := 38) (As := [.int l2, .int l3]) (c2 := 0) (s2 := 0) G kK9 (lX9_doHear hO hv38) hi38 kt_1711 kt_11 kt_1708 kt_1710 ks_81 ydX9_doHear ⟨by decide, by decide⟩ rfl (Nat.le_of_ble_eq_true rfl) ⟨rfl, rfl⟩ ⟨by decide, by decide⟩ rfl dX9_twins_38 ?_
        refine z_if_eq (pc := 41) (tgt := 58) G dX9_twins_41 (by decide) (fun hc41 => ?_) (fun hc41 => ?_)
        · have hX := z_it hc41 hX
          refine z_iincw (pc := 58) (w := 1) (lv2 := [(0, .ref l0), (1, .int l1), (2, .int l2), (3, .int (l3 + 1))]) G 3 dX9_twins_58 rfl (by decide) (by decide) rfl rfl ?_
          refine z_goto (pc := 61) (tgt := 14) G dX9_twins_61 (by decide) ?_
          exact H14 _ _ _ _ _ hX
        · have hX := z_if hc41 hX
          refine z_iload_n (pc := 44) G 1 dX9_twins_44 rfl rfl ?_
          refine z_aload_n (pc := 45) G 0 dX9_twins_45 rfl rfl ?_
          refine z_iload_n (pc := 46) G 2 dX9_twins_46 rfl rfl ?_
          obtain ⟨hi47, hX⟩ := z_gu_s hX
          obtain ⟨r47, hv47, hX⟩ := z_bd hX
          refine z_cVI (pc := 47) (As := [.int l2]) (c2 := 0) (s2 := 0) G kK9 (lX9_ownedBy hO hv47) hi47 kt_1629 kt_11 kt_1626 kt_1628 ks_73 ydX9_ownedBy ⟨by decide, by decide⟩ rfl (Nat.le_of_ble_eq_true rfl) ⟨rfl, rfl⟩ ⟨by decide, by decide⟩ rfl dX9_twins_47 ?_
          refine z_aload_n (pc := 50) G 0 dX9_twins_50 rfl rfl ?_
          refine z_iload_n (pc := 51) G 3 dX9_twins_51 rfl rfl ?_
          obtain ⟨hi52, hX⟩ := z_gu_s hX
          obtain ⟨r52, hv52, hX⟩ := z_bd hX
          refine z_cVI (pc := 52) (As := [.int l3]) (c2 := 0) (s2 := 0) G kK9 (lX9_ownedBy hO hv52) hi52 kt_1629 kt_11 kt_1626 kt_1628 ks_73 ydX9_ownedBy ⟨by decide, by decide⟩ rfl (Nat.le_of_ble_eq_true rfl) ⟨rfl, rfl⟩ ⟨by decide, by decide⟩ rfl dX9_twins_52 ?_
          refine z_iand (pc := 55) G dX9_twins_55 ?_
          refine z_ior (pc := 56) G dX9_twins_56 ?_
          refine z_istore_n (pc := 57) (lv2 := [(0, .ref l0), (1, .int (l1 ||| (r47.1 &&& r52.1))), (2, .int l2), (3, .int l3)]) G dX9_twins_57 rfl (by decide) rfl rfl ?_
          refine z_iincw (pc := 58) (w := 1) (lv2 := [(0, .ref l0), (1, .int (l1 ||| (r47.1 &&& r52.1))), (2, .int l2), (3, .int (l3 + 1))]) G 3 dX9_twins_58 rfl (by decide) (by decide) rfl rfl ?_
          refine z_goto (pc := 61) (tgt := 14) G dX9_twins_61 (by decide) ?_
          exact H14 _ _ _ _ _ hX
set_option maxHeartbeats 4000000 in
set_option maxRecDepth 100000 in
theorem wX9_twins_L14 {Γ : ZG} {p : Program} {l : Launch} {e : Env} {s : State} {m : MethodId} {args : Array Value} {below : List Frame} {meth : Method} {c : Code} (hO : z_OK Γ) (G : z_GG Γ p s m args meth c cX9_twins 4 RX9) (hr : meth.sig.returnType = (some .int)) (hnm : meth.name = "twins") {r : (Int32 × ZH)} {r4 : Nat → Int32 → Int32 → ZH → Option (Int32 × ZH)} (H4 : ∀ (l0 : Nat) (l1 : Int32) (l2 : Int32) (h : ZH), r4 l0 l1 l2 h = some r → z_W Γ p l e rmX9_twins s m args below meth c 4 0 0 (MQ below (z_Qc Γ (some (.int r.1)) r.2) args s rmX9_twins.cells rmX9_twins.slots (z_A Γ)) 4 [(0, .ref l0), (1, .int l1), (2, .int l2)] [] h) : ∀ (nn : Nat) (l0 : Nat) (l1 : Int32) (l2 : Int32) (l3 : Int32) (h : ZH), xX9_twins_L14  r4 nn l0 l1 l2 l3 h = some r → z_W Γ p l e rmX9_twins s m args below meth c 4 0 0 (MQ below (z_Qc Γ (some (.int r.1)) r.2) args s rmX9_twins.cells rmX9_twins.slots (z_A Γ)) 14 [(0, .ref l0), (1, .int l1), (2, .int l2), (3, .int l3)] [] h := by
  intro nn
  induction nn with
  | zero => intro l0 l1 l2 l3 h hX; cases hX
  | succ nn ih => intro l0 l1 l2 l3 h hX; exact wX9_twins_B14 hO G hr hnm  H4 ih l0 l1 l2 l3 h hX
noncomputable def xX9_twins_B4 (r4 : Nat → Int32 → Int32 → ZH → Option (Int32 × ZH)) (l0 : Nat) (l1 : Int32) (l2 : Int32) (h : ZH) : Option (Int32 × ZH) := (z_gu (z_is h l0 9) ((xX9_lots l0 h).bind fun r6 => (if r6.1 ≤ l2 then some (l1, r6.2) else xX9_twins_L14 r4 zFU l0 l1 l2 (0 : Int32) r6.2)))
noncomputable def xX9_twins_L4 (n : Nat) : Nat → Int32 → Int32 → ZH → Option (Int32 × ZH) := Nat.rec (motive := fun _ => Nat → Int32 → Int32 → ZH → Option (Int32 × ZH)) (fun _ _ _ _ => none) (fun _ rec => xX9_twins_B4  rec) n
set_option maxHeartbeats 4000000 in
set_option maxRecDepth 100000 in
theorem wX9_twins_B4 {Γ : ZG} {p : Program} {l : Launch} {e : Env} {s : State} {m : MethodId} {args : Array Value} {below : List Frame} {meth : Method} {c : Code} (hO : z_OK Γ) (G : z_GG Γ p s m args meth c cX9_twins 4 RX9) (hr : meth.sig.returnType = (some .int)) (hnm : meth.name = "twins") {r : (Int32 × ZH)} {r4 : Nat → Int32 → Int32 → ZH → Option (Int32 × ZH)} (H4 : ∀ (l0 : Nat) (l1 : Int32) (l2 : Int32) (h : ZH), r4 l0 l1 l2 h = some r → z_W Γ p l e rmX9_twins s m args below meth c 4 0 0 (MQ below (z_Qc Γ (some (.int r.1)) r.2) args s rmX9_twins.cells rmX9_twins.slots (z_A Γ)) 4 [(0, .ref l0), (1, .int l1), (2, .int l2)] [] h) : ∀ (l0 : Nat) (l1 : Int32) (l2 : Int32) (h : ZH), xX9_twins_B4  r4 l0 l1 l2 h = some r → z_W Γ p l e rmX9_twins s m args below meth c 4 0 0 (MQ below (z_Qc Γ (some (.int r.1)) r.2) args s rmX9_twins.cells rmX9_twins.slots (z_A Γ)) 4 [(0, .ref l0), (1, .int l1), (2, .int l2)] [] h := by
  intro l0 l1 l2 h hX
  refine z_iload_n (pc := 4) G 2 dX9_twins_4 rfl rfl ?_
  refine z_aload_n (pc := 5) G 0 dX9_twins_5 rfl rfl ?_
  obtain ⟨hi6, hX⟩ := z_gu_s hX
  obtain ⟨r6, hv6, hX⟩ := z_bd hX
  refine z_cVI (pc := 6) (As := []) (c2 := 0) (s2 := 0) G kK9 (lX9_lots hO hv6) hi6 kt_1221 kt_11 kt_1218 kt_1220 ks_36 ydX9_lots ⟨by decide, by decide⟩ rfl (Nat.le_of_ble_eq_true rfl) ⟨rfl, rfl⟩ ⟨by decide, by decide⟩ rfl dX9_twins_6 ?_
  refine z_icmp_ge (pc := 9) (tgt := 70) G dX9_twins_9 (by decide) (fun hc9 => ?_) (fun hc9 => ?_)
  · have hX := z_it hc9 hX
    refine z_iload_n (pc := 70) G 1 dX9_twins_70 rfl rfl ?_
    exact z_iretX (pc := 71) hX G hr dX9_twins_71 (by decide) (by decide)
  · have hX := z_if hc9 hX
    refine z_iconst (pc := 12) (v := 0) G dX9_twins_12 (by decide) ?_
    refine z_istore_n (pc := 13) (lv2 := [(0, .ref l0), (1, .int l1), (2, .int l2), (3, .int (0 : Int32))]) G dX9_twins_13 rfl (by decide) rfl rfl ?_
    exact wX9_twins_L14 hO G hr hnm H4 zFU _ _ _ _ _ hX
set_option maxHeartbeats 4000000 in
set_option maxRecDepth 100000 in
theorem wX9_twins_L4 {Γ : ZG} {p : Program} {l : Launch} {e : Env} {s : State} {m : MethodId} {args : Array Value} {below : List Frame} {meth : Method} {c : Code} (hO : z_OK Γ) (G : z_GG Γ p s m args meth c cX9_twins 4 RX9) (hr : meth.sig.returnType = (some .int)) (hnm : meth.name = "twins") {r : (Int32 × ZH)} : ∀ (nn : Nat) (l0 : Nat) (l1 : Int32) (l2 : Int32) (h : ZH), xX9_twins_L4  nn l0 l1 l2 h = some r → z_W Γ p l e rmX9_twins s m args below meth c 4 0 0 (MQ below (z_Qc Γ (some (.int r.1)) r.2) args s rmX9_twins.cells rmX9_twins.slots (z_A Γ)) 4 [(0, .ref l0), (1, .int l1), (2, .int l2)] [] h := by
  intro nn
  induction nn with
  | zero => intro l0 l1 l2 h hX; cases hX
  | succ nn ih => intro l0 l1 l2 h hX; exact wX9_twins_B4 hO G hr hnm  ih l0 l1 l2 h hX
noncomputable def xX9_twins (l0 : Nat) (h : ZH) : Option (Int32 × ZH) := xX9_twins_L4 zFU l0 (0 : Int32) (0 : Int32) h
set_option maxHeartbeats 4000000 in
set_option maxRecDepth 100000 in
theorem lX9_twins {Γ : ZG} {l : Launch} (hO : z_OK Γ) {l0 : Nat} {h : ZH} {r : (Int32 × ZH)} (hX : xX9_twins l0 h = some r) : z_M Γ l yX9_twins (z_ws1 yX9_twins cX9_twins 4 (some .int)) rmX9_twins [.ref l0] h (some (.int r.1)) r.2 := by
  refine z_start hO (plainFor_of_name (by decide)) (Nat.le_of_ble_eq_true rfl) ?_
  intro p e s m args below meth c G hr hnm
  refine z_lvc (lv2 := [(0, .ref l0)]) rfl ?_
  refine z_iconst (pc := 0) (v := 0) G dX9_twins_0 (by decide) ?_
  refine z_istore_n (pc := 1) (lv2 := [(0, .ref l0), (1, .int (0 : Int32))]) G dX9_twins_1 rfl (by decide) rfl rfl ?_
  refine z_iconst (pc := 2) (v := 0) G dX9_twins_2 (by decide) ?_
  refine z_istore_n (pc := 3) (lv2 := [(0, .ref l0), (1, .int (0 : Int32)), (2, .int (0 : Int32))]) G dX9_twins_3 rfl (by decide) rfl rfl ?_
  exact wX9_twins_L4 hO G hr hnm zFU _ _ _ _ hX
theorem dX9_keepAct_0 : decode cX9_keepAct 0 = .ok (.aload_n 0, 1) := by decide +kernel
theorem dX9_keepAct_1 : decode cX9_keepAct 1 = .ok (.getfield 371, 3) := by decide +kernel
theorem dX9_keepAct_4 : decode cX9_keepAct 4 = .ok (.bipush 40, 2) := by decide +kernel
theorem dX9_keepAct_6 : decode cX9_keepAct 6 = .ok (.if_icmp .ne 44, 3) := by decide +kernel
theorem dX9_keepAct_9 : decode cX9_keepAct 9 = .ok (.iconst 0, 1) := by decide +kernel
theorem dX9_keepAct_10 : decode cX9_keepAct 10 = .ok (.istore_n 1, 1) := by decide +kernel
theorem dX9_keepAct_11 : decode cX9_keepAct 11 = .ok (.iload_n 1, 1) := by decide +kernel
theorem dX9_keepAct_12 : decode cX9_keepAct 12 = .ok (.sipush 20840, 3) := by decide +kernel
theorem dX9_keepAct_15 : decode cX9_keepAct 15 = .ok (.if_icmp .ge 25, 3) := by decide +kernel
theorem dX9_keepAct_18 : decode cX9_keepAct 18 = .ok (.aload_n 0, 1) := by decide +kernel
theorem dX9_keepAct_19 : decode cX9_keepAct 19 = .ok (.getfield 109, 3) := by decide +kernel
theorem dX9_keepAct_22 : decode cX9_keepAct 22 = .ok (.iload_n 1, 1) := by decide +kernel
theorem dX9_keepAct_23 : decode cX9_keepAct 23 = .ok (.aload_n 0, 1) := by decide +kernel
theorem dX9_keepAct_24 : decode cX9_keepAct 24 = .ok (.getfield 109, 3) := by decide +kernel
theorem dX9_keepAct_27 : decode cX9_keepAct 27 = .ok (.iload_n 1, 1) := by decide +kernel
theorem dX9_keepAct_28 : decode cX9_keepAct 28 = .ok (.sipush 521, 3) := by decide +kernel
theorem dX9_keepAct_31 : decode cX9_keepAct 31 = .ok (.iadd, 1) := by decide +kernel
theorem dX9_keepAct_32 : decode cX9_keepAct 32 = .ok (.iaload, 1) := by decide +kernel
theorem dX9_keepAct_33 : decode cX9_keepAct 33 = .ok (.iastore, 1) := by decide +kernel
theorem dX9_keepAct_34 : decode cX9_keepAct 34 = .ok (.iinc 1 1, 3) := by decide +kernel
theorem dX9_keepAct_37 : decode cX9_keepAct 37 = .ok (.goto (-26), 3) := by decide +kernel
theorem dX9_keepAct_40 : decode cX9_keepAct 40 = .ok (.aload_n 0, 1) := by decide +kernel
theorem dX9_keepAct_41 : decode cX9_keepAct 41 = .ok (.dup, 1) := by decide +kernel
theorem dX9_keepAct_42 : decode cX9_keepAct 42 = .ok (.getfield 371, 3) := by decide +kernel
theorem dX9_keepAct_45 : decode cX9_keepAct 45 = .ok (.iconst 1, 1) := by decide +kernel
theorem dX9_keepAct_46 : decode cX9_keepAct 46 = .ok (.isub, 1) := by decide +kernel
theorem dX9_keepAct_47 : decode cX9_keepAct 47 = .ok (.putfield 371, 3) := by decide +kernel
theorem dX9_keepAct_50 : decode cX9_keepAct 50 = .ok (.iconst 0, 1) := by decide +kernel
theorem dX9_keepAct_51 : decode cX9_keepAct 51 = .ok (.istore_n 1, 1) := by decide +kernel
theorem dX9_keepAct_52 : decode cX9_keepAct 52 = .ok (.iload_n 1, 1) := by decide +kernel
theorem dX9_keepAct_53 : decode cX9_keepAct 53 = .ok (.sipush 521, 3) := by decide +kernel
theorem dX9_keepAct_56 : decode cX9_keepAct 56 = .ok (.if_icmp .ge 30, 3) := by decide +kernel
theorem dX9_keepAct_59 : decode cX9_keepAct 59 = .ok (.aload_n 0, 1) := by decide +kernel
theorem dX9_keepAct_60 : decode cX9_keepAct 60 = .ok (.getfield 109, 3) := by decide +kernel
theorem dX9_keepAct_63 : decode cX9_keepAct 63 = .ok (.sipush 521, 3) := by decide +kernel
theorem dX9_keepAct_66 : decode cX9_keepAct 66 = .ok (.aload_n 0, 1) := by decide +kernel
theorem dX9_keepAct_67 : decode cX9_keepAct 67 = .ok (.getfield 371, 3) := by decide +kernel
theorem dX9_keepAct_70 : decode cX9_keepAct 70 = .ok (.imul, 1) := by decide +kernel
theorem dX9_keepAct_71 : decode cX9_keepAct 71 = .ok (.iload_n 1, 1) := by decide +kernel
theorem dX9_keepAct_72 : decode cX9_keepAct 72 = .ok (.iadd, 1) := by decide +kernel
theorem dX9_keepAct_73 : decode cX9_keepAct 73 = .ok (.aload_n 0, 1) := by decide +kernel
theorem dX9_keepAct_74 : decode cX9_keepAct 74 = .ok (.getfield 91, 3) := by decide +kernel
theorem dX9_keepAct_77 : decode cX9_keepAct 77 = .ok (.iload_n 1, 1) := by decide +kernel
theorem dX9_keepAct_78 : decode cX9_keepAct 78 = .ok (.iaload, 1) := by decide +kernel
theorem dX9_keepAct_79 : decode cX9_keepAct 79 = .ok (.iastore, 1) := by decide +kernel
theorem dX9_keepAct_80 : decode cX9_keepAct 80 = .ok (.iinc 1 1, 3) := by decide +kernel
theorem dX9_keepAct_83 : decode cX9_keepAct 83 = .ok (.goto (-31), 3) := by decide +kernel
theorem dX9_keepAct_86 : decode cX9_keepAct 86 = .ok (.aload_n 0, 1) := by decide +kernel
theorem dX9_keepAct_87 : decode cX9_keepAct 87 = .ok (.dup, 1) := by decide +kernel
theorem dX9_keepAct_88 : decode cX9_keepAct 88 = .ok (.getfield 371, 3) := by decide +kernel
theorem dX9_keepAct_91 : decode cX9_keepAct 91 = .ok (.iconst 1, 1) := by decide +kernel
theorem dX9_keepAct_92 : decode cX9_keepAct 92 = .ok (.iadd, 1) := by decide +kernel
theorem dX9_keepAct_93 : decode cX9_keepAct 93 = .ok (.putfield 371, 3) := by decide +kernel
theorem dX9_keepAct_96 : decode cX9_keepAct 96 = .ok (.aload_n 0, 1) := by decide +kernel
theorem dX9_keepAct_97 : decode cX9_keepAct 97 = .ok (.iconst 0, 1) := by decide +kernel
theorem dX9_keepAct_98 : decode cX9_keepAct 98 = .ok (.putfield 374, 3) := by decide +kernel
theorem dX9_keepAct_101 : decode cX9_keepAct 101 = .ok (.return_, 1) := by decide +kernel
theorem ydX9_keepAct : z_yd yX9_keepAct 0 := ⟨by decide, by decide, by decide +kernel⟩
abbrev rmX9_keepAct : Room := { frames := 0, cells := 0, slots := 0, locals := 0 }
noncomputable def xX9_keepAct_B86 (l0 : Nat) (h : ZH) : Option ZH := ((z_gI h l0 9 48).bind fun x88 => ((z_sF h l0 9 48 (.int (x88 + (1 : Int32)))).bind fun h93 => ((z_sF h93 l0 9 49 (.int (0 : Int32))).bind fun h98 => some h98)))
set_option maxHeartbeats 4000000 in
set_option maxRecDepth 100000 in
theorem wX9_keepAct_B86 {Γ : ZG} {p : Program} {l : Launch} {e : Env} {s : State} {m : MethodId} {args : Array Value} {below : List Frame} {meth : Method} {c : Code} (hO : z_OK Γ) (G : z_GG Γ p s m args meth c cX9_keepAct 2 RX9) (hr : meth.sig.returnType = none) (hnm : meth.name = "keepAct") {r : ZH} : ∀ (l0 : Nat) (h : ZH), xX9_keepAct_B86  l0 h = some r → z_W Γ p l e rmX9_keepAct s m args below meth c 2 0 0 (MQ below (z_Qc Γ none r) args s rmX9_keepAct.cells rmX9_keepAct.slots (z_A Γ)) 86 [(0, .ref l0)] [] h := by
  intro l0 h hX
  refine z_aload_n (pc := 86) G 0 dX9_keepAct_86 rfl rfl ?_
  refine z_dup (pc := 87) G dX9_keepAct_87 rfl ?_
  obtain ⟨x88, hv88, hX⟩ := z_bd hX
  refine z_getI (pc := 88) G kK9 (k := 48) (by decide) kt_1274 dX9_keepAct_88 hv88 ?_
  refine z_iconst (pc := 91) (v := 1) G dX9_keepAct_91 (by decide) ?_
  refine z_iadd (pc := 92) G dX9_keepAct_92 ?_
  obtain ⟨h93, hv93, hX⟩ := z_bd hX
  refine z_putF (pc := 93) G kK9 (k := 48) (by decide) kt_1274 (Or.inl rfl) rfl rfl dX9_keepAct_93 hv93 ?_
  refine z_aload_n (pc := 96) G 0 dX9_keepAct_96 rfl rfl ?_
  refine z_iconst (pc := 97) (v := 0) G dX9_keepAct_97 (by decide) ?_
  obtain ⟨h98, hv98, hX⟩ := z_bd hX
  refine z_putF (pc := 98) G kK9 (k := 49) (by decide) kt_1275 (Or.inl rfl) rfl rfl dX9_keepAct_98 hv98 ?_
  exact z_vretX (pc := 101) hX G hr dX9_keepAct_101 (by decide) (by decide)
noncomputable def xX9_keepAct_B52 (r52 : Nat → Int32 → ZH → Option ZH) (l0 : Nat) (l1 : Int32) (h : ZH) : Option ZH := (if (521 : Int32) ≤ l1 then xX9_keepAct_B86 l0 h else ((z_gR h l0 9 47).bind fun x60 => ((z_gI h l0 9 48).bind fun x67 => ((z_gR h l0 9 41).bind fun x74 => ((z_aI h x74 l1).bind fun x78 => ((z_uI h x60 (((521 : Int32) * x67) + l1) x78).bind fun h79 => r52 l0 (l1 + 1) h79))))))
noncomputable def xX9_keepAct_L52 (n : Nat) : Nat → Int32 → ZH → Option ZH := Nat.rec (motive := fun _ => Nat → Int32 → ZH → Option ZH) (fun _ _ _ => none) (fun _ rec => xX9_keepAct_B52  rec) n
set_option maxHeartbeats 4000000 in
set_option maxRecDepth 100000 in
theorem wX9_keepAct_B52 {Γ : ZG} {p : Program} {l : Launch} {e : Env} {s : State} {m : MethodId} {args : Array Value} {below : List Frame} {meth : Method} {c : Code} (hO : z_OK Γ) (G : z_GG Γ p s m args meth c cX9_keepAct 2 RX9) (hr : meth.sig.returnType = none) (hnm : meth.name = "keepAct") {r : ZH} {r52 : Nat → Int32 → ZH → Option ZH} (H52 : ∀ (l0 : Nat) (l1 : Int32) (h : ZH), r52 l0 l1 h = some r → z_W Γ p l e rmX9_keepAct s m args below meth c 2 0 0 (MQ below (z_Qc Γ none r) args s rmX9_keepAct.cells rmX9_keepAct.slots (z_A Γ)) 52 [(0, .ref l0), (1, .int l1)] [] h) : ∀ (l0 : Nat) (l1 : Int32) (h : ZH), xX9_keepAct_B52  r52 l0 l1 h = some r → z_W Γ p l e rmX9_keepAct s m args below meth c 2 0 0 (MQ below (z_Qc Γ none r) args s rmX9_keepAct.cells rmX9_keepAct.slots (z_A Γ)) 52 [(0, .ref l0), (1, .int l1)] [] h := by
  intro l0 l1 h hX
  refine z_iload_n (pc := 52) G 1 dX9_keepAct_52 rfl rfl ?_
  refine z_sipush (pc := 53) (v := 521) G dX9_keepAct_53 (by decide) ?_
  refine z_icmp_ge (pc := 56) (tgt := 86) G dX9_keepAct_56 (by decide) (fun hc56 => ?_) (fun hc56 => ?_)
  · have hX := z_it hc56 hX
    refine z_drop (lv2 := [(0, .ref l0)]) [0] rfl ?_
    exact wX9_keepAct_B86 hO G hr hnm _ _ hX
  · have hX := z_if hc56 hX
    refine z_aload_n (pc := 59) G 0 dX9_keepAct_59 rfl rfl ?_
    obtain ⟨x60, hv60, hX⟩ := z_bd hX
    refine z_getR (pc := 60) G kK9 (k := 47) (by decide) kt_1273 dX9_keepAct_60 hv60 ?_
    refine z_sipush (pc := 63) (v := 521) G dX9_keepAct_63 (by decide) ?_
    refine z_aload_n (pc := 66) G 0 dX9_keepAct_66 rfl rfl ?_
    obtain ⟨x67, hv67, hX⟩ := z_bd hX
    refine z_getI (pc := 67) G kK9 (k := 48) (by decide) kt_1274 dX9_keepAct_67 hv67 ?_
    refine z_imul (pc := 70) G dX9_keepAct_70 ?_
    refine z_iload_n (pc := 71) G 1 dX9_keepAct_71 rfl rfl ?_
    refine z_iadd (pc := 72) G dX9_keepAct_72 ?_
    refine z_aload_n (pc := 73) G 0 dX9_keepAct_73 rfl rfl ?_
    obtain ⟨x74, hv74, hX⟩ := z_bd hX
    refine z_getR (pc := 74) G kK9 (k := 41) (by decide) kt_1267 dX9_keepAct_74 hv74 ?_
    refine z_iload_n (pc := 77) G 1 dX9_keepAct_77 rfl rfl ?_
    obtain ⟨x78, hv78, hX⟩ := z_bd hX
    refine z_iald (pc := 78) G dX9_keepAct_78 hv78 ?_
    obtain ⟨h79, hv79, hX⟩ := z_bd hX
    refine z_iast (pc := 79) G dX9_keepAct_79 hv79 ?_
    refine z_iincw (pc := 80) (w := 1) (lv2 := [(0, .ref l0), (1, .int (l1 + 1))]) G 1 dX9_keepAct_80 rfl (by decide) (by decide) rfl rfl ?_
    refine z_goto (pc := 83) (tgt := 52) G dX9_keepAct_83 (by decide) ?_
    exact H52 _ _ _ hX
set_option maxHeartbeats 4000000 in
set_option maxRecDepth 100000 in
theorem wX9_keepAct_L52 {Γ : ZG} {p : Program} {l : Launch} {e : Env} {s : State} {m : MethodId} {args : Array Value} {below : List Frame} {meth : Method} {c : Code} (hO : z_OK Γ) (G : z_GG Γ p s m args meth c cX9_keepAct 2 RX9) (hr : meth.sig.returnType = none) (hnm : meth.name = "keepAct") {r : ZH} : ∀ (nn : Nat) (l0 : Nat) (l1 : Int32) (h : ZH), xX9_keepAct_L52  nn l0 l1 h = some r → z_W Γ p l e rmX9_keepAct s m args below meth c 2 0 0 (MQ below (z_Qc Γ none r) args s rmX9_keepAct.cells rmX9_keepAct.slots (z_A Γ)) 52 [(0, .ref l0), (1, .int l1)] [] h := by
  intro nn
  induction nn with
  | zero => intro l0 l1 h hX; cases hX
  | succ nn ih => intro l0 l1 h hX; exact wX9_keepAct_B52 hO G hr hnm  ih l0 l1 h hX
noncomputable def xX9_keepAct_B40 (l0 : Nat) (h : ZH) : Option ZH := ((z_gI h l0 9 48).bind fun x42 => ((z_sF h l0 9 48 (.int (x42 - (1 : Int32)))).bind fun h47 => xX9_keepAct_L52 zFU l0 (0 : Int32) h47))
set_option maxHeartbeats 4000000 in
set_option maxRecDepth 100000 in
theorem wX9_keepAct_B40 {Γ : ZG} {p : Program} {l : Launch} {e : Env} {s : State} {m : MethodId} {args : Array Value} {below : List Frame} {meth : Method} {c : Code} (hO : z_OK Γ) (G : z_GG Γ p s m args meth c cX9_keepAct 2 RX9) (hr : meth.sig.returnType = none) (hnm : meth.name = "keepAct") {r : ZH} : ∀ (l0 : Nat) (h : ZH), xX9_keepAct_B40  l0 h = some r → z_W Γ p l e rmX9_keepAct s m args below meth c 2 0 0 (MQ below (z_Qc Γ none r) args s rmX9_keepAct.cells rmX9_keepAct.slots (z_A Γ)) 40 [(0, .ref l0)] [] h := by
  intro l0 h hX
  refine z_aload_n (pc := 40) G 0 dX9_keepAct_40 rfl rfl ?_
  refine z_dup (pc := 41) G dX9_keepAct_41 rfl ?_
  obtain ⟨x42, hv42, hX⟩ := z_bd hX
  refine z_getI (pc := 42) G kK9 (k := 48) (by decide) kt_1274 dX9_keepAct_42 hv42 ?_
  refine z_iconst (pc := 45) (v := 1) G dX9_keepAct_45 (by decide) ?_
  refine z_isub (pc := 46) G dX9_keepAct_46 ?_
  obtain ⟨h47, hv47, hX⟩ := z_bd hX
  refine z_putF (pc := 47) G kK9 (k := 48) (by decide) kt_1274 (Or.inl rfl) rfl rfl dX9_keepAct_47 hv47 ?_
  refine z_iconst (pc := 50) (v := 0) G dX9_keepAct_50 (by decide) ?_
  refine z_istore_n (pc := 51) (lv2 := [(0, .ref l0), (1, .int (0 : Int32))]) G dX9_keepAct_51 rfl (by decide) rfl rfl ?_
  exact wX9_keepAct_L52 hO G hr hnm zFU _ _ _ hX
noncomputable def xX9_keepAct_B11 (r11 : Nat → Int32 → ZH → Option ZH) (l0 : Nat) (l1 : Int32) (h : ZH) : Option ZH := (if (20840 : Int32) ≤ l1 then xX9_keepAct_B40 l0 h else ((z_gR h l0 9 47).bind fun x19 => ((z_gR h l0 9 47).bind fun x24 => ((z_aI h x24 (l1 + (521 : Int32))).bind fun x32 => ((z_uI h x19 l1 x32).bind fun h33 => r11 l0 (l1 + 1) h33)))))
noncomputable def xX9_keepAct_L11 (n : Nat) : Nat → Int32 → ZH → Option ZH := Nat.rec (motive := fun _ => Nat → Int32 → ZH → Option ZH) (fun _ _ _ => none) (fun _ rec => xX9_keepAct_B11  rec) n
set_option maxHeartbeats 4000000 in
set_option maxRecDepth 100000 in
theorem wX9_keepAct_B11 {Γ : ZG} {p : Program} {l : Launch} {e : Env} {s : State} {m : MethodId} {args : Array Value} {below : List Frame} {meth : Method} {c : Code} (hO : z_OK Γ) (G : z_GG Γ p s m args meth c cX9_keepAct 2 RX9) (hr : meth.sig.returnType = none) (hnm : meth.name = "keepAct") {r : ZH} {r11 : Nat → Int32 → ZH → Option ZH} (H11 : ∀ (l0 : Nat) (l1 : Int32) (h : ZH), r11 l0 l1 h = some r → z_W Γ p l e rmX9_keepAct s m args below meth c 2 0 0 (MQ below (z_Qc Γ none r) args s rmX9_keepAct.cells rmX9_keepAct.slots (z_A Γ)) 11 [(0, .ref l0), (1, .int l1)] [] h) : ∀ (l0 : Nat) (l1 : Int32) (h : ZH), xX9_keepAct_B11  r11 l0 l1 h = some r → z_W Γ p l e rmX9_keepAct s m args below meth c 2 0 0 (MQ below (z_Qc Γ none r) args s rmX9_keepAct.cells rmX9_keepAct.slots (z_A Γ)) 11 [(0, .ref l0), (1, .int l1)] [] h := by
  intro l0 l1 h hX
  refine z_iload_n (pc := 11) G 1 dX9_keepAct_11 rfl rfl ?_
  refine z_sipush (pc := 12) (v := 20840) G dX9_keepAct_12 (by decide) ?_
  refine z_icmp_ge (pc := 15) (tgt := 40) G dX9_keepAct_15 (by decide) (fun hc15 => ?_) (fun hc15 => ?_)
  · have hX := z_it hc15 hX
    refine z_drop (lv2 := [(0, .ref l0)]) [0] rfl ?_
    exact wX9_keepAct_B40 hO G hr hnm _ _ hX
  · have hX := z_if hc15 hX
    refine z_aload_n (pc := 18) G 0 dX9_keepAct_18 rfl rfl ?_
    obtain ⟨x19, hv19, hX⟩ := z_bd hX
    refine z_getR (pc := 19) G kK9 (k := 47) (by decide) kt_1273 dX9_keepAct_19 hv19 ?_
    refine z_iload_n (pc := 22) G 1 dX9_keepAct_22 rfl rfl ?_
    refine z_aload_n (pc := 23) G 0 dX9_keepAct_23 rfl rfl ?_
    obtain ⟨x24, hv24, hX⟩ := z_bd hX
    refine z_getR (pc := 24) G kK9 (k := 47) (by decide) kt_1273 dX9_keepAct_24 hv24 ?_
    refine z_iload_n (pc := 27) G 1 dX9_keepAct_27 rfl rfl ?_
    refine z_sipush (pc := 28) (v := 521) G dX9_keepAct_28 (by decide) ?_
    refine z_iadd (pc := 31) G dX9_keepAct_31 ?_
    obtain ⟨x32, hv32, hX⟩ := z_bd hX
    refine z_iald (pc := 32) G dX9_keepAct_32 hv32 ?_
    obtain ⟨h33, hv33, hX⟩ := z_bd hX
    refine z_iast (pc := 33) G dX9_keepAct_33 hv33 ?_
    refine z_iincw (pc := 34) (w := 1) (lv2 := [(0, .ref l0), (1, .int (l1 + 1))]) G 1 dX9_keepAct_34 rfl (by decide) (by decide) rfl rfl ?_
    refine z_goto (pc := 37) (tgt := 11) G dX9_keepAct_37 (by decide) ?_
    exact H11 _ _ _ hX
set_option maxHeartbeats 4000000 in
set_option maxRecDepth 100000 in
theorem wX9_keepAct_L11 {Γ : ZG} {p : Program} {l : Launch} {e : Env} {s : State} {m : MethodId} {args : Array Value} {below : List Frame} {meth : Method} {c : Code} (hO : z_OK Γ) (G : z_GG Γ p s m args meth c cX9_keepAct 2 RX9) (hr : meth.sig.returnType = none) (hnm : meth.name = "keepAct") {r : ZH} : ∀ (nn : Nat) (l0 : Nat) (l1 : Int32) (h : ZH), xX9_keepAct_L11  nn l0 l1 h = some r → z_W Γ p l e rmX9_keepAct s m args below meth c 2 0 0 (MQ below (z_Qc Γ none r) args s rmX9_keepAct.cells rmX9_keepAct.slots (z_A Γ)) 11 [(0, .ref l0), (1, .int l1)] [] h := by
  intro nn
  induction nn with
  | zero => intro l0 l1 h hX; cases hX
  | succ nn ih => intro l0 l1 h hX; exact wX9_keepAct_B11 hO G hr hnm  ih l0 l1 h hX
noncomputable def xX9_keepAct (l0 : Nat) (h : ZH) : Option ZH := ((z_gI h l0 9 48).bind fun x1 => (if x1 = (40 : Int32) then xX9_keepAct_L11 zFU l0 (0 : Int32) h else xX9_keepAct_L52 zFU l0 (0 : Int32) h))
set_option maxHeartbeats 4000000 in
set_option maxRecDepth 100000 in
theorem lX9_keepAct {Γ : ZG} {l : Launch} (hO : z_OK Γ) {l0 : Nat} {h : ZH} {r : ZH} (hX : xX9_keepAct l0 h = some r) : z_M Γ l yX9_keepAct (z_ws1 yX9_keepAct cX9_keepAct 2 none) rmX9_keepAct [.ref l0] h none r := by
  refine z_start hO (plainFor_of_name (by decide)) (Nat.le_of_ble_eq_true rfl) ?_
  intro p e s m args below meth c G hr hnm
  refine z_lvc (lv2 := [(0, .ref l0)]) rfl ?_
  refine z_aload_n (pc := 0) G 0 dX9_keepAct_0 rfl rfl ?_
  obtain ⟨x1, hv1, hX⟩ := z_bd hX
  refine z_getI (pc := 1) G kK9 (k := 48) (by decide) kt_1274 dX9_keepAct_1 hv1 ?_
  refine z_bipush (pc := 4) (v := 40) G dX9_keepAct_4 (by decide) ?_
  refine z_icmp_ne (pc := 6) (tgt := 50) G dX9_keepAct_6 (by decide) (fun hc6 => ?_) (fun hc6 => ?_)
  · have hX := z_if hc6 hX
    refine z_iconst (pc := 50) (v := 0) G dX9_keepAct_50 (by decide) ?_
    refine z_istore_n (pc := 51) (lv2 := [(0, .ref l0), (1, .int (0 : Int32))]) G dX9_keepAct_51 rfl (by decide) rfl rfl ?_
    exact wX9_keepAct_L52 hO G hr hnm zFU _ _ _ hX
  · have hX := z_it hc6 hX
    refine z_iconst (pc := 9) (v := 0) G dX9_keepAct_9 (by decide) ?_
    refine z_istore_n (pc := 10) (lv2 := [(0, .ref l0), (1, .int (0 : Int32))]) G dX9_keepAct_10 rfl (by decide) rfl rfl ?_
    exact wX9_keepAct_L11 hO G hr hnm zFU _ _ _ hX
theorem dX9_swapAll_0 : decode cX9_swapAll 0 = .ok (.iconst 0, 1) := by decide +kernel
theorem dX9_swapAll_1 : decode cX9_swapAll 1 = .ok (.istore_n 1, 1) := by decide +kernel
theorem dX9_swapAll_2 : decode cX9_swapAll 2 = .ok (.iload_n 1, 1) := by decide +kernel
theorem dX9_swapAll_3 : decode cX9_swapAll 3 = .ok (.sipush 521, 3) := by decide +kernel
theorem dX9_swapAll_6 : decode cX9_swapAll 6 = .ok (.if_icmp .ge 53, 3) := by decide +kernel
theorem dX9_swapAll_9 : decode cX9_swapAll 9 = .ok (.aload_n 0, 1) := by decide +kernel
theorem dX9_swapAll_10 : decode cX9_swapAll 10 = .ok (.getfield 109, 3) := by decide +kernel
theorem dX9_swapAll_13 : decode cX9_swapAll 13 = .ok (.sipush 521, 3) := by decide +kernel
theorem dX9_swapAll_16 : decode cX9_swapAll 16 = .ok (.aload_n 0, 1) := by decide +kernel
theorem dX9_swapAll_17 : decode cX9_swapAll 17 = .ok (.getfield 371, 3) := by decide +kernel
theorem dX9_swapAll_20 : decode cX9_swapAll 20 = .ok (.imul, 1) := by decide +kernel
theorem dX9_swapAll_21 : decode cX9_swapAll 21 = .ok (.iload_n 1, 1) := by decide +kernel
theorem dX9_swapAll_22 : decode cX9_swapAll 22 = .ok (.iadd, 1) := by decide +kernel
theorem dX9_swapAll_23 : decode cX9_swapAll 23 = .ok (.iaload, 1) := by decide +kernel
theorem dX9_swapAll_24 : decode cX9_swapAll 24 = .ok (.istore_n 2, 1) := by decide +kernel
theorem dX9_swapAll_25 : decode cX9_swapAll 25 = .ok (.aload_n 0, 1) := by decide +kernel
theorem dX9_swapAll_26 : decode cX9_swapAll 26 = .ok (.getfield 109, 3) := by decide +kernel
theorem dX9_swapAll_29 : decode cX9_swapAll 29 = .ok (.sipush 521, 3) := by decide +kernel
theorem dX9_swapAll_32 : decode cX9_swapAll 32 = .ok (.aload_n 0, 1) := by decide +kernel
theorem dX9_swapAll_33 : decode cX9_swapAll 33 = .ok (.getfield 371, 3) := by decide +kernel
theorem dX9_swapAll_36 : decode cX9_swapAll 36 = .ok (.imul, 1) := by decide +kernel
theorem dX9_swapAll_37 : decode cX9_swapAll 37 = .ok (.iload_n 1, 1) := by decide +kernel
theorem dX9_swapAll_38 : decode cX9_swapAll 38 = .ok (.iadd, 1) := by decide +kernel
theorem dX9_swapAll_39 : decode cX9_swapAll 39 = .ok (.aload_n 0, 1) := by decide +kernel
theorem dX9_swapAll_40 : decode cX9_swapAll 40 = .ok (.getfield 91, 3) := by decide +kernel
theorem dX9_swapAll_43 : decode cX9_swapAll 43 = .ok (.iload_n 1, 1) := by decide +kernel
theorem dX9_swapAll_44 : decode cX9_swapAll 44 = .ok (.iaload, 1) := by decide +kernel
theorem dX9_swapAll_45 : decode cX9_swapAll 45 = .ok (.iastore, 1) := by decide +kernel
theorem dX9_swapAll_46 : decode cX9_swapAll 46 = .ok (.aload_n 0, 1) := by decide +kernel
theorem dX9_swapAll_47 : decode cX9_swapAll 47 = .ok (.getfield 91, 3) := by decide +kernel
theorem dX9_swapAll_50 : decode cX9_swapAll 50 = .ok (.iload_n 1, 1) := by decide +kernel
theorem dX9_swapAll_51 : decode cX9_swapAll 51 = .ok (.iload_n 2, 1) := by decide +kernel
theorem dX9_swapAll_52 : decode cX9_swapAll 52 = .ok (.iastore, 1) := by decide +kernel
theorem dX9_swapAll_53 : decode cX9_swapAll 53 = .ok (.iinc 1 1, 3) := by decide +kernel
theorem dX9_swapAll_56 : decode cX9_swapAll 56 = .ok (.goto (-54), 3) := by decide +kernel
theorem dX9_swapAll_59 : decode cX9_swapAll 59 = .ok (.return_, 1) := by decide +kernel
theorem ydX9_swapAll : z_yd yX9_swapAll 0 := ⟨by decide, by decide, by decide +kernel⟩
abbrev rmX9_swapAll : Room := { frames := 0, cells := 0, slots := 0, locals := 0 }
noncomputable def xX9_swapAll_B2 (r2 : Nat → Int32 → ZH → Option ZH) (l0 : Nat) (l1 : Int32) (h : ZH) : Option ZH := (if (521 : Int32) ≤ l1 then some h else ((z_gR h l0 9 47).bind fun x10 => ((z_gI h l0 9 48).bind fun x17 => ((z_aI h x10 (((521 : Int32) * x17) + l1)).bind fun x23 => ((z_gR h l0 9 47).bind fun x26 => ((z_gI h l0 9 48).bind fun x33 => ((z_gR h l0 9 41).bind fun x40 => ((z_aI h x40 l1).bind fun x44 => ((z_uI h x26 (((521 : Int32) * x33) + l1) x44).bind fun h45 => ((z_gR h45 l0 9 41).bind fun x47 => ((z_uI h45 x47 l1 x23).bind fun h52 => r2 l0 (l1 + 1) h52)))))))))))
noncomputable def xX9_swapAll_L2 (n : Nat) : Nat → Int32 → ZH → Option ZH := Nat.rec (motive := fun _ => Nat → Int32 → ZH → Option ZH) (fun _ _ _ => none) (fun _ rec => xX9_swapAll_B2  rec) n
set_option maxHeartbeats 4000000 in
set_option maxRecDepth 100000 in
theorem wX9_swapAll_B2 {Γ : ZG} {p : Program} {l : Launch} {e : Env} {s : State} {m : MethodId} {args : Array Value} {below : List Frame} {meth : Method} {c : Code} (hO : z_OK Γ) (G : z_GG Γ p s m args meth c cX9_swapAll 3 RX9) (hr : meth.sig.returnType = none) (hnm : meth.name = "swapAll") {r : ZH} {r2 : Nat → Int32 → ZH → Option ZH} (H2 : ∀ (l0 : Nat) (l1 : Int32) (h : ZH), r2 l0 l1 h = some r → z_W Γ p l e rmX9_swapAll s m args below meth c 3 0 0 (MQ below (z_Qc Γ none r) args s rmX9_swapAll.cells rmX9_swapAll.slots (z_A Γ)) 2 [(0, .ref l0), (1, .int l1)] [] h) : ∀ (l0 : Nat) (l1 : Int32) (h : ZH), xX9_swapAll_B2  r2 l0 l1 h = some r → z_W Γ p l e rmX9_swapAll s m args below meth c 3 0 0 (MQ below (z_Qc Γ none r) args s rmX9_swapAll.cells rmX9_swapAll.slots (z_A Γ)) 2 [(0, .ref l0), (1, .int l1)] [] h := by
  intro l0 l1 h hX
  refine z_iload_n (pc := 2) G 1 dX9_swapAll_2 rfl rfl ?_
  refine z_sipush (pc := 3) (v := 521) G dX9_swapAll_3 (by decide) ?_
  refine z_icmp_ge (pc := 6) (tgt := 59) G dX9_swapAll_6 (by decide) (fun hc6 => ?_) (fun hc6 => ?_)
  · have hX := z_it hc6 hX
    exact z_vretX (pc := 59) hX G hr dX9_swapAll_59 (by decide) (by decide)
  · have hX := z_if hc6 hX
    refine z_aload_n (pc := 9) G 0 dX9_swapAll_9 rfl rfl ?_
    obtain ⟨x10, hv10, hX⟩ := z_bd hX
    refine z_getR (pc := 10) G kK9 (k := 47) (by decide) kt_1273 dX9_swapAll_10 hv10 ?_
    refine z_sipush (pc := 13) (v := 521) G dX9_swapAll_13 (by decide) ?_
    refine z_aload_n (pc := 16) G 0 dX9_swapAll_16 rfl rfl ?_
    obtain ⟨x17, hv17, hX⟩ := z_bd hX
    refine z_getI (pc := 17) G kK9 (k := 48) (by decide) kt_1274 dX9_swapAll_17 hv17 ?_
    refine z_imul (pc := 20) G dX9_swapAll_20 ?_
    refine z_iload_n (pc := 21) G 1 dX9_swapAll_21 rfl rfl ?_
    refine z_iadd (pc := 22) G dX9_swapAll_22 ?_
    obtain ⟨x23, hv23, hX⟩ := z_bd hX
    refine z_iald (pc := 23) G dX9_swapAll_23 hv23 ?_
    refine z_istore_n (pc := 24) (lv2 := [(0, .ref l0), (1, .int l1), (2, .int x23)]) G dX9_swapAll_24 rfl (by decide) rfl rfl ?_
    refine z_aload_n (pc := 25) G 0 dX9_swapAll_25 rfl rfl ?_
    obtain ⟨x26, hv26, hX⟩ := z_bd hX
    refine z_getR (pc := 26) G kK9 (k := 47) (by decide) kt_1273 dX9_swapAll_26 hv26 ?_
    refine z_sipush (pc := 29) (v := 521) G dX9_swapAll_29 (by decide) ?_
    refine z_aload_n (pc := 32) G 0 dX9_swapAll_32 rfl rfl ?_
    obtain ⟨x33, hv33, hX⟩ := z_bd hX
    refine z_getI (pc := 33) G kK9 (k := 48) (by decide) kt_1274 dX9_swapAll_33 hv33 ?_
    refine z_imul (pc := 36) G dX9_swapAll_36 ?_
    refine z_iload_n (pc := 37) G 1 dX9_swapAll_37 rfl rfl ?_
    refine z_iadd (pc := 38) G dX9_swapAll_38 ?_
    refine z_aload_n (pc := 39) G 0 dX9_swapAll_39 rfl rfl ?_
    obtain ⟨x40, hv40, hX⟩ := z_bd hX
    refine z_getR (pc := 40) G kK9 (k := 41) (by decide) kt_1267 dX9_swapAll_40 hv40 ?_
    refine z_iload_n (pc := 43) G 1 dX9_swapAll_43 rfl rfl ?_
    obtain ⟨x44, hv44, hX⟩ := z_bd hX
    refine z_iald (pc := 44) G dX9_swapAll_44 hv44 ?_
    obtain ⟨h45, hv45, hX⟩ := z_bd hX
    refine z_iast (pc := 45) G dX9_swapAll_45 hv45 ?_
    refine z_aload_n (pc := 46) G 0 dX9_swapAll_46 rfl rfl ?_
    obtain ⟨x47, hv47, hX⟩ := z_bd hX
    refine z_getR (pc := 47) G kK9 (k := 41) (by decide) kt_1267 dX9_swapAll_47 hv47 ?_
    refine z_iload_n (pc := 50) G 1 dX9_swapAll_50 rfl rfl ?_
    refine z_iload_n (pc := 51) G 2 dX9_swapAll_51 rfl rfl ?_
    obtain ⟨h52, hv52, hX⟩ := z_bd hX
    refine z_iast (pc := 52) G dX9_swapAll_52 hv52 ?_
    refine z_iincw (pc := 53) (w := 1) (lv2 := [(0, .ref l0), (1, .int (l1 + 1)), (2, .int x23)]) G 1 dX9_swapAll_53 rfl (by decide) (by decide) rfl rfl ?_
    refine z_goto (pc := 56) (tgt := 2) G dX9_swapAll_56 (by decide) ?_
    refine z_drop (lv2 := [(0, .ref l0), (1, .int (l1 + 1))]) [0, 1] rfl ?_
    exact H2 _ _ _ hX
set_option maxHeartbeats 4000000 in
set_option maxRecDepth 100000 in
theorem wX9_swapAll_L2 {Γ : ZG} {p : Program} {l : Launch} {e : Env} {s : State} {m : MethodId} {args : Array Value} {below : List Frame} {meth : Method} {c : Code} (hO : z_OK Γ) (G : z_GG Γ p s m args meth c cX9_swapAll 3 RX9) (hr : meth.sig.returnType = none) (hnm : meth.name = "swapAll") {r : ZH} : ∀ (nn : Nat) (l0 : Nat) (l1 : Int32) (h : ZH), xX9_swapAll_L2  nn l0 l1 h = some r → z_W Γ p l e rmX9_swapAll s m args below meth c 3 0 0 (MQ below (z_Qc Γ none r) args s rmX9_swapAll.cells rmX9_swapAll.slots (z_A Γ)) 2 [(0, .ref l0), (1, .int l1)] [] h := by
  intro nn
  induction nn with
  | zero => intro l0 l1 h hX; cases hX
  | succ nn ih => intro l0 l1 h hX; exact wX9_swapAll_B2 hO G hr hnm  ih l0 l1 h hX
noncomputable def xX9_swapAll (l0 : Nat) (h : ZH) : Option ZH := xX9_swapAll_L2 zFU l0 (0 : Int32) h
set_option maxHeartbeats 4000000 in
set_option maxRecDepth 100000 in
theorem lX9_swapAll {Γ : ZG} {l : Launch} (hO : z_OK Γ) {l0 : Nat} {h : ZH} {r : ZH} (hX : xX9_swapAll l0 h = some r) : z_M Γ l yX9_swapAll (z_ws1 yX9_swapAll cX9_swapAll 3 none) rmX9_swapAll [.ref l0] h none r := by
  refine z_start hO (plainFor_of_name (by decide)) (Nat.le_of_ble_eq_true rfl) ?_
  intro p e s m args below meth c G hr hnm
  refine z_lvc (lv2 := [(0, .ref l0)]) rfl ?_
  refine z_iconst (pc := 0) (v := 0) G dX9_swapAll_0 (by decide) ?_
  refine z_istore_n (pc := 1) (lv2 := [(0, .ref l0), (1, .int (0 : Int32))]) G dX9_swapAll_1 rfl (by decide) rfl rfl ?_
  exact wX9_swapAll_L2 hO G hr hnm zFU _ _ _ hX
theorem dX9_step_0 : decode cX9_step 0 = .ok (.aload_n 0, 1) := by decide +kernel
theorem dX9_step_1 : decode cX9_step 1 = .ok (.getfield 91, 3) := by decide +kernel
theorem dX9_step_4 : decode cX9_step 4 = .ok (.sipush 517, 3) := by decide +kernel
theorem dX9_step_7 : decode cX9_step 7 = .ok (.iaload, 1) := by decide +kernel
theorem dX9_step_8 : decode cX9_step 8 = .ok (.bipush 99, 2) := by decide +kernel
theorem dX9_step_10 : decode cX9_step 10 = .ok (.if_icmp .le 5, 3) := by decide +kernel
theorem dX9_step_13 : decode cX9_step 13 = .ok (.iconst (-1), 1) := by decide +kernel
theorem dX9_step_14 : decode cX9_step 14 = .ok (.ireturn, 1) := by decide +kernel
theorem dX9_step_15 : decode cX9_step 15 = .ok (.aload_n 0, 1) := by decide +kernel
theorem dX9_step_16 : decode cX9_step 16 = .ok (.invokevirtual 462, 3) := by decide +kernel
theorem dX9_step_19 : decode cX9_step 19 = .ok (.aload_n 0, 1) := by decide +kernel
theorem dX9_step_20 : decode cX9_step 20 = .ok (.invokevirtual 465, 3) := by decide +kernel
theorem dX9_step_23 : decode cX9_step 23 = .ok (.ireturn, 1) := by decide +kernel
theorem ydX9_step : z_yd yX9_step 0 := ⟨by decide, by decide, by decide +kernel⟩
abbrev rmX9_step : Room := { frames := 8, cells := 0, slots := 0, locals := 190 }
noncomputable def xX9_step (l0 : Nat) (h : ZH) : Option (Int32 × ZH) := ((z_gR h l0 9 41).bind fun x1 => ((z_aI h x1 (517 : Int32)).bind fun x7 => (if x7 ≤ (99 : Int32) then (z_gu (z_is h l0 9) ((xX9_keepAct l0 h).bind fun h16 => (z_gu (z_is h16 l0 9) ((xX9_goStep l0 h16).bind fun r20 => some (r20.1, r20.2))))) else some ((-1 : Int32), h))))
set_option maxHeartbeats 4000000 in
set_option maxRecDepth 100000 in
theorem lX9_step {Γ : ZG} {l : Launch} (hO : z_OK Γ) {l0 : Nat} {h : ZH} {r : (Int32 × ZH)} (hX : xX9_step l0 h = some r) : z_M Γ l yX9_step (z_ws1 yX9_step cX9_step 1 (some .int)) rmX9_step [.ref l0] h (some (.int r.1)) r.2 := by
  refine z_start hO (plainFor_of_name (by decide)) (Nat.le_of_ble_eq_true rfl) ?_
  intro p e s m args below meth c G hr hnm
  refine z_lvc (lv2 := [(0, .ref l0)]) rfl ?_
  refine z_aload_n (pc := 0) G 0 dX9_step_0 rfl rfl ?_
  obtain ⟨x1, hv1, hX⟩ := z_bd hX
  refine z_getR (pc := 1) G kK9 (k := 41) (by decide) kt_1267 dX9_step_1 hv1 ?_
  refine z_sipush (pc := 4) (v := 517) G dX9_step_4 (by decide) ?_
  obtain ⟨x7, hv7, hX⟩ := z_bd hX
  refine z_iald (pc := 7) G dX9_step_7 hv7 ?_
  refine z_bipush (pc := 8) (v := 99) G dX9_step_8 (by decide) ?_
  refine z_icmp_le (pc := 10) (tgt := 15) G dX9_step_10 (by decide) (fun hc10 => ?_) (fun hc10 => ?_)
  · have hX := z_it hc10 hX
    refine z_aload_n (pc := 15) G 0 dX9_step_15 rfl rfl ?_
    obtain ⟨hi16, hX⟩ := z_gu_s hX
    obtain ⟨h16, hv16, hX⟩ := z_bd hX
    refine z_cVV (pc := 16) (As := []) (c2 := 0) (s2 := 0) G kK9 (lX9_keepAct hO hv16) hi16 kt_1723 kt_11 kt_1720 kt_1722 ks_82 ydX9_keepAct ⟨by decide, by decide⟩ rfl (Nat.le_of_ble_eq_true rfl) ⟨rfl, rfl⟩ ⟨by decide, by decide⟩ rfl dX9_step_16 ?_
    refine z_aload_n (pc := 19) G 0 dX9_step_19 rfl rfl ?_
    obtain ⟨hi20, hX⟩ := z_gu_s hX
    obtain ⟨r20, hv20, hX⟩ := z_bd hX
    refine z_cVI (pc := 20) (As := []) (c2 := 0) (s2 := 0) G kK9 (lX9_goStep hO hv20) hi20 kt_1727 kt_11 kt_1724 kt_1726 ks_83 ydX9_goStep ⟨by decide, by decide⟩ rfl (Nat.le_of_ble_eq_true rfl) ⟨rfl, rfl⟩ ⟨by decide, by decide⟩ rfl dX9_step_20 ?_
    exact z_iretX (pc := 23) hX G hr dX9_step_23 (by decide) (by decide)
  · have hX := z_if hc10 hX
    refine z_iconst (pc := 13) (v := (-1)) G dX9_step_13 (by decide) ?_
    exact z_iretX (pc := 14) hX G hr dX9_step_14 (by decide) (by decide)
theorem dX9_steer_0 : decode cX9_steer 0 = .ok (.aload_n 0, 1) := by decide +kernel
theorem dX9_steer_1 : decode cX9_steer 1 = .ok (.iload_n 1, 1) := by decide +kernel
theorem dX9_steer_2 : decode cX9_steer 2 = .ok (.invokevirtual 450, 3) := by decide +kernel
theorem dX9_steer_5 : decode cX9_steer 5 = .ok (.ifCond .eq 23, 3) := by decide +kernel
theorem dX9_steer_8 : decode cX9_steer 8 = .ok (.iload_n 2, 1) := by decide +kernel
theorem dX9_steer_9 : decode cX9_steer 9 = .ok (.iconst 0, 1) := by decide +kernel
theorem dX9_steer_10 : decode cX9_steer 10 = .ok (.bipush 99, 2) := by decide +kernel
theorem dX9_steer_12 : decode cX9_steer 12 = .ok (.invokestatic 340, 3) := by decide +kernel
theorem dX9_steer_15 : decode cX9_steer 15 = .ok (.ifCond .eq 13, 3) := by decide +kernel
theorem dX9_steer_18 : decode cX9_steer 18 = .ok (.iload_n 3, 1) := by decide +kernel
theorem dX9_steer_19 : decode cX9_steer 19 = .ok (.iconst 0, 1) := by decide +kernel
theorem dX9_steer_20 : decode cX9_steer 20 = .ok (.bipush 99, 2) := by decide +kernel
theorem dX9_steer_22 : decode cX9_steer 22 = .ok (.invokestatic 340, 3) := by decide +kernel
theorem dX9_steer_25 : decode cX9_steer 25 = .ok (.ifCond .ne 5, 3) := by decide +kernel
theorem dX9_steer_28 : decode cX9_steer 28 = .ok (.iconst (-1), 1) := by decide +kernel
theorem dX9_steer_29 : decode cX9_steer 29 = .ok (.ireturn, 1) := by decide +kernel
theorem dX9_steer_30 : decode cX9_steer 30 = .ok (.aload_n 0, 1) := by decide +kernel
theorem dX9_steer_31 : decode cX9_steer 31 = .ok (.invokevirtual 462, 3) := by decide +kernel
theorem dX9_steer_34 : decode cX9_steer 34 = .ok (.aload_n 0, 1) := by decide +kernel
theorem dX9_steer_35 : decode cX9_steer 35 = .ok (.getfield 91, 3) := by decide +kernel
theorem dX9_steer_38 : decode cX9_steer 38 = .ok (.bipush 12, 2) := by decide +kernel
theorem dX9_steer_40 : decode cX9_steer 40 = .ok (.iload_n 1, 1) := by decide +kernel
theorem dX9_steer_41 : decode cX9_steer 41 = .ok (.iadd, 1) := by decide +kernel
theorem dX9_steer_42 : decode cX9_steer 42 = .ok (.iload_n 2, 1) := by decide +kernel
theorem dX9_steer_43 : decode cX9_steer 43 = .ok (.iastore, 1) := by decide +kernel
theorem dX9_steer_44 : decode cX9_steer 44 = .ok (.aload_n 0, 1) := by decide +kernel
theorem dX9_steer_45 : decode cX9_steer 45 = .ok (.getfield 91, 3) := by decide +kernel
theorem dX9_steer_48 : decode cX9_steer 48 = .ok (.bipush 18, 2) := by decide +kernel
theorem dX9_steer_50 : decode cX9_steer 50 = .ok (.iload_n 1, 1) := by decide +kernel
theorem dX9_steer_51 : decode cX9_steer 51 = .ok (.iadd, 1) := by decide +kernel
theorem dX9_steer_52 : decode cX9_steer 52 = .ok (.iload_n 3, 1) := by decide +kernel
theorem dX9_steer_53 : decode cX9_steer 53 = .ok (.iastore, 1) := by decide +kernel
theorem dX9_steer_54 : decode cX9_steer 54 = .ok (.aload_n 0, 1) := by decide +kernel
theorem dX9_steer_55 : decode cX9_steer 55 = .ok (.iload_n 1, 1) := by decide +kernel
theorem dX9_steer_56 : decode cX9_steer 56 = .ok (.invokevirtual 325, 3) := by decide +kernel
theorem dX9_steer_59 : decode cX9_steer 59 = .ok (.ireturn, 1) := by decide +kernel
theorem ydX9_steer : z_yd yX9_steer 3 := ⟨by decide, by decide, by decide +kernel⟩
abbrev rmX9_steer : Room := { frames := 2, cells := 0, slots := 0, locals := 43 }
noncomputable def xX9_steer (l0 : Nat) (l1 : Int32) (l2 : Int32) (l3 : Int32) (h : ZH) : Option (Int32 × ZH) := (z_gu (z_is h l0 9) ((xX9_isShip l0 l1 h).bind fun r2 => (if r2.1 = 0 then some ((-1 : Int32), r2.2) else ((xX9_isIn l2 (0 : Int32) (99 : Int32) r2.2).bind fun r12 => (if r12.1 = 0 then some ((-1 : Int32), r12.2) else ((xX9_isIn l3 (0 : Int32) (99 : Int32) r12.2).bind fun r22 => (if r22.1 = 0 then some ((-1 : Int32), r22.2) else (z_gu (z_is r22.2 l0 9) ((xX9_keepAct l0 r22.2).bind fun h31 => ((z_gR h31 l0 9 41).bind fun x35 => ((z_uI h31 x35 ((12 : Int32) + l1) l2).bind fun h43 => ((z_gR h43 l0 9 41).bind fun x45 => ((z_uI h43 x45 ((18 : Int32) + l1) l3).bind fun h53 => (z_gu (z_is h53 l0 9) ((xX9_speedOf l0 l1 h53).bind fun r56 => some (r56.1, r56.2))))))))))))))))
set_option maxHeartbeats 4000000 in
set_option maxRecDepth 100000 in
theorem lX9_steer {Γ : ZG} {l : Launch} (hO : z_OK Γ) {l0 : Nat} {l1 : Int32} {l2 : Int32} {l3 : Int32} {h : ZH} {r : (Int32 × ZH)} (hX : xX9_steer l0 l1 l2 l3 h = some r) : z_M Γ l yX9_steer (z_ws1 yX9_steer cX9_steer 4 (some .int)) rmX9_steer [.ref l0, .int l1, .int l2, .int l3] h (some (.int r.1)) r.2 := by
  refine z_start hO (plainFor_of_name (by decide)) (Nat.le_of_ble_eq_true rfl) ?_
  intro p e s m args below meth c G hr hnm
  refine z_lvc (lv2 := [(0, .ref l0), (1, .int l1), (2, .int l2), (3, .int l3)]) rfl ?_
  refine z_aload_n (pc := 0) G 0 dX9_steer_0 rfl rfl ?_
  refine z_iload_n (pc := 1) G 1 dX9_steer_1 rfl rfl ?_
  obtain ⟨hi2, hX⟩ := z_gu_s hX
  obtain ⟨r2, hv2, hX⟩ := z_bd hX
  refine z_cVI (pc := 2) (As := [.int l1]) (c2 := 0) (s2 := 0) G kK9 (lX9_isShip hO hv2) hi2 kt_1556 kt_11 kt_1553 kt_1555 ks_62 ydX9_isShip ⟨by decide, by decide⟩ rfl (Nat.le_of_ble_eq_true rfl) ⟨rfl, rfl⟩ ⟨by decide, by decide⟩ rfl dX9_steer_2 ?_
  refine z_if_eq (pc := 5) (tgt := 28) G dX9_steer_5 (by decide) (fun hc5 => ?_) (fun hc5 => ?_)
  · have hX := z_it hc5 hX
    refine z_iconst (pc := 28) (v := (-1)) G dX9_steer_28 (by decide) ?_
    exact z_iretX (pc := 29) hX G hr dX9_steer_29 (by decide) (by decide)
  · have hX := z_if hc5 hX
    refine z_iload_n (pc := 8) G 2 dX9_steer_8 rfl rfl ?_
    refine z_iconst (pc := 9) (v := 0) G dX9_steer_9 (by decide) ?_
    refine z_bipush (pc := 10) (v := 99) G dX9_steer_10 (by decide) ?_
    obtain ⟨r12, hv12, hX⟩ := z_bd hX
    refine z_cSI (pc := 12) (As := [.int l2, .int (0 : Int32), .int (99 : Int32)]) (c2 := 0) (s2 := 0) G (lX9_isIn hO hv12) kt_1559 kt_11 kt_1557 kt_1558 ydX9_isIn ⟨by decide, by decide⟩ rfl (Nat.le_of_ble_eq_true rfl) ⟨rfl, rfl⟩ ⟨by decide, by decide⟩ rfl dX9_steer_12 ?_
    refine z_if_eq (pc := 15) (tgt := 28) G dX9_steer_15 (by decide) (fun hc15 => ?_) (fun hc15 => ?_)
    · have hX := z_it hc15 hX
      refine z_iconst (pc := 28) (v := (-1)) G dX9_steer_28 (by decide) ?_
      exact z_iretX (pc := 29) hX G hr dX9_steer_29 (by decide) (by decide)
    · have hX := z_if hc15 hX
      refine z_iload_n (pc := 18) G 3 dX9_steer_18 rfl rfl ?_
      refine z_iconst (pc := 19) (v := 0) G dX9_steer_19 (by decide) ?_
      refine z_bipush (pc := 20) (v := 99) G dX9_steer_20 (by decide) ?_
      obtain ⟨r22, hv22, hX⟩ := z_bd hX
      refine z_cSI (pc := 22) (As := [.int l3, .int (0 : Int32), .int (99 : Int32)]) (c2 := 0) (s2 := 0) G (lX9_isIn hO hv22) kt_1559 kt_11 kt_1557 kt_1558 ydX9_isIn ⟨by decide, by decide⟩ rfl (Nat.le_of_ble_eq_true rfl) ⟨rfl, rfl⟩ ⟨by decide, by decide⟩ rfl dX9_steer_22 ?_
      refine z_if_ne (pc := 25) (tgt := 30) G dX9_steer_25 (by decide) (fun hc25 => ?_) (fun hc25 => ?_)
      · have hX := z_if hc25 hX
        refine z_aload_n (pc := 30) G 0 dX9_steer_30 rfl rfl ?_
        obtain ⟨hi31, hX⟩ := z_gu_s hX
        obtain ⟨h31, hv31, hX⟩ := z_bd hX
        refine z_cVV (pc := 31) (As := []) (c2 := 0) (s2 := 0) G kK9 (lX9_keepAct hO hv31) hi31 kt_1723 kt_11 kt_1720 kt_1722 ks_82 ydX9_keepAct ⟨by decide, by decide⟩ rfl (Nat.le_of_ble_eq_true rfl) ⟨rfl, rfl⟩ ⟨by decide, by decide⟩ rfl dX9_steer_31 ?_
        refine z_aload_n (pc := 34) G 0 dX9_steer_34 rfl rfl ?_
        obtain ⟨x35, hv35, hX⟩ := z_bd hX
        refine z_getR (pc := 35) G kK9 (k := 41) (by decide) kt_1267 dX9_steer_35 hv35 ?_
        refine z_bipush (pc := 38) (v := 12) G dX9_steer_38 (by decide) ?_
        refine z_iload_n (pc := 40) G 1 dX9_steer_40 rfl rfl ?_
        refine z_iadd (pc := 41) G dX9_steer_41 ?_
        refine z_iload_n (pc := 42) G 2 dX9_steer_42 rfl rfl ?_
        obtain ⟨h43, hv43, hX⟩ := z_bd hX
        refine z_iast (pc := 43) G dX9_steer_43 hv43 ?_
        refine z_aload_n (pc := 44) G 0 dX9_steer_44 rfl rfl ?_
        obtain ⟨x45, hv45, hX⟩ := z_bd hX
        refine z_getR (pc := 45) G kK9 (k := 41) (by decide) kt_1267 dX9_steer_45 hv45 ?_
        refine z_bipush (pc := 48) (v := 18) G dX9_steer_48 (by decide) ?_
        refine z_iload_n (pc := 50) G 1 dX9_steer_50 rfl rfl ?_
        refine z_iadd (pc := 51) G dX9_steer_51 ?_
        refine z_iload_n (pc := 52) G 3 dX9_steer_52 rfl rfl ?_
        obtain ⟨h53, hv53, hX⟩ := z_bd hX
        refine z_iast (pc := 53) G dX9_steer_53 hv53 ?_
        refine z_aload_n (pc := 54) G 0 dX9_steer_54 rfl rfl ?_
        refine z_iload_n (pc := 55) G 1 dX9_steer_55 rfl rfl ?_
        obtain ⟨hi56, hX⟩ := z_gu_s hX
        obtain ⟨r56, hv56, hX⟩ := z_bd hX
        refine z_cVI (pc := 56) (As := [.int l1]) (c2 := 0) (s2 := 0) G kK9 (lX9_speedOf hO hv56) hi56 kt_1563 kt_11 kt_1560 kt_1562 ks_63 ydX9_speedOf ⟨by decide, by decide⟩ rfl (Nat.le_of_ble_eq_true rfl) ⟨rfl, rfl⟩ ⟨by decide, by decide⟩ rfl dX9_steer_56 ?_
        exact z_iretX (pc := 59) hX G hr dX9_steer_59 (by decide) (by decide)
      · have hX := z_it hc25 hX
        refine z_iconst (pc := 28) (v := (-1)) G dX9_steer_28 (by decide) ?_
        exact z_iretX (pc := 29) hX G hr dX9_steer_29 (by decide) (by decide)
theorem dX9_turn_0 : decode cX9_turn 0 = .ok (.aload_n 0, 1) := by decide +kernel
theorem dX9_turn_1 : decode cX9_turn 1 = .ok (.iload_n 1, 1) := by decide +kernel
theorem dX9_turn_2 : decode cX9_turn 2 = .ok (.invokevirtual 450, 3) := by decide +kernel
theorem dX9_turn_5 : decode cX9_turn 5 = .ok (.ifCond .ne 5, 3) := by decide +kernel
theorem dX9_turn_8 : decode cX9_turn 8 = .ok (.iconst (-1), 1) := by decide +kernel
theorem dX9_turn_9 : decode cX9_turn 9 = .ok (.ireturn, 1) := by decide +kernel
theorem dX9_turn_10 : decode cX9_turn 10 = .ok (.aload_n 0, 1) := by decide +kernel
theorem dX9_turn_11 : decode cX9_turn 11 = .ok (.invokevirtual 462, 3) := by decide +kernel
theorem dX9_turn_14 : decode cX9_turn 14 = .ok (.aload_n 0, 1) := by decide +kernel
theorem dX9_turn_15 : decode cX9_turn 15 = .ok (.getfield 91, 3) := by decide +kernel
theorem dX9_turn_18 : decode cX9_turn 18 = .ok (.sipush 516, 3) := by decide +kernel
theorem dX9_turn_21 : decode cX9_turn 21 = .ok (.dup2, 1) := by decide +kernel
theorem dX9_turn_22 : decode cX9_turn 22 = .ok (.iaload, 1) := by decide +kernel
theorem dX9_turn_23 : decode cX9_turn 23 = .ok (.iconst 1, 1) := by decide +kernel
theorem dX9_turn_24 : decode cX9_turn 24 = .ok (.iload_n 1, 1) := by decide +kernel
theorem dX9_turn_25 : decode cX9_turn 25 = .ok (.ishl, 1) := by decide +kernel
theorem dX9_turn_26 : decode cX9_turn 26 = .ok (.ixor, 1) := by decide +kernel
theorem dX9_turn_27 : decode cX9_turn 27 = .ok (.iastore, 1) := by decide +kernel
theorem dX9_turn_28 : decode cX9_turn 28 = .ok (.aload_n 0, 1) := by decide +kernel
theorem dX9_turn_29 : decode cX9_turn 29 = .ok (.getfield 91, 3) := by decide +kernel
theorem dX9_turn_32 : decode cX9_turn 32 = .ok (.sipush 516, 3) := by decide +kernel
theorem dX9_turn_35 : decode cX9_turn 35 = .ok (.iaload, 1) := by decide +kernel
theorem dX9_turn_36 : decode cX9_turn 36 = .ok (.iload_n 1, 1) := by decide +kernel
theorem dX9_turn_37 : decode cX9_turn 37 = .ok (.invokestatic 265, 3) := by decide +kernel
theorem dX9_turn_40 : decode cX9_turn 40 = .ok (.ifCond .eq 8, 3) := by decide +kernel
theorem dX9_turn_43 : decode cX9_turn 43 = .ok (.aload_n 0, 1) := by decide +kernel
theorem dX9_turn_44 : decode cX9_turn 44 = .ok (.iload_n 1, 1) := by decide +kernel
theorem dX9_turn_45 : decode cX9_turn 45 = .ok (.invokevirtual 383, 3) := by decide +kernel
theorem dX9_turn_48 : decode cX9_turn 48 = .ok (.aload_n 0, 1) := by decide +kernel
theorem dX9_turn_49 : decode cX9_turn 49 = .ok (.getfield 91, 3) := by decide +kernel
theorem dX9_turn_52 : decode cX9_turn 52 = .ok (.sipush 516, 3) := by decide +kernel
theorem dX9_turn_55 : decode cX9_turn 55 = .ok (.iaload, 1) := by decide +kernel
theorem dX9_turn_56 : decode cX9_turn 56 = .ok (.ireturn, 1) := by decide +kernel
theorem ydX9_turn : z_yd yX9_turn 1 := ⟨by decide, by decide, by decide +kernel⟩
abbrev rmX9_turn : Room := { frames := 2, cells := 0, slots := 0, locals := 43 }
noncomputable def xX9_turn (l0 : Nat) (l1 : Int32) (h : ZH) : Option (Int32 × ZH) := (z_gu (z_is h l0 9) ((xX9_isShip l0 l1 h).bind fun r2 => (if r2.1 = 0 then some ((-1 : Int32), r2.2) else (z_gu (z_is r2.2 l0 9) ((xX9_keepAct l0 r2.2).bind fun h11 => ((z_gR h11 l0 9 41).bind fun x15 => ((z_aI h11 x15 (516 : Int32)).bind fun x22 => ((z_uI h11 x15 (516 : Int32) (x22 ^^^ ((1 : Int32) <<< (l1 &&& 31)))).bind fun h27 => ((z_gR h27 l0 9 41).bind fun x29 => ((z_aI h27 x29 (516 : Int32)).bind fun x35 => ((xX9_bit x35 l1 h27).bind fun r37 => (if r37.1 = 0 then ((z_gR r37.2 l0 9 41).bind fun x49 => ((z_aI r37.2 x49 (516 : Int32)).bind fun x55 => some (x55, r37.2))) else (z_gu (z_is r37.2 l0 9) ((xX9_forget l0 l1 r37.2).bind fun h45 => ((z_gR h45 l0 9 41).bind fun x49 => ((z_aI h45 x49 (516 : Int32)).bind fun x55 => some (x55, h45)))))))))))))))))
set_option maxHeartbeats 4000000 in
set_option maxRecDepth 100000 in
theorem lX9_turn {Γ : ZG} {l : Launch} (hO : z_OK Γ) {l0 : Nat} {l1 : Int32} {h : ZH} {r : (Int32 × ZH)} (hX : xX9_turn l0 l1 h = some r) : z_M Γ l yX9_turn (z_ws1 yX9_turn cX9_turn 2 (some .int)) rmX9_turn [.ref l0, .int l1] h (some (.int r.1)) r.2 := by
  refine z_start hO (plainFor_of_name (by decide)) (Nat.le_of_ble_eq_true rfl) ?_
  intro p e s m args below meth c G hr hnm
  refine z_lvc (lv2 := [(0, .ref l0), (1, .int l1)]) rfl ?_
  refine z_aload_n (pc := 0) G 0 dX9_turn_0 rfl rfl ?_
  refine z_iload_n (pc := 1) G 1 dX9_turn_1 rfl rfl ?_
  obtain ⟨hi2, hX⟩ := z_gu_s hX
  obtain ⟨r2, hv2, hX⟩ := z_bd hX
  refine z_cVI (pc := 2) (As := [.int l1]) (c2 := 0) (s2 := 0) G kK9 (lX9_isShip hO hv2) hi2 kt_1556 kt_11 kt_1553 kt_1555 ks_62 ydX9_isShip ⟨by decide, by decide⟩ rfl (Nat.le_of_ble_eq_true rfl) ⟨rfl, rfl⟩ ⟨by decide, by decide⟩ rfl dX9_turn_2 ?_
  refine z_if_ne (pc := 5) (tgt := 10) G dX9_turn_5 (by decide) (fun hc5 => ?_) (fun hc5 => ?_)
  · have hX := z_if hc5 hX
    refine z_aload_n (pc := 10) G 0 dX9_turn_10 rfl rfl ?_
    obtain ⟨hi11, hX⟩ := z_gu_s hX
    obtain ⟨h11, hv11, hX⟩ := z_bd hX
    refine z_cVV (pc := 11) (As := []) (c2 := 0) (s2 := 0) G kK9 (lX9_keepAct hO hv11) hi11 kt_1723 kt_11 kt_1720 kt_1722 ks_82 ydX9_keepAct ⟨by decide, by decide⟩ rfl (Nat.le_of_ble_eq_true rfl) ⟨rfl, rfl⟩ ⟨by decide, by decide⟩ rfl dX9_turn_11 ?_
    refine z_aload_n (pc := 14) G 0 dX9_turn_14 rfl rfl ?_
    obtain ⟨x15, hv15, hX⟩ := z_bd hX
    refine z_getR (pc := 15) G kK9 (k := 41) (by decide) kt_1267 dX9_turn_15 hv15 ?_
    refine z_sipush (pc := 18) (v := 516) G dX9_turn_18 (by decide) ?_
    refine z_dup2 (pc := 21) G dX9_turn_21 rfl rfl ?_
    obtain ⟨x22, hv22, hX⟩ := z_bd hX
    refine z_iald (pc := 22) G dX9_turn_22 hv22 ?_
    refine z_iconst (pc := 23) (v := 1) G dX9_turn_23 (by decide) ?_
    refine z_iload_n (pc := 24) G 1 dX9_turn_24 rfl rfl ?_
    refine z_ishl (pc := 25) G dX9_turn_25 ?_
    refine z_ixor (pc := 26) G dX9_turn_26 ?_
    obtain ⟨h27, hv27, hX⟩ := z_bd hX
    refine z_iast (pc := 27) G dX9_turn_27 hv27 ?_
    refine z_aload_n (pc := 28) G 0 dX9_turn_28 rfl rfl ?_
    obtain ⟨x29, hv29, hX⟩ := z_bd hX
    refine z_getR (pc := 29) G kK9 (k := 41) (by decide) kt_1267 dX9_turn_29 hv29 ?_
    refine z_sipush (pc := 32) (v := 516) G dX9_turn_32 (by decide) ?_
    obtain ⟨x35, hv35, hX⟩ := z_bd hX
    refine z_iald (pc := 35) G dX9_turn_35 hv35 ?_
    refine z_iload_n (pc := 36) G 1 dX9_turn_36 rfl rfl ?_
    obtain ⟨r37, hv37, hX⟩ := z_bd hX
    refine z_cSI (pc := 37) (As := [.int x35, .int l1]) (c2 := 0) (s2 := 0) G (lX9_bit hO hv37) kt_1476 kt_11 kt_1474 kt_1475 ydX9_bit ⟨by decide, by decide⟩ rfl (Nat.le_of_ble_eq_true rfl) ⟨rfl, rfl⟩ ⟨by decide, by decide⟩ rfl dX9_turn_37 ?_
    refine z_if_eq (pc := 40) (tgt := 48) G dX9_turn_40 (by decide) (fun hc40 => ?_) (fun hc40 => ?_)
    · have hX := z_it hc40 hX
      refine z_aload_n (pc := 48) G 0 dX9_turn_48 rfl rfl ?_
      obtain ⟨x49, hv49, hX⟩ := z_bd hX
      refine z_getR (pc := 49) G kK9 (k := 41) (by decide) kt_1267 dX9_turn_49 hv49 ?_
      refine z_sipush (pc := 52) (v := 516) G dX9_turn_52 (by decide) ?_
      obtain ⟨x55, hv55, hX⟩ := z_bd hX
      refine z_iald (pc := 55) G dX9_turn_55 hv55 ?_
      exact z_iretX (pc := 56) hX G hr dX9_turn_56 (by decide) (by decide)
    · have hX := z_if hc40 hX
      refine z_aload_n (pc := 43) G 0 dX9_turn_43 rfl rfl ?_
      refine z_iload_n (pc := 44) G 1 dX9_turn_44 rfl rfl ?_
      obtain ⟨hi45, hX⟩ := z_gu_s hX
      obtain ⟨h45, hv45, hX⟩ := z_bd hX
      refine z_cVV (pc := 45) (As := [.int l1]) (c2 := 0) (s2 := 0) G kK9 (lX9_forget hO hv45) hi45 kt_1225 kt_11 kt_1222 kt_1224 ks_37 ydX9_forget ⟨by decide, by decide⟩ rfl (Nat.le_of_ble_eq_true rfl) ⟨rfl, rfl⟩ ⟨by decide, by decide⟩ rfl dX9_turn_45 ?_
      refine z_aload_n (pc := 48) G 0 dX9_turn_48 rfl rfl ?_
      obtain ⟨x49, hv49, hX⟩ := z_bd hX
      refine z_getR (pc := 49) G kK9 (k := 41) (by decide) kt_1267 dX9_turn_49 hv49 ?_
      refine z_sipush (pc := 52) (v := 516) G dX9_turn_52 (by decide) ?_
      obtain ⟨x55, hv55, hX⟩ := z_bd hX
      refine z_iald (pc := 55) G dX9_turn_55 hv55 ?_
      exact z_iretX (pc := 56) hX G hr dX9_turn_56 (by decide) (by decide)
  · have hX := z_it hc5 hX
    refine z_iconst (pc := 8) (v := (-1)) G dX9_turn_8 (by decide) ?_
    exact z_iretX (pc := 9) hX G hr dX9_turn_9 (by decide) (by decide)
theorem dX9_undo_0 : decode cX9_undo 0 = .ok (.aload_n 0, 1) := by decide +kernel
theorem dX9_undo_1 : decode cX9_undo 1 = .ok (.getfield 371, 3) := by decide +kernel
theorem dX9_undo_4 : decode cX9_undo 4 = .ok (.ifCond .ne 5, 3) := by decide +kernel
theorem dX9_undo_7 : decode cX9_undo 7 = .ok (.iconst 0, 1) := by decide +kernel
theorem dX9_undo_8 : decode cX9_undo 8 = .ok (.ireturn, 1) := by decide +kernel
theorem dX9_undo_9 : decode cX9_undo 9 = .ok (.aload_n 0, 1) := by decide +kernel
theorem dX9_undo_10 : decode cX9_undo 10 = .ok (.dup, 1) := by decide +kernel
theorem dX9_undo_11 : decode cX9_undo 11 = .ok (.getfield 371, 3) := by decide +kernel
theorem dX9_undo_14 : decode cX9_undo 14 = .ok (.iconst 1, 1) := by decide +kernel
theorem dX9_undo_15 : decode cX9_undo 15 = .ok (.isub, 1) := by decide +kernel
theorem dX9_undo_16 : decode cX9_undo 16 = .ok (.putfield 371, 3) := by decide +kernel
theorem dX9_undo_19 : decode cX9_undo 19 = .ok (.aload_n 0, 1) := by decide +kernel
theorem dX9_undo_20 : decode cX9_undo 20 = .ok (.dup, 1) := by decide +kernel
theorem dX9_undo_21 : decode cX9_undo 21 = .ok (.getfield 374, 3) := by decide +kernel
theorem dX9_undo_24 : decode cX9_undo 24 = .ok (.iconst 1, 1) := by decide +kernel
theorem dX9_undo_25 : decode cX9_undo 25 = .ok (.iadd, 1) := by decide +kernel
theorem dX9_undo_26 : decode cX9_undo 26 = .ok (.putfield 374, 3) := by decide +kernel
theorem dX9_undo_29 : decode cX9_undo 29 = .ok (.aload_n 0, 1) := by decide +kernel
theorem dX9_undo_30 : decode cX9_undo 30 = .ok (.invokevirtual 468, 3) := by decide +kernel
theorem dX9_undo_33 : decode cX9_undo 33 = .ok (.iconst 1, 1) := by decide +kernel
theorem dX9_undo_34 : decode cX9_undo 34 = .ok (.ireturn, 1) := by decide +kernel
theorem ydX9_undo : z_yd yX9_undo 0 := ⟨by decide, by decide, by decide +kernel⟩
abbrev rmX9_undo : Room := { frames := 1, cells := 0, slots := 0, locals := 22 }
noncomputable def xX9_undo (l0 : Nat) (h : ZH) : Option (Int32 × ZH) := ((z_gI h l0 9 48).bind fun x1 => (if x1 = 0 then some ((0 : Int32), h) else ((z_gI h l0 9 48).bind fun x11 => ((z_sF h l0 9 48 (.int (x11 - (1 : Int32)))).bind fun h16 => ((z_gI h16 l0 9 49).bind fun x21 => ((z_sF h16 l0 9 49 (.int (x21 + (1 : Int32)))).bind fun h26 => (z_gu (z_is h26 l0 9) ((xX9_swapAll l0 h26).bind fun h30 => some ((1 : Int32), h30)))))))))
set_option maxHeartbeats 4000000 in
set_option maxRecDepth 100000 in
theorem lX9_undo {Γ : ZG} {l : Launch} (hO : z_OK Γ) {l0 : Nat} {h : ZH} {r : (Int32 × ZH)} (hX : xX9_undo l0 h = some r) : z_M Γ l yX9_undo (z_ws1 yX9_undo cX9_undo 1 (some .boolean)) rmX9_undo [.ref l0] h (some (.int r.1)) r.2 := by
  refine z_start hO (plainFor_of_name (by decide)) (Nat.le_of_ble_eq_true rfl) ?_
  intro p e s m args below meth c G hr hnm
  refine z_lvc (lv2 := [(0, .ref l0)]) rfl ?_
  refine z_aload_n (pc := 0) G 0 dX9_undo_0 rfl rfl ?_
  obtain ⟨x1, hv1, hX⟩ := z_bd hX
  refine z_getI (pc := 1) G kK9 (k := 48) (by decide) kt_1274 dX9_undo_1 hv1 ?_
  refine z_if_ne (pc := 4) (tgt := 9) G dX9_undo_4 (by decide) (fun hc4 => ?_) (fun hc4 => ?_)
  · have hX := z_if hc4 hX
    refine z_aload_n (pc := 9) G 0 dX9_undo_9 rfl rfl ?_
    refine z_dup (pc := 10) G dX9_undo_10 rfl ?_
    obtain ⟨x11, hv11, hX⟩ := z_bd hX
    refine z_getI (pc := 11) G kK9 (k := 48) (by decide) kt_1274 dX9_undo_11 hv11 ?_
    refine z_iconst (pc := 14) (v := 1) G dX9_undo_14 (by decide) ?_
    refine z_isub (pc := 15) G dX9_undo_15 ?_
    obtain ⟨h16, hv16, hX⟩ := z_bd hX
    refine z_putF (pc := 16) G kK9 (k := 48) (by decide) kt_1274 (Or.inl rfl) rfl rfl dX9_undo_16 hv16 ?_
    refine z_aload_n (pc := 19) G 0 dX9_undo_19 rfl rfl ?_
    refine z_dup (pc := 20) G dX9_undo_20 rfl ?_
    obtain ⟨x21, hv21, hX⟩ := z_bd hX
    refine z_getI (pc := 21) G kK9 (k := 49) (by decide) kt_1275 dX9_undo_21 hv21 ?_
    refine z_iconst (pc := 24) (v := 1) G dX9_undo_24 (by decide) ?_
    refine z_iadd (pc := 25) G dX9_undo_25 ?_
    obtain ⟨h26, hv26, hX⟩ := z_bd hX
    refine z_putF (pc := 26) G kK9 (k := 49) (by decide) kt_1275 (Or.inl rfl) rfl rfl dX9_undo_26 hv26 ?_
    refine z_aload_n (pc := 29) G 0 dX9_undo_29 rfl rfl ?_
    obtain ⟨hi30, hX⟩ := z_gu_s hX
    obtain ⟨h30, hv30, hX⟩ := z_bd hX
    refine z_cVV (pc := 30) (As := []) (c2 := 0) (s2 := 0) G kK9 (lX9_swapAll hO hv30) hi30 kt_1791 kt_11 kt_1788 kt_1790 ks_96 ydX9_swapAll ⟨by decide, by decide⟩ rfl (Nat.le_of_ble_eq_true rfl) ⟨rfl, rfl⟩ ⟨by decide, by decide⟩ rfl dX9_undo_30 ?_
    refine z_iconst (pc := 33) (v := 1) G dX9_undo_33 (by decide) ?_
    exact z_zretX (pc := 34) hX G hr rfl dX9_undo_34 (by decide) (by decide)
  · have hX := z_it hc4 hX
    refine z_iconst (pc := 7) (v := 0) G dX9_undo_7 (by decide) ?_
    exact z_zretX (pc := 8) hX G hr rfl dX9_undo_8 (by decide) (by decide)
theorem dX9_redo_0 : decode cX9_redo 0 = .ok (.aload_n 0, 1) := by decide +kernel
theorem dX9_redo_1 : decode cX9_redo 1 = .ok (.getfield 374, 3) := by decide +kernel
theorem dX9_redo_4 : decode cX9_redo 4 = .ok (.ifCond .ne 5, 3) := by decide +kernel
theorem dX9_redo_7 : decode cX9_redo 7 = .ok (.iconst 0, 1) := by decide +kernel
theorem dX9_redo_8 : decode cX9_redo 8 = .ok (.ireturn, 1) := by decide +kernel
theorem dX9_redo_9 : decode cX9_redo 9 = .ok (.aload_n 0, 1) := by decide +kernel
theorem dX9_redo_10 : decode cX9_redo 10 = .ok (.invokevirtual 468, 3) := by decide +kernel
theorem dX9_redo_13 : decode cX9_redo 13 = .ok (.aload_n 0, 1) := by decide +kernel
theorem dX9_redo_14 : decode cX9_redo 14 = .ok (.dup, 1) := by decide +kernel
theorem dX9_redo_15 : decode cX9_redo 15 = .ok (.getfield 371, 3) := by decide +kernel
theorem dX9_redo_18 : decode cX9_redo 18 = .ok (.iconst 1, 1) := by decide +kernel
theorem dX9_redo_19 : decode cX9_redo 19 = .ok (.iadd, 1) := by decide +kernel
theorem dX9_redo_20 : decode cX9_redo 20 = .ok (.putfield 371, 3) := by decide +kernel
theorem dX9_redo_23 : decode cX9_redo 23 = .ok (.aload_n 0, 1) := by decide +kernel
theorem dX9_redo_24 : decode cX9_redo 24 = .ok (.dup, 1) := by decide +kernel
theorem dX9_redo_25 : decode cX9_redo 25 = .ok (.getfield 374, 3) := by decide +kernel
theorem dX9_redo_28 : decode cX9_redo 28 = .ok (.iconst 1, 1) := by decide +kernel
theorem dX9_redo_29 : decode cX9_redo 29 = .ok (.isub, 1) := by decide +kernel
theorem dX9_redo_30 : decode cX9_redo 30 = .ok (.putfield 374, 3) := by decide +kernel
theorem dX9_redo_33 : decode cX9_redo 33 = .ok (.iconst 1, 1) := by decide +kernel
theorem dX9_redo_34 : decode cX9_redo 34 = .ok (.ireturn, 1) := by decide +kernel
theorem ydX9_redo : z_yd yX9_redo 0 := ⟨by decide, by decide, by decide +kernel⟩
abbrev rmX9_redo : Room := { frames := 1, cells := 0, slots := 0, locals := 22 }
noncomputable def xX9_redo (l0 : Nat) (h : ZH) : Option (Int32 × ZH) := ((z_gI h l0 9 49).bind fun x1 => (if x1 = 0 then some ((0 : Int32), h) else (z_gu (z_is h l0 9) ((xX9_swapAll l0 h).bind fun h10 => ((z_gI h10 l0 9 48).bind fun x15 => ((z_sF h10 l0 9 48 (.int (x15 + (1 : Int32)))).bind fun h20 => ((z_gI h20 l0 9 49).bind fun x25 => ((z_sF h20 l0 9 49 (.int (x25 - (1 : Int32)))).bind fun h30 => some ((1 : Int32), h30)))))))))
set_option maxHeartbeats 4000000 in
set_option maxRecDepth 100000 in
theorem lX9_redo {Γ : ZG} {l : Launch} (hO : z_OK Γ) {l0 : Nat} {h : ZH} {r : (Int32 × ZH)} (hX : xX9_redo l0 h = some r) : z_M Γ l yX9_redo (z_ws1 yX9_redo cX9_redo 1 (some .boolean)) rmX9_redo [.ref l0] h (some (.int r.1)) r.2 := by
  refine z_start hO (plainFor_of_name (by decide)) (Nat.le_of_ble_eq_true rfl) ?_
  intro p e s m args below meth c G hr hnm
  refine z_lvc (lv2 := [(0, .ref l0)]) rfl ?_
  refine z_aload_n (pc := 0) G 0 dX9_redo_0 rfl rfl ?_
  obtain ⟨x1, hv1, hX⟩ := z_bd hX
  refine z_getI (pc := 1) G kK9 (k := 49) (by decide) kt_1275 dX9_redo_1 hv1 ?_
  refine z_if_ne (pc := 4) (tgt := 9) G dX9_redo_4 (by decide) (fun hc4 => ?_) (fun hc4 => ?_)
  · have hX := z_if hc4 hX
    refine z_aload_n (pc := 9) G 0 dX9_redo_9 rfl rfl ?_
    obtain ⟨hi10, hX⟩ := z_gu_s hX
    obtain ⟨h10, hv10, hX⟩ := z_bd hX
    refine z_cVV (pc := 10) (As := []) (c2 := 0) (s2 := 0) G kK9 (lX9_swapAll hO hv10) hi10 kt_1791 kt_11 kt_1788 kt_1790 ks_96 ydX9_swapAll ⟨by decide, by decide⟩ rfl (Nat.le_of_ble_eq_true rfl) ⟨rfl, rfl⟩ ⟨by decide, by decide⟩ rfl dX9_redo_10 ?_
    refine z_aload_n (pc := 13) G 0 dX9_redo_13 rfl rfl ?_
    refine z_dup (pc := 14) G dX9_redo_14 rfl ?_
    obtain ⟨x15, hv15, hX⟩ := z_bd hX
    refine z_getI (pc := 15) G kK9 (k := 48) (by decide) kt_1274 dX9_redo_15 hv15 ?_
    refine z_iconst (pc := 18) (v := 1) G dX9_redo_18 (by decide) ?_
    refine z_iadd (pc := 19) G dX9_redo_19 ?_
    obtain ⟨h20, hv20, hX⟩ := z_bd hX
    refine z_putF (pc := 20) G kK9 (k := 48) (by decide) kt_1274 (Or.inl rfl) rfl rfl dX9_redo_20 hv20 ?_
    refine z_aload_n (pc := 23) G 0 dX9_redo_23 rfl rfl ?_
    refine z_dup (pc := 24) G dX9_redo_24 rfl ?_
    obtain ⟨x25, hv25, hX⟩ := z_bd hX
    refine z_getI (pc := 25) G kK9 (k := 49) (by decide) kt_1275 dX9_redo_25 hv25 ?_
    refine z_iconst (pc := 28) (v := 1) G dX9_redo_28 (by decide) ?_
    refine z_isub (pc := 29) G dX9_redo_29 ?_
    obtain ⟨h30, hv30, hX⟩ := z_bd hX
    refine z_putF (pc := 30) G kK9 (k := 49) (by decide) kt_1275 (Or.inl rfl) rfl rfl dX9_redo_30 hv30 ?_
    refine z_iconst (pc := 33) (v := 1) G dX9_redo_33 (by decide) ?_
    exact z_zretX (pc := 34) hX G hr rfl dX9_redo_34 (by decide) (by decide)
  · have hX := z_it hc4 hX
    refine z_iconst (pc := 7) (v := 0) G dX9_redo_7 (by decide) ?_
    exact z_zretX (pc := 8) hX G hr rfl dX9_redo_8 (by decide) (by decide)
theorem dX9_next_0 : decode cX9_next 0 = .ok (.aload_n 0, 1) := by decide +kernel
theorem dX9_next_1 : decode cX9_next 1 = .ok (.iload_n 1, 1) := by decide +kernel
theorem dX9_next_2 : decode cX9_next 2 = .ok (.invokevirtual 450, 3) := by decide +kernel
theorem dX9_next_5 : decode cX9_next 5 = .ok (.ifCond .ne 5, 3) := by decide +kernel
theorem dX9_next_8 : decode cX9_next 8 = .ok (.iconst (-1), 1) := by decide +kernel
theorem dX9_next_9 : decode cX9_next 9 = .ok (.ireturn, 1) := by decide +kernel
theorem dX9_next_10 : decode cX9_next 10 = .ok (.aload_n 0, 1) := by decide +kernel
theorem dX9_next_11 : decode cX9_next 11 = .ok (.invokevirtual 471, 3) := by decide +kernel
theorem dX9_next_14 : decode cX9_next 14 = .ok (.iconst (-1), 1) := by decide +kernel
theorem dX9_next_15 : decode cX9_next 15 = .ok (.istore_n 2, 1) := by decide +kernel
theorem dX9_next_16 : decode cX9_next 16 = .ok (.iconst 1, 1) := by decide +kernel
theorem dX9_next_17 : decode cX9_next 17 = .ok (.istore_n 3, 1) := by decide +kernel
theorem dX9_next_18 : decode cX9_next 18 = .ok (.iload_n 3, 1) := by decide +kernel
theorem dX9_next_19 : decode cX9_next 19 = .ok (.bipush 90, 2) := by decide +kernel
theorem dX9_next_21 : decode cX9_next 21 = .ok (.if_icmp .gt 26, 3) := by decide +kernel
theorem dX9_next_24 : decode cX9_next 24 = .ok (.iload_n 2, 1) := by decide +kernel
theorem dX9_next_25 : decode cX9_next 25 = .ok (.ifCond .ge 22, 3) := by decide +kernel
theorem dX9_next_28 : decode cX9_next 28 = .ok (.aload_n 0, 1) := by decide +kernel
theorem dX9_next_29 : decode cX9_next 29 = .ok (.invokevirtual 465, 3) := by decide +kernel
theorem dX9_next_32 : decode cX9_next 32 = .ok (.iload_n 1, 1) := by decide +kernel
theorem dX9_next_33 : decode cX9_next 33 = .ok (.invokestatic 265, 3) := by decide +kernel
theorem dX9_next_36 : decode cX9_next 36 = .ok (.ifCond .eq 5, 3) := by decide +kernel
theorem dX9_next_39 : decode cX9_next 39 = .ok (.iload_n 3, 1) := by decide +kernel
theorem dX9_next_40 : decode cX9_next 40 = .ok (.istore_n 2, 1) := by decide +kernel
theorem dX9_next_41 : decode cX9_next 41 = .ok (.iinc 3 1, 3) := by decide +kernel
theorem dX9_next_44 : decode cX9_next 44 = .ok (.goto (-26), 3) := by decide +kernel
theorem dX9_next_47 : decode cX9_next 47 = .ok (.aload_n 0, 1) := by decide +kernel
theorem dX9_next_48 : decode cX9_next 48 = .ok (.invokevirtual 474, 3) := by decide +kernel
theorem dX9_next_51 : decode cX9_next 51 = .ok (.iload_n 2, 1) := by decide +kernel
theorem dX9_next_52 : decode cX9_next 52 = .ok (.ireturn, 1) := by decide +kernel
theorem ydX9_next : z_yd yX9_next 1 := ⟨by decide, by decide, by decide +kernel⟩
abbrev rmX9_next : Room := { frames := 8, cells := 0, slots := 0, locals := 190 }
noncomputable def xX9_next_B47 (l0 : Nat) (l2 : Int32) (h : ZH) : Option (Int32 × ZH) := (z_gu (z_is h l0 9) ((xX9_bringBack l0 h).bind fun h48 => some (l2, h48)))
set_option maxHeartbeats 4000000 in
set_option maxRecDepth 100000 in
theorem wX9_next_B47 {Γ : ZG} {p : Program} {l : Launch} {e : Env} {s : State} {m : MethodId} {args : Array Value} {below : List Frame} {meth : Method} {c : Code} (hO : z_OK Γ) (G : z_GG Γ p s m args meth c cX9_next 4 RX9) (hr : meth.sig.returnType = (some .int)) (hnm : meth.name = "next") {r : (Int32 × ZH)} : ∀ (l0 : Nat) (l2 : Int32) (h : ZH), xX9_next_B47  l0 l2 h = some r → z_W Γ p l e rmX9_next s m args below meth c 4 0 0 (MQ below (z_Qc Γ (some (.int r.1)) r.2) args s rmX9_next.cells rmX9_next.slots (z_A Γ)) 47 [(0, .ref l0), (2, .int l2)] [] h := by
  intro l0 l2 h hX
  refine z_aload_n (pc := 47) G 0 dX9_next_47 rfl rfl ?_
  obtain ⟨hi48, hX⟩ := z_gu_s hX
  obtain ⟨h48, hv48, hX⟩ := z_bd hX
  refine z_cVV (pc := 48) (As := []) (c2 := 0) (s2 := 0) G kK9 (lX9_bringBack hO hv48) hi48 kt_1807 kt_11 kt_1804 kt_1806 ks_98 ydX9_bringBack ⟨by decide, by decide⟩ rfl (Nat.le_of_ble_eq_true rfl) ⟨rfl, rfl⟩ ⟨by decide, by decide⟩ rfl dX9_next_48 ?_
  refine z_iload_n (pc := 51) G 1 dX9_next_51 rfl rfl ?_
  exact z_iretX (pc := 52) hX G hr dX9_next_52 (by decide) (by decide)
noncomputable def xX9_next_B18 (r18 : Nat → Int32 → Int32 → Int32 → ZH → Option (Int32 × ZH)) (l0 : Nat) (l1 : Int32) (l2 : Int32) (l3 : Int32) (h : ZH) : Option (Int32 × ZH) := (if (90 : Int32) < l3 then xX9_next_B47 l0 l2 h else (if 0 ≤ l2 then xX9_next_B47 l0 l2 h else (z_gu (z_is h l0 9) ((xX9_goStep l0 h).bind fun r29 => ((xX9_bit r29.1 l1 r29.2).bind fun r33 => (if r33.1 = 0 then r18 l0 l1 l2 (l3 + 1) r33.2 else r18 l0 l1 l3 (l3 + 1) r33.2))))))
noncomputable def xX9_next_L18 (n : Nat) : Nat → Int32 → Int32 → Int32 → ZH → Option (Int32 × ZH) := Nat.rec (motive := fun _ => Nat → Int32 → Int32 → Int32 → ZH → Option (Int32 × ZH)) (fun _ _ _ _ _ => none) (fun _ rec => xX9_next_B18  rec) n
set_option maxHeartbeats 4000000 in
set_option maxRecDepth 100000 in
theorem wX9_next_B18 {Γ : ZG} {p : Program} {l : Launch} {e : Env} {s : State} {m : MethodId} {args : Array Value} {below : List Frame} {meth : Method} {c : Code} (hO : z_OK Γ) (G : z_GG Γ p s m args meth c cX9_next 4 RX9) (hr : meth.sig.returnType = (some .int)) (hnm : meth.name = "next") {r : (Int32 × ZH)} {r18 : Nat → Int32 → Int32 → Int32 → ZH → Option (Int32 × ZH)} (H18 : ∀ (l0 : Nat) (l1 : Int32) (l2 : Int32) (l3 : Int32) (h : ZH), r18 l0 l1 l2 l3 h = some r → z_W Γ p l e rmX9_next s m args below meth c 4 0 0 (MQ below (z_Qc Γ (some (.int r.1)) r.2) args s rmX9_next.cells rmX9_next.slots (z_A Γ)) 18 [(0, .ref l0), (1, .int l1), (2, .int l2), (3, .int l3)] [] h) : ∀ (l0 : Nat) (l1 : Int32) (l2 : Int32) (l3 : Int32) (h : ZH), xX9_next_B18  r18 l0 l1 l2 l3 h = some r → z_W Γ p l e rmX9_next s m args below meth c 4 0 0 (MQ below (z_Qc Γ (some (.int r.1)) r.2) args s rmX9_next.cells rmX9_next.slots (z_A Γ)) 18 [(0, .ref l0), (1, .int l1), (2, .int l2), (3, .int l3)] [] h := by
  intro l0 l1 l2 l3 h hX
  refine z_iload_n (pc := 18) G 3 dX9_next_18 rfl rfl ?_
  refine z_bipush (pc := 19) (v := 90) G dX9_next_19 (by decide) ?_
  refine z_icmp_gt (pc := 21) (tgt := 47) G dX9_next_21 (by decide) (fun hc21 => ?_) (fun hc21 => ?_)
  · have hX := z_it hc21 hX
    refine z_drop (lv2 := [(0, .ref l0), (2, .int l2)]) [0, 2] rfl ?_
    exact wX9_next_B47 hO G hr hnm _ _ _ hX
  · have hX := z_if hc21 hX
    refine z_iload_n (pc := 24) G 2 dX9_next_24 rfl rfl ?_
    refine z_if_ge (pc := 25) (tgt := 47) G dX9_next_25 (by decide) (fun hc25 => ?_) (fun hc25 => ?_)
    · have hX := z_it hc25 hX
      refine z_drop (lv2 := [(0, .ref l0), (2, .int l2)]) [0, 2] rfl ?_
      exact wX9_next_B47 hO G hr hnm _ _ _ hX
    · have hX := z_if hc25 hX
      refine z_aload_n (pc := 28) G 0 dX9_next_28 rfl rfl ?_
      obtain ⟨hi29, hX⟩ := z_gu_s hX
      obtain ⟨r29, hv29, hX⟩ := z_bd hX
      refine z_cVI (pc := 29) (As := []) (c2 := 0) (s2 := 0) G kK9 (lX9_goStep hO hv29) hi29 kt_1727 kt_11 kt_1724 kt_1726 ks_83 ydX9_goStep ⟨by decide, by decide⟩ rfl (Nat.le_of_ble_eq_true rfl) ⟨rfl, rfl⟩ ⟨by decide, by decide⟩ rfl dX9_next_29 ?_
      refine z_iload_n (pc := 32) G 1 dX9_next_32 rfl rfl ?_
      obtain ⟨r33, hv33, hX⟩ := z_bd hX
      refine z_cSI (pc := 33) (As := [.int r29.1, .int l1]) (c2 := 0) (s2 := 0) G (lX9_bit hO hv33) kt_1476 kt_11 kt_1474 kt_1475 ydX9_bit ⟨by decide, by decide⟩ rfl (Nat.le_of_ble_eq_true rfl) ⟨rfl, rfl⟩ ⟨by decide, by decide⟩ rfl dX9_next_33 ?_
      refine z_if_eq (pc := 36) (tgt := 41) G dX9_next_36 (by decide) (fun hc36 => ?_) (fun hc36 => ?_)
      · have hX := z_it hc36 hX
        refine z_iincw (pc := 41) (w := 1) (lv2 := [(0, .ref l0), (1, .int l1), (2, .int l2), (3, .int (l3 + 1))]) G 3 dX9_next_41 rfl (by decide) (by decide) rfl rfl ?_
        refine z_goto (pc := 44) (tgt := 18) G dX9_next_44 (by decide) ?_
        exact H18 _ _ _ _ _ hX
      · have hX := z_if hc36 hX
        refine z_iload_n (pc := 39) G 3 dX9_next_39 rfl rfl ?_
        refine z_istore_n (pc := 40) (lv2 := [(0, .ref l0), (1, .int l1), (2, .int l3), (3, .int l3)]) G dX9_next_40 rfl (by decide) rfl rfl ?_
        refine z_iincw (pc := 41) (w := 1) (lv2 := [(0, .ref l0), (1, .int l1), (2, .int l3), (3, .int (l3 + 1))]) G 3 dX9_next_41 rfl (by decide) (by decide) rfl rfl ?_
        refine z_goto (pc := 44) (tgt := 18) G dX9_next_44 (by decide) ?_
        exact H18 _ _ _ _ _ hX
set_option maxHeartbeats 4000000 in
set_option maxRecDepth 100000 in
theorem wX9_next_L18 {Γ : ZG} {p : Program} {l : Launch} {e : Env} {s : State} {m : MethodId} {args : Array Value} {below : List Frame} {meth : Method} {c : Code} (hO : z_OK Γ) (G : z_GG Γ p s m args meth c cX9_next 4 RX9) (hr : meth.sig.returnType = (some .int)) (hnm : meth.name = "next") {r : (Int32 × ZH)} : ∀ (nn : Nat) (l0 : Nat) (l1 : Int32) (l2 : Int32) (l3 : Int32) (h : ZH), xX9_next_L18  nn l0 l1 l2 l3 h = some r → z_W Γ p l e rmX9_next s m args below meth c 4 0 0 (MQ below (z_Qc Γ (some (.int r.1)) r.2) args s rmX9_next.cells rmX9_next.slots (z_A Γ)) 18 [(0, .ref l0), (1, .int l1), (2, .int l2), (3, .int l3)] [] h := by
  intro nn
  induction nn with
  | zero => intro l0 l1 l2 l3 h hX; cases hX
  | succ nn ih => intro l0 l1 l2 l3 h hX; exact wX9_next_B18 hO G hr hnm  ih l0 l1 l2 l3 h hX
noncomputable def xX9_next (l0 : Nat) (l1 : Int32) (h : ZH) : Option (Int32 × ZH) := (z_gu (z_is h l0 9) ((xX9_isShip l0 l1 h).bind fun r2 => (if r2.1 = 0 then some ((-1 : Int32), r2.2) else (z_gu (z_is r2.2 l0 9) ((xX9_keepNow l0 r2.2).bind fun h11 => xX9_next_L18 zFU l0 l1 (-1 : Int32) (1 : Int32) h11)))))
set_option maxHeartbeats 4000000 in
set_option maxRecDepth 100000 in
theorem lX9_next {Γ : ZG} {l : Launch} (hO : z_OK Γ) {l0 : Nat} {l1 : Int32} {h : ZH} {r : (Int32 × ZH)} (hX : xX9_next l0 l1 h = some r) : z_M Γ l yX9_next (z_ws1 yX9_next cX9_next 4 (some .int)) rmX9_next [.ref l0, .int l1] h (some (.int r.1)) r.2 := by
  refine z_start hO (plainFor_of_name (by decide)) (Nat.le_of_ble_eq_true rfl) ?_
  intro p e s m args below meth c G hr hnm
  refine z_lvc (lv2 := [(0, .ref l0), (1, .int l1)]) rfl ?_
  refine z_aload_n (pc := 0) G 0 dX9_next_0 rfl rfl ?_
  refine z_iload_n (pc := 1) G 1 dX9_next_1 rfl rfl ?_
  obtain ⟨hi2, hX⟩ := z_gu_s hX
  obtain ⟨r2, hv2, hX⟩ := z_bd hX
  refine z_cVI (pc := 2) (As := [.int l1]) (c2 := 0) (s2 := 0) G kK9 (lX9_isShip hO hv2) hi2 kt_1556 kt_11 kt_1553 kt_1555 ks_62 ydX9_isShip ⟨by decide, by decide⟩ rfl (Nat.le_of_ble_eq_true rfl) ⟨rfl, rfl⟩ ⟨by decide, by decide⟩ rfl dX9_next_2 ?_
  refine z_if_ne (pc := 5) (tgt := 10) G dX9_next_5 (by decide) (fun hc5 => ?_) (fun hc5 => ?_)
  · have hX := z_if hc5 hX
    refine z_aload_n (pc := 10) G 0 dX9_next_10 rfl rfl ?_
    obtain ⟨hi11, hX⟩ := z_gu_s hX
    obtain ⟨h11, hv11, hX⟩ := z_bd hX
    refine z_cVV (pc := 11) (As := []) (c2 := 0) (s2 := 0) G kK9 (lX9_keepNow hO hv11) hi11 kt_1803 kt_11 kt_1800 kt_1802 ks_97 ydX9_keepNow ⟨by decide, by decide⟩ rfl (Nat.le_of_ble_eq_true rfl) ⟨rfl, rfl⟩ ⟨by decide, by decide⟩ rfl dX9_next_11 ?_
    refine z_iconst (pc := 14) (v := (-1)) G dX9_next_14 (by decide) ?_
    refine z_istore_n (pc := 15) (lv2 := [(0, .ref l0), (1, .int l1), (2, .int (-1 : Int32))]) G dX9_next_15 rfl (by decide) rfl rfl ?_
    refine z_iconst (pc := 16) (v := 1) G dX9_next_16 (by decide) ?_
    refine z_istore_n (pc := 17) (lv2 := [(0, .ref l0), (1, .int l1), (2, .int (-1 : Int32)), (3, .int (1 : Int32))]) G dX9_next_17 rfl (by decide) rfl rfl ?_
    exact wX9_next_L18 hO G hr hnm zFU _ _ _ _ _ hX
  · have hX := z_it hc5 hX
    refine z_iconst (pc := 8) (v := (-1)) G dX9_next_8 (by decide) ?_
    exact z_iretX (pc := 9) hX G hr dX9_next_9 (by decide) (by decide)
theorem dX9_goSteps_0 : decode cX9_goSteps 0 = .ok (.iconst 0, 1) := by decide +kernel
theorem dX9_goSteps_1 : decode cX9_goSteps 1 = .ok (.istore_n 2, 1) := by decide +kernel
theorem dX9_goSteps_2 : decode cX9_goSteps 2 = .ok (.iload_n 2, 1) := by decide +kernel
theorem dX9_goSteps_3 : decode cX9_goSteps 3 = .ok (.iload_n 1, 1) := by decide +kernel
theorem dX9_goSteps_4 : decode cX9_goSteps 4 = .ok (.if_icmp .ge 14, 3) := by decide +kernel
theorem dX9_goSteps_7 : decode cX9_goSteps 7 = .ok (.aload_n 0, 1) := by decide +kernel
theorem dX9_goSteps_8 : decode cX9_goSteps 8 = .ok (.invokevirtual 465, 3) := by decide +kernel
theorem dX9_goSteps_11 : decode cX9_goSteps 11 = .ok (.istore_n 3, 1) := by decide +kernel
theorem dX9_goSteps_12 : decode cX9_goSteps 12 = .ok (.iinc 2 1, 3) := by decide +kernel
theorem dX9_goSteps_15 : decode cX9_goSteps 15 = .ok (.goto (-13), 3) := by decide +kernel
theorem dX9_goSteps_18 : decode cX9_goSteps 18 = .ok (.return_, 1) := by decide +kernel
theorem ydX9_goSteps : z_yd yX9_goSteps 1 := ⟨by decide, by decide, by decide +kernel⟩
abbrev rmX9_goSteps : Room := { frames := 8, cells := 0, slots := 0, locals := 190 }
noncomputable def xX9_goSteps_B2 (r2 : Nat → Int32 → Int32 → ZH → Option ZH) (l0 : Nat) (l1 : Int32) (l2 : Int32) (h : ZH) : Option ZH := (if l1 ≤ l2 then some h else (z_gu (z_is h l0 9) ((xX9_goStep l0 h).bind fun r8 => r2 l0 l1 (l2 + 1) r8.2)))
noncomputable def xX9_goSteps_L2 (n : Nat) : Nat → Int32 → Int32 → ZH → Option ZH := Nat.rec (motive := fun _ => Nat → Int32 → Int32 → ZH → Option ZH) (fun _ _ _ _ => none) (fun _ rec => xX9_goSteps_B2  rec) n
set_option maxHeartbeats 4000000 in
set_option maxRecDepth 100000 in
theorem wX9_goSteps_B2 {Γ : ZG} {p : Program} {l : Launch} {e : Env} {s : State} {m : MethodId} {args : Array Value} {below : List Frame} {meth : Method} {c : Code} (hO : z_OK Γ) (G : z_GG Γ p s m args meth c cX9_goSteps 4 RX9) (hr : meth.sig.returnType = none) (hnm : meth.name = "goSteps") {r : ZH} {r2 : Nat → Int32 → Int32 → ZH → Option ZH} (H2 : ∀ (l0 : Nat) (l1 : Int32) (l2 : Int32) (h : ZH), r2 l0 l1 l2 h = some r → z_W Γ p l e rmX9_goSteps s m args below meth c 4 0 0 (MQ below (z_Qc Γ none r) args s rmX9_goSteps.cells rmX9_goSteps.slots (z_A Γ)) 2 [(0, .ref l0), (1, .int l1), (2, .int l2)] [] h) : ∀ (l0 : Nat) (l1 : Int32) (l2 : Int32) (h : ZH), xX9_goSteps_B2  r2 l0 l1 l2 h = some r → z_W Γ p l e rmX9_goSteps s m args below meth c 4 0 0 (MQ below (z_Qc Γ none r) args s rmX9_goSteps.cells rmX9_goSteps.slots (z_A Γ)) 2 [(0, .ref l0), (1, .int l1), (2, .int l2)] [] h := by
  intro l0 l1 l2 h hX
  refine z_iload_n (pc := 2) G 2 dX9_goSteps_2 rfl rfl ?_
  refine z_iload_n (pc := 3) G 1 dX9_goSteps_3 rfl rfl ?_
  refine z_icmp_ge (pc := 4) (tgt := 18) G dX9_goSteps_4 (by decide) (fun hc4 => ?_) (fun hc4 => ?_)
  · have hX := z_it hc4 hX
    exact z_vretX (pc := 18) hX G hr dX9_goSteps_18 (by decide) (by decide)
  · have hX := z_if hc4 hX
    refine z_aload_n (pc := 7) G 0 dX9_goSteps_7 rfl rfl ?_
    obtain ⟨hi8, hX⟩ := z_gu_s hX
    obtain ⟨r8, hv8, hX⟩ := z_bd hX
    refine z_cVI (pc := 8) (As := []) (c2 := 0) (s2 := 0) G kK9 (lX9_goStep hO hv8) hi8 kt_1727 kt_11 kt_1724 kt_1726 ks_83 ydX9_goStep ⟨by decide, by decide⟩ rfl (Nat.le_of_ble_eq_true rfl) ⟨rfl, rfl⟩ ⟨by decide, by decide⟩ rfl dX9_goSteps_8 ?_
    refine z_istore_n (pc := 11) (lv2 := [(0, .ref l0), (1, .int l1), (2, .int l2), (3, .int r8.1)]) G dX9_goSteps_11 rfl (by decide) rfl rfl ?_
    refine z_iincw (pc := 12) (w := 1) (lv2 := [(0, .ref l0), (1, .int l1), (2, .int (l2 + 1)), (3, .int r8.1)]) G 2 dX9_goSteps_12 rfl (by decide) (by decide) rfl rfl ?_
    refine z_goto (pc := 15) (tgt := 2) G dX9_goSteps_15 (by decide) ?_
    refine z_drop (lv2 := [(0, .ref l0), (1, .int l1), (2, .int (l2 + 1))]) [0, 1, 2] rfl ?_
    exact H2 _ _ _ _ hX
set_option maxHeartbeats 4000000 in
set_option maxRecDepth 100000 in
theorem wX9_goSteps_L2 {Γ : ZG} {p : Program} {l : Launch} {e : Env} {s : State} {m : MethodId} {args : Array Value} {below : List Frame} {meth : Method} {c : Code} (hO : z_OK Γ) (G : z_GG Γ p s m args meth c cX9_goSteps 4 RX9) (hr : meth.sig.returnType = none) (hnm : meth.name = "goSteps") {r : ZH} : ∀ (nn : Nat) (l0 : Nat) (l1 : Int32) (l2 : Int32) (h : ZH), xX9_goSteps_L2  nn l0 l1 l2 h = some r → z_W Γ p l e rmX9_goSteps s m args below meth c 4 0 0 (MQ below (z_Qc Γ none r) args s rmX9_goSteps.cells rmX9_goSteps.slots (z_A Γ)) 2 [(0, .ref l0), (1, .int l1), (2, .int l2)] [] h := by
  intro nn
  induction nn with
  | zero => intro l0 l1 l2 h hX; cases hX
  | succ nn ih => intro l0 l1 l2 h hX; exact wX9_goSteps_B2 hO G hr hnm  ih l0 l1 l2 h hX
noncomputable def xX9_goSteps (l0 : Nat) (l1 : Int32) (h : ZH) : Option ZH := xX9_goSteps_L2 zFU l0 l1 (0 : Int32) h
set_option maxHeartbeats 4000000 in
set_option maxRecDepth 100000 in
theorem lX9_goSteps {Γ : ZG} {l : Launch} (hO : z_OK Γ) {l0 : Nat} {l1 : Int32} {h : ZH} {r : ZH} (hX : xX9_goSteps l0 l1 h = some r) : z_M Γ l yX9_goSteps (z_ws1 yX9_goSteps cX9_goSteps 4 none) rmX9_goSteps [.ref l0, .int l1] h none r := by
  refine z_start hO (plainFor_of_name (by decide)) (Nat.le_of_ble_eq_true rfl) ?_
  intro p e s m args below meth c G hr hnm
  refine z_lvc (lv2 := [(0, .ref l0), (1, .int l1)]) rfl ?_
  refine z_iconst (pc := 0) (v := 0) G dX9_goSteps_0 (by decide) ?_
  refine z_istore_n (pc := 1) (lv2 := [(0, .ref l0), (1, .int l1), (2, .int (0 : Int32))]) G dX9_goSteps_1 rfl (by decide) rfl rfl ?_
  exact wX9_goSteps_L2 hO G hr hnm zFU _ _ _ _ hX
theorem dX9_will_0 : decode cX9_will 0 = .ok (.aload_n 0, 1) := by decide +kernel
theorem dX9_will_1 : decode cX9_will 1 = .ok (.iload_n 1, 1) := by decide +kernel
theorem dX9_will_2 : decode cX9_will 2 = .ok (.invokevirtual 450, 3) := by decide +kernel
theorem dX9_will_5 : decode cX9_will 5 = .ok (.ifCond .eq 13, 3) := by decide +kernel
theorem dX9_will_8 : decode cX9_will 8 = .ok (.iload_n 2, 1) := by decide +kernel
theorem dX9_will_9 : decode cX9_will 9 = .ok (.iconst 0, 1) := by decide +kernel
theorem dX9_will_10 : decode cX9_will 10 = .ok (.bipush 90, 2) := by decide +kernel
theorem dX9_will_12 : decode cX9_will 12 = .ok (.invokestatic 340, 3) := by decide +kernel
theorem dX9_will_15 : decode cX9_will 15 = .ok (.ifCond .ne 5, 3) := by decide +kernel
theorem dX9_will_18 : decode cX9_will 18 = .ok (.iconst (-1), 1) := by decide +kernel
theorem dX9_will_19 : decode cX9_will 19 = .ok (.ireturn, 1) := by decide +kernel
theorem dX9_will_20 : decode cX9_will 20 = .ok (.aload_n 0, 1) := by decide +kernel
theorem dX9_will_21 : decode cX9_will 21 = .ok (.invokevirtual 471, 3) := by decide +kernel
theorem dX9_will_24 : decode cX9_will 24 = .ok (.aload_n 0, 1) := by decide +kernel
theorem dX9_will_25 : decode cX9_will 25 = .ok (.iload_n 2, 1) := by decide +kernel
theorem dX9_will_26 : decode cX9_will 26 = .ok (.invokevirtual 477, 3) := by decide +kernel
theorem dX9_will_29 : decode cX9_will 29 = .ok (.aload_n 0, 1) := by decide +kernel
theorem dX9_will_30 : decode cX9_will 30 = .ok (.getfield 91, 3) := by decide +kernel
theorem dX9_will_33 : decode cX9_will 33 = .ok (.bipush 24, 2) := by decide +kernel
theorem dX9_will_35 : decode cX9_will 35 = .ok (.iload_n 1, 1) := by decide +kernel
theorem dX9_will_36 : decode cX9_will 36 = .ok (.iadd, 1) := by decide +kernel
theorem dX9_will_37 : decode cX9_will 37 = .ok (.iaload, 1) := by decide +kernel
theorem dX9_will_38 : decode cX9_will 38 = .ok (.ifCond .le 17, 3) := by decide +kernel
theorem dX9_will_41 : decode cX9_will 41 = .ok (.aload_n 0, 1) := by decide +kernel
theorem dX9_will_42 : decode cX9_will 42 = .ok (.getfield 91, 3) := by decide +kernel
theorem dX9_will_45 : decode cX9_will 45 = .ok (.bipush 30, 2) := by decide +kernel
theorem dX9_will_47 : decode cX9_will 47 = .ok (.iconst 3, 1) := by decide +kernel
theorem dX9_will_48 : decode cX9_will 48 = .ok (.iload_n 1, 1) := by decide +kernel
theorem dX9_will_49 : decode cX9_will 49 = .ok (.imul, 1) := by decide +kernel
theorem dX9_will_50 : decode cX9_will 50 = .ok (.iadd, 1) := by decide +kernel
theorem dX9_will_51 : decode cX9_will 51 = .ok (.iaload, 1) := by decide +kernel
theorem dX9_will_52 : decode cX9_will 52 = .ok (.goto 4, 3) := by decide +kernel
theorem dX9_will_55 : decode cX9_will 55 = .ok (.iconst (-1), 1) := by decide +kernel
theorem dX9_will_56 : decode cX9_will 56 = .ok (.istore_n 3, 1) := by decide +kernel
theorem dX9_will_57 : decode cX9_will 57 = .ok (.aload_n 0, 1) := by decide +kernel
theorem dX9_will_58 : decode cX9_will 58 = .ok (.invokevirtual 474, 3) := by decide +kernel
theorem dX9_will_61 : decode cX9_will 61 = .ok (.iload_n 3, 1) := by decide +kernel
theorem dX9_will_62 : decode cX9_will 62 = .ok (.ireturn, 1) := by decide +kernel
theorem ydX9_will : z_yd yX9_will 2 := ⟨by decide, by decide, by decide +kernel⟩
abbrev rmX9_will : Room := { frames := 9, cells := 0, slots := 0, locals := 213 }
noncomputable def xX9_will (l0 : Nat) (l1 : Int32) (l2 : Int32) (h : ZH) : Option (Int32 × ZH) := (z_gu (z_is h l0 9) ((xX9_isShip l0 l1 h).bind fun r2 => (if r2.1 = 0 then some ((-1 : Int32), r2.2) else ((xX9_isIn l2 (0 : Int32) (90 : Int32) r2.2).bind fun r12 => (if r12.1 = 0 then some ((-1 : Int32), r12.2) else (z_gu (z_is r12.2 l0 9) ((xX9_keepNow l0 r12.2).bind fun h21 => (z_gu (z_is h21 l0 9) ((xX9_goSteps l0 l2 h21).bind fun h26 => ((z_gR h26 l0 9 41).bind fun x30 => ((z_aI h26 x30 ((24 : Int32) + l1)).bind fun x37 => (if x37 ≤ 0 then (z_gu (z_is h26 l0 9) ((xX9_bringBack l0 h26).bind fun h58 => some ((-1 : Int32), h58))) else ((z_gR h26 l0 9 41).bind fun x42 => ((z_aI h26 x42 ((30 : Int32) + ((3 : Int32) * l1))).bind fun x51 => (z_gu (z_is h26 l0 9) ((xX9_bringBack l0 h26).bind fun h58 => some (x51, h58)))))))))))))))))
set_option maxHeartbeats 4000000 in
set_option maxRecDepth 100000 in
theorem lX9_will {Γ : ZG} {l : Launch} (hO : z_OK Γ) {l0 : Nat} {l1 : Int32} {l2 : Int32} {h : ZH} {r : (Int32 × ZH)} (hX : xX9_will l0 l1 l2 h = some r) : z_M Γ l yX9_will (z_ws1 yX9_will cX9_will 4 (some .int)) rmX9_will [.ref l0, .int l1, .int l2] h (some (.int r.1)) r.2 := by
  refine z_start hO (plainFor_of_name (by decide)) (Nat.le_of_ble_eq_true rfl) ?_
  intro p e s m args below meth c G hr hnm
  refine z_lvc (lv2 := [(0, .ref l0), (1, .int l1), (2, .int l2)]) rfl ?_
  refine z_aload_n (pc := 0) G 0 dX9_will_0 rfl rfl ?_
  refine z_iload_n (pc := 1) G 1 dX9_will_1 rfl rfl ?_
  obtain ⟨hi2, hX⟩ := z_gu_s hX
  obtain ⟨r2, hv2, hX⟩ := z_bd hX
  refine z_cVI (pc := 2) (As := [.int l1]) (c2 := 0) (s2 := 0) G kK9 (lX9_isShip hO hv2) hi2 kt_1556 kt_11 kt_1553 kt_1555 ks_62 ydX9_isShip ⟨by decide, by decide⟩ rfl (Nat.le_of_ble_eq_true rfl) ⟨rfl, rfl⟩ ⟨by decide, by decide⟩ rfl dX9_will_2 ?_
  refine z_if_eq (pc := 5) (tgt := 18) G dX9_will_5 (by decide) (fun hc5 => ?_) (fun hc5 => ?_)
  · have hX := z_it hc5 hX
    refine z_iconst (pc := 18) (v := (-1)) G dX9_will_18 (by decide) ?_
    exact z_iretX (pc := 19) hX G hr dX9_will_19 (by decide) (by decide)
  · have hX := z_if hc5 hX
    refine z_iload_n (pc := 8) G 2 dX9_will_8 rfl rfl ?_
    refine z_iconst (pc := 9) (v := 0) G dX9_will_9 (by decide) ?_
    refine z_bipush (pc := 10) (v := 90) G dX9_will_10 (by decide) ?_
    obtain ⟨r12, hv12, hX⟩ := z_bd hX
    refine z_cSI (pc := 12) (As := [.int l2, .int (0 : Int32), .int (90 : Int32)]) (c2 := 0) (s2 := 0) G (lX9_isIn hO hv12) kt_1559 kt_11 kt_1557 kt_1558 ydX9_isIn ⟨by decide, by decide⟩ rfl (Nat.le_of_ble_eq_true rfl) ⟨rfl, rfl⟩ ⟨by decide, by decide⟩ rfl dX9_will_12 ?_
    refine z_if_ne (pc := 15) (tgt := 20) G dX9_will_15 (by decide) (fun hc15 => ?_) (fun hc15 => ?_)
    · have hX := z_if hc15 hX
      refine z_aload_n (pc := 20) G 0 dX9_will_20 rfl rfl ?_
      obtain ⟨hi21, hX⟩ := z_gu_s hX
      obtain ⟨h21, hv21, hX⟩ := z_bd hX
      refine z_cVV (pc := 21) (As := []) (c2 := 0) (s2 := 0) G kK9 (lX9_keepNow hO hv21) hi21 kt_1803 kt_11 kt_1800 kt_1802 ks_97 ydX9_keepNow ⟨by decide, by decide⟩ rfl (Nat.le_of_ble_eq_true rfl) ⟨rfl, rfl⟩ ⟨by decide, by decide⟩ rfl dX9_will_21 ?_
      refine z_aload_n (pc := 24) G 0 dX9_will_24 rfl rfl ?_
      refine z_iload_n (pc := 25) G 2 dX9_will_25 rfl rfl ?_
      obtain ⟨hi26, hX⟩ := z_gu_s hX
      obtain ⟨h26, hv26, hX⟩ := z_bd hX
      refine z_cVV (pc := 26) (As := [.int l2]) (c2 := 0) (s2 := 0) G kK9 (lX9_goSteps hO hv26) hi26 kt_1815 kt_11 kt_1812 kt_1814 ks_99 ydX9_goSteps ⟨by decide, by decide⟩ rfl (Nat.le_of_ble_eq_true rfl) ⟨rfl, rfl⟩ ⟨by decide, by decide⟩ rfl dX9_will_26 ?_
      refine z_aload_n (pc := 29) G 0 dX9_will_29 rfl rfl ?_
      obtain ⟨x30, hv30, hX⟩ := z_bd hX
      refine z_getR (pc := 30) G kK9 (k := 41) (by decide) kt_1267 dX9_will_30 hv30 ?_
      refine z_bipush (pc := 33) (v := 24) G dX9_will_33 (by decide) ?_
      refine z_iload_n (pc := 35) G 1 dX9_will_35 rfl rfl ?_
      refine z_iadd (pc := 36) G dX9_will_36 ?_
      obtain ⟨x37, hv37, hX⟩ := z_bd hX
      refine z_iald (pc := 37) G dX9_will_37 hv37 ?_
      refine z_if_le (pc := 38) (tgt := 55) G dX9_will_38 (by decide) (fun hc38 => ?_) (fun hc38 => ?_)
      · have hX := z_it hc38 hX
        refine z_iconst (pc := 55) (v := (-1)) G dX9_will_55 (by decide) ?_
        refine z_istore_n (pc := 56) (lv2 := [(0, .ref l0), (1, .int l1), (2, .int l2), (3, .int (-1 : Int32))]) G dX9_will_56 rfl (by decide) rfl rfl ?_
        refine z_aload_n (pc := 57) G 0 dX9_will_57 rfl rfl ?_
        obtain ⟨hi58, hX⟩ := z_gu_s hX
        obtain ⟨h58, hv58, hX⟩ := z_bd hX
        refine z_cVV (pc := 58) (As := []) (c2 := 0) (s2 := 0) G kK9 (lX9_bringBack hO hv58) hi58 kt_1807 kt_11 kt_1804 kt_1806 ks_98 ydX9_bringBack ⟨by decide, by decide⟩ rfl (Nat.le_of_ble_eq_true rfl) ⟨rfl, rfl⟩ ⟨by decide, by decide⟩ rfl dX9_will_58 ?_
        refine z_iload_n (pc := 61) G 3 dX9_will_61 rfl rfl ?_
        exact z_iretX (pc := 62) hX G hr dX9_will_62 (by decide) (by decide)
      · have hX := z_if hc38 hX
        refine z_aload_n (pc := 41) G 0 dX9_will_41 rfl rfl ?_
        obtain ⟨x42, hv42, hX⟩ := z_bd hX
        refine z_getR (pc := 42) G kK9 (k := 41) (by decide) kt_1267 dX9_will_42 hv42 ?_
        refine z_bipush (pc := 45) (v := 30) G dX9_will_45 (by decide) ?_
        refine z_iconst (pc := 47) (v := 3) G dX9_will_47 (by decide) ?_
        refine z_iload_n (pc := 48) G 1 dX9_will_48 rfl rfl ?_
        refine z_imul (pc := 49) G dX9_will_49 ?_
        refine z_iadd (pc := 50) G dX9_will_50 ?_
        obtain ⟨x51, hv51, hX⟩ := z_bd hX
        refine z_iald (pc := 51) G dX9_will_51 hv51 ?_
        refine z_goto (pc := 52) (tgt := 56) G dX9_will_52 (by decide) ?_
        refine z_istore_n (pc := 56) (lv2 := [(0, .ref l0), (1, .int l1), (2, .int l2), (3, .int x51)]) G dX9_will_56 rfl (by decide) rfl rfl ?_
        refine z_aload_n (pc := 57) G 0 dX9_will_57 rfl rfl ?_
        obtain ⟨hi58, hX⟩ := z_gu_s hX
        obtain ⟨h58, hv58, hX⟩ := z_bd hX
        refine z_cVV (pc := 58) (As := []) (c2 := 0) (s2 := 0) G kK9 (lX9_bringBack hO hv58) hi58 kt_1807 kt_11 kt_1804 kt_1806 ks_98 ydX9_bringBack ⟨by decide, by decide⟩ rfl (Nat.le_of_ble_eq_true rfl) ⟨rfl, rfl⟩ ⟨by decide, by decide⟩ rfl dX9_will_58 ?_
        refine z_iload_n (pc := 61) G 3 dX9_will_61 rfl rfl ?_
        exact z_iretX (pc := 62) hX G hr dX9_will_62 (by decide) (by decide)
    · have hX := z_it hc15 hX
      refine z_iconst (pc := 18) (v := (-1)) G dX9_will_18 (by decide) ?_
      exact z_iretX (pc := 19) hX G hr dX9_will_19 (by decide) (by decide)
