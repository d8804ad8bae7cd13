theorem dX8_fleet_0 : decode cX8_fleet 0 = .ok (.aload_n 0, 1) := by decide +kernel
theorem dX8_fleet_1 : decode cX8_fleet 1 = .ok (.getfield 20, 3) := by decide +kernel
theorem dX8_fleet_4 : decode cX8_fleet 4 = .ok (.aload_n 0, 1) := by decide +kernel
theorem dX8_fleet_5 : decode cX8_fleet 5 = .ok (.getfield 9, 3) := by decide +kernel
theorem dX8_fleet_8 : decode cX8_fleet 8 = .ok (.aload_n 0, 1) := by decide +kernel
theorem dX8_fleet_9 : decode cX8_fleet 9 = .ok (.getfield 93, 3) := by decide +kernel
theorem dX8_fleet_12 : decode cX8_fleet 12 = .ok (.invokevirtual 100, 3) := by decide +kernel
theorem dX8_fleet_15 : decode cX8_fleet 15 = .ok (.istore_n 1, 1) := by decide +kernel
theorem dX8_fleet_16 : decode cX8_fleet 16 = .ok (.aload_n 0, 1) := by decide +kernel
theorem dX8_fleet_17 : decode cX8_fleet 17 = .ok (.iconst 0, 1) := by decide +kernel
theorem dX8_fleet_18 : decode cX8_fleet 18 = .ok (.putfield 93, 3) := by decide +kernel
theorem dX8_fleet_21 : decode cX8_fleet 21 = .ok (.aload_n 0, 1) := by decide +kernel
theorem dX8_fleet_22 : decode cX8_fleet 22 = .ok (.aload_n 0, 1) := by decide +kernel
theorem dX8_fleet_23 : decode cX8_fleet 23 = .ok (.getfield 20, 3) := by decide +kernel
theorem dX8_fleet_26 : decode cX8_fleet 26 = .ok (.getfield 104, 3) := by decide +kernel
theorem dX8_fleet_29 : decode cX8_fleet 29 = .ok (.putfield 107, 3) := by decide +kernel
theorem dX8_fleet_32 : decode cX8_fleet 32 = .ok (.aload_n 0, 1) := by decide +kernel
theorem dX8_fleet_33 : decode cX8_fleet 33 = .ok (.aload_n 0, 1) := by decide +kernel
theorem dX8_fleet_34 : decode cX8_fleet 34 = .ok (.getfield 20, 3) := by decide +kernel
theorem dX8_fleet_37 : decode cX8_fleet 37 = .ok (.getfield 110, 3) := by decide +kernel
theorem dX8_fleet_40 : decode cX8_fleet 40 = .ok (.putfield 13, 3) := by decide +kernel
theorem dX8_fleet_43 : decode cX8_fleet 43 = .ok (.iload_n 1, 1) := by decide +kernel
theorem dX8_fleet_44 : decode cX8_fleet 44 = .ok (.ifCond .ne 5, 3) := by decide +kernel
theorem dX8_fleet_47 : decode cX8_fleet 47 = .ok (.iconst (-1), 1) := by decide +kernel
theorem dX8_fleet_48 : decode cX8_fleet 48 = .ok (.ireturn, 1) := by decide +kernel
theorem dX8_fleet_49 : decode cX8_fleet 49 = .ok (.aload_n 0, 1) := by decide +kernel
theorem dX8_fleet_50 : decode cX8_fleet 50 = .ok (.getfield 27, 3) := by decide +kernel
theorem dX8_fleet_53 : decode cX8_fleet 53 = .ok (.aload_n 0, 1) := by decide +kernel
theorem dX8_fleet_54 : decode cX8_fleet 54 = .ok (.getfield 20, 3) := by decide +kernel
theorem dX8_fleet_57 : decode cX8_fleet 57 = .ok (.getfield 111, 3) := by decide +kernel
theorem dX8_fleet_60 : decode cX8_fleet 60 = .ok (.invokevirtual 114, 3) := by decide +kernel
theorem dX8_fleet_63 : decode cX8_fleet 63 = .ok (.aload_n 0, 1) := by decide +kernel
theorem dX8_fleet_64 : decode cX8_fleet 64 = .ok (.getfield 36, 3) := by decide +kernel
theorem dX8_fleet_67 : decode cX8_fleet 67 = .ok (.invokevirtual 90, 3) := by decide +kernel
theorem dX8_fleet_70 : decode cX8_fleet 70 = .ok (.aload_n 0, 1) := by decide +kernel
theorem dX8_fleet_71 : decode cX8_fleet 71 = .ok (.getfield 67, 3) := by decide +kernel
theorem dX8_fleet_74 : decode cX8_fleet 74 = .ok (.invokevirtual 117, 3) := by decide +kernel
theorem dX8_fleet_77 : decode cX8_fleet 77 = .ok (.aload_n 0, 1) := by decide +kernel
theorem dX8_fleet_78 : decode cX8_fleet 78 = .ok (.getfield 74, 3) := by decide +kernel
theorem dX8_fleet_81 : decode cX8_fleet 81 = .ok (.invokevirtual 120, 3) := by decide +kernel
theorem dX8_fleet_84 : decode cX8_fleet 84 = .ok (.aload_n 0, 1) := by decide +kernel
theorem dX8_fleet_85 : decode cX8_fleet 85 = .ok (.iconst 0, 1) := by decide +kernel
theorem dX8_fleet_86 : decode cX8_fleet 86 = .ok (.putfield 121, 3) := by decide +kernel
theorem dX8_fleet_89 : decode cX8_fleet 89 = .ok (.iconst 0, 1) := by decide +kernel
theorem dX8_fleet_90 : decode cX8_fleet 90 = .ok (.istore_n 2, 1) := by decide +kernel
theorem dX8_fleet_91 : decode cX8_fleet 91 = .ok (.iload_n 2, 1) := by decide +kernel
theorem dX8_fleet_92 : decode cX8_fleet 92 = .ok (.iconst 3, 1) := by decide +kernel
theorem dX8_fleet_93 : decode cX8_fleet 93 = .ok (.if_icmp .ge 16, 3) := by decide +kernel
theorem dX8_fleet_96 : decode cX8_fleet 96 = .ok (.aload_n 0, 1) := by decide +kernel
theorem dX8_fleet_97 : decode cX8_fleet 97 = .ok (.getfield 82, 3) := by decide +kernel
theorem dX8_fleet_100 : decode cX8_fleet 100 = .ok (.iload_n 2, 1) := by decide +kernel
theorem dX8_fleet_101 : decode cX8_fleet 101 = .ok (.iconst 0, 1) := by decide +kernel
theorem dX8_fleet_102 : decode cX8_fleet 102 = .ok (.bastore, 1) := by decide +kernel
theorem dX8_fleet_103 : decode cX8_fleet 103 = .ok (.iinc 2 1, 3) := by decide +kernel
theorem dX8_fleet_106 : decode cX8_fleet 106 = .ok (.goto (-15), 3) := by decide +kernel
theorem dX8_fleet_109 : decode cX8_fleet 109 = .ok (.aload_n 0, 1) := by decide +kernel
theorem dX8_fleet_110 : decode cX8_fleet 110 = .ok (.getfield 27, 3) := by decide +kernel
theorem dX8_fleet_113 : decode cX8_fleet 113 = .ok (.getfield 124, 3) := by decide +kernel
theorem dX8_fleet_116 : decode cX8_fleet 116 = .ok (.ireturn, 1) := by decide +kernel
theorem ydX8_fleet : z_yd yX8_fleet 0 := ⟨by decide, by decide, by decide +kernel⟩
abbrev rmX8_fleet : Room := { frames := 353, cells := 0, slots := 0, locals := 32069 }
noncomputable def xX8_fleet_B91 (r91 : Nat → Int32 → ZH → Option (Int32 × ZH)) (l0 : Nat) (l2 : Int32) (h : ZH) : Option (Int32 × ZH) := (if (3 : Int32) ≤ l2 then ((z_gR h l0 8 5).bind fun x110 => ((z_gI h x110 2 7).bind fun x113 => some (x113, h))) else ((z_gR h l0 8 14).bind fun x97 => ((z_uB h x97 l2 (0 : Int32)).bind fun h102 => r91 l0 (l2 + 1) h102)))
noncomputable def xX8_fleet_L91 (n : Nat) : Nat → Int32 → ZH → Option (Int32 × ZH) := Nat.rec (motive := fun _ => Nat → Int32 → ZH → Option (Int32 × ZH)) (fun _ _ _ => none) (fun _ rec => xX8_fleet_B91  rec) n
set_option maxHeartbeats 4000000 in
set_option maxRecDepth 100000 in
theorem wX8_fleet_B91 {Γ : ZG} {p : Program} {l : Launch} {e : Env} {s : State} {m : MethodId} {args : Array Value} {below : List Frame} {meth : Method} {c : Code} (hO : z_OK Γ) (G : z_GG Γ p s m args meth c cX8_fleet 3 RX8) (hr : meth.sig.returnType = (some .int)) (hnm : meth.name = "fleet") {r : (Int32 × ZH)} {r91 : Nat → Int32 → ZH → Option (Int32 × ZH)} (H91 : ∀ (l0 : Nat) (l2 : Int32) (h : ZH), r91 l0 l2 h = some r → z_W Γ p l e rmX8_fleet s m args below meth c 3 0 0 (MQ below (z_Qc Γ (some (.int r.1)) r.2) args s rmX8_fleet.cells rmX8_fleet.slots (z_A Γ)) 91 [(0, .ref l0), (2, .int l2)] [] h) : ∀ (l0 : Nat) (l2 : Int32) (h : ZH), xX8_fleet_B91  r91 l0 l2 h = some r → z_W Γ p l e rmX8_fleet s m args below meth c 3 0 0 (MQ below (z_Qc Γ (some (.int r.1)) r.2) args s rmX8_fleet.cells rmX8_fleet.slots (z_A Γ)) 91 [(0, .ref l0), (2, .int l2)] [] h := by
  intro l0 l2 h hX
  refine z_iload_n (pc := 91) G 1 dX8_fleet_91 rfl rfl ?_
  refine z_iconst (pc := 92) (v := 3) G dX8_fleet_92 (by decide) ?_
  refine z_icmp_ge (pc := 93) (tgt := 109) G dX8_fleet_93 (by decide) (fun hc93 => ?_) (fun hc93 => ?_)
  · have hX := z_it hc93 hX
    refine z_aload_n (pc := 109) G 0 dX8_fleet_109 rfl rfl ?_
    obtain ⟨x110, hv110, hX⟩ := z_bd hX
    refine z_getR (pc := 110) G kK8 (k := 5) (by decide) kt_429 dX8_fleet_110 hv110 ?_
    obtain ⟨x113, hv113, hX⟩ := z_bd hX
    refine z_getI (pc := 113) G kK2 (k := 7) (by decide) kt_71 dX8_fleet_113 hv113 ?_
    exact z_iretX (pc := 116) hX G hr dX8_fleet_116 (by decide) (by decide)
  · have hX := z_if hc93 hX
    refine z_aload_n (pc := 96) G 0 dX8_fleet_96 rfl rfl ?_
    obtain ⟨x97, hv97, hX⟩ := z_bd hX
    refine z_getR (pc := 97) G kK8 (k := 14) (by decide) kt_438 dX8_fleet_97 hv97 ?_
    refine z_iload_n (pc := 100) G 1 dX8_fleet_100 rfl rfl ?_
    refine z_iconst (pc := 101) (v := 0) G dX8_fleet_101 (by decide) ?_
    obtain ⟨h102, hv102, hX⟩ := z_bd hX
    refine z_bast (pc := 102) G dX8_fleet_102 hv102 ?_
    refine z_iincw (pc := 103) (w := 1) (lv2 := [(0, .ref l0), (2, .int (l2 + 1))]) G 1 dX8_fleet_103 rfl (by decide) (by decide) rfl rfl ?_
    refine z_goto (pc := 106) (tgt := 91) G dX8_fleet_106 (by decide) ?_
    exact H91 _ _ _ hX
set_option maxHeartbeats 4000000 in
set_option maxRecDepth 100000 in
theorem wX8_fleet_L91 {Γ : ZG} {p : Program} {l : Launch} {e : Env} {s : State} {m : MethodId} {args : Array Value} {below : List Frame} {meth : Method} {c : Code} (hO : z_OK Γ) (G : z_GG Γ p s m args meth c cX8_fleet 3 RX8) (hr : meth.sig.returnType = (some .int)) (hnm : meth.name = "fleet") {r : (Int32 × ZH)} : ∀ (nn : Nat) (l0 : Nat) (l2 : Int32) (h : ZH), xX8_fleet_L91  nn l0 l2 h = some r → z_W Γ p l e rmX8_fleet s m args below meth c 3 0 0 (MQ below (z_Qc Γ (some (.int r.1)) r.2) args s rmX8_fleet.cells rmX8_fleet.slots (z_A Γ)) 91 [(0, .ref l0), (2, .int l2)] [] h := by
  intro nn
  induction nn with
  | zero => intro l0 l2 h hX; cases hX
  | succ nn ih => intro l0 l2 h hX; exact wX8_fleet_B91 hO G hr hnm  ih l0 l2 h hX
noncomputable def xX8_fleet (l0 : Nat) (h : ZH) : Option (Int32 × ZH) := ((z_gR h l0 8 4).bind fun x1 => ((z_gR h l0 8 0).bind fun x5 => ((z_gI h l0 8 1).bind fun x9 => (z_gu (z_is h x1 3) ((xX3_read x1 x5 x9 h).bind fun r12 => ((z_sF r12.2 l0 8 1 (.int (0 : Int32))).bind fun h18 => ((z_gR h18 l0 8 4).bind fun x23 => ((z_gI h18 x23 3 1).bind fun x26 => ((z_sF h18 l0 8 2 (.int x26)).bind fun h29 => ((z_gR h29 l0 8 4).bind fun x34 => ((z_gI h29 x34 3 2).bind fun x37 => ((z_sF h29 l0 8 3 (.int x37)).bind fun h40 => (if r12.1 = 0 then some ((-1 : Int32), h40) else ((z_gR h40 l0 8 5).bind fun x50 => ((z_gR h40 l0 8 4).bind fun x54 => ((z_gR h40 x54 3 0).bind fun x57 => (z_gu (z_is h40 x50 2) ((xX2_copy x50 x57 h40).bind fun h60 => ((z_gR h60 l0 8 6).bind fun x64 => (z_gu (z_is h60 x64 5) ((xX5_start x64 h60).bind fun h67 => ((z_gR h67 l0 8 11).bind fun x71 => (z_gu (z_is h67 x71 1) ((xX1_forget x71 h67).bind fun h74 => ((z_gR h74 l0 8 12).bind fun x78 => (z_gu (z_is h74 x78 4) ((xX4_forget x78 h74).bind fun h81 => ((z_sF h81 l0 8 16 (.int (0 : Int32))).bind fun h86 => xX8_fleet_L91 zFU l0 (0 : Int32) h86))))))))))))))))))))))))))))
set_option maxHeartbeats 4000000 in
set_option maxRecDepth 100000 in
theorem lX8_fleet {Γ : ZG} {l : Launch} (hO : z_OK Γ) {l0 : Nat} {h : ZH} {r : (Int32 × ZH)} (hX : xX8_fleet l0 h = some r) : z_M Γ l yX8_fleet (z_ws1 yX8_fleet cX8_fleet 3 (some .int)) rmX8_fleet [.ref l0] h (some (.int r.1)) r.2 := by
  refine z_start hO (plainFor_of_name (by decide)) (Nat.le_of_ble_eq_true rfl) ?_
  intro p e s m args below meth c G hr hnm
  refine z_lvc (lv2 := [(0, .ref l0)]) rfl ?_
  refine z_aload_n (pc := 0) G 0 dX8_fleet_0 rfl rfl ?_
  obtain ⟨x1, hv1, hX⟩ := z_bd hX
  refine z_getR (pc := 1) G kK8 (k := 4) (by decide) kt_428 dX8_fleet_1 hv1 ?_
  refine z_aload_n (pc := 4) G 0 dX8_fleet_4 rfl rfl ?_
  obtain ⟨x5, hv5, hX⟩ := z_bd hX
  refine z_getR (pc := 5) G kK8 (k := 0) (by decide) kt_424 dX8_fleet_5 hv5 ?_
  refine z_aload_n (pc := 8) G 0 dX8_fleet_8 rfl rfl ?_
  obtain ⟨x9, hv9, hX⟩ := z_bd hX
  refine z_getI (pc := 9) G kK8 (k := 1) (by decide) kt_425 dX8_fleet_9 hv9 ?_
  obtain ⟨hi12, hX⟩ := z_gu_s hX
  obtain ⟨r12, hv12, hX⟩ := z_bd hX
  refine z_cVI (pc := 12) (As := [.ref x5, .int x9]) (c2 := 0) (s2 := 0) G kK3 (lX3_read hO hv12) hi12 kt_498 kt_2 kt_495 kt_496 kt_497 ydX3_read ⟨by decide, by decide⟩ rfl (Nat.le_of_ble_eq_true rfl) ⟨rfl, rfl⟩ ⟨by decide, by decide⟩ rfl dX8_fleet_12 ?_
  refine z_istore_n (pc := 15) (lv2 := [(0, .ref l0), (1, .int r12.1)]) G dX8_fleet_15 rfl (by decide) rfl rfl ?_
  refine z_aload_n (pc := 16) G 0 dX8_fleet_16 rfl rfl ?_
  refine z_iconst (pc := 17) (v := 0) G dX8_fleet_17 (by decide) ?_
  obtain ⟨h18, hv18, hX⟩ := z_bd hX
  refine z_putF (pc := 18) G kK8 (k := 1) (by decide) kt_425 (Or.inl rfl) rfl rfl dX8_fleet_18 hv18 ?_
  refine z_aload_n (pc := 21) G 0 dX8_fleet_21 rfl rfl ?_
  refine z_aload_n (pc := 22) G 0 dX8_fleet_22 rfl rfl ?_
  obtain ⟨x23, hv23, hX⟩ := z_bd hX
  refine z_getR (pc := 23) G kK8 (k := 4) (by decide) kt_428 dX8_fleet_23 hv23 ?_
  obtain ⟨x26, hv26, hX⟩ := z_bd hX
  refine z_getI (pc := 26) G kK3 (k := 1) (by decide) kt_140 dX8_fleet_26 hv26 ?_
  obtain ⟨h29, hv29, hX⟩ := z_bd hX
  refine z_putF (pc := 29) G kK8 (k := 2) (by decide) kt_426 (Or.inl rfl) rfl rfl dX8_fleet_29 hv29 ?_
  refine z_aload_n (pc := 32) G 0 dX8_fleet_32 rfl rfl ?_
  refine z_aload_n (pc := 33) G 0 dX8_fleet_33 rfl rfl ?_
  obtain ⟨x34, hv34, hX⟩ := z_bd hX
  refine z_getR (pc := 34) G kK8 (k := 4) (by decide) kt_428 dX8_fleet_34 hv34 ?_
  obtain ⟨x37, hv37, hX⟩ := z_bd hX
  refine z_getI (pc := 37) G kK3 (k := 2) (by decide) kt_142 dX8_fleet_37 hv37 ?_
  obtain ⟨h40, hv40, hX⟩ := z_bd hX
  refine z_putF (pc := 40) G kK8 (k := 3) (by decide) kt_427 (Or.inl rfl) rfl rfl dX8_fleet_40 hv40 ?_
  refine z_iload_n (pc := 43) G 1 dX8_fleet_43 rfl rfl ?_
  refine z_if_ne (pc := 44) (tgt := 49) G dX8_fleet_44 (by decide) (fun hc44 => ?_) (fun hc44 => ?_)
  · have hX := z_if hc44 hX
    refine z_aload_n (pc := 49) G 0 dX8_fleet_49 rfl rfl ?_
    obtain ⟨x50, hv50, hX⟩ := z_bd hX
    refine z_getR (pc := 50) G kK8 (k := 5) (by decide) kt_429 dX8_fleet_50 hv50 ?_
    refine z_aload_n (pc := 53) G 0 dX8_fleet_53 rfl rfl ?_
    obtain ⟨x54, hv54, hX⟩ := z_bd hX
    refine z_getR (pc := 54) G kK8 (k := 4) (by decide) kt_428 dX8_fleet_54 hv54 ?_
    obtain ⟨x57, hv57, hX⟩ := z_bd hX
    refine z_getR (pc := 57) G kK3 (k := 0) (by decide) kt_138 dX8_fleet_57 hv57 ?_
    obtain ⟨hi60, hX⟩ := z_gu_s hX
    obtain ⟨h60, hv60, hX⟩ := z_bd hX
    refine z_cVV (pc := 60) (As := [.ref x57]) (c2 := 0) (s2 := 0) G kK2 (lX2_copy hO hv60) hi60 kt_706 kt_3 kt_703 kt_704 kt_705 ydX2_copy ⟨by decide, by decide⟩ rfl (Nat.le_of_ble_eq_true rfl) ⟨rfl, rfl⟩ ⟨by decide, by decide⟩ rfl dX8_fleet_60 ?_
    refine z_aload_n (pc := 63) G 0 dX8_fleet_63 rfl rfl ?_
    obtain ⟨x64, hv64, hX⟩ := z_bd hX
    refine z_getR (pc := 64) G kK8 (k := 6) (by decide) kt_430 dX8_fleet_64 hv64 ?_
    obtain ⟨hi67, hX⟩ := z_gu_s hX
    obtain ⟨h67, hv67, hX⟩ := z_bd hX
    refine z_cVV (pc := 67) (As := []) (c2 := 0) (s2 := 0) G kK5 (lX5_start hO hv67) hi67 kt_412 kt_4 kt_409 kt_410 kt_411 ydX5_start ⟨by decide, by decide⟩ rfl (Nat.le_of_ble_eq_true rfl) ⟨rfl, rfl⟩ ⟨by decide, by decide⟩ rfl dX8_fleet_67 ?_
    refine z_aload_n (pc := 70) G 0 dX8_fleet_70 rfl rfl ?_
    obtain ⟨x71, hv71, hX⟩ := z_bd hX
    refine z_getR (pc := 71) G kK8 (k := 11) (by decide) kt_435 dX8_fleet_71 hv71 ?_
    obtain ⟨hi74, hX⟩ := z_gu_s hX
    obtain ⟨h74, hv74, hX⟩ := z_bd hX
    refine z_cVV (pc := 74) (As := []) (c2 := 0) (s2 := 0) G kK1 (lX1_forget hO hv74) hi74 kt_711 kt_8 kt_708 kt_709 kt_710 ydX1_forget ⟨by decide, by decide⟩ rfl (Nat.le_of_ble_eq_true rfl) ⟨rfl, rfl⟩ ⟨by decide, by decide⟩ rfl dX8_fleet_74 ?_
    refine z_aload_n (pc := 77) G 0 dX8_fleet_77 rfl rfl ?_
    obtain ⟨x78, hv78, hX⟩ := z_bd hX
    refine z_getR (pc := 78) G kK8 (k := 12) (by decide) kt_436 dX8_fleet_78 hv78 ?_
    obtain ⟨hi81, hX⟩ := z_gu_s hX
    obtain ⟨h81, hv81, hX⟩ := z_bd hX
    refine z_cVV (pc := 81) (As := []) (c2 := 0) (s2 := 0) G kK4 (lX4_forget hO hv81) hi81 kt_715 kt_9 kt_712 kt_713 kt_714 ydX4_forget ⟨by decide, by decide⟩ rfl (Nat.le_of_ble_eq_true rfl) ⟨rfl, rfl⟩ ⟨by decide, by decide⟩ rfl dX8_fleet_81 ?_
    refine z_aload_n (pc := 84) G 0 dX8_fleet_84 rfl rfl ?_
    refine z_iconst (pc := 85) (v := 0) G dX8_fleet_85 (by decide) ?_
    obtain ⟨h86, hv86, hX⟩ := z_bd hX
    refine z_putF (pc := 86) G kK8 (k := 16) (by decide) kt_440 (Or.inl rfl) rfl rfl dX8_fleet_86 hv86 ?_
    refine z_iconst (pc := 89) (v := 0) G dX8_fleet_89 (by decide) ?_
    refine z_istore_n (pc := 90) (lv2 := [(0, .ref l0), (1, .int r12.1), (2, .int (0 : Int32))]) G dX8_fleet_90 rfl (by decide) rfl rfl ?_
    refine z_drop (lv2 := [(0, .ref l0), (2, .int (0 : Int32))]) [0, 2] rfl ?_
    exact wX8_fleet_L91 hO G hr hnm zFU _ _ _ hX
  · have hX := z_it hc44 hX
    refine z_iconst (pc := 47) (v := (-1)) G dX8_fleet_47 (by decide) ?_
    exact z_iretX (pc := 48) hX G hr dX8_fleet_48 (by decide) (by decide)
theorem dX8_fault_0 : decode cX8_fault 0 = .ok (.iload_n 1, 1) := by decide +kernel
theorem dX8_fault_1 : decode cX8_fault 1 = .ok (.ifCond .ne 8, 3) := by decide +kernel
theorem dX8_fault_4 : decode cX8_fault 4 = .ok (.aload_n 0, 1) := by decide +kernel
theorem dX8_fault_5 : decode cX8_fault 5 = .ok (.getfield 107, 3) := by decide +kernel
theorem dX8_fault_8 : decode cX8_fault 8 = .ok (.ireturn, 1) := by decide +kernel
theorem dX8_fault_9 : decode cX8_fault 9 = .ok (.iload_n 1, 1) := by decide +kernel
theorem dX8_fault_10 : decode cX8_fault 10 = .ok (.iconst 1, 1) := by decide +kernel
theorem dX8_fault_11 : decode cX8_fault 11 = .ok (.if_icmp .ne 8, 3) := by decide +kernel
theorem dX8_fault_14 : decode cX8_fault 14 = .ok (.aload_n 0, 1) := by decide +kernel
theorem dX8_fault_15 : decode cX8_fault 15 = .ok (.getfield 13, 3) := by decide +kernel
theorem dX8_fault_18 : decode cX8_fault 18 = .ok (.ireturn, 1) := by decide +kernel
theorem dX8_fault_19 : decode cX8_fault 19 = .ok (.iconst (-1), 1) := by decide +kernel
theorem dX8_fault_20 : decode cX8_fault 20 = .ok (.ireturn, 1) := by decide +kernel
theorem ydX8_fault : z_yd yX8_fault 1 := ⟨by decide, by decide, by decide +kernel⟩
abbrev rmX8_fault : Room := { frames := 0, cells := 0, slots := 0, locals := 0 }
noncomputable def xX8_fault (l0 : Nat) (l1 : Int32) (h : ZH) : Option (Int32 × ZH) := (if l1 = 0 then ((z_gI h l0 8 2).bind fun x5 => some (x5, h)) else (if l1 = (1 : Int32) then ((z_gI h l0 8 3).bind fun x15 => some (x15, h)) else some ((-1 : Int32), h)))
set_option maxHeartbeats 4000000 in
set_option maxRecDepth 100000 in
theorem lX8_fault {Γ : ZG} {l : Launch} (hO : z_OK Γ) {l0 : Nat} {l1 : Int32} {h : ZH} {r : (Int32 × ZH)} (hX : xX8_fault l0 l1 h = some r) : z_M Γ l yX8_fault (z_ws1 yX8_fault cX8_fault 2 (some .int)) rmX8_fault [.ref l0, .int l1] h (some (.int r.1)) r.2 := by
  refine z_start hO (plainFor_of_name (by decide)) (Nat.le_of_ble_eq_true rfl) ?_
  intro p e s m args below meth c G hr hnm
  refine z_lvc (lv2 := [(0, .ref l0), (1, .int l1)]) rfl ?_
  refine z_iload_n (pc := 0) G 1 dX8_fault_0 rfl rfl ?_
  refine z_if_ne (pc := 1) (tgt := 9) G dX8_fault_1 (by decide) (fun hc1 => ?_) (fun hc1 => ?_)
  · have hX := z_if hc1 hX
    refine z_iload_n (pc := 9) G 1 dX8_fault_9 rfl rfl ?_
    refine z_iconst (pc := 10) (v := 1) G dX8_fault_10 (by decide) ?_
    refine z_icmp_ne (pc := 11) (tgt := 19) G dX8_fault_11 (by decide) (fun hc11 => ?_) (fun hc11 => ?_)
    · have hX := z_if hc11 hX
      refine z_iconst (pc := 19) (v := (-1)) G dX8_fault_19 (by decide) ?_
      exact z_iretX (pc := 20) hX G hr dX8_fault_20 (by decide) (by decide)
    · have hX := z_it hc11 hX
      refine z_aload_n (pc := 14) G 0 dX8_fault_14 rfl rfl ?_
      obtain ⟨x15, hv15, hX⟩ := z_bd hX
      refine z_getI (pc := 15) G kK8 (k := 3) (by decide) kt_427 dX8_fault_15 hv15 ?_
      exact z_iretX (pc := 18) hX G hr dX8_fault_18 (by decide) (by decide)
  · have hX := z_it hc1 hX
    refine z_aload_n (pc := 4) G 0 dX8_fault_4 rfl rfl ?_
    obtain ⟨x5, hv5, hX⟩ := z_bd hX
    refine z_getI (pc := 5) G kK8 (k := 2) (by decide) kt_426 dX8_fault_5 hv5 ?_
    exact z_iretX (pc := 8) hX G hr dX8_fault_8 (by decide) (by decide)
theorem dX8_ship_0 : decode cX8_ship 0 = .ok (.aload_n 0, 1) := by decide +kernel
theorem dX8_ship_1 : decode cX8_ship 1 = .ok (.getfield 27, 3) := by decide +kernel
theorem dX8_ship_4 : decode cX8_ship 4 = .ok (.iload_n 1, 1) := by decide +kernel
theorem dX8_ship_5 : decode cX8_ship 5 = .ok (.invokevirtual 127, 3) := by decide +kernel
theorem dX8_ship_8 : decode cX8_ship 8 = .ok (.ifCond .ne 5, 3) := by decide +kernel
theorem dX8_ship_11 : decode cX8_ship 11 = .ok (.iconst (-1), 1) := by decide +kernel
theorem dX8_ship_12 : decode cX8_ship 12 = .ok (.ireturn, 1) := by decide +kernel
theorem dX8_ship_13 : decode cX8_ship 13 = .ok (.iload_n 2, 1) := by decide +kernel
theorem dX8_ship_14 : decode cX8_ship 14 = .ok (.tableswitch 131 0 7 #[46, 56, 66, 76, 86, 95, 112, 122], 46) := by decide +kernel
theorem dX8_ship_60 : decode cX8_ship 60 = .ok (.aload_n 0, 1) := by decide +kernel
theorem dX8_ship_61 : decode cX8_ship 61 = .ok (.getfield 36, 3) := by decide +kernel
theorem dX8_ship_64 : decode cX8_ship 64 = .ok (.getfield 131, 3) := by decide +kernel
theorem dX8_ship_67 : decode cX8_ship 67 = .ok (.iload_n 1, 1) := by decide +kernel
theorem dX8_ship_68 : decode cX8_ship 68 = .ok (.iaload, 1) := by decide +kernel
theorem dX8_ship_69 : decode cX8_ship 69 = .ok (.ireturn, 1) := by decide +kernel
theorem dX8_ship_70 : decode cX8_ship 70 = .ok (.aload_n 0, 1) := by decide +kernel
theorem dX8_ship_71 : decode cX8_ship 71 = .ok (.getfield 36, 3) := by decide +kernel
theorem dX8_ship_74 : decode cX8_ship 74 = .ok (.getfield 134, 3) := by decide +kernel
theorem dX8_ship_77 : decode cX8_ship 77 = .ok (.iload_n 1, 1) := by decide +kernel
theorem dX8_ship_78 : decode cX8_ship 78 = .ok (.iaload, 1) := by decide +kernel
theorem dX8_ship_79 : decode cX8_ship 79 = .ok (.ireturn, 1) := by decide +kernel
theorem dX8_ship_80 : decode cX8_ship 80 = .ok (.aload_n 0, 1) := by decide +kernel
theorem dX8_ship_81 : decode cX8_ship 81 = .ok (.getfield 36, 3) := by decide +kernel
theorem dX8_ship_84 : decode cX8_ship 84 = .ok (.getfield 137, 3) := by decide +kernel
theorem dX8_ship_87 : decode cX8_ship 87 = .ok (.iload_n 1, 1) := by decide +kernel
theorem dX8_ship_88 : decode cX8_ship 88 = .ok (.iaload, 1) := by decide +kernel
theorem dX8_ship_89 : decode cX8_ship 89 = .ok (.ireturn, 1) := by decide +kernel
theorem dX8_ship_90 : decode cX8_ship 90 = .ok (.aload_n 0, 1) := by decide +kernel
theorem dX8_ship_91 : decode cX8_ship 91 = .ok (.getfield 36, 3) := by decide +kernel
theorem dX8_ship_94 : decode cX8_ship 94 = .ok (.getfield 140, 3) := by decide +kernel
theorem dX8_ship_97 : decode cX8_ship 97 = .ok (.iload_n 1, 1) := by decide +kernel
theorem dX8_ship_98 : decode cX8_ship 98 = .ok (.iaload, 1) := by decide +kernel
theorem dX8_ship_99 : decode cX8_ship 99 = .ok (.ireturn, 1) := by decide +kernel
theorem dX8_ship_100 : decode cX8_ship 100 = .ok (.aload_n 0, 1) := by decide +kernel
theorem dX8_ship_101 : decode cX8_ship 101 = .ok (.getfield 36, 3) := by decide +kernel
theorem dX8_ship_104 : decode cX8_ship 104 = .ok (.iload_n 1, 1) := by decide +kernel
theorem dX8_ship_105 : decode cX8_ship 105 = .ok (.invokevirtual 143, 3) := by decide +kernel
theorem dX8_ship_108 : decode cX8_ship 108 = .ok (.ireturn, 1) := by decide +kernel
theorem dX8_ship_109 : decode cX8_ship 109 = .ok (.aload_n 0, 1) := by decide +kernel
theorem dX8_ship_110 : decode cX8_ship 110 = .ok (.getfield 36, 3) := by decide +kernel
theorem dX8_ship_113 : decode cX8_ship 113 = .ok (.iload_n 1, 1) := by decide +kernel
theorem dX8_ship_114 : decode cX8_ship 114 = .ok (.invokevirtual 147, 3) := by decide +kernel
theorem dX8_ship_117 : decode cX8_ship 117 = .ok (.ifCond .eq 7, 3) := by decide +kernel
theorem dX8_ship_120 : decode cX8_ship 120 = .ok (.iconst 1, 1) := by decide +kernel
theorem dX8_ship_121 : decode cX8_ship 121 = .ok (.goto 4, 3) := by decide +kernel
theorem dX8_ship_124 : decode cX8_ship 124 = .ok (.iconst 0, 1) := by decide +kernel
theorem dX8_ship_125 : decode cX8_ship 125 = .ok (.ireturn, 1) := by decide +kernel
theorem dX8_ship_126 : decode cX8_ship 126 = .ok (.aload_n 0, 1) := by decide +kernel
theorem dX8_ship_127 : decode cX8_ship 127 = .ok (.getfield 36, 3) := by decide +kernel
theorem dX8_ship_130 : decode cX8_ship 130 = .ok (.getfield 150, 3) := by decide +kernel
theorem dX8_ship_133 : decode cX8_ship 133 = .ok (.iload_n 1, 1) := by decide +kernel
theorem dX8_ship_134 : decode cX8_ship 134 = .ok (.iaload, 1) := by decide +kernel
theorem dX8_ship_135 : decode cX8_ship 135 = .ok (.ireturn, 1) := by decide +kernel
theorem dX8_ship_136 : decode cX8_ship 136 = .ok (.aload_n 0, 1) := by decide +kernel
theorem dX8_ship_137 : decode cX8_ship 137 = .ok (.getfield 36, 3) := by decide +kernel
theorem dX8_ship_140 : decode cX8_ship 140 = .ok (.iload_n 1, 1) := by decide +kernel
theorem dX8_ship_141 : decode cX8_ship 141 = .ok (.invokevirtual 153, 3) := by decide +kernel
theorem dX8_ship_144 : decode cX8_ship 144 = .ok (.ireturn, 1) := by decide +kernel
theorem dX8_ship_145 : decode cX8_ship 145 = .ok (.iconst (-1), 1) := by decide +kernel
theorem dX8_ship_146 : decode cX8_ship 146 = .ok (.ireturn, 1) := by decide +kernel
theorem ydX8_ship : z_yd yX8_ship 2 := ⟨by decide, by decide, by decide +kernel⟩
abbrev rmX8_ship : Room := { frames := 3, cells := 0, slots := 0, locals := 67 }
noncomputable def xX8_ship (l0 : Nat) (l1 : Int32) (l2 : Int32) (h : ZH) : Option (Int32 × ZH) := ((z_gR h l0 8 5).bind fun x1 => (z_gu (z_is h x1 2) ((xX2_isShip x1 l1 h).bind fun r5 => (if r5.1 = 0 then some ((-1 : Int32), r5.2) else (if l2 = 0 then ((z_gR r5.2 l0 8 6).bind fun x61 => ((z_gR r5.2 x61 5 1).bind fun x64 => ((z_aI r5.2 x64 l1).bind fun x68 => some (x68, r5.2)))) else (if l2 = 1 then ((z_gR r5.2 l0 8 6).bind fun x71 => ((z_gR r5.2 x71 5 2).bind fun x74 => ((z_aI r5.2 x74 l1).bind fun x78 => some (x78, r5.2)))) else (if l2 = 2 then ((z_gR r5.2 l0 8 6).bind fun x81 => ((z_gR r5.2 x81 5 3).bind fun x84 => ((z_aI r5.2 x84 l1).bind fun x88 => some (x88, r5.2)))) else (if l2 = 3 then ((z_gR r5.2 l0 8 6).bind fun x91 => ((z_gR r5.2 x91 5 4).bind fun x94 => ((z_aI r5.2 x94 l1).bind fun x98 => some (x98, r5.2)))) else (if l2 = 4 then ((z_gR r5.2 l0 8 6).bind fun x101 => (z_gu (z_is r5.2 x101 5) ((xX5_speedOf x101 l1 r5.2).bind fun r105 => some (r105.1, r105.2)))) else (if l2 = 5 then ((z_gR r5.2 l0 8 6).bind fun x110 => (z_gu (z_is r5.2 x110 5) ((xX5_isOn x110 l1 r5.2).bind fun r114 => (if r114.1 = 0 then some ((0 : Int32), r114.2) else some ((1 : Int32), r114.2))))) else (if l2 = 6 then ((z_gR r5.2 l0 8 6).bind fun x127 => ((z_gR r5.2 x127 5 5).bind fun x130 => ((z_aI r5.2 x130 l1).bind fun x134 => some (x134, r5.2)))) else (if l2 = 7 then ((z_gR r5.2 l0 8 6).bind fun x137 => (z_gu (z_is r5.2 x137 5) ((xX5_othersHeard x137 l1 r5.2).bind fun r141 => some (r141.1, r141.2)))) else some ((-1 : Int32), r5.2)))))))))))))
set_option maxHeartbeats 4000000 in
set_option maxRecDepth 100000 in
theorem lX8_ship {Γ : ZG} {l : Launch} (hO : z_OK Γ) {l0 : Nat} {l1 : Int32} {l2 : Int32} {h : ZH} {r : (Int32 × ZH)} (hX : xX8_ship l0 l1 l2 h = some r) : z_M Γ l yX8_ship (z_ws1 yX8_ship cX8_ship 3 (some .int)) rmX8_ship [.ref l0, .int l1, .int l2] h (some (.int r.1)) r.2 := by
  refine z_start hO (plainFor_of_name (by decide)) (Nat.le_of_ble_eq_true rfl) ?_
  intro p e s m args below meth c G hr hnm
  refine z_lvc (lv2 := [(0, .ref l0), (1, .int l1), (2, .int l2)]) rfl ?_
  refine z_aload_n (pc := 0) G 0 dX8_ship_0 rfl rfl ?_
  obtain ⟨x1, hv1, hX⟩ := z_bd hX
  refine z_getR (pc := 1) G kK8 (k := 5) (by decide) kt_429 dX8_ship_1 hv1 ?_
  refine z_iload_n (pc := 4) G 1 dX8_ship_4 rfl rfl ?_
  obtain ⟨hi5, hX⟩ := z_gu_s hX
  obtain ⟨r5, hv5, hX⟩ := z_bd hX
  refine z_cVI (pc := 5) (As := [.int l1]) (c2 := 0) (s2 := 0) G kK2 (lX2_isShip hO hv5) hi5 kt_727 kt_3 kt_724 kt_725 kt_726 ydX2_isShip ⟨by decide, by decide⟩ rfl (Nat.le_of_ble_eq_true rfl) ⟨rfl, rfl⟩ ⟨by decide, by decide⟩ rfl dX8_ship_5 ?_
  refine z_if_ne (pc := 8) (tgt := 13) G dX8_ship_8 (by decide) (fun hc8 => ?_) (fun hc8 => ?_)
  · have hX := z_if hc8 hX
    refine z_iload_n (pc := 13) G 2 dX8_ship_13 rfl rfl ?_
    by_cases hs14_0 : l2 = 0
    · have hX := z_it hs14_0 hX
      refine z_tableIn (pc := 14) (off := 46) (tgt := 60) G dX8_ship_14 (by rw [hs14_0]; decide) (by rw [hs14_0]; decide) (by rw [hs14_0]; decide) (by decide) ?_
      refine z_aload_n (pc := 60) G 0 dX8_ship_60 rfl rfl ?_
      obtain ⟨x61, hv61, hX⟩ := z_bd hX
      refine z_getR (pc := 61) G kK8 (k := 6) (by decide) kt_430 dX8_ship_61 hv61 ?_
      obtain ⟨x64, hv64, hX⟩ := z_bd hX
      refine z_getR (pc := 64) G kK5 (k := 1) (by decide) kt_193 dX8_ship_64 hv64 ?_
      refine z_iload_n (pc := 67) G 1 dX8_ship_67 rfl rfl ?_
      obtain ⟨x68, hv68, hX⟩ := z_bd hX
      refine z_iald (pc := 68) G dX8_ship_68 hv68 ?_
      exact z_iretX (pc := 69) hX G hr dX8_ship_69 (by decide) (by decide)
    have hX := z_if hs14_0 hX
    by_cases hs14_1 : l2 = 1
    · have hX := z_it hs14_1 hX
      refine z_tableIn (pc := 14) (off := 56) (tgt := 70) G dX8_ship_14 (by rw [hs14_1]; decide) (by rw [hs14_1]; decide) (by rw [hs14_1]; decide) (by decide) ?_
      refine z_aload_n (pc := 70) G 0 dX8_ship_70 rfl rfl ?_
      obtain ⟨x71, hv71, hX⟩ := z_bd hX
      refine z_getR (pc := 71) G kK8 (k := 6) (by decide) kt_430 dX8_ship_71 hv71 ?_
      obtain ⟨x74, hv74, hX⟩ := z_bd hX
      refine z_getR (pc := 74) G kK5 (k := 2) (by decide) kt_197 dX8_ship_74 hv74 ?_
      refine z_iload_n (pc := 77) G 1 dX8_ship_77 rfl rfl ?_
      obtain ⟨x78, hv78, hX⟩ := z_bd hX
      refine z_iald (pc := 78) G dX8_ship_78 hv78 ?_
      exact z_iretX (pc := 79) hX G hr dX8_ship_79 (by decide) (by decide)
    have hX := z_if hs14_1 hX
    by_cases hs14_2 : l2 = 2
    · have hX := z_it hs14_2 hX
      refine z_tableIn (pc := 14) (off := 66) (tgt := 80) G dX8_ship_14 (by rw [hs14_2]; decide) (by rw [hs14_2]; decide) (by rw [hs14_2]; decide) (by decide) ?_
      refine z_aload_n (pc := 80) G 0 dX8_ship_80 rfl rfl ?_
      obtain ⟨x81, hv81, hX⟩ := z_bd hX
      refine z_getR (pc := 81) G kK8 (k := 6) (by decide) kt_430 dX8_ship_81 hv81 ?_
      obtain ⟨x84, hv84, hX⟩ := z_bd hX
      refine z_getR (pc := 84) G kK5 (k := 3) (by decide) kt_200 dX8_ship_84 hv84 ?_
      refine z_iload_n (pc := 87) G 1 dX8_ship_87 rfl rfl ?_
      obtain ⟨x88, hv88, hX⟩ := z_bd hX
      refine z_iald (pc := 88) G dX8_ship_88 hv88 ?_
      exact z_iretX (pc := 89) hX G hr dX8_ship_89 (by decide) (by decide)
    have hX := z_if hs14_2 hX
    by_cases hs14_3 : l2 = 3
    · have hX := z_it hs14_3 hX
      refine z_tableIn (pc := 14) (off := 76) (tgt := 90) G dX8_ship_14 (by rw [hs14_3]; decide) (by rw [hs14_3]; decide) (by rw [hs14_3]; decide) (by decide) ?_
      refine z_aload_n (pc := 90) G 0 dX8_ship_90 rfl rfl ?_
      obtain ⟨x91, hv91, hX⟩ := z_bd hX
      refine z_getR (pc := 91) G kK8 (k := 6) (by decide) kt_430 dX8_ship_91 hv91 ?_
      obtain ⟨x94, hv94, hX⟩ := z_bd hX
      refine z_getR (pc := 94) G kK5 (k := 4) (by decide) kt_202 dX8_ship_94 hv94 ?_
      refine z_iload_n (pc := 97) G 1 dX8_ship_97 rfl rfl ?_
      obtain ⟨x98, hv98, hX⟩ := z_bd hX
      refine z_iald (pc := 98) G dX8_ship_98 hv98 ?_
      exact z_iretX (pc := 99) hX G hr dX8_ship_99 (by decide) (by decide)
    have hX := z_if hs14_3 hX
    by_cases hs14_4 : l2 = 4
    · have hX := z_it hs14_4 hX
      refine z_tableIn (pc := 14) (off := 86) (tgt := 100) G dX8_ship_14 (by rw [hs14_4]; decide) (by rw [hs14_4]; decide) (by rw [hs14_4]; decide) (by decide) ?_
      refine z_aload_n (pc := 100) G 0 dX8_ship_100 rfl rfl ?_
      obtain ⟨x101, hv101, hX⟩ := z_bd hX
      refine z_getR (pc := 101) G kK8 (k := 6) (by decide) kt_430 dX8_ship_101 hv101 ?_
      refine z_iload_n (pc := 104) G 1 dX8_ship_104 rfl rfl ?_
      obtain ⟨hi105, hX⟩ := z_gu_s hX
      obtain ⟨r105, hv105, hX⟩ := z_bd hX
      refine z_cVI (pc := 105) (As := [.int l1]) (c2 := 0) (s2 := 0) G kK5 (lX5_speedOf hO hv105) hi105 kt_731 kt_4 kt_728 kt_729 kt_730 ydX5_speedOf ⟨by decide, by decide⟩ rfl (Nat.le_of_ble_eq_true rfl) ⟨rfl, rfl⟩ ⟨by decide, by decide⟩ rfl dX8_ship_105 ?_
      exact z_iretX (pc := 108) hX G hr dX8_ship_108 (by decide) (by decide)
    have hX := z_if hs14_4 hX
    by_cases hs14_5 : l2 = 5
    · have hX := z_it hs14_5 hX
      refine z_tableIn (pc := 14) (off := 95) (tgt := 109) G dX8_ship_14 (by rw [hs14_5]; decide) (by rw [hs14_5]; decide) (by rw [hs14_5]; decide) (by decide) ?_
      refine z_aload_n (pc := 109) G 0 dX8_ship_109 rfl rfl ?_
      obtain ⟨x110, hv110, hX⟩ := z_bd hX
      refine z_getR (pc := 110) G kK8 (k := 6) (by decide) kt_430 dX8_ship_110 hv110 ?_
      refine z_iload_n (pc := 113) G 1 dX8_ship_113 rfl rfl ?_
      obtain ⟨hi114, hX⟩ := z_gu_s hX
      obtain ⟨r114, hv114, hX⟩ := z_bd hX
      refine z_cVI (pc := 114) (As := [.int l1]) (c2 := 0) (s2 := 0) G kK5 (lX5_isOn hO hv114) hi114 kt_736 kt_4 kt_733 kt_734 kt_735 ydX5_isOn ⟨by decide, by decide⟩ rfl (Nat.le_of_ble_eq_true rfl) ⟨rfl, rfl⟩ ⟨by decide, by decide⟩ rfl dX8_ship_114 ?_
      refine z_if_eq (pc := 117) (tgt := 124) G dX8_ship_117 (by decide) (fun hc117 => ?_) (fun hc117 => ?_)
      · have hX := z_it hc117 hX
        refine z_iconst (pc := 124) (v := 0) G dX8_ship_124 (by decide) ?_
        exact z_iretX (pc := 125) hX G hr dX8_ship_125 (by decide) (by decide)
      · have hX := z_if hc117 hX
        refine z_iconst (pc := 120) (v := 1) G dX8_ship_120 (by decide) ?_
        refine z_goto (pc := 121) (tgt := 125) G dX8_ship_121 (by decide) ?_
        exact z_iretX (pc := 125) hX G hr dX8_ship_125 (by decide) (by decide)
    have hX := z_if hs14_5 hX
    by_cases hs14_6 : l2 = 6
    · have hX := z_it hs14_6 hX
      refine z_tableIn (pc := 14) (off := 112) (tgt := 126) G dX8_ship_14 (by rw [hs14_6]; decide) (by rw [hs14_6]; decide) (by rw [hs14_6]; decide) (by decide) ?_
      refine z_aload_n (pc := 126) G 0 dX8_ship_126 rfl rfl ?_
      obtain ⟨x127, hv127, hX⟩ := z_bd hX
      refine z_getR (pc := 127) G kK8 (k := 6) (by decide) kt_430 dX8_ship_127 hv127 ?_
      obtain ⟨x130, hv130, hX⟩ := z_bd hX
      refine z_getR (pc := 130) G kK5 (k := 5) (by decide) kt_205 dX8_ship_130 hv130 ?_
      refine z_iload_n (pc := 133) G 1 dX8_ship_133 rfl rfl ?_
      obtain ⟨x134, hv134, hX⟩ := z_bd hX
      refine z_iald (pc := 134) G dX8_ship_134 hv134 ?_
      exact z_iretX (pc := 135) hX G hr dX8_ship_135 (by decide) (by decide)
    have hX := z_if hs14_6 hX
    by_cases hs14_7 : l2 = 7
    · have hX := z_it hs14_7 hX
      refine z_tableIn (pc := 14) (off := 122) (tgt := 136) G dX8_ship_14 (by rw [hs14_7]; decide) (by rw [hs14_7]; decide) (by rw [hs14_7]; decide) (by decide) ?_
      refine z_aload_n (pc := 136) G 0 dX8_ship_136 rfl rfl ?_
      obtain ⟨x137, hv137, hX⟩ := z_bd hX
      refine z_getR (pc := 137) G kK8 (k := 6) (by decide) kt_430 dX8_ship_137 hv137 ?_
      refine z_iload_n (pc := 140) G 1 dX8_ship_140 rfl rfl ?_
      obtain ⟨hi141, hX⟩ := z_gu_s hX
      obtain ⟨r141, hv141, hX⟩ := z_bd hX
      refine z_cVI (pc := 141) (As := [.int l1]) (c2 := 0) (s2 := 0) G kK5 (lX5_othersHeard hO hv141) hi141 kt_740 kt_4 kt_737 kt_738 kt_739 ydX5_othersHeard ⟨by decide, by decide⟩ rfl (Nat.le_of_ble_eq_true rfl) ⟨rfl, rfl⟩ ⟨by decide, by decide⟩ rfl dX8_ship_141 ?_
      exact z_iretX (pc := 144) hX G hr dX8_ship_144 (by decide) (by decide)
    have hX := z_if hs14_7 hX
    refine z_tableOut (pc := 14) (tgt := 145) G dX8_ship_14 (z_tout 8 (by decide) (fun j hj => by
      rcases (show j = 0 ∨ j = 1 ∨ j = 2 ∨ j = 3 ∨ j = 4 ∨ j = 5 ∨ j = 6 ∨ j = 7 by omega) with rfl | rfl | rfl | rfl | rfl | rfl | rfl | rfl
      · exact fun z => hs14_0 (z.trans (by decide))
      · exact fun z => hs14_1 (z.trans (by decide))
      · exact fun z => hs14_2 (z.trans (by decide))
      · exact fun z => hs14_3 (z.trans (by decide))
      · exact fun z => hs14_4 (z.trans (by decide))
      · exact fun z => hs14_5 (z.trans (by decide))
      · exact fun z => hs14_6 (z.trans (by decide))
      · exact fun z => hs14_7 (z.trans (by decide)))) (by decide) ?_
    refine z_iconst (pc := 145) (v := (-1)) G dX8_ship_145 (by decide) ?_
    exact z_iretX (pc := 146) hX G hr dX8_ship_146 (by decide) (by decide)
  · have hX := z_it hc8 hX
    refine z_iconst (pc := 11) (v := (-1)) G dX8_ship_11 (by decide) ?_
    exact z_iretX (pc := 12) hX G hr dX8_ship_12 (by decide) (by decide)
theorem dX8_own_0 : decode cX8_own 0 = .ok (.aload_n 0, 1) := by decide +kernel
theorem dX8_own_1 : decode cX8_own 1 = .ok (.getfield 27, 3) := by decide +kernel
theorem dX8_own_4 : decode cX8_own 4 = .ok (.iload_n 1, 1) := by decide +kernel
theorem dX8_own_5 : decode cX8_own 5 = .ok (.invokevirtual 127, 3) := by decide +kernel
theorem dX8_own_8 : decode cX8_own 8 = .ok (.ifCond .eq 20, 3) := by decide +kernel
theorem dX8_own_11 : decode cX8_own 11 = .ok (.iload_n 2, 1) := by decide +kernel
theorem dX8_own_12 : decode cX8_own 12 = .ok (.ifCond .lt 16, 3) := by decide +kernel
theorem dX8_own_15 : decode cX8_own 15 = .ok (.iload_n 2, 1) := by decide +kernel
theorem dX8_own_16 : decode cX8_own 16 = .ok (.aload_n 0, 1) := by decide +kernel
theorem dX8_own_17 : decode cX8_own 17 = .ok (.getfield 36, 3) := by decide +kernel
theorem dX8_own_20 : decode cX8_own 20 = .ok (.getfield 150, 3) := by decide +kernel
theorem dX8_own_23 : decode cX8_own 23 = .ok (.iload_n 1, 1) := by decide +kernel
theorem dX8_own_24 : decode cX8_own 24 = .ok (.iaload, 1) := by decide +kernel
theorem dX8_own_25 : decode cX8_own 25 = .ok (.if_icmp .lt 5, 3) := by decide +kernel
theorem dX8_own_28 : decode cX8_own 28 = .ok (.iconst (-1), 1) := by decide +kernel
theorem dX8_own_29 : decode cX8_own 29 = .ok (.ireturn, 1) := by decide +kernel
theorem dX8_own_30 : decode cX8_own 30 = .ok (.iload_n 1, 1) := by decide +kernel
theorem dX8_own_31 : decode cX8_own 31 = .ok (.iconst 3, 1) := by decide +kernel
theorem dX8_own_32 : decode cX8_own 32 = .ok (.imul, 1) := by decide +kernel
theorem dX8_own_33 : decode cX8_own 33 = .ok (.iload_n 2, 1) := by decide +kernel
theorem dX8_own_34 : decode cX8_own 34 = .ok (.iadd, 1) := by decide +kernel
theorem dX8_own_35 : decode cX8_own 35 = .ok (.istore 4, 2) := by decide +kernel
theorem dX8_own_37 : decode cX8_own 37 = .ok (.iload_n 3, 1) := by decide +kernel
theorem dX8_own_38 : decode cX8_own 38 = .ok (.tableswitch 59 0 2 #[26, 37, 48], 26) := by decide +kernel
theorem dX8_own_64 : decode cX8_own 64 = .ok (.aload_n 0, 1) := by decide +kernel
theorem dX8_own_65 : decode cX8_own 65 = .ok (.getfield 36, 3) := by decide +kernel
theorem dX8_own_68 : decode cX8_own 68 = .ok (.getfield 156, 3) := by decide +kernel
theorem dX8_own_71 : decode cX8_own 71 = .ok (.iload 4, 2) := by decide +kernel
theorem dX8_own_73 : decode cX8_own 73 = .ok (.iaload, 1) := by decide +kernel
theorem dX8_own_74 : decode cX8_own 74 = .ok (.ireturn, 1) := by decide +kernel
theorem dX8_own_75 : decode cX8_own 75 = .ok (.aload_n 0, 1) := by decide +kernel
theorem dX8_own_76 : decode cX8_own 76 = .ok (.getfield 36, 3) := by decide +kernel
theorem dX8_own_79 : decode cX8_own 79 = .ok (.getfield 159, 3) := by decide +kernel
theorem dX8_own_82 : decode cX8_own 82 = .ok (.iload 4, 2) := by decide +kernel
theorem dX8_own_84 : decode cX8_own 84 = .ok (.iaload, 1) := by decide +kernel
theorem dX8_own_85 : decode cX8_own 85 = .ok (.ireturn, 1) := by decide +kernel
theorem dX8_own_86 : decode cX8_own 86 = .ok (.aload_n 0, 1) := by decide +kernel
theorem dX8_own_87 : decode cX8_own 87 = .ok (.getfield 36, 3) := by decide +kernel
theorem dX8_own_90 : decode cX8_own 90 = .ok (.getfield 162, 3) := by decide +kernel
theorem dX8_own_93 : decode cX8_own 93 = .ok (.iload 4, 2) := by decide +kernel
theorem dX8_own_95 : decode cX8_own 95 = .ok (.iaload, 1) := by decide +kernel
theorem dX8_own_96 : decode cX8_own 96 = .ok (.ireturn, 1) := by decide +kernel
theorem dX8_own_97 : decode cX8_own 97 = .ok (.iconst (-1), 1) := by decide +kernel
theorem dX8_own_98 : decode cX8_own 98 = .ok (.ireturn, 1) := by decide +kernel
theorem ydX8_own : z_yd yX8_own 3 := ⟨by decide, by decide, by decide +kernel⟩
abbrev rmX8_own : Room := { frames := 1, cells := 0, slots := 0, locals := 21 }
noncomputable def xX8_own (l0 : Nat) (l1 : Int32) (l2 : Int32) (l3 : Int32) (h : ZH) : Option (Int32 × ZH) := ((z_gR h l0 8 5).bind fun x1 => (z_gu (z_is h x1 2) ((xX2_isShip x1 l1 h).bind fun r5 => (if r5.1 = 0 then some ((-1 : Int32), r5.2) else (if l2 < 0 then some ((-1 : Int32), r5.2) else ((z_gR r5.2 l0 8 6).bind fun x17 => ((z_gR r5.2 x17 5 5).bind fun x20 => ((z_aI r5.2 x20 l1).bind fun x24 => (if l2 < x24 then (if l3 = 0 then ((z_gR r5.2 l0 8 6).bind fun x65 => ((z_gR r5.2 x65 5 6).bind fun x68 => ((z_aI r5.2 x68 ((l1 * (3 : Int32)) + l2)).bind fun x73 => some (x73, r5.2)))) else (if l3 = 1 then ((z_gR r5.2 l0 8 6).bind fun x76 => ((z_gR r5.2 x76 5 7).bind fun x79 => ((z_aI r5.2 x79 ((l1 * (3 : Int32)) + l2)).bind fun x84 => some (x84, r5.2)))) else (if l3 = 2 then ((z_gR r5.2 l0 8 6).bind fun x87 => ((z_gR r5.2 x87 5 8).bind fun x90 => ((z_aI r5.2 x90 ((l1 * (3 : Int32)) + l2)).bind fun x95 => some (x95, r5.2)))) else some ((-1 : Int32), r5.2)))) else some ((-1 : Int32), r5.2))))))))))
set_option maxHeartbeats 4000000 in
set_option maxRecDepth 100000 in
theorem lX8_own {Γ : ZG} {l : Launch} (hO : z_OK Γ) {l0 : Nat} {l1 : Int32} {l2 : Int32} {l3 : Int32} {h : ZH} {r : (Int32 × ZH)} (hX : xX8_own l0 l1 l2 l3 h = some r) : z_M Γ l yX8_own (z_ws1 yX8_own cX8_own 5 (some .int)) rmX8_own [.ref l0, .int l1, .int l2, .int l3] h (some (.int r.1)) r.2 := by
  refine z_start hO (plainFor_of_name (by decide)) (Nat.le_of_ble_eq_true rfl) ?_
  intro p e s m args below meth c G hr hnm
  refine z_lvc (lv2 := [(0, .ref l0), (1, .int l1), (2, .int l2), (3, .int l3)]) rfl ?_
  refine z_aload_n (pc := 0) G 0 dX8_own_0 rfl rfl ?_
  obtain ⟨x1, hv1, hX⟩ := z_bd hX
  refine z_getR (pc := 1) G kK8 (k := 5) (by decide) kt_429 dX8_own_1 hv1 ?_
  refine z_iload_n (pc := 4) G 1 dX8_own_4 rfl rfl ?_
  obtain ⟨hi5, hX⟩ := z_gu_s hX
  obtain ⟨r5, hv5, hX⟩ := z_bd hX
  refine z_cVI (pc := 5) (As := [.int l1]) (c2 := 0) (s2 := 0) G kK2 (lX2_isShip hO hv5) hi5 kt_727 kt_3 kt_724 kt_725 kt_726 ydX2_isShip ⟨by decide, by decide⟩ rfl (Nat.le_of_ble_eq_true rfl) ⟨rfl, rfl⟩ ⟨by decide, by decide⟩ rfl dX8_own_5 ?_
  refine z_if_eq (pc := 8) (tgt := 28) G dX8_own_8 (by decide) (fun hc8 => ?_) (fun hc8 => ?_)
  · have hX := z_it hc8 hX
    refine z_iconst (pc := 28) (v := (-1)) G dX8_own_28 (by decide) ?_
    exact z_iretX (pc := 29) hX G hr dX8_own_29 (by decide) (by decide)
  · have hX := z_if hc8 hX
    refine z_iload_n (pc := 11) G 2 dX8_own_11 rfl rfl ?_
    refine z_if_lt (pc := 12) (tgt := 28) G dX8_own_12 (by decide) (fun hc12 => ?_) (fun hc12 => ?_)
    · have hX := z_it hc12 hX
      refine z_iconst (pc := 28) (v := (-1)) G dX8_own_28 (by decide) ?_
      exact z_iretX (pc := 29) hX G hr dX8_own_29 (by decide) (by decide)
    · have hX := z_if hc12 hX
      refine z_iload_n (pc := 15) G 2 dX8_own_15 rfl rfl ?_
      refine z_aload_n (pc := 16) G 0 dX8_own_16 rfl rfl ?_
      obtain ⟨x17, hv17, hX⟩ := z_bd hX
      refine z_getR (pc := 17) G kK8 (k := 6) (by decide) kt_430 dX8_own_17 hv17 ?_
      obtain ⟨x20, hv20, hX⟩ := z_bd hX
      refine z_getR (pc := 20) G kK5 (k := 5) (by decide) kt_205 dX8_own_20 hv20 ?_
      refine z_iload_n (pc := 23) G 1 dX8_own_23 rfl rfl ?_
      obtain ⟨x24, hv24, hX⟩ := z_bd hX
      refine z_iald (pc := 24) G dX8_own_24 hv24 ?_
      refine z_icmp_lt (pc := 25) (tgt := 30) G dX8_own_25 (by decide) (fun hc25 => ?_) (fun hc25 => ?_)
      · have hX := z_it hc25 hX
        refine z_iload_n (pc := 30) G 1 dX8_own_30 rfl rfl ?_
        refine z_iconst (pc := 31) (v := 3) G dX8_own_31 (by decide) ?_
        refine z_imul (pc := 32) G dX8_own_32 ?_
        refine z_iload_n (pc := 33) G 2 dX8_own_33 rfl rfl ?_
        refine z_iadd (pc := 34) G dX8_own_34 ?_
        refine z_istore (pc := 35) (lv2 := [(0, .ref l0), (1, .int l1), (2, .int l2), (3, .int l3), (4, .int ((l1 * (3 : Int32)) + l2))]) G dX8_own_35 (by decide) rfl rfl ?_
        refine z_iload_n (pc := 37) G 3 dX8_own_37 rfl rfl ?_
        by_cases hs38_0 : l3 = 0
        · have hX := z_it hs38_0 hX
          refine z_tableIn (pc := 38) (off := 26) (tgt := 64) G dX8_own_38 (by rw [hs38_0]; decide) (by rw [hs38_0]; decide) (by rw [hs38_0]; decide) (by decide) ?_
          refine z_aload_n (pc := 64) G 0 dX8_own_64 rfl rfl ?_
          obtain ⟨x65, hv65, hX⟩ := z_bd hX
          refine z_getR (pc := 65) G kK8 (k := 6) (by decide) kt_430 dX8_own_65 hv65 ?_
          obtain ⟨x68, hv68, hX⟩ := z_bd hX
          refine z_getR (pc := 68) G kK5 (k := 6) (by decide) kt_208 dX8_own_68 hv68 ?_
          refine z_iload (pc := 71) G 4 dX8_own_71 rfl ?_
          obtain ⟨x73, hv73, hX⟩ := z_bd hX
          refine z_iald (pc := 73) G dX8_own_73 hv73 ?_
          exact z_iretX (pc := 74) hX G hr dX8_own_74 (by decide) (by decide)
        have hX := z_if hs38_0 hX
        by_cases hs38_1 : l3 = 1
        · have hX := z_it hs38_1 hX
          refine z_tableIn (pc := 38) (off := 37) (tgt := 75) G dX8_own_38 (by rw [hs38_1]; decide) (by rw [hs38_1]; decide) (by rw [hs38_1]; decide) (by decide) ?_
          refine z_aload_n (pc := 75) G 0 dX8_own_75 rfl rfl ?_
          obtain ⟨x76, hv76, hX⟩ := z_bd hX
          refine z_getR (pc := 76) G kK8 (k := 6) (by decide) kt_430 dX8_own_76 hv76 ?_
          obtain ⟨x79, hv79, hX⟩ := z_bd hX
          refine z_getR (pc := 79) G kK5 (k := 7) (by decide) kt_211 dX8_own_79 hv79 ?_
          refine z_iload (pc := 82) G 4 dX8_own_82 rfl ?_
          obtain ⟨x84, hv84, hX⟩ := z_bd hX
          refine z_iald (pc := 84) G dX8_own_84 hv84 ?_
          exact z_iretX (pc := 85) hX G hr dX8_own_85 (by decide) (by decide)
        have hX := z_if hs38_1 hX
        by_cases hs38_2 : l3 = 2
        · have hX := z_it hs38_2 hX
          refine z_tableIn (pc := 38) (off := 48) (tgt := 86) G dX8_own_38 (by rw [hs38_2]; decide) (by rw [hs38_2]; decide) (by rw [hs38_2]; decide) (by decide) ?_
          refine z_aload_n (pc := 86) G 0 dX8_own_86 rfl rfl ?_
          obtain ⟨x87, hv87, hX⟩ := z_bd hX
          refine z_getR (pc := 87) G kK8 (k := 6) (by decide) kt_430 dX8_own_87 hv87 ?_
          obtain ⟨x90, hv90, hX⟩ := z_bd hX
          refine z_getR (pc := 90) G kK5 (k := 8) (by decide) kt_214 dX8_own_90 hv90 ?_
          refine z_iload (pc := 93) G 4 dX8_own_93 rfl ?_
          obtain ⟨x95, hv95, hX⟩ := z_bd hX
          refine z_iald (pc := 95) G dX8_own_95 hv95 ?_
          exact z_iretX (pc := 96) hX G hr dX8_own_96 (by decide) (by decide)
        have hX := z_if hs38_2 hX
        refine z_tableOut (pc := 38) (tgt := 97) G dX8_own_38 (z_tout 3 (by decide) (fun j hj => by
          rcases (show j = 0 ∨ j = 1 ∨ j = 2 by omega) with rfl | rfl | rfl
          · exact fun z => hs38_0 (z.trans (by decide))
          · exact fun z => hs38_1 (z.trans (by decide))
          · exact fun z => hs38_2 (z.trans (by decide)))) (by decide) ?_
        refine z_iconst (pc := 97) (v := (-1)) G dX8_own_97 (by decide) ?_
        exact z_iretX (pc := 98) hX G hr dX8_own_98 (by decide) (by decide)
      · have hX := z_if hc25 hX
        refine z_iconst (pc := 28) (v := (-1)) G dX8_own_28 (by decide) ?_
        exact z_iretX (pc := 29) hX G hr dX8_own_29 (by decide) (by decide)
theorem dX8_map_0 : decode cX8_map 0 = .ok (.aload_n 0, 1) := by decide +kernel
theorem dX8_map_1 : decode cX8_map 1 = .ok (.getfield 27, 3) := by decide +kernel
theorem dX8_map_4 : decode cX8_map 4 = .ok (.iload_n 1, 1) := by decide +kernel
theorem dX8_map_5 : decode cX8_map 5 = .ok (.invokevirtual 127, 3) := by decide +kernel
theorem dX8_map_8 : decode cX8_map 8 = .ok (.ifCond .eq 14, 3) := by decide +kernel
theorem dX8_map_11 : decode cX8_map 11 = .ok (.aload_n 0, 1) := by decide +kernel
theorem dX8_map_12 : decode cX8_map 12 = .ok (.getfield 27, 3) := by decide +kernel
theorem dX8_map_15 : decode cX8_map 15 = .ok (.iload_n 2, 1) := by decide +kernel
theorem dX8_map_16 : decode cX8_map 16 = .ok (.invokevirtual 165, 3) := by decide +kernel
theorem dX8_map_19 : decode cX8_map 19 = .ok (.ifCond .ne 6, 3) := by decide +kernel
theorem dX8_map_22 : decode cX8_map 22 = .ok (.bipush (-2), 2) := by decide +kernel
theorem dX8_map_24 : decode cX8_map 24 = .ok (.ireturn, 1) := by decide +kernel
theorem dX8_map_25 : decode cX8_map 25 = .ok (.iload_n 1, 1) := by decide +kernel
theorem dX8_map_26 : decode cX8_map 26 = .ok (.bipush 30, 2) := by decide +kernel
theorem dX8_map_28 : decode cX8_map 28 = .ok (.imul, 1) := by decide +kernel
theorem dX8_map_29 : decode cX8_map 29 = .ok (.iload_n 2, 1) := by decide +kernel
theorem dX8_map_30 : decode cX8_map 30 = .ok (.iadd, 1) := by decide +kernel
theorem dX8_map_31 : decode cX8_map 31 = .ok (.istore 4, 2) := by decide +kernel
theorem dX8_map_33 : decode cX8_map 33 = .ok (.iload_n 3, 1) := by decide +kernel
theorem dX8_map_34 : decode cX8_map 34 = .ok (.ifCond .ne 14, 3) := by decide +kernel
theorem dX8_map_37 : decode cX8_map 37 = .ok (.aload_n 0, 1) := by decide +kernel
theorem dX8_map_38 : decode cX8_map 38 = .ok (.getfield 36, 3) := by decide +kernel
theorem dX8_map_41 : decode cX8_map 41 = .ok (.getfield 168, 3) := by decide +kernel
theorem dX8_map_44 : decode cX8_map 44 = .ok (.iload 4, 2) := by decide +kernel
theorem dX8_map_46 : decode cX8_map 46 = .ok (.iaload, 1) := by decide +kernel
theorem dX8_map_47 : decode cX8_map 47 = .ok (.ireturn, 1) := by decide +kernel
theorem dX8_map_48 : decode cX8_map 48 = .ok (.iload_n 3, 1) := by decide +kernel
theorem dX8_map_49 : decode cX8_map 49 = .ok (.iconst 1, 1) := by decide +kernel
theorem dX8_map_50 : decode cX8_map 50 = .ok (.if_icmp .ne 14, 3) := by decide +kernel
theorem dX8_map_53 : decode cX8_map 53 = .ok (.aload_n 0, 1) := by decide +kernel
theorem dX8_map_54 : decode cX8_map 54 = .ok (.getfield 36, 3) := by decide +kernel
theorem dX8_map_57 : decode cX8_map 57 = .ok (.getfield 171, 3) := by decide +kernel
theorem dX8_map_60 : decode cX8_map 60 = .ok (.iload 4, 2) := by decide +kernel
theorem dX8_map_62 : decode cX8_map 62 = .ok (.iaload, 1) := by decide +kernel
theorem dX8_map_63 : decode cX8_map 63 = .ok (.ireturn, 1) := by decide +kernel
theorem dX8_map_64 : decode cX8_map 64 = .ok (.bipush (-2), 2) := by decide +kernel
theorem dX8_map_66 : decode cX8_map 66 = .ok (.ireturn, 1) := by decide +kernel
theorem ydX8_map : z_yd yX8_map 3 := ⟨by decide, by decide, by decide +kernel⟩
abbrev rmX8_map : Room := { frames := 1, cells := 0, slots := 0, locals := 21 }
noncomputable def xX8_map (l0 : Nat) (l1 : Int32) (l2 : Int32) (l3 : Int32) (h : ZH) : Option (Int32 × ZH) := ((z_gR h l0 8 5).bind fun x1 => (z_gu (z_is h x1 2) ((xX2_isShip x1 l1 h).bind fun r5 => (if r5.1 = 0 then some ((-2 : Int32), r5.2) else ((z_gR r5.2 l0 8 5).bind fun x12 => (z_gu (z_is r5.2 x12 2) ((xX2_isSlot x12 l2 r5.2).bind fun r16 => (if r16.1 = 0 then some ((-2 : Int32), r16.2) else (if l3 = 0 then ((z_gR r16.2 l0 8 6).bind fun x38 => ((z_gR r16.2 x38 5 9).bind fun x41 => ((z_aI r16.2 x41 ((l1 * (30 : Int32)) + l2)).bind fun x46 => some (x46, r16.2)))) else (if l3 = (1 : Int32) then ((z_gR r16.2 l0 8 6).bind fun x54 => ((z_gR r16.2 x54 5 10).bind fun x57 => ((z_aI r16.2 x57 ((l1 * (30 : Int32)) + l2)).bind fun x62 => some (x62, r16.2)))) else some ((-2 : Int32), r16.2)))))))))))
set_option maxHeartbeats 4000000 in
set_option maxRecDepth 100000 in
theorem lX8_map {Γ : ZG} {l : Launch} (hO : z_OK Γ) {l0 : Nat} {l1 : Int32} {l2 : Int32} {l3 : Int32} {h : ZH} {r : (Int32 × ZH)} (hX : xX8_map l0 l1 l2 l3 h = some r) : z_M Γ l yX8_map (z_ws1 yX8_map cX8_map 5 (some .int)) rmX8_map [.ref l0, .int l1, .int l2, .int l3] h (some (.int r.1)) r.2 := by
  refine z_start hO (plainFor_of_name (by decide)) (Nat.le_of_ble_eq_true rfl) ?_
  intro p e s m args below meth c G hr hnm
  refine z_lvc (lv2 := [(0, .ref l0), (1, .int l1), (2, .int l2), (3, .int l3)]) rfl ?_
  refine z_aload_n (pc := 0) G 0 dX8_map_0 rfl rfl ?_
  obtain ⟨x1, hv1, hX⟩ := z_bd hX
  refine z_getR (pc := 1) G kK8 (k := 5) (by decide) kt_429 dX8_map_1 hv1 ?_
  refine z_iload_n (pc := 4) G 1 dX8_map_4 rfl rfl ?_
  obtain ⟨hi5, hX⟩ := z_gu_s hX
  obtain ⟨r5, hv5, hX⟩ := z_bd hX
  refine z_cVI (pc := 5) (As := [.int l1]) (c2 := 0) (s2 := 0) G kK2 (lX2_isShip hO hv5) hi5 kt_727 kt_3 kt_724 kt_725 kt_726 ydX2_isShip ⟨by decide, by decide⟩ rfl (Nat.le_of_ble_eq_true rfl) ⟨rfl, rfl⟩ ⟨by decide, by decide⟩ rfl dX8_map_5 ?_
  refine z_if_eq (pc := 8) (tgt := 22) G dX8_map_8 (by decide) (fun hc8 => ?_) (fun hc8 => ?_)
  · have hX := z_it hc8 hX
    refine z_bipush (pc := 22) (v := (-2)) G dX8_map_22 (by decide) ?_
    exact z_iretX (pc := 24) hX G hr dX8_map_24 (by decide) (by decide)
  · have hX := z_if hc8 hX
    refine z_aload_n (pc := 11) G 0 dX8_map_11 rfl rfl ?_
    obtain ⟨x12, hv12, hX⟩ := z_bd hX
    refine z_getR (pc := 12) G kK8 (k := 5) (by decide) kt_429 dX8_map_12 hv12 ?_
    refine z_iload_n (pc := 15) G 2 dX8_map_15 rfl rfl ?_
    obtain ⟨hi16, hX⟩ := z_gu_s hX
    obtain ⟨r16, hv16, hX⟩ := z_bd hX
    refine z_cVI (pc := 16) (As := [.int l2]) (c2 := 0) (s2 := 0) G kK2 (lX2_isSlot hO hv16) hi16 kt_766 kt_3 kt_763 kt_764 kt_765 ydX2_isSlot ⟨by decide, by decide⟩ rfl (Nat.le_of_ble_eq_true rfl) ⟨rfl, rfl⟩ ⟨by decide, by decide⟩ rfl dX8_map_16 ?_
    refine z_if_ne (pc := 19) (tgt := 25) G dX8_map_19 (by decide) (fun hc19 => ?_) (fun hc19 => ?_)
    · have hX := z_if hc19 hX
      refine z_iload_n (pc := 25) G 1 dX8_map_25 rfl rfl ?_
      refine z_bipush (pc := 26) (v := 30) G dX8_map_26 (by decide) ?_
      refine z_imul (pc := 28) G dX8_map_28 ?_
      refine z_iload_n (pc := 29) G 2 dX8_map_29 rfl rfl ?_
      refine z_iadd (pc := 30) G dX8_map_30 ?_
      refine z_istore (pc := 31) (lv2 := [(0, .ref l0), (1, .int l1), (2, .int l2), (3, .int l3), (4, .int ((l1 * (30 : Int32)) + l2))]) G dX8_map_31 (by decide) rfl rfl ?_
      refine z_iload_n (pc := 33) G 3 dX8_map_33 rfl rfl ?_
      refine z_if_ne (pc := 34) (tgt := 48) G dX8_map_34 (by decide) (fun hc34 => ?_) (fun hc34 => ?_)
      · have hX := z_if hc34 hX
        refine z_iload_n (pc := 48) G 3 dX8_map_48 rfl rfl ?_
        refine z_iconst (pc := 49) (v := 1) G dX8_map_49 (by decide) ?_
        refine z_icmp_ne (pc := 50) (tgt := 64) G dX8_map_50 (by decide) (fun hc50 => ?_) (fun hc50 => ?_)
        · have hX := z_if hc50 hX
          refine z_bipush (pc := 64) (v := (-2)) G dX8_map_64 (by decide) ?_
          exact z_iretX (pc := 66) hX G hr dX8_map_66 (by decide) (by decide)
        · have hX := z_it hc50 hX
          refine z_aload_n (pc := 53) G 0 dX8_map_53 rfl rfl ?_
          obtain ⟨x54, hv54, hX⟩ := z_bd hX
          refine z_getR (pc := 54) G kK8 (k := 6) (by decide) kt_430 dX8_map_54 hv54 ?_
          obtain ⟨x57, hv57, hX⟩ := z_bd hX
          refine z_getR (pc := 57) G kK5 (k := 10) (by decide) kt_218 dX8_map_57 hv57 ?_
          refine z_iload (pc := 60) G 4 dX8_map_60 rfl ?_
          obtain ⟨x62, hv62, hX⟩ := z_bd hX
          refine z_iald (pc := 62) G dX8_map_62 hv62 ?_
          exact z_iretX (pc := 63) hX G hr dX8_map_63 (by decide) (by decide)
      · have hX := z_it hc34 hX
        refine z_aload_n (pc := 37) G 0 dX8_map_37 rfl rfl ?_
        obtain ⟨x38, hv38, hX⟩ := z_bd hX
        refine z_getR (pc := 38) G kK8 (k := 6) (by decide) kt_430 dX8_map_38 hv38 ?_
        obtain ⟨x41, hv41, hX⟩ := z_bd hX
        refine z_getR (pc := 41) G kK5 (k := 9) (by decide) kt_216 dX8_map_41 hv41 ?_
        refine z_iload (pc := 44) G 4 dX8_map_44 rfl ?_
        obtain ⟨x46, hv46, hX⟩ := z_bd hX
        refine z_iald (pc := 46) G dX8_map_46 hv46 ?_
        exact z_iretX (pc := 47) hX G hr dX8_map_47 (by decide) (by decide)
    · have hX := z_it hc19 hX
      refine z_bipush (pc := 22) (v := (-2)) G dX8_map_22 (by decide) ?_
      exact z_iretX (pc := 24) hX G hr dX8_map_24 (by decide) (by decide)
theorem dX8_known_0 : decode cX8_known 0 = .ok (.aload_n 0, 1) := by decide +kernel
theorem dX8_known_1 : decode cX8_known 1 = .ok (.getfield 27, 3) := by decide +kernel
theorem dX8_known_4 : decode cX8_known 4 = .ok (.iload_n 1, 1) := by decide +kernel
theorem dX8_known_5 : decode cX8_known 5 = .ok (.iload_n 2, 1) := by decide +kernel
theorem dX8_known_6 : decode cX8_known 6 = .ok (.invokevirtual 174, 3) := by decide +kernel
theorem dX8_known_9 : decode cX8_known 9 = .ok (.ifCond .ne 5, 3) := by decide +kernel
theorem dX8_known_12 : decode cX8_known 12 = .ok (.iconst (-1), 1) := by decide +kernel
theorem dX8_known_13 : decode cX8_known 13 = .ok (.ireturn, 1) := by decide +kernel
theorem dX8_known_14 : decode cX8_known 14 = .ok (.iload_n 1, 1) := by decide +kernel
theorem dX8_known_15 : decode cX8_known 15 = .ok (.bipush 6, 2) := by decide +kernel
theorem dX8_known_17 : decode cX8_known 17 = .ok (.imul, 1) := by decide +kernel
theorem dX8_known_18 : decode cX8_known 18 = .ok (.iload_n 2, 1) := by decide +kernel
theorem dX8_known_19 : decode cX8_known 19 = .ok (.iadd, 1) := by decide +kernel
theorem dX8_known_20 : decode cX8_known 20 = .ok (.istore 4, 2) := by decide +kernel
theorem dX8_known_22 : decode cX8_known 22 = .ok (.iload_n 3, 1) := by decide +kernel
theorem dX8_known_23 : decode cX8_known 23 = .ok (.ifCond .ne 14, 3) := by decide +kernel
theorem dX8_known_26 : decode cX8_known 26 = .ok (.aload_n 0, 1) := by decide +kernel
theorem dX8_known_27 : decode cX8_known 27 = .ok (.getfield 36, 3) := by decide +kernel
theorem dX8_known_30 : decode cX8_known 30 = .ok (.getfield 178, 3) := by decide +kernel
theorem dX8_known_33 : decode cX8_known 33 = .ok (.iload 4, 2) := by decide +kernel
theorem dX8_known_35 : decode cX8_known 35 = .ok (.iaload, 1) := by decide +kernel
theorem dX8_known_36 : decode cX8_known 36 = .ok (.ireturn, 1) := by decide +kernel
theorem dX8_known_37 : decode cX8_known 37 = .ok (.iload_n 3, 1) := by decide +kernel
theorem dX8_known_38 : decode cX8_known 38 = .ok (.iconst 1, 1) := by decide +kernel
theorem dX8_known_39 : decode cX8_known 39 = .ok (.if_icmp .ne 14, 3) := by decide +kernel
theorem dX8_known_42 : decode cX8_known 42 = .ok (.aload_n 0, 1) := by decide +kernel
theorem dX8_known_43 : decode cX8_known 43 = .ok (.getfield 36, 3) := by decide +kernel
theorem dX8_known_46 : decode cX8_known 46 = .ok (.getfield 181, 3) := by decide +kernel
theorem dX8_known_49 : decode cX8_known 49 = .ok (.iload 4, 2) := by decide +kernel
theorem dX8_known_51 : decode cX8_known 51 = .ok (.iaload, 1) := by decide +kernel
theorem dX8_known_52 : decode cX8_known 52 = .ok (.ireturn, 1) := by decide +kernel
theorem dX8_known_53 : decode cX8_known 53 = .ok (.iconst (-1), 1) := by decide +kernel
theorem dX8_known_54 : decode cX8_known 54 = .ok (.ireturn, 1) := by decide +kernel
theorem ydX8_known : z_yd yX8_known 3 := ⟨by decide, by decide, by decide +kernel⟩
abbrev rmX8_known : Room := { frames := 2, cells := 0, slots := 0, locals := 43 }
noncomputable def xX8_known (l0 : Nat) (l1 : Int32) (l2 : Int32) (l3 : Int32) (h : ZH) : Option (Int32 × ZH) := ((z_gR h l0 8 5).bind fun x1 => (z_gu (z_is h x1 2) ((xX2_areTwo x1 l1 l2 h).bind fun r6 => (if r6.1 = 0 then some ((-1 : Int32), r6.2) else (if l3 = 0 then ((z_gR r6.2 l0 8 6).bind fun x27 => ((z_gR r6.2 x27 5 11).bind fun x30 => ((z_aI r6.2 x30 ((l1 * (6 : Int32)) + l2)).bind fun x35 => some (x35, r6.2)))) else (if l3 = (1 : Int32) then ((z_gR r6.2 l0 8 6).bind fun x43 => ((z_gR r6.2 x43 5 12).bind fun x46 => ((z_aI r6.2 x46 ((l1 * (6 : Int32)) + l2)).bind fun x51 => some (x51, r6.2)))) else some ((-1 : Int32), r6.2)))))))
set_option maxHeartbeats 4000000 in
set_option maxRecDepth 100000 in
theorem lX8_known {Γ : ZG} {l : Launch} (hO : z_OK Γ) {l0 : Nat} {l1 : Int32} {l2 : Int32} {l3 : Int32} {h : ZH} {r : (Int32 × ZH)} (hX : xX8_known l0 l1 l2 l3 h = some r) : z_M Γ l yX8_known (z_ws1 yX8_known cX8_known 5 (some .int)) rmX8_known [.ref l0, .int l1, .int l2, .int l3] h (some (.int r.1)) r.2 := by
  refine z_start hO (plainFor_of_name (by decide)) (Nat.le_of_ble_eq_true rfl) ?_
  intro p e s m args below meth c G hr hnm
  refine z_lvc (lv2 := [(0, .ref l0), (1, .int l1), (2, .int l2), (3, .int l3)]) rfl ?_
  refine z_aload_n (pc := 0) G 0 dX8_known_0 rfl rfl ?_
  obtain ⟨x1, hv1, hX⟩ := z_bd hX
  refine z_getR (pc := 1) G kK8 (k := 5) (by decide) kt_429 dX8_known_1 hv1 ?_
  refine z_iload_n (pc := 4) G 1 dX8_known_4 rfl rfl ?_
  refine z_iload_n (pc := 5) G 2 dX8_known_5 rfl rfl ?_
  obtain ⟨hi6, hX⟩ := z_gu_s hX
  obtain ⟨r6, hv6, hX⟩ := z_bd hX
  refine z_cVI (pc := 6) (As := [.int l1, .int l2]) (c2 := 0) (s2 := 0) G kK2 (lX2_areTwo hO hv6) hi6 kt_774 kt_3 kt_771 kt_772 kt_773 ydX2_areTwo ⟨by decide, by decide⟩ rfl (Nat.le_of_ble_eq_true rfl) ⟨rfl, rfl⟩ ⟨by decide, by decide⟩ rfl dX8_known_6 ?_
  refine z_if_ne (pc := 9) (tgt := 14) G dX8_known_9 (by decide) (fun hc9 => ?_) (fun hc9 => ?_)
  · have hX := z_if hc9 hX
    refine z_iload_n (pc := 14) G 1 dX8_known_14 rfl rfl ?_
    refine z_bipush (pc := 15) (v := 6) G dX8_known_15 (by decide) ?_
    refine z_imul (pc := 17) G dX8_known_17 ?_
    refine z_iload_n (pc := 18) G 2 dX8_known_18 rfl rfl ?_
    refine z_iadd (pc := 19) G dX8_known_19 ?_
    refine z_istore (pc := 20) (lv2 := [(0, .ref l0), (1, .int l1), (2, .int l2), (3, .int l3), (4, .int ((l1 * (6 : Int32)) + l2))]) G dX8_known_20 (by decide) rfl rfl ?_
    refine z_iload_n (pc := 22) G 3 dX8_known_22 rfl rfl ?_
    refine z_if_ne (pc := 23) (tgt := 37) G dX8_known_23 (by decide) (fun hc23 => ?_) (fun hc23 => ?_)
    · have hX := z_if hc23 hX
      refine z_iload_n (pc := 37) G 3 dX8_known_37 rfl rfl ?_
      refine z_iconst (pc := 38) (v := 1) G dX8_known_38 (by decide) ?_
      refine z_icmp_ne (pc := 39) (tgt := 53) G dX8_known_39 (by decide) (fun hc39 => ?_) (fun hc39 => ?_)
      · have hX := z_if hc39 hX
        refine z_iconst (pc := 53) (v := (-1)) G dX8_known_53 (by decide) ?_
        exact z_iretX (pc := 54) hX G hr dX8_known_54 (by decide) (by decide)
      · have hX := z_it hc39 hX
        refine z_aload_n (pc := 42) G 0 dX8_known_42 rfl rfl ?_
        obtain ⟨x43, hv43, hX⟩ := z_bd hX
        refine z_getR (pc := 43) G kK8 (k := 6) (by decide) kt_430 dX8_known_43 hv43 ?_
        obtain ⟨x46, hv46, hX⟩ := z_bd hX
        refine z_getR (pc := 46) G kK5 (k := 12) (by decide) kt_226 dX8_known_46 hv46 ?_
        refine z_iload (pc := 49) G 4 dX8_known_49 rfl ?_
        obtain ⟨x51, hv51, hX⟩ := z_bd hX
        refine z_iald (pc := 51) G dX8_known_51 hv51 ?_
        exact z_iretX (pc := 52) hX G hr dX8_known_52 (by decide) (by decide)
    · have hX := z_it hc23 hX
      refine z_aload_n (pc := 26) G 0 dX8_known_26 rfl rfl ?_
      obtain ⟨x27, hv27, hX⟩ := z_bd hX
      refine z_getR (pc := 27) G kK8 (k := 6) (by decide) kt_430 dX8_known_27 hv27 ?_
      obtain ⟨x30, hv30, hX⟩ := z_bd hX
      refine z_getR (pc := 30) G kK5 (k := 11) (by decide) kt_222 dX8_known_30 hv30 ?_
      refine z_iload (pc := 33) G 4 dX8_known_33 rfl ?_
      obtain ⟨x35, hv35, hX⟩ := z_bd hX
      refine z_iald (pc := 35) G dX8_known_35 hv35 ?_
      exact z_iretX (pc := 36) hX G hr dX8_known_36 (by decide) (by decide)
  · have hX := z_it hc9 hX
    refine z_iconst (pc := 12) (v := (-1)) G dX8_known_12 (by decide) ?_
    exact z_iretX (pc := 13) hX G hr dX8_known_13 (by decide) (by decide)
theorem dX8_far_0 : decode cX8_far 0 = .ok (.aload_n 0, 1) := by decide +kernel
theorem dX8_far_1 : decode cX8_far 1 = .ok (.getfield 27, 3) := by decide +kernel
theorem dX8_far_4 : decode cX8_far 4 = .ok (.iload_n 1, 1) := by decide +kernel
theorem dX8_far_5 : decode cX8_far 5 = .ok (.invokevirtual 127, 3) := by decide +kernel
theorem dX8_far_8 : decode cX8_far 8 = .ok (.ifCond .eq 14, 3) := by decide +kernel
theorem dX8_far_11 : decode cX8_far 11 = .ok (.aload_n 0, 1) := by decide +kernel
theorem dX8_far_12 : decode cX8_far 12 = .ok (.getfield 27, 3) := by decide +kernel
theorem dX8_far_15 : decode cX8_far 15 = .ok (.iload_n 2, 1) := by decide +kernel
theorem dX8_far_16 : decode cX8_far 16 = .ok (.invokevirtual 127, 3) := by decide +kernel
theorem dX8_far_19 : decode cX8_far 19 = .ok (.ifCond .ne 5, 3) := by decide +kernel
theorem dX8_far_22 : decode cX8_far 22 = .ok (.iconst (-1), 1) := by decide +kernel
theorem dX8_far_23 : decode cX8_far 23 = .ok (.ireturn, 1) := by decide +kernel
theorem dX8_far_24 : decode cX8_far 24 = .ok (.aload_n 0, 1) := by decide +kernel
theorem dX8_far_25 : decode cX8_far 25 = .ok (.getfield 36, 3) := by decide +kernel
theorem dX8_far_28 : decode cX8_far 28 = .ok (.iload_n 1, 1) := by decide +kernel
theorem dX8_far_29 : decode cX8_far 29 = .ok (.iload_n 2, 1) := by decide +kernel
theorem dX8_far_30 : decode cX8_far 30 = .ok (.invokevirtual 184, 3) := by decide +kernel
theorem dX8_far_33 : decode cX8_far 33 = .ok (.ireturn, 1) := by decide +kernel
theorem ydX8_far : z_yd yX8_far 2 := ⟨by decide, by decide, by decide +kernel⟩
abbrev rmX8_far : Room := { frames := 2, cells := 0, slots := 0, locals := 42 }
noncomputable def xX8_far (l0 : Nat) (l1 : Int32) (l2 : Int32) (h : ZH) : Option (Int32 × ZH) := ((z_gR h l0 8 5).bind fun x1 => (z_gu (z_is h x1 2) ((xX2_isShip x1 l1 h).bind fun r5 => (if r5.1 = 0 then some ((-1 : Int32), r5.2) else ((z_gR r5.2 l0 8 5).bind fun x12 => (z_gu (z_is r5.2 x12 2) ((xX2_isShip x12 l2 r5.2).bind fun r16 => (if r16.1 = 0 then some ((-1 : Int32), r16.2) else ((z_gR r16.2 l0 8 6).bind fun x25 => (z_gu (z_is r16.2 x25 5) ((xX5_distance x25 l1 l2 r16.2).bind fun r30 => some (r30.1, r30.2))))))))))))
set_option maxHeartbeats 4000000 in
set_option maxRecDepth 100000 in
theorem lX8_far {Γ : ZG} {l : Launch} (hO : z_OK Γ) {l0 : Nat} {l1 : Int32} {l2 : Int32} {h : ZH} {r : (Int32 × ZH)} (hX : xX8_far l0 l1 l2 h = some r) : z_M Γ l yX8_far (z_ws1 yX8_far cX8_far 3 (some .int)) rmX8_far [.ref l0, .int l1, .int l2] h (some (.int r.1)) r.2 := by
  refine z_start hO (plainFor_of_name (by decide)) (Nat.le_of_ble_eq_true rfl) ?_
  intro p e s m args below meth c G hr hnm
  refine z_lvc (lv2 := [(0, .ref l0), (1, .int l1), (2, .int l2)]) rfl ?_
  refine z_aload_n (pc := 0) G 0 dX8_far_0 rfl rfl ?_
  obtain ⟨x1, hv1, hX⟩ := z_bd hX
  refine z_getR (pc := 1) G kK8 (k := 5) (by decide) kt_429 dX8_far_1 hv1 ?_
  refine z_iload_n (pc := 4) G 1 dX8_far_4 rfl rfl ?_
  obtain ⟨hi5, hX⟩ := z_gu_s hX
  obtain ⟨r5, hv5, hX⟩ := z_bd hX
  refine z_cVI (pc := 5) (As := [.int l1]) (c2 := 0) (s2 := 0) G kK2 (lX2_isShip hO hv5) hi5 kt_727 kt_3 kt_724 kt_725 kt_726 ydX2_isShip ⟨by decide, by decide⟩ rfl (Nat.le_of_ble_eq_true rfl) ⟨rfl, rfl⟩ ⟨by decide, by decide⟩ rfl dX8_far_5 ?_
  refine z_if_eq (pc := 8) (tgt := 22) G dX8_far_8 (by decide) (fun hc8 => ?_) (fun hc8 => ?_)
  · have hX := z_it hc8 hX
    refine z_iconst (pc := 22) (v := (-1)) G dX8_far_22 (by decide) ?_
    exact z_iretX (pc := 23) hX G hr dX8_far_23 (by decide) (by decide)
  · have hX := z_if hc8 hX
    refine z_aload_n (pc := 11) G 0 dX8_far_11 rfl rfl ?_
    obtain ⟨x12, hv12, hX⟩ := z_bd hX
    refine z_getR (pc := 12) G kK8 (k := 5) (by decide) kt_429 dX8_far_12 hv12 ?_
    refine z_iload_n (pc := 15) G 2 dX8_far_15 rfl rfl ?_
    obtain ⟨hi16, hX⟩ := z_gu_s hX
    obtain ⟨r16, hv16, hX⟩ := z_bd hX
    refine z_cVI (pc := 16) (As := [.int l2]) (c2 := 0) (s2 := 0) G kK2 (lX2_isShip hO hv16) hi16 kt_727 kt_3 kt_724 kt_725 kt_726 ydX2_isShip ⟨by decide, by decide⟩ rfl (Nat.le_of_ble_eq_true rfl) ⟨rfl, rfl⟩ ⟨by decide, by decide⟩ rfl dX8_far_16 ?_
    refine z_if_ne (pc := 19) (tgt := 24) G dX8_far_19 (by decide) (fun hc19 => ?_) (fun hc19 => ?_)
    · have hX := z_if hc19 hX
      refine z_aload_n (pc := 24) G 0 dX8_far_24 rfl rfl ?_
      obtain ⟨x25, hv25, hX⟩ := z_bd hX
      refine z_getR (pc := 25) G kK8 (k := 6) (by decide) kt_430 dX8_far_25 hv25 ?_
      refine z_iload_n (pc := 28) G 1 dX8_far_28 rfl rfl ?_
      refine z_iload_n (pc := 29) G 2 dX8_far_29 rfl rfl ?_
      obtain ⟨hi30, hX⟩ := z_gu_s hX
      obtain ⟨r30, hv30, hX⟩ := z_bd hX
      refine z_cVI (pc := 30) (As := [.int l1, .int l2]) (c2 := 0) (s2 := 0) G kK5 (lX5_distance hO hv30) hi30 kt_783 kt_4 kt_780 kt_781 kt_782 ydX5_distance ⟨by decide, by decide⟩ rfl (Nat.le_of_ble_eq_true rfl) ⟨rfl, rfl⟩ ⟨by decide, by decide⟩ rfl dX8_far_30 ?_
      exact z_iretX (pc := 33) hX G hr dX8_far_33 (by decide) (by decide)
    · have hX := z_it hc19 hX
      refine z_iconst (pc := 22) (v := (-1)) G dX8_far_22 (by decide) ?_
      exact z_iretX (pc := 23) hX G hr dX8_far_23 (by decide) (by decide)
theorem dX8_step_0 : decode cX8_step 0 = .ok (.aload_n 0, 1) := by decide +kernel
theorem dX8_step_1 : decode cX8_step 1 = .ok (.getfield 36, 3) := by decide +kernel
theorem dX8_step_4 : decode cX8_step 4 = .ok (.getfield 188, 3) := by decide +kernel
theorem dX8_step_7 : decode cX8_step 7 = .ok (.bipush 99, 2) := by decide +kernel
theorem dX8_step_9 : decode cX8_step 9 = .ok (.if_icmp .le 5, 3) := by decide +kernel
theorem dX8_step_12 : decode cX8_step 12 = .ok (.iconst (-1), 1) := by decide +kernel
theorem dX8_step_13 : decode cX8_step 13 = .ok (.ireturn, 1) := by decide +kernel
theorem dX8_step_14 : decode cX8_step 14 = .ok (.aload_n 0, 1) := by decide +kernel
theorem dX8_step_15 : decode cX8_step 15 = .ok (.getfield 67, 3) := by decide +kernel
theorem dX8_step_18 : decode cX8_step 18 = .ok (.aload_n 0, 1) := by decide +kernel
theorem dX8_step_19 : decode cX8_step 19 = .ok (.getfield 36, 3) := by decide +kernel
theorem dX8_step_22 : decode cX8_step 22 = .ok (.invokevirtual 191, 3) := by decide +kernel
theorem dX8_step_25 : decode cX8_step 25 = .ok (.aload_n 0, 1) := by decide +kernel
theorem dX8_step_26 : decode cX8_step 26 = .ok (.getfield 53, 3) := by decide +kernel
theorem dX8_step_29 : decode cX8_step 29 = .ok (.aload_n 0, 1) := by decide +kernel
theorem dX8_step_30 : decode cX8_step 30 = .ok (.getfield 36, 3) := by decide +kernel
theorem dX8_step_33 : decode cX8_step 33 = .ok (.invokevirtual 195, 3) := by decide +kernel
theorem dX8_step_36 : decode cX8_step 36 = .ok (.ireturn, 1) := by decide +kernel
theorem ydX8_step : z_yd yX8_step 0 := ⟨by decide, by decide, by decide +kernel⟩
abbrev rmX8_step : Room := { frames := 7, cells := 13, slots := 534, locals := 177 }
noncomputable def xX8_step (l0 : Nat) (h : ZH) : Option (Int32 × ZH) := ((z_gR h l0 8 6).bind fun x1 => ((z_gI h x1 5 15).bind fun x4 => (if x4 ≤ (99 : Int32) then ((z_gR h l0 8 11).bind fun x15 => ((z_gR h l0 8 6).bind fun x19 => (z_gu (z_is h x15 1) ((xX1_keep x15 x19 h).bind fun h22 => ((z_gR h22 l0 8 9).bind fun x26 => ((z_gR h22 l0 8 6).bind fun x30 => (z_gu (z_is h22 x26 6) ((xX6_go x26 x30 h22).bind fun r33 => some (r33.1, r33.2))))))))) else some ((-1 : Int32), h))))
set_option maxHeartbeats 4000000 in
set_option maxRecDepth 100000 in
theorem lX8_step {Γ : ZG} {l : Launch} (hO : z_OK Γ) {l0 : Nat} {h : ZH} {r : (Int32 × ZH)} (hX : xX8_step l0 h = some r) : z_M Γ l yX8_step (z_ws1 yX8_step cX8_step 1 (some .int)) rmX8_step [.ref l0] h (some (.int r.1)) r.2 := by
  refine z_start hO (plainFor_of_name (by decide)) (Nat.le_of_ble_eq_true rfl) ?_
  intro p e s m args below meth c G hr hnm
  refine z_lvc (lv2 := [(0, .ref l0)]) rfl ?_
  refine z_aload_n (pc := 0) G 0 dX8_step_0 rfl rfl ?_
  obtain ⟨x1, hv1, hX⟩ := z_bd hX
  refine z_getR (pc := 1) G kK8 (k := 6) (by decide) kt_430 dX8_step_1 hv1 ?_
  obtain ⟨x4, hv4, hX⟩ := z_bd hX
  refine z_getI (pc := 4) G kK5 (k := 15) (by decide) kt_234 dX8_step_4 hv4 ?_
  refine z_bipush (pc := 7) (v := 99) G dX8_step_7 (by decide) ?_
  refine z_icmp_le (pc := 9) (tgt := 14) G dX8_step_9 (by decide) (fun hc9 => ?_) (fun hc9 => ?_)
  · have hX := z_it hc9 hX
    refine z_aload_n (pc := 14) G 0 dX8_step_14 rfl rfl ?_
    obtain ⟨x15, hv15, hX⟩ := z_bd hX
    refine z_getR (pc := 15) G kK8 (k := 11) (by decide) kt_435 dX8_step_15 hv15 ?_
    refine z_aload_n (pc := 18) G 0 dX8_step_18 rfl rfl ?_
    obtain ⟨x19, hv19, hX⟩ := z_bd hX
    refine z_getR (pc := 19) G kK8 (k := 6) (by decide) kt_430 dX8_step_19 hv19 ?_
    obtain ⟨hi22, hX⟩ := z_gu_s hX
    obtain ⟨h22, hv22, hX⟩ := z_bd hX
    refine z_cVV (pc := 22) (As := [.ref x19]) (c2 := 13) (s2 := 534) G kK1 (lX1_keep hO hv22) hi22 kt_794 kt_8 kt_791 kt_792 kt_793 ydX1_keep ⟨by decide, by decide⟩ rfl (Nat.le_of_ble_eq_true rfl) ⟨rfl, rfl⟩ ⟨by decide, by decide⟩ rfl dX8_step_22 ?_
    refine z_aload_n (pc := 25) G 0 dX8_step_25 rfl rfl ?_
    obtain ⟨x26, hv26, hX⟩ := z_bd hX
    refine z_getR (pc := 26) G kK8 (k := 9) (by decide) kt_433 dX8_step_26 hv26 ?_
    refine z_aload_n (pc := 29) G 0 dX8_step_29 rfl rfl ?_
    obtain ⟨x30, hv30, hX⟩ := z_bd hX
    refine z_getR (pc := 30) G kK8 (k := 6) (by decide) kt_430 dX8_step_30 hv30 ?_
    obtain ⟨hi33, hX⟩ := z_gu_s hX
    obtain ⟨r33, hv33, hX⟩ := z_bd hX
    refine z_cVI (pc := 33) (As := [.ref x30]) (c2 := 13) (s2 := 534) G kK6 (lX6_go hO hv33) hi33 kt_807 kt_6 kt_804 kt_805 kt_806 ydX6_go ⟨by decide, by decide⟩ rfl (Nat.le_of_ble_eq_true rfl) ⟨rfl, rfl⟩ ⟨by decide, by decide⟩ rfl dX8_step_33 ?_
    exact z_iretX (pc := 36) hX G hr dX8_step_36 (by decide) (by decide)
  · have hX := z_if hc9 hX
    refine z_iconst (pc := 12) (v := (-1)) G dX8_step_12 (by decide) ?_
    exact z_iretX (pc := 13) hX G hr dX8_step_13 (by decide) (by decide)
theorem dX8_isMove_0 : decode cX8_isMove 0 = .ok (.iload_n 0, 1) := by decide +kernel
theorem dX8_isMove_1 : decode cX8_isMove 1 = .ok (.ifCond .lt 13, 3) := by decide +kernel
theorem dX8_isMove_4 : decode cX8_isMove 4 = .ok (.iload_n 0, 1) := by decide +kernel
theorem dX8_isMove_5 : decode cX8_isMove 5 = .ok (.bipush 100, 2) := by decide +kernel
theorem dX8_isMove_7 : decode cX8_isMove 7 = .ok (.if_icmp .ge 7, 3) := by decide +kernel
theorem dX8_isMove_10 : decode cX8_isMove 10 = .ok (.iconst 1, 1) := by decide +kernel
theorem dX8_isMove_11 : decode cX8_isMove 11 = .ok (.goto 4, 3) := by decide +kernel
theorem dX8_isMove_14 : decode cX8_isMove 14 = .ok (.iconst 0, 1) := by decide +kernel
theorem dX8_isMove_15 : decode cX8_isMove 15 = .ok (.ireturn, 1) := by decide +kernel
theorem ydX8_isMove : z_yd yX8_isMove 1 := ⟨by decide, by decide, by decide +kernel⟩
abbrev rmX8_isMove : Room := { frames := 0, cells := 0, slots := 0, locals := 0 }
noncomputable def xX8_isMove (l0 : Int32) (h : ZH) : Option (Int32 × ZH) := (if l0 < 0 then some ((0 : Int32), h) else (if (100 : Int32) ≤ l0 then some ((0 : Int32), h) else some ((1 : Int32), h)))
set_option maxHeartbeats 4000000 in
set_option maxRecDepth 100000 in
theorem lX8_isMove {Γ : ZG} {l : Launch} (hO : z_OK Γ) {l0 : Int32} {h : ZH} {r : (Int32 × ZH)} (hX : xX8_isMove l0 h = some r) : z_M Γ l yX8_isMove (z_ws1 yX8_isMove cX8_isMove 1 (some .boolean)) rmX8_isMove [.int l0] h (some (.int r.1)) r.2 := by
  refine z_start hO (plainFor_of_name (by decide)) (Nat.le_of_ble_eq_true rfl) ?_
  intro p e s m args below meth c G hr hnm
  refine z_lvc (lv2 := [(0, .int l0)]) rfl ?_
  refine z_iload_n (pc := 0) G 0 dX8_isMove_0 rfl rfl ?_
  refine z_if_lt (pc := 1) (tgt := 14) G dX8_isMove_1 (by decide) (fun hc1 => ?_) (fun hc1 => ?_)
  · have hX := z_it hc1 hX
    refine z_iconst (pc := 14) (v := 0) G dX8_isMove_14 (by decide) ?_
    exact z_zretX (pc := 15) hX G hr rfl dX8_isMove_15 (by decide) (by decide)
  · have hX := z_if hc1 hX
    refine z_iload_n (pc := 4) G 0 dX8_isMove_4 rfl rfl ?_
    refine z_bipush (pc := 5) (v := 100) G dX8_isMove_5 (by decide) ?_
    refine z_icmp_ge (pc := 7) (tgt := 14) G dX8_isMove_7 (by decide) (fun hc7 => ?_) (fun hc7 => ?_)
    · have hX := z_it hc7 hX
      refine z_iconst (pc := 14) (v := 0) G dX8_isMove_14 (by decide) ?_
      exact z_zretX (pc := 15) hX G hr rfl dX8_isMove_15 (by decide) (by decide)
    · have hX := z_if hc7 hX
      refine z_iconst (pc := 10) (v := 1) G dX8_isMove_10 (by decide) ?_
      refine z_goto (pc := 11) (tgt := 15) G dX8_isMove_11 (by decide) ?_
      exact z_zretX (pc := 15) hX G hr rfl dX8_isMove_15 (by decide) (by decide)
theorem dX8_steer_0 : decode cX8_steer 0 = .ok (.aload_n 0, 1) := by decide +kernel
theorem dX8_steer_1 : decode cX8_steer 1 = .ok (.getfield 27, 3) := by decide +kernel
theorem dX8_steer_4 : decode cX8_steer 4 = .ok (.iload_n 1, 1) := by decide +kernel
theorem dX8_steer_5 : decode cX8_steer 5 = .ok (.invokevirtual 127, 3) := by decide +kernel
theorem dX8_steer_8 : decode cX8_steer 8 = .ok (.ifCond .eq 17, 3) := by decide +kernel
theorem dX8_steer_11 : decode cX8_steer 11 = .ok (.iload_n 2, 1) := by decide +kernel
theorem dX8_steer_12 : decode cX8_steer 12 = .ok (.invokestatic 199, 3) := by decide +kernel
theorem dX8_steer_15 : decode cX8_steer 15 = .ok (.ifCond .eq 10, 3) := by decide +kernel
theorem dX8_steer_18 : decode cX8_steer 18 = .ok (.iload_n 3, 1) := by decide +kernel
theorem dX8_steer_19 : decode cX8_steer 19 = .ok (.invokestatic 199, 3) := by decide +kernel
theorem dX8_steer_22 : decode cX8_steer 22 = .ok (.ifCond .ne 5, 3) := by decide +kernel
theorem dX8_steer_25 : decode cX8_steer 25 = .ok (.iconst (-1), 1) := by decide +kernel
theorem dX8_steer_26 : decode cX8_steer 26 = .ok (.ireturn, 1) := by decide +kernel
theorem dX8_steer_27 : decode cX8_steer 27 = .ok (.aload_n 0, 1) := by decide +kernel
theorem dX8_steer_28 : decode cX8_steer 28 = .ok (.getfield 67, 3) := by decide +kernel
theorem dX8_steer_31 : decode cX8_steer 31 = .ok (.aload_n 0, 1) := by decide +kernel
theorem dX8_steer_32 : decode cX8_steer 32 = .ok (.getfield 36, 3) := by decide +kernel
theorem dX8_steer_35 : decode cX8_steer 35 = .ok (.invokevirtual 191, 3) := by decide +kernel
theorem dX8_steer_38 : decode cX8_steer 38 = .ok (.aload_n 0, 1) := by decide +kernel
theorem dX8_steer_39 : decode cX8_steer 39 = .ok (.getfield 36, 3) := by decide +kernel
theorem dX8_steer_42 : decode cX8_steer 42 = .ok (.getfield 137, 3) := by decide +kernel
theorem dX8_steer_45 : decode cX8_steer 45 = .ok (.iload_n 1, 1) := by decide +kernel
theorem dX8_steer_46 : decode cX8_steer 46 = .ok (.iload_n 2, 1) := by decide +kernel
theorem dX8_steer_47 : decode cX8_steer 47 = .ok (.iastore, 1) := by decide +kernel
theorem dX8_steer_48 : decode cX8_steer 48 = .ok (.aload_n 0, 1) := by decide +kernel
theorem dX8_steer_49 : decode cX8_steer 49 = .ok (.getfield 36, 3) := by decide +kernel
theorem dX8_steer_52 : decode cX8_steer 52 = .ok (.getfield 140, 3) := by decide +kernel
theorem dX8_steer_55 : decode cX8_steer 55 = .ok (.iload_n 1, 1) := by decide +kernel
theorem dX8_steer_56 : decode cX8_steer 56 = .ok (.iload_n 3, 1) := by decide +kernel
theorem dX8_steer_57 : decode cX8_steer 57 = .ok (.iastore, 1) := by decide +kernel
theorem dX8_steer_58 : decode cX8_steer 58 = .ok (.aload_n 0, 1) := by decide +kernel
theorem dX8_steer_59 : decode cX8_steer 59 = .ok (.getfield 36, 3) := by decide +kernel
theorem dX8_steer_62 : decode cX8_steer 62 = .ok (.iload_n 1, 1) := by decide +kernel
theorem dX8_steer_63 : decode cX8_steer 63 = .ok (.invokevirtual 143, 3) := by decide +kernel
theorem dX8_steer_66 : decode cX8_steer 66 = .ok (.ireturn, 1) := by decide +kernel
theorem ydX8_steer : z_yd yX8_steer 3 := ⟨by decide, by decide, by decide +kernel⟩
abbrev rmX8_steer : Room := { frames := 3, cells := 13, slots := 534, locals := 103 }
noncomputable def xX8_steer (l0 : Nat) (l1 : Int32) (l2 : Int32) (l3 : Int32) (h : ZH) : Option (Int32 × ZH) := ((z_gR h l0 8 5).bind fun x1 => (z_gu (z_is h x1 2) ((xX2_isShip x1 l1 h).bind fun r5 => (if r5.1 = 0 then some ((-1 : Int32), r5.2) else ((xX8_isMove l2 r5.2).bind fun r12 => (if r12.1 = 0 then some ((-1 : Int32), r12.2) else ((xX8_isMove l3 r12.2).bind fun r19 => (if r19.1 = 0 then some ((-1 : Int32), r19.2) else ((z_gR r19.2 l0 8 11).bind fun x28 => ((z_gR r19.2 l0 8 6).bind fun x32 => (z_gu (z_is r19.2 x28 1) ((xX1_keep x28 x32 r19.2).bind fun h35 => ((z_gR h35 l0 8 6).bind fun x39 => ((z_gR h35 x39 5 3).bind fun x42 => ((z_uI h35 x42 l1 l2).bind fun h47 => ((z_gR h47 l0 8 6).bind fun x49 => ((z_gR h47 x49 5 4).bind fun x52 => ((z_uI h47 x52 l1 l3).bind fun h57 => ((z_gR h57 l0 8 6).bind fun x59 => (z_gu (z_is h57 x59 5) ((xX5_speedOf x59 l1 h57).bind fun r63 => some (r63.1, r63.2))))))))))))))))))))))
set_option maxHeartbeats 4000000 in
set_option maxRecDepth 100000 in
theorem lX8_steer {Γ : ZG} {l : Launch} (hO : z_OK Γ) {l0 : Nat} {l1 : Int32} {l2 : Int32} {l3 : Int32} {h : ZH} {r : (Int32 × ZH)} (hX : xX8_steer l0 l1 l2 l3 h = some r) : z_M Γ l yX8_steer (z_ws1 yX8_steer cX8_steer 4 (some .int)) rmX8_steer [.ref l0, .int l1, .int l2, .int l3] h (some (.int r.1)) r.2 := by
  refine z_start hO (plainFor_of_name (by decide)) (Nat.le_of_ble_eq_true rfl) ?_
  intro p e s m args below meth c G hr hnm
  refine z_lvc (lv2 := [(0, .ref l0), (1, .int l1), (2, .int l2), (3, .int l3)]) rfl ?_
  refine z_aload_n (pc := 0) G 0 dX8_steer_0 rfl rfl ?_
  obtain ⟨x1, hv1, hX⟩ := z_bd hX
  refine z_getR (pc := 1) G kK8 (k := 5) (by decide) kt_429 dX8_steer_1 hv1 ?_
  refine z_iload_n (pc := 4) G 1 dX8_steer_4 rfl rfl ?_
  obtain ⟨hi5, hX⟩ := z_gu_s hX
  obtain ⟨r5, hv5, hX⟩ := z_bd hX
  refine z_cVI (pc := 5) (As := [.int l1]) (c2 := 0) (s2 := 0) G kK2 (lX2_isShip hO hv5) hi5 kt_727 kt_3 kt_724 kt_725 kt_726 ydX2_isShip ⟨by decide, by decide⟩ rfl (Nat.le_of_ble_eq_true rfl) ⟨rfl, rfl⟩ ⟨by decide, by decide⟩ rfl dX8_steer_5 ?_
  refine z_if_eq (pc := 8) (tgt := 25) G dX8_steer_8 (by decide) (fun hc8 => ?_) (fun hc8 => ?_)
  · have hX := z_it hc8 hX
    refine z_iconst (pc := 25) (v := (-1)) G dX8_steer_25 (by decide) ?_
    exact z_iretX (pc := 26) hX G hr dX8_steer_26 (by decide) (by decide)
  · have hX := z_if hc8 hX
    refine z_iload_n (pc := 11) G 2 dX8_steer_11 rfl rfl ?_
    obtain ⟨r12, hv12, hX⟩ := z_bd hX
    refine z_cSI (pc := 12) (As := [.int l2]) (c2 := 0) (s2 := 0) G (lX8_isMove hO hv12) kt_921 kt_1 kt_919 kt_920 ydX8_isMove ⟨by decide, by decide⟩ rfl (Nat.le_of_ble_eq_true rfl) ⟨rfl, rfl⟩ ⟨by decide, by decide⟩ rfl dX8_steer_12 ?_
    refine z_if_eq (pc := 15) (tgt := 25) G dX8_steer_15 (by decide) (fun hc15 => ?_) (fun hc15 => ?_)
    · have hX := z_it hc15 hX
      refine z_iconst (pc := 25) (v := (-1)) G dX8_steer_25 (by decide) ?_
      exact z_iretX (pc := 26) hX G hr dX8_steer_26 (by decide) (by decide)
    · have hX := z_if hc15 hX
      refine z_iload_n (pc := 18) G 3 dX8_steer_18 rfl rfl ?_
      obtain ⟨r19, hv19, hX⟩ := z_bd hX
      refine z_cSI (pc := 19) (As := [.int l3]) (c2 := 0) (s2 := 0) G (lX8_isMove hO hv19) kt_921 kt_1 kt_919 kt_920 ydX8_isMove ⟨by decide, by decide⟩ rfl (Nat.le_of_ble_eq_true rfl) ⟨rfl, rfl⟩ ⟨by decide, by decide⟩ rfl dX8_steer_19 ?_
      refine z_if_ne (pc := 22) (tgt := 27) G dX8_steer_22 (by decide) (fun hc22 => ?_) (fun hc22 => ?_)
      · have hX := z_if hc22 hX
        refine z_aload_n (pc := 27) G 0 dX8_steer_27 rfl rfl ?_
        obtain ⟨x28, hv28, hX⟩ := z_bd hX
        refine z_getR (pc := 28) G kK8 (k := 11) (by decide) kt_435 dX8_steer_28 hv28 ?_
        refine z_aload_n (pc := 31) G 0 dX8_steer_31 rfl rfl ?_
        obtain ⟨x32, hv32, hX⟩ := z_bd hX
        refine z_getR (pc := 32) G kK8 (k := 6) (by decide) kt_430 dX8_steer_32 hv32 ?_
        obtain ⟨hi35, hX⟩ := z_gu_s hX
        obtain ⟨h35, hv35, hX⟩ := z_bd hX
        refine z_cVV (pc := 35) (As := [.ref x32]) (c2 := 13) (s2 := 534) G kK1 (lX1_keep hO hv35) hi35 kt_794 kt_8 kt_791 kt_792 kt_793 ydX1_keep ⟨by decide, by decide⟩ rfl (Nat.le_of_ble_eq_true rfl) ⟨rfl, rfl⟩ ⟨by decide, by decide⟩ rfl dX8_steer_35 ?_
        refine z_aload_n (pc := 38) G 0 dX8_steer_38 rfl rfl ?_
        obtain ⟨x39, hv39, hX⟩ := z_bd hX
        refine z_getR (pc := 39) G kK8 (k := 6) (by decide) kt_430 dX8_steer_39 hv39 ?_
        obtain ⟨x42, hv42, hX⟩ := z_bd hX
        refine z_getR (pc := 42) G kK5 (k := 3) (by decide) kt_200 dX8_steer_42 hv42 ?_
        refine z_iload_n (pc := 45) G 1 dX8_steer_45 rfl rfl ?_
        refine z_iload_n (pc := 46) G 2 dX8_steer_46 rfl rfl ?_
        obtain ⟨h47, hv47, hX⟩ := z_bd hX
        refine z_iast (pc := 47) G dX8_steer_47 hv47 ?_
        refine z_aload_n (pc := 48) G 0 dX8_steer_48 rfl rfl ?_
        obtain ⟨x49, hv49, hX⟩ := z_bd hX
        refine z_getR (pc := 49) G kK8 (k := 6) (by decide) kt_430 dX8_steer_49 hv49 ?_
        obtain ⟨x52, hv52, hX⟩ := z_bd hX
        refine z_getR (pc := 52) G kK5 (k := 4) (by decide) kt_202 dX8_steer_52 hv52 ?_
        refine z_iload_n (pc := 55) G 1 dX8_steer_55 rfl rfl ?_
        refine z_iload_n (pc := 56) G 3 dX8_steer_56 rfl rfl ?_
        obtain ⟨h57, hv57, hX⟩ := z_bd hX
        refine z_iast (pc := 57) G dX8_steer_57 hv57 ?_
        refine z_aload_n (pc := 58) G 0 dX8_steer_58 rfl rfl ?_
        obtain ⟨x59, hv59, hX⟩ := z_bd hX
        refine z_getR (pc := 59) G kK8 (k := 6) (by decide) kt_430 dX8_steer_59 hv59 ?_
        refine z_iload_n (pc := 62) G 1 dX8_steer_62 rfl rfl ?_
        obtain ⟨hi63, hX⟩ := z_gu_s hX
        obtain ⟨r63, hv63, hX⟩ := z_bd hX
        refine z_cVI (pc := 63) (As := [.int l1]) (c2 := 13) (s2 := 534) G kK5 (lX5_speedOf hO hv63) hi63 kt_731 kt_4 kt_728 kt_729 kt_730 ydX5_speedOf ⟨by decide, by decide⟩ rfl (Nat.le_of_ble_eq_true rfl) ⟨rfl, rfl⟩ ⟨by decide, by decide⟩ rfl dX8_steer_63 ?_
        exact z_iretX (pc := 66) hX G hr dX8_steer_66 (by decide) (by decide)
      · have hX := z_it hc22 hX
        refine z_iconst (pc := 25) (v := (-1)) G dX8_steer_25 (by decide) ?_
        exact z_iretX (pc := 26) hX G hr dX8_steer_26 (by decide) (by decide)
theorem dX8_turn_0 : decode cX8_turn 0 = .ok (.aload_n 0, 1) := by decide +kernel
theorem dX8_turn_1 : decode cX8_turn 1 = .ok (.getfield 27, 3) := by decide +kernel
theorem dX8_turn_4 : decode cX8_turn 4 = .ok (.iload_n 1, 1) := by decide +kernel
theorem dX8_turn_5 : decode cX8_turn 5 = .ok (.invokevirtual 127, 3) := by decide +kernel
theorem dX8_turn_8 : decode cX8_turn 8 = .ok (.ifCond .ne 5, 3) := by decide +kernel
theorem dX8_turn_11 : decode cX8_turn 11 = .ok (.iconst (-1), 1) := by decide +kernel
theorem dX8_turn_12 : decode cX8_turn 12 = .ok (.ireturn, 1) := by decide +kernel
theorem dX8_turn_13 : decode cX8_turn 13 = .ok (.aload_n 0, 1) := by decide +kernel
theorem dX8_turn_14 : decode cX8_turn 14 = .ok (.getfield 67, 3) := by decide +kernel
theorem dX8_turn_17 : decode cX8_turn 17 = .ok (.aload_n 0, 1) := by decide +kernel
theorem dX8_turn_18 : decode cX8_turn 18 = .ok (.getfield 36, 3) := by decide +kernel
theorem dX8_turn_21 : decode cX8_turn 21 = .ok (.invokevirtual 191, 3) := by decide +kernel
theorem dX8_turn_24 : decode cX8_turn 24 = .ok (.aload_n 0, 1) := by decide +kernel
theorem dX8_turn_25 : decode cX8_turn 25 = .ok (.getfield 36, 3) := by decide +kernel
theorem dX8_turn_28 : decode cX8_turn 28 = .ok (.dup, 1) := by decide +kernel
theorem dX8_turn_29 : decode cX8_turn 29 = .ok (.getfield 202, 3) := by decide +kernel
theorem dX8_turn_32 : decode cX8_turn 32 = .ok (.iconst 1, 1) := by decide +kernel
theorem dX8_turn_33 : decode cX8_turn 33 = .ok (.iload_n 1, 1) := by decide +kernel
theorem dX8_turn_34 : decode cX8_turn 34 = .ok (.ishl, 1) := by decide +kernel
theorem dX8_turn_35 : decode cX8_turn 35 = .ok (.ixor, 1) := by decide +kernel
theorem dX8_turn_36 : decode cX8_turn 36 = .ok (.putfield 202, 3) := by decide +kernel
theorem dX8_turn_39 : decode cX8_turn 39 = .ok (.aload_n 0, 1) := by decide +kernel
theorem dX8_turn_40 : decode cX8_turn 40 = .ok (.getfield 36, 3) := by decide +kernel
theorem dX8_turn_43 : decode cX8_turn 43 = .ok (.getfield 202, 3) := by decide +kernel
theorem dX8_turn_46 : decode cX8_turn 46 = .ok (.iload_n 1, 1) := by decide +kernel
theorem dX8_turn_47 : decode cX8_turn 47 = .ok (.ishr, 1) := by decide +kernel
theorem dX8_turn_48 : decode cX8_turn 48 = .ok (.iconst 1, 1) := by decide +kernel
theorem dX8_turn_49 : decode cX8_turn 49 = .ok (.iand, 1) := by decide +kernel
theorem dX8_turn_50 : decode cX8_turn 50 = .ok (.iconst 1, 1) := by decide +kernel
theorem dX8_turn_51 : decode cX8_turn 51 = .ok (.if_icmp .ne 11, 3) := by decide +kernel
theorem dX8_turn_54 : decode cX8_turn 54 = .ok (.aload_n 0, 1) := by decide +kernel
theorem dX8_turn_55 : decode cX8_turn 55 = .ok (.getfield 36, 3) := by decide +kernel
theorem dX8_turn_58 : decode cX8_turn 58 = .ok (.iload_n 1, 1) := by decide +kernel
theorem dX8_turn_59 : decode cX8_turn 59 = .ok (.invokevirtual 205, 3) := by decide +kernel
theorem dX8_turn_62 : decode cX8_turn 62 = .ok (.aload_n 0, 1) := by decide +kernel
theorem dX8_turn_63 : decode cX8_turn 63 = .ok (.getfield 36, 3) := by decide +kernel
theorem dX8_turn_66 : decode cX8_turn 66 = .ok (.getfield 202, 3) := by decide +kernel
theorem dX8_turn_69 : decode cX8_turn 69 = .ok (.ireturn, 1) := by decide +kernel
theorem ydX8_turn : z_yd yX8_turn 1 := ⟨by decide, by decide, by decide +kernel⟩
abbrev rmX8_turn : Room := { frames := 3, cells := 13, slots := 534, locals := 103 }
noncomputable def xX8_turn (l0 : Nat) (l1 : Int32) (h : ZH) : Option (Int32 × ZH) := ((z_gR h l0 8 5).bind fun x1 => (z_gu (z_is h x1 2) ((xX2_isShip x1 l1 h).bind fun r5 => (if r5.1 = 0 then some ((-1 : Int32), r5.2) else ((z_gR r5.2 l0 8 11).bind fun x14 => ((z_gR r5.2 l0 8 6).bind fun x18 => (z_gu (z_is r5.2 x14 1) ((xX1_keep x14 x18 r5.2).bind fun h21 => ((z_gR h21 l0 8 6).bind fun x25 => ((z_gI h21 x25 5 13).bind fun x29 => ((z_sF h21 x25 5 13 (.int (x29 ^^^ ((1 : Int32) <<< (l1 &&& 31))))).bind fun h36 => ((z_gR h36 l0 8 6).bind fun x40 => ((z_gI h36 x40 5 13).bind fun x43 => (if ((x43 >>> (l1 &&& 31)) &&& (1 : Int32)) = (1 : Int32) then ((z_gR h36 l0 8 6).bind fun x55 => (z_gu (z_is h36 x55 5) ((xX5_forgetAll x55 l1 h36).bind fun h59 => ((z_gR h59 l0 8 6).bind fun x63 => ((z_gI h59 x63 5 13).bind fun x66 => some (x66, h59)))))) else ((z_gR h36 l0 8 6).bind fun x63 => ((z_gI h36 x63 5 13).bind fun x66 => some (x66, h36)))))))))))))))))
set_option maxHeartbeats 4000000 in
set_option maxRecDepth 100000 in
theorem lX8_turn {Γ : ZG} {l : Launch} (hO : z_OK Γ) {l0 : Nat} {l1 : Int32} {h : ZH} {r : (Int32 × ZH)} (hX : xX8_turn l0 l1 h = some r) : z_M Γ l yX8_turn (z_ws1 yX8_turn cX8_turn 2 (some .int)) rmX8_turn [.ref l0, .int l1] h (some (.int r.1)) r.2 := by
  refine z_start hO (plainFor_of_name (by decide)) (Nat.le_of_ble_eq_true rfl) ?_
  intro p e s m args below meth c G hr hnm
  refine z_lvc (lv2 := [(0, .ref l0), (1, .int l1)]) rfl ?_
  refine z_aload_n (pc := 0) G 0 dX8_turn_0 rfl rfl ?_
  obtain ⟨x1, hv1, hX⟩ := z_bd hX
  refine z_getR (pc := 1) G kK8 (k := 5) (by decide) kt_429 dX8_turn_1 hv1 ?_
  refine z_iload_n (pc := 4) G 1 dX8_turn_4 rfl rfl ?_
  obtain ⟨hi5, hX⟩ := z_gu_s hX
  obtain ⟨r5, hv5, hX⟩ := z_bd hX
  refine z_cVI (pc := 5) (As := [.int l1]) (c2 := 0) (s2 := 0) G kK2 (lX2_isShip hO hv5) hi5 kt_727 kt_3 kt_724 kt_725 kt_726 ydX2_isShip ⟨by decide, by decide⟩ rfl (Nat.le_of_ble_eq_true rfl) ⟨rfl, rfl⟩ ⟨by decide, by decide⟩ rfl dX8_turn_5 ?_
  refine z_if_ne (pc := 8) (tgt := 13) G dX8_turn_8 (by decide) (fun hc8 => ?_) (fun hc8 => ?_)
  · have hX := z_if hc8 hX
    refine z_aload_n (pc := 13) G 0 dX8_turn_13 rfl rfl ?_
    obtain ⟨x14, hv14, hX⟩ := z_bd hX
    refine z_getR (pc := 14) G kK8 (k := 11) (by decide) kt_435 dX8_turn_14 hv14 ?_
    refine z_aload_n (pc := 17) G 0 dX8_turn_17 rfl rfl ?_
    obtain ⟨x18, hv18, hX⟩ := z_bd hX
    refine z_getR (pc := 18) G kK8 (k := 6) (by decide) kt_430 dX8_turn_18 hv18 ?_
    obtain ⟨hi21, hX⟩ := z_gu_s hX
    obtain ⟨h21, hv21, hX⟩ := z_bd hX
    refine z_cVV (pc := 21) (As := [.ref x18]) (c2 := 13) (s2 := 534) G kK1 (lX1_keep hO hv21) hi21 kt_794 kt_8 kt_791 kt_792 kt_793 ydX1_keep ⟨by decide, by decide⟩ rfl (Nat.le_of_ble_eq_true rfl) ⟨rfl, rfl⟩ ⟨by decide, by decide⟩ rfl dX8_turn_21 ?_
    refine z_aload_n (pc := 24) G 0 dX8_turn_24 rfl rfl ?_
    obtain ⟨x25, hv25, hX⟩ := z_bd hX
    refine z_getR (pc := 25) G kK8 (k := 6) (by decide) kt_430 dX8_turn_25 hv25 ?_
    refine z_dup (pc := 28) G dX8_turn_28 rfl ?_
    obtain ⟨x29, hv29, hX⟩ := z_bd hX
    refine z_getI (pc := 29) G kK5 (k := 13) (by decide) kt_228 dX8_turn_29 hv29 ?_
    refine z_iconst (pc := 32) (v := 1) G dX8_turn_32 (by decide) ?_
    refine z_iload_n (pc := 33) G 1 dX8_turn_33 rfl rfl ?_
    refine z_ishl (pc := 34) G dX8_turn_34 ?_
    refine z_ixor (pc := 35) G dX8_turn_35 ?_
    obtain ⟨h36, hv36, hX⟩ := z_bd hX
    refine z_putF (pc := 36) G kK5 (k := 13) (by decide) kt_228 (Or.inl rfl) rfl rfl dX8_turn_36 hv36 ?_
    refine z_aload_n (pc := 39) G 0 dX8_turn_39 rfl rfl ?_
    obtain ⟨x40, hv40, hX⟩ := z_bd hX
    refine z_getR (pc := 40) G kK8 (k := 6) (by decide) kt_430 dX8_turn_40 hv40 ?_
    obtain ⟨x43, hv43, hX⟩ := z_bd hX
    refine z_getI (pc := 43) G kK5 (k := 13) (by decide) kt_228 dX8_turn_43 hv43 ?_
    refine z_iload_n (pc := 46) G 1 dX8_turn_46 rfl rfl ?_
    refine z_ishr (pc := 47) G dX8_turn_47 ?_
    refine z_iconst (pc := 48) (v := 1) G dX8_turn_48 (by decide) ?_
    refine z_iand (pc := 49) G dX8_turn_49 ?_
    refine z_iconst (pc := 50) (v := 1) G dX8_turn_50 (by decide) ?_
    refine z_icmp_ne (pc := 51) (tgt := 62) G dX8_turn_51 (by decide) (fun hc51 => ?_) (fun hc51 => ?_)
    · have hX := z_if hc51 hX
      refine z_aload_n (pc := 62) G 0 dX8_turn_62 rfl rfl ?_
      obtain ⟨x63, hv63, hX⟩ := z_bd hX
      refine z_getR (pc := 63) G kK8 (k := 6) (by decide) kt_430 dX8_turn_63 hv63 ?_
      obtain ⟨x66, hv66, hX⟩ := z_bd hX
      refine z_getI (pc := 66) G kK5 (k := 13) (by decide) kt_228 dX8_turn_66 hv66 ?_
      exact z_iretX (pc := 69) hX G hr dX8_turn_69 (by decide) (by decide)
    · have hX := z_it hc51 hX
      refine z_aload_n (pc := 54) G 0 dX8_turn_54 rfl rfl ?_
      obtain ⟨x55, hv55, hX⟩ := z_bd hX
      refine z_getR (pc := 55) G kK8 (k := 6) (by decide) kt_430 dX8_turn_55 hv55 ?_
      refine z_iload_n (pc := 58) G 1 dX8_turn_58 rfl rfl ?_
      obtain ⟨hi59, hX⟩ := z_gu_s hX
      obtain ⟨h59, hv59, hX⟩ := z_bd hX
      refine z_cVV (pc := 59) (As := [.int l1]) (c2 := 13) (s2 := 534) G kK5 (lX5_forgetAll hO hv59) hi59 kt_419 kt_4 kt_926 kt_417 kt_418 ydX5_forgetAll ⟨by decide, by decide⟩ rfl (Nat.le_of_ble_eq_true rfl) ⟨rfl, rfl⟩ ⟨by decide, by decide⟩ rfl dX8_turn_59 ?_
      refine z_aload_n (pc := 62) G 0 dX8_turn_62 rfl rfl ?_
      obtain ⟨x63, hv63, hX⟩ := z_bd hX
      refine z_getR (pc := 63) G kK8 (k := 6) (by decide) kt_430 dX8_turn_63 hv63 ?_
      obtain ⟨x66, hv66, hX⟩ := z_bd hX
      refine z_getI (pc := 66) G kK5 (k := 13) (by decide) kt_228 dX8_turn_66 hv66 ?_
      exact z_iretX (pc := 69) hX G hr dX8_turn_69 (by decide) (by decide)
  · have hX := z_it hc8 hX
    refine z_iconst (pc := 11) (v := (-1)) G dX8_turn_11 (by decide) ?_
    exact z_iretX (pc := 12) hX G hr dX8_turn_12 (by decide) (by decide)
theorem dX8_undo_0 : decode cX8_undo 0 = .ok (.aload_n 0, 1) := by decide +kernel
theorem dX8_undo_1 : decode cX8_undo 1 = .ok (.getfield 67, 3) := by decide +kernel
theorem dX8_undo_4 : decode cX8_undo 4 = .ok (.getfield 208, 3) := by decide +kernel
theorem dX8_undo_7 : decode cX8_undo 7 = .ok (.ifCond .ne 5, 3) := by decide +kernel
theorem dX8_undo_10 : decode cX8_undo 10 = .ok (.iconst 0, 1) := by decide +kernel
theorem dX8_undo_11 : decode cX8_undo 11 = .ok (.ireturn, 1) := by decide +kernel
theorem dX8_undo_12 : decode cX8_undo 12 = .ok (.aload_n 0, 1) := by decide +kernel
theorem dX8_undo_13 : decode cX8_undo 13 = .ok (.aload_n 0, 1) := by decide +kernel
theorem dX8_undo_14 : decode cX8_undo 14 = .ok (.getfield 67, 3) := by decide +kernel
theorem dX8_undo_17 : decode cX8_undo 17 = .ok (.aload_n 0, 1) := by decide +kernel
theorem dX8_undo_18 : decode cX8_undo 18 = .ok (.getfield 36, 3) := by decide +kernel
theorem dX8_undo_21 : decode cX8_undo 21 = .ok (.invokevirtual 211, 3) := by decide +kernel
theorem dX8_undo_24 : decode cX8_undo 24 = .ok (.putfield 36, 3) := by decide +kernel
theorem dX8_undo_27 : decode cX8_undo 27 = .ok (.iconst 1, 1) := by decide +kernel
theorem dX8_undo_28 : decode cX8_undo 28 = .ok (.ireturn, 1) := by decide +kernel
theorem ydX8_undo : z_yd yX8_undo 0 := ⟨by decide, by decide, by decide +kernel⟩
abbrev rmX8_undo : Room := { frames := 2, cells := 0, slots := 0, locals := 44 }
noncomputable def xX8_undo (l0 : Nat) (h : ZH) : Option (Int32 × ZH) := ((z_gR h l0 8 11).bind fun x1 => ((z_gI h x1 1 2).bind fun x4 => (if x4 = 0 then some ((0 : Int32), h) else ((z_gR h l0 8 11).bind fun x14 => ((z_gR h l0 8 6).bind fun x18 => (z_gu (z_is h x14 1) ((xX1_takeBack x14 x18 h).bind fun r21 => ((z_sF r21.2 l0 8 6 (.ref r21.1)).bind fun h24 => some ((1 : Int32), h24)))))))))
set_option maxHeartbeats 4000000 in
set_option maxRecDepth 100000 in
theorem lX8_undo {Γ : ZG} {l : Launch} (hO : z_OK Γ) {l0 : Nat} {h : ZH} {r : (Int32 × ZH)} (hX : xX8_undo l0 h = some r) : z_M Γ l yX8_undo (z_ws1 yX8_undo cX8_undo 1 (some .boolean)) rmX8_undo [.ref l0] h (some (.int r.1)) r.2 := by
  refine z_start hO (plainFor_of_name (by decide)) (Nat.le_of_ble_eq_true rfl) ?_
  intro p e s m args below meth c G hr hnm
  refine z_lvc (lv2 := [(0, .ref l0)]) rfl ?_
  refine z_aload_n (pc := 0) G 0 dX8_undo_0 rfl rfl ?_
  obtain ⟨x1, hv1, hX⟩ := z_bd hX
  refine z_getR (pc := 1) G kK8 (k := 11) (by decide) kt_435 dX8_undo_1 hv1 ?_
  obtain ⟨x4, hv4, hX⟩ := z_bd hX
  refine z_getI (pc := 4) G kK1 (k := 2) (by decide) kt_353 dX8_undo_4 hv4 ?_
  refine z_if_ne (pc := 7) (tgt := 12) G dX8_undo_7 (by decide) (fun hc7 => ?_) (fun hc7 => ?_)
  · have hX := z_if hc7 hX
    refine z_aload_n (pc := 12) G 0 dX8_undo_12 rfl rfl ?_
    refine z_aload_n (pc := 13) G 0 dX8_undo_13 rfl rfl ?_
    obtain ⟨x14, hv14, hX⟩ := z_bd hX
    refine z_getR (pc := 14) G kK8 (k := 11) (by decide) kt_435 dX8_undo_14 hv14 ?_
    refine z_aload_n (pc := 17) G 0 dX8_undo_17 rfl rfl ?_
    obtain ⟨x18, hv18, hX⟩ := z_bd hX
    refine z_getR (pc := 18) G kK8 (k := 6) (by decide) kt_430 dX8_undo_18 hv18 ?_
    obtain ⟨hi21, hX⟩ := z_gu_s hX
    obtain ⟨r21, hv21, hX⟩ := z_bd hX
    refine z_cVR (pc := 21) (As := [.ref x18]) (c2 := 0) (s2 := 0) G kK1 (lX1_takeBack hO hv21) hi21 kt_934 kt_8 kt_931 kt_932 kt_933 ydX1_takeBack ⟨by decide, by decide⟩ rfl (Nat.le_of_ble_eq_true rfl) ⟨rfl, rfl⟩ ⟨by decide, by decide⟩ rfl dX8_undo_21 ?_
    obtain ⟨h24, hv24, hX⟩ := z_bd hX
    refine z_putF (pc := 24) G kK8 (k := 6) (by decide) kt_430 (Or.inl rfl) rfl rfl dX8_undo_24 hv24 ?_
    refine z_iconst (pc := 27) (v := 1) G dX8_undo_27 (by decide) ?_
    exact z_zretX (pc := 28) hX G hr rfl dX8_undo_28 (by decide) (by decide)
  · have hX := z_it hc7 hX
    refine z_iconst (pc := 10) (v := 0) G dX8_undo_10 (by decide) ?_
    exact z_zretX (pc := 11) hX G hr rfl dX8_undo_11 (by decide) (by decide)
theorem dX8_redo_0 : decode cX8_redo 0 = .ok (.aload_n 0, 1) := by decide +kernel
theorem dX8_redo_1 : decode cX8_redo 1 = .ok (.getfield 67, 3) := by decide +kernel
theorem dX8_redo_4 : decode cX8_redo 4 = .ok (.getfield 215, 3) := by decide +kernel
theorem dX8_redo_7 : decode cX8_redo 7 = .ok (.ifCond .ne 5, 3) := by decide +kernel
theorem dX8_redo_10 : decode cX8_redo 10 = .ok (.iconst 0, 1) := by decide +kernel
theorem dX8_redo_11 : decode cX8_redo 11 = .ok (.ireturn, 1) := by decide +kernel
theorem dX8_redo_12 : decode cX8_redo 12 = .ok (.aload_n 0, 1) := by decide +kernel
theorem dX8_redo_13 : decode cX8_redo 13 = .ok (.aload_n 0, 1) := by decide +kernel
theorem dX8_redo_14 : decode cX8_redo 14 = .ok (.getfield 67, 3) := by decide +kernel
theorem dX8_redo_17 : decode cX8_redo 17 = .ok (.aload_n 0, 1) := by decide +kernel
theorem dX8_redo_18 : decode cX8_redo 18 = .ok (.getfield 36, 3) := by decide +kernel
theorem dX8_redo_21 : decode cX8_redo 21 = .ok (.invokevirtual 218, 3) := by decide +kernel
theorem dX8_redo_24 : decode cX8_redo 24 = .ok (.putfield 36, 3) := by decide +kernel
theorem dX8_redo_27 : decode cX8_redo 27 = .ok (.iconst 1, 1) := by decide +kernel
theorem dX8_redo_28 : decode cX8_redo 28 = .ok (.ireturn, 1) := by decide +kernel
theorem ydX8_redo : z_yd yX8_redo 0 := ⟨by decide, by decide, by decide +kernel⟩
abbrev rmX8_redo : Room := { frames := 2, cells := 0, slots := 0, locals := 44 }
noncomputable def xX8_redo (l0 : Nat) (h : ZH) : Option (Int32 × ZH) := ((z_gR h l0 8 11).bind fun x1 => ((z_gI h x1 1 3).bind fun x4 => (if x4 = 0 then some ((0 : Int32), h) else ((z_gR h l0 8 11).bind fun x14 => ((z_gR h l0 8 6).bind fun x18 => (z_gu (z_is h x14 1) ((xX1_doAgain x14 x18 h).bind fun r21 => ((z_sF r21.2 l0 8 6 (.ref r21.1)).bind fun h24 => some ((1 : Int32), h24)))))))))
set_option maxHeartbeats 4000000 in
set_option maxRecDepth 100000 in
theorem lX8_redo {Γ : ZG} {l : Launch} (hO : z_OK Γ) {l0 : Nat} {h : ZH} {r : (Int32 × ZH)} (hX : xX8_redo l0 h = some r) : z_M Γ l yX8_redo (z_ws1 yX8_redo cX8_redo 1 (some .boolean)) rmX8_redo [.ref l0] h (some (.int r.1)) r.2 := by
  refine z_start hO (plainFor_of_name (by decide)) (Nat.le_of_ble_eq_true rfl) ?_
  intro p e s m args below meth c G hr hnm
  refine z_lvc (lv2 := [(0, .ref l0)]) rfl ?_
  refine z_aload_n (pc := 0) G 0 dX8_redo_0 rfl rfl ?_
  obtain ⟨x1, hv1, hX⟩ := z_bd hX
  refine z_getR (pc := 1) G kK8 (k := 11) (by decide) kt_435 dX8_redo_1 hv1 ?_
  obtain ⟨x4, hv4, hX⟩ := z_bd hX
  refine z_getI (pc := 4) G kK1 (k := 3) (by decide) kt_355 dX8_redo_4 hv4 ?_
  refine z_if_ne (pc := 7) (tgt := 12) G dX8_redo_7 (by decide) (fun hc7 => ?_) (fun hc7 => ?_)
  · have hX := z_if hc7 hX
    refine z_aload_n (pc := 12) G 0 dX8_redo_12 rfl rfl ?_
    refine z_aload_n (pc := 13) G 0 dX8_redo_13 rfl rfl ?_
    obtain ⟨x14, hv14, hX⟩ := z_bd hX
    refine z_getR (pc := 14) G kK8 (k := 11) (by decide) kt_435 dX8_redo_14 hv14 ?_
    refine z_aload_n (pc := 17) G 0 dX8_redo_17 rfl rfl ?_
    obtain ⟨x18, hv18, hX⟩ := z_bd hX
    refine z_getR (pc := 18) G kK8 (k := 6) (by decide) kt_430 dX8_redo_18 hv18 ?_
    obtain ⟨hi21, hX⟩ := z_gu_s hX
    obtain ⟨r21, hv21, hX⟩ := z_bd hX
    refine z_cVR (pc := 21) (As := [.ref x18]) (c2 := 0) (s2 := 0) G kK1 (lX1_doAgain hO hv21) hi21 kt_946 kt_8 kt_943 kt_944 kt_945 ydX1_doAgain ⟨by decide, by decide⟩ rfl (Nat.le_of_ble_eq_true rfl) ⟨rfl, rfl⟩ ⟨by decide, by decide⟩ rfl dX8_redo_21 ?_
    obtain ⟨h24, hv24, hX⟩ := z_bd hX
    refine z_putF (pc := 24) G kK8 (k := 6) (by decide) kt_430 (Or.inl rfl) rfl rfl dX8_redo_24 hv24 ?_
    refine z_iconst (pc := 27) (v := 1) G dX8_redo_27 (by decide) ?_
    exact z_zretX (pc := 28) hX G hr rfl dX8_redo_28 (by decide) (by decide)
  · have hX := z_it hc7 hX
    refine z_iconst (pc := 10) (v := 0) G dX8_redo_10 (by decide) ?_
    exact z_zretX (pc := 11) hX G hr rfl dX8_redo_11 (by decide) (by decide)
theorem dX8_candidates_0 : decode cX8_candidates 0 = .ok (.aload_n 0, 1) := by decide +kernel
theorem dX8_candidates_1 : decode cX8_candidates 1 = .ok (.getfield 27, 3) := by decide +kernel
theorem dX8_candidates_4 : decode cX8_candidates 4 = .ok (.iload_n 1, 1) := by decide +kernel
theorem dX8_candidates_5 : decode cX8_candidates 5 = .ok (.invokevirtual 127, 3) := by decide +kernel
theorem dX8_candidates_8 : decode cX8_candidates 8 = .ok (.ifCond .eq 14, 3) := by decide +kernel
theorem dX8_candidates_11 : decode cX8_candidates 11 = .ok (.aload_n 0, 1) := by decide +kernel
theorem dX8_candidates_12 : decode cX8_candidates 12 = .ok (.getfield 27, 3) := by decide +kernel
theorem dX8_candidates_15 : decode cX8_candidates 15 = .ok (.iload_n 2, 1) := by decide +kernel
theorem dX8_candidates_16 : decode cX8_candidates 16 = .ok (.invokevirtual 165, 3) := by decide +kernel
theorem dX8_candidates_19 : decode cX8_candidates 19 = .ok (.ifCond .ne 5, 3) := by decide +kernel
theorem dX8_candidates_22 : decode cX8_candidates 22 = .ok (.iconst (-1), 1) := by decide +kernel
theorem dX8_candidates_23 : decode cX8_candidates 23 = .ok (.ireturn, 1) := by decide +kernel
theorem dX8_candidates_24 : decode cX8_candidates 24 = .ok (.aload_n 0, 1) := by decide +kernel
theorem dX8_candidates_25 : decode cX8_candidates 25 = .ok (.getfield 46, 3) := by decide +kernel
theorem dX8_candidates_28 : decode cX8_candidates 28 = .ok (.aload_n 0, 1) := by decide +kernel
theorem dX8_candidates_29 : decode cX8_candidates 29 = .ok (.getfield 36, 3) := by decide +kernel
theorem dX8_candidates_32 : decode cX8_candidates 32 = .ok (.iload_n 1, 1) := by decide +kernel
theorem dX8_candidates_33 : decode cX8_candidates 33 = .ok (.iload_n 2, 1) := by decide +kernel
theorem dX8_candidates_34 : decode cX8_candidates 34 = .ok (.aload_n 0, 1) := by decide +kernel
theorem dX8_candidates_35 : decode cX8_candidates 35 = .ok (.getfield 27, 3) := by decide +kernel
theorem dX8_candidates_38 : decode cX8_candidates 38 = .ok (.getfield 221, 3) := by decide +kernel
theorem dX8_candidates_41 : decode cX8_candidates 41 = .ok (.invokevirtual 224, 3) := by decide +kernel
theorem dX8_candidates_44 : decode cX8_candidates 44 = .ok (.aload_n 0, 1) := by decide +kernel
theorem dX8_candidates_45 : decode cX8_candidates 45 = .ok (.getfield 46, 3) := by decide +kernel
theorem dX8_candidates_48 : decode cX8_candidates 48 = .ok (.getfield 228, 3) := by decide +kernel
theorem dX8_candidates_51 : decode cX8_candidates 51 = .ok (.ireturn, 1) := by decide +kernel
theorem ydX8_candidates : z_yd yX8_candidates 2 := ⟨by decide, by decide, by decide +kernel⟩
abbrev rmX8_candidates : Room := { frames := 3, cells := 0, slots := 0, locals := 79 }
noncomputable def xX8_candidates (l0 : Nat) (l1 : Int32) (l2 : Int32) (h : ZH) : Option (Int32 × ZH) := ((z_gR h l0 8 5).bind fun x1 => (z_gu (z_is h x1 2) ((xX2_isShip x1 l1 h).bind fun r5 => (if r5.1 = 0 then some ((-1 : Int32), r5.2) else ((z_gR r5.2 l0 8 5).bind fun x12 => (z_gu (z_is r5.2 x12 2) ((xX2_isSlot x12 l2 r5.2).bind fun r16 => (if r16.1 = 0 then some ((-1 : Int32), r16.2) else ((z_gR r16.2 l0 8 8).bind fun x25 => ((z_gR r16.2 l0 8 6).bind fun x29 => ((z_gR r16.2 l0 8 5).bind fun x35 => ((z_gI r16.2 x35 2 2).bind fun x38 => (z_gu (z_is r16.2 x25 0) ((xX0_look x25 x29 l1 l2 x38 r16.2).bind fun h41 => ((z_gR h41 l0 8 8).bind fun x45 => ((z_gI h41 x45 0 0).bind fun x48 => some (x48, h41)))))))))))))))))
set_option maxHeartbeats 4000000 in
set_option maxRecDepth 100000 in
theorem lX8_candidates {Γ : ZG} {l : Launch} (hO : z_OK Γ) {l0 : Nat} {l1 : Int32} {l2 : Int32} {h : ZH} {r : (Int32 × ZH)} (hX : xX8_candidates l0 l1 l2 h = some r) : z_M Γ l yX8_candidates (z_ws1 yX8_candidates cX8_candidates 3 (some .int)) rmX8_candidates [.ref l0, .int l1, .int l2] h (some (.int r.1)) r.2 := by
  refine z_start hO (plainFor_of_name (by decide)) (Nat.le_of_ble_eq_true rfl) ?_
  intro p e s m args below meth c G hr hnm
  refine z_lvc (lv2 := [(0, .ref l0), (1, .int l1), (2, .int l2)]) rfl ?_
  refine z_aload_n (pc := 0) G 0 dX8_candidates_0 rfl rfl ?_
  obtain ⟨x1, hv1, hX⟩ := z_bd hX
  refine z_getR (pc := 1) G kK8 (k := 5) (by decide) kt_429 dX8_candidates_1 hv1 ?_
  refine z_iload_n (pc := 4) G 1 dX8_candidates_4 rfl rfl ?_
  obtain ⟨hi5, hX⟩ := z_gu_s hX
  obtain ⟨r5, hv5, hX⟩ := z_bd hX
  refine z_cVI (pc := 5) (As := [.int l1]) (c2 := 0) (s2 := 0) G kK2 (lX2_isShip hO hv5) hi5 kt_727 kt_3 kt_724 kt_725 kt_726 ydX2_isShip ⟨by decide, by decide⟩ rfl (Nat.le_of_ble_eq_true rfl) ⟨rfl, rfl⟩ ⟨by decide, by decide⟩ rfl dX8_candidates_5 ?_
  refine z_if_eq (pc := 8) (tgt := 22) G dX8_candidates_8 (by decide) (fun hc8 => ?_) (fun hc8 => ?_)
  · have hX := z_it hc8 hX
    refine z_iconst (pc := 22) (v := (-1)) G dX8_candidates_22 (by decide) ?_
    exact z_iretX (pc := 23) hX G hr dX8_candidates_23 (by decide) (by decide)
  · have hX := z_if hc8 hX
    refine z_aload_n (pc := 11) G 0 dX8_candidates_11 rfl rfl ?_
    obtain ⟨x12, hv12, hX⟩ := z_bd hX
    refine z_getR (pc := 12) G kK8 (k := 5) (by decide) kt_429 dX8_candidates_12 hv12 ?_
    refine z_iload_n (pc := 15) G 2 dX8_candidates_15 rfl rfl ?_
    obtain ⟨hi16, hX⟩ := z_gu_s hX
    obtain ⟨r16, hv16, hX⟩ := z_bd hX
    refine z_cVI (pc := 16) (As := [.int l2]) (c2 := 0) (s2 := 0) G kK2 (lX2_isSlot hO hv16) hi16 kt_766 kt_3 kt_763 kt_764 kt_765 ydX2_isSlot ⟨by decide, by decide⟩ rfl (Nat.le_of_ble_eq_true rfl) ⟨rfl, rfl⟩ ⟨by decide, by decide⟩ rfl dX8_candidates_16 ?_
    refine z_if_ne (pc := 19) (tgt := 24) G dX8_candidates_19 (by decide) (fun hc19 => ?_) (fun hc19 => ?_)
    · have hX := z_if hc19 hX
      refine z_aload_n (pc := 24) G 0 dX8_candidates_24 rfl rfl ?_
      obtain ⟨x25, hv25, hX⟩ := z_bd hX
      refine z_getR (pc := 25) G kK8 (k := 8) (by decide) kt_432 dX8_candidates_25 hv25 ?_
      refine z_aload_n (pc := 28) G 0 dX8_candidates_28 rfl rfl ?_
      obtain ⟨x29, hv29, hX⟩ := z_bd hX
      refine z_getR (pc := 29) G kK8 (k := 6) (by decide) kt_430 dX8_candidates_29 hv29 ?_
      refine z_iload_n (pc := 32) G 1 dX8_candidates_32 rfl rfl ?_
      refine z_iload_n (pc := 33) G 2 dX8_candidates_33 rfl rfl ?_
      refine z_aload_n (pc := 34) G 0 dX8_candidates_34 rfl rfl ?_
      obtain ⟨x35, hv35, hX⟩ := z_bd hX
      refine z_getR (pc := 35) G kK8 (k := 5) (by decide) kt_429 dX8_candidates_35 hv35 ?_
      obtain ⟨x38, hv38, hX⟩ := z_bd hX
      refine z_getI (pc := 38) G kK2 (k := 2) (by decide) kt_53 dX8_candidates_38 hv38 ?_
      obtain ⟨hi41, hX⟩ := z_gu_s hX
      obtain ⟨h41, hv41, hX⟩ := z_bd hX
      refine z_cVV (pc := 41) (As := [.ref x29, .int l1, .int l2, .int x38]) (c2 := 0) (s2 := 0) G kK0 (lX0_look hO hv41) hi41 kt_859 kt_5 kt_951 kt_857 kt_858 ydX0_look ⟨by decide, by decide⟩ rfl (Nat.le_of_ble_eq_true rfl) ⟨rfl, rfl⟩ ⟨by decide, by decide⟩ rfl dX8_candidates_41 ?_
      refine z_aload_n (pc := 44) G 0 dX8_candidates_44 rfl rfl ?_
      obtain ⟨x45, hv45, hX⟩ := z_bd hX
      refine z_getR (pc := 45) G kK8 (k := 8) (by decide) kt_432 dX8_candidates_45 hv45 ?_
      obtain ⟨x48, hv48, hX⟩ := z_bd hX
      refine z_getI (pc := 48) G kK0 (k := 0) (by decide) kt_284 dX8_candidates_48 hv48 ?_
      exact z_iretX (pc := 51) hX G hr dX8_candidates_51 (by decide) (by decide)
    · have hX := z_it hc19 hX
      refine z_iconst (pc := 22) (v := (-1)) G dX8_candidates_22 (by decide) ?_
      exact z_iretX (pc := 23) hX G hr dX8_candidates_23 (by decide) (by decide)
theorem dX8_free_0 : decode cX8_free 0 = .ok (.aload_n 0, 1) := by decide +kernel
theorem dX8_free_1 : decode cX8_free 1 = .ok (.getfield 27, 3) := by decide +kernel
theorem dX8_free_4 : decode cX8_free 4 = .ok (.iload_n 1, 1) := by decide +kernel
theorem dX8_free_5 : decode cX8_free 5 = .ok (.invokevirtual 127, 3) := by decide +kernel
theorem dX8_free_8 : decode cX8_free 8 = .ok (.ifCond .ne 5, 3) := by decide +kernel
theorem dX8_free_11 : decode cX8_free 11 = .ok (.iconst (-1), 1) := by decide +kernel
theorem dX8_free_12 : decode cX8_free 12 = .ok (.ireturn, 1) := by decide +kernel
theorem dX8_free_13 : decode cX8_free 13 = .ok (.aload_n 0, 1) := by decide +kernel
theorem dX8_free_14 : decode cX8_free 14 = .ok (.getfield 36, 3) := by decide +kernel
theorem dX8_free_17 : decode cX8_free 17 = .ok (.iload_n 1, 1) := by decide +kernel
theorem dX8_free_18 : decode cX8_free 18 = .ok (.invokevirtual 231, 3) := by decide +kernel
theorem dX8_free_21 : decode cX8_free 21 = .ok (.istore_n 2, 1) := by decide +kernel
theorem dX8_free_22 : decode cX8_free 22 = .ok (.iconst 0, 1) := by decide +kernel
theorem dX8_free_23 : decode cX8_free 23 = .ok (.istore_n 3, 1) := by decide +kernel
theorem dX8_free_24 : decode cX8_free 24 = .ok (.iconst 0, 1) := by decide +kernel
theorem dX8_free_25 : decode cX8_free 25 = .ok (.istore 4, 2) := by decide +kernel
theorem dX8_free_27 : decode cX8_free 27 = .ok (.iload 4, 2) := by decide +kernel
theorem dX8_free_29 : decode cX8_free 29 = .ok (.aload_n 0, 1) := by decide +kernel
theorem dX8_free_30 : decode cX8_free 30 = .ok (.getfield 27, 3) := by decide +kernel
theorem dX8_free_33 : decode cX8_free 33 = .ok (.getfield 234, 3) := by decide +kernel
theorem dX8_free_36 : decode cX8_free 36 = .ok (.if_icmp .ge 51, 3) := by decide +kernel
theorem dX8_free_39 : decode cX8_free 39 = .ok (.aload_n 0, 1) := by decide +kernel
theorem dX8_free_40 : decode cX8_free 40 = .ok (.getfield 36, 3) := by decide +kernel
theorem dX8_free_43 : decode cX8_free 43 = .ok (.iload_n 1, 1) := by decide +kernel
theorem dX8_free_44 : decode cX8_free 44 = .ok (.iload 4, 2) := by decide +kernel
theorem dX8_free_46 : decode cX8_free 46 = .ok (.invokevirtual 237, 3) := by decide +kernel
theorem dX8_free_49 : decode cX8_free 49 = .ok (.iconst (-1), 1) := by decide +kernel
theorem dX8_free_50 : decode cX8_free 50 = .ok (.if_icmp .eq 7, 3) := by decide +kernel
theorem dX8_free_53 : decode cX8_free 53 = .ok (.iconst 1, 1) := by decide +kernel
theorem dX8_free_54 : decode cX8_free 54 = .ok (.goto 4, 3) := by decide +kernel
theorem dX8_free_57 : decode cX8_free 57 = .ok (.iconst 0, 1) := by decide +kernel
theorem dX8_free_58 : decode cX8_free 58 = .ok (.istore 5, 2) := by decide +kernel
theorem dX8_free_60 : decode cX8_free 60 = .ok (.iload 5, 2) := by decide +kernel
theorem dX8_free_62 : decode cX8_free 62 = .ok (.ifCond .ne 19, 3) := by decide +kernel
theorem dX8_free_65 : decode cX8_free 65 = .ok (.iload_n 2, 1) := by decide +kernel
theorem dX8_free_66 : decode cX8_free 66 = .ok (.iload 4, 2) := by decide +kernel
theorem dX8_free_68 : decode cX8_free 68 = .ok (.ishr, 1) := by decide +kernel
theorem dX8_free_69 : decode cX8_free 69 = .ok (.iconst 1, 1) := by decide +kernel
theorem dX8_free_70 : decode cX8_free 70 = .ok (.iand, 1) := by decide +kernel
theorem dX8_free_71 : decode cX8_free 71 = .ok (.ifCond .ne 10, 3) := by decide +kernel
theorem dX8_free_74 : decode cX8_free 74 = .ok (.iload_n 3, 1) := by decide +kernel
theorem dX8_free_75 : decode cX8_free 75 = .ok (.iconst 1, 1) := by decide +kernel
theorem dX8_free_76 : decode cX8_free 76 = .ok (.iload 4, 2) := by decide +kernel
theorem dX8_free_78 : decode cX8_free 78 = .ok (.ishl, 1) := by decide +kernel
theorem dX8_free_79 : decode cX8_free 79 = .ok (.ior, 1) := by decide +kernel
theorem dX8_free_80 : decode cX8_free 80 = .ok (.istore_n 3, 1) := by decide +kernel
theorem dX8_free_81 : decode cX8_free 81 = .ok (.iinc 4 1, 3) := by decide +kernel
theorem dX8_free_84 : decode cX8_free 84 = .ok (.goto (-57), 3) := by decide +kernel
theorem dX8_free_87 : decode cX8_free 87 = .ok (.iload_n 3, 1) := by decide +kernel
theorem dX8_free_88 : decode cX8_free 88 = .ok (.ireturn, 1) := by decide +kernel
theorem ydX8_free : z_yd yX8_free 1 := ⟨by decide, by decide, by decide +kernel⟩
abbrev rmX8_free : Room := { frames := 1, cells := 0, slots := 0, locals := 23 }
noncomputable def xX8_free_B58 (r27 : Nat → Int32 → Int32 → Int32 → Int32 → ZH → Option (Int32 × ZH)) (l0 : Nat) (l1 : Int32) (l2 : Int32) (l3 : Int32) (l4 : Int32) (s0 : Int32) (h : ZH) : Option (Int32 × ZH) := (if s0 = 0 then (if ((l2 >>> (l4 &&& 31)) &&& (1 : Int32)) = 0 then r27 l0 l1 l2 (l3 ||| ((1 : Int32) <<< (l4 &&& 31))) (l4 + 1) h else r27 l0 l1 l2 l3 (l4 + 1) h) else r27 l0 l1 l2 l3 (l4 + 1) h)
set_option maxHeartbeats 4000000 in
set_option maxRecDepth 100000 in
theorem wX8_free_B58 {Γ : ZG} {p : Program} {l : Launch} {e : Env} {s : State} {m : MethodId} {args : Array Value} {below : List Frame} {meth : Method} {c : Code} (hO : z_OK Γ) (G : z_GG Γ p s m args meth c cX8_free 6 RX8) (hr : meth.sig.returnType = (some .int)) (hnm : meth.name = "free") {r : (Int32 × ZH)} {r27 : Nat → Int32 → Int32 → Int32 → Int32 → ZH → Option (Int32 × ZH)} (H27 : ∀ (l0 : Nat) (l1 : Int32) (l2 : Int32) (l3 : Int32) (l4 : Int32) (h : ZH), r27 l0 l1 l2 l3 l4 h = some r → z_W Γ p l e rmX8_free s m args below meth c 6 0 0 (MQ below (z_Qc Γ (some (.int r.1)) r.2) args s rmX8_free.cells rmX8_free.slots (z_A Γ)) 27 [(0, .ref l0), (1, .int l1), (2, .int l2), (3, .int l3), (4, .int l4)] [] h) : ∀ (l0 : Nat) (l1 : Int32) (l2 : Int32) (l3 : Int32) (l4 : Int32) (s0 : Int32) (h : ZH), xX8_free_B58  r27 l0 l1 l2 l3 l4 s0 h = some r → z_W Γ p l e rmX8_free s m args below meth c 6 0 0 (MQ below (z_Qc Γ (some (.int r.1)) r.2) args s rmX8_free.cells rmX8_free.slots (z_A Γ)) 58 [(0, .ref l0), (1, .int l1), (2, .int l2), (3, .int l3), (4, .int l4)] [.int s0] h := by
  intro l0 l1 l2 l3 l4 s0 h hX
  refine z_istore (pc := 58) (lv2 := [(0, .ref l0), (1, .int l1), (2, .int l2), (3, .int l3), (4, .int l4), (5, .int s0)]) G dX8_free_58 (by decide) rfl rfl ?_
  refine z_iload (pc := 60) G 5 dX8_free_60 rfl ?_
  refine z_if_ne (pc := 62) (tgt := 81) G dX8_free_62 (by decide) (fun hc62 => ?_) (fun hc62 => ?_)
  · have hX := z_if hc62 hX
    refine z_iincw (pc := 81) (w := 1) (lv2 := [(0, .ref l0), (1, .int l1), (2, .int l2), (3, .int l3), (4, .int (l4 + 1)), (5, .int s0)]) G 4 dX8_free_81 rfl (by decide) (by decide) rfl rfl ?_
    refine z_goto (pc := 84) (tgt := 27) G dX8_free_84 (by decide) ?_
    refine z_drop (lv2 := [(0, .ref l0), (1, .int l1), (2, .int l2), (3, .int l3), (4, .int (l4 + 1))]) [0, 1, 2, 3, 4] rfl ?_
    exact H27 _ _ _ _ _ _ hX
  · have hX := z_it hc62 hX
    refine z_iload_n (pc := 65) G 2 dX8_free_65 rfl rfl ?_
    refine z_iload (pc := 66) G 4 dX8_free_66 rfl ?_
    refine z_ishr (pc := 68) G dX8_free_68 ?_
    refine z_iconst (pc := 69) (v := 1) G dX8_free_69 (by decide) ?_
    refine z_iand (pc := 70) G dX8_free_70 ?_
    refine z_if_ne (pc := 71) (tgt := 81) G dX8_free_71 (by decide) (fun hc71 => ?_) (fun hc71 => ?_)
    · have hX := z_if hc71 hX
      refine z_iincw (pc := 81) (w := 1) (lv2 := [(0, .ref l0), (1, .int l1), (2, .int l2), (3, .int l3), (4, .int (l4 + 1)), (5, .int s0)]) G 4 dX8_free_81 rfl (by decide) (by decide) rfl rfl ?_
      refine z_goto (pc := 84) (tgt := 27) G dX8_free_84 (by decide) ?_
      refine z_drop (lv2 := [(0, .ref l0), (1, .int l1), (2, .int l2), (3, .int l3), (4, .int (l4 + 1))]) [0, 1, 2, 3, 4] rfl ?_
      exact H27 _ _ _ _ _ _ hX
    · have hX := z_it hc71 hX
      refine z_iload_n (pc := 74) G 3 dX8_free_74 rfl rfl ?_
      refine z_iconst (pc := 75) (v := 1) G dX8_free_75 (by decide) ?_
      refine z_iload (pc := 76) G 4 dX8_free_76 rfl ?_
      refine z_ishl (pc := 78) G dX8_free_78 ?_
      refine z_ior (pc := 79) G dX8_free_79 ?_
      refine z_istore_n (pc := 80) (lv2 := [(0, .ref l0), (1, .int l1), (2, .int l2), (3, .int (l3 ||| ((1 : Int32) <<< (l4 &&& 31)))), (4, .int l4), (5, .int s0)]) G dX8_free_80 rfl (by decide) rfl rfl ?_
      refine z_iincw (pc := 81) (w := 1) (lv2 := [(0, .ref l0), (1, .int l1), (2, .int l2), (3, .int (l3 ||| ((1 : Int32) <<< (l4 &&& 31)))), (4, .int (l4 + 1)), (5, .int s0)]) G 4 dX8_free_81 rfl (by decide) (by decide) rfl rfl ?_
      refine z_goto (pc := 84) (tgt := 27) G dX8_free_84 (by decide) ?_
      refine z_drop (lv2 := [(0, .ref l0), (1, .int l1), (2, .int l2), (3, .int (l3 ||| ((1 : Int32) <<< (l4 &&& 31)))), (4, .int (l4 + 1))]) [0, 1, 2, 3, 4] rfl ?_
      exact H27 _ _ _ _ _ _ hX
noncomputable def xX8_free_B27 (r27 : Nat → Int32 → Int32 → Int32 → Int32 → ZH → Option (Int32 × ZH)) (l0 : Nat) (l1 : Int32) (l2 : Int32) (l3 : Int32) (l4 : Int32) (h : ZH) : Option (Int32 × ZH) := ((z_gR h l0 8 5).bind fun x30 => ((z_gI h x30 2 0).bind fun x33 => (if x33 ≤ l4 then some (l3, h) else ((z_gR h l0 8 6).bind fun x40 => (z_gu (z_is h x40 5) ((xX5_holderOf x40 l1 l4 h).bind fun r46 => (if r46.1 = (-1 : Int32) then xX8_free_B58 r27 l0 l1 l2 l3 l4 (0 : Int32) r46.2 else xX8_free_B58 r27 l0 l1 l2 l3 l4 (1 : Int32) r46.2)))))))
noncomputable def xX8_free_L27 (n : Nat) : Nat → Int32 → Int32 → Int32 → Int32 → ZH → Option (Int32 × ZH) := Nat.rec (motive := fun _ => Nat → Int32 → Int32 → Int32 → Int32 → ZH → Option (Int32 × ZH)) (fun _ _ _ _ _ _ => none) (fun _ rec => xX8_free_B27  rec) n
set_option maxHeartbeats 4000000 in
set_option maxRecDepth 100000 in
theorem wX8_free_B27 {Γ : ZG} {p : Program} {l : Launch} {e : Env} {s : State} {m : MethodId} {args : Array Value} {below : List Frame} {meth : Method} {c : Code} (hO : z_OK Γ) (G : z_GG Γ p s m args meth c cX8_free 6 RX8) (hr : meth.sig.returnType = (some .int)) (hnm : meth.name = "free") {r : (Int32 × ZH)} {r27 : Nat → Int32 → Int32 → Int32 → Int32 → ZH → Option (Int32 × ZH)} (H27 : ∀ (l0 : Nat) (l1 : Int32) (l2 : Int32) (l3 : Int32) (l4 : Int32) (h : ZH), r27 l0 l1 l2 l3 l4 h = some r → z_W Γ p l e rmX8_free s m args below meth c 6 0 0 (MQ below (z_Qc Γ (some (.int r.1)) r.2) args s rmX8_free.cells rmX8_free.slots (z_A Γ)) 27 [(0, .ref l0), (1, .int l1), (2, .int l2), (3, .int l3), (4, .int l4)] [] h) : ∀ (l0 : Nat) (l1 : Int32) (l2 : Int32) (l3 : Int32) (l4 : Int32) (h : ZH), xX8_free_B27  r27 l0 l1 l2 l3 l4 h = some r → z_W Γ p l e rmX8_free s m args below meth c 6 0 0 (MQ below (z_Qc Γ (some (.int r.1)) r.2) args s rmX8_free.cells rmX8_free.slots (z_A Γ)) 27 [(0, .ref l0), (1, .int l1), (2, .int l2), (3, .int l3), (4, .int l4)] [] h := by
  intro l0 l1 l2 l3 l4 h hX
  refine z_iload (pc := 27) G 4 dX8_free_27 rfl ?_
  refine z_aload_n (pc := 29) G 0 dX8_free_29 rfl rfl ?_
  obtain ⟨x30, hv30, hX⟩ := z_bd hX
  refine z_getR (pc := 30) G kK8 (k := 5) (by decide) kt_429 dX8_free_30 hv30 ?_
  obtain ⟨x33, hv33, hX⟩ := z_bd hX
  refine z_getI (pc := 33) G kK2 (k := 0) (by decide) kt_44 dX8_free_33 hv33 ?_
  refine z_icmp_ge (pc := 36) (tgt := 87) G dX8_free_36 (by decide) (fun hc36 => ?_) (fun hc36 => ?_)
  · have hX := z_it hc36 hX
    refine z_iload_n (pc := 87) G 3 dX8_free_87 rfl rfl ?_
    exact z_iretX (pc := 88) hX G hr dX8_free_88 (by decide) (by decide)
  · have hX := z_if hc36 hX
    refine z_aload_n (pc := 39) G 0 dX8_free_39 rfl rfl ?_
    obtain ⟨x40, hv40, hX⟩ := z_bd hX
    refine z_getR (pc := 40) G kK8 (k := 6) (by decide) kt_430 dX8_free_40 hv40 ?_
    refine z_iload_n (pc := 43) G 1 dX8_free_43 rfl rfl ?_
    refine z_iload (pc := 44) G 4 dX8_free_44 rfl ?_
    obtain ⟨hi46, hX⟩ := z_gu_s hX
    obtain ⟨r46, hv46, hX⟩ := z_bd hX
    refine z_cVI (pc := 46) (As := [.int l1, .int l4]) (c2 := 0) (s2 := 0) G kK5 (lX5_holderOf hO hv46) hi46 kt_748 kt_4 kt_957 kt_746 kt_747 ydX5_holderOf ⟨by decide, by decide⟩ rfl (Nat.le_of_ble_eq_true rfl) ⟨rfl, rfl⟩ ⟨by decide, by decide⟩ rfl dX8_free_46 ?_
    refine z_iconst (pc := 49) (v := (-1)) G dX8_free_49 (by decide) ?_
    refine z_icmp_eq (pc := 50) (tgt := 57) G dX8_free_50 (by decide) (fun hc50 => ?_) (fun hc50 => ?_)
    · have hX := z_it hc50 hX
      refine z_iconst (pc := 57) (v := 0) G dX8_free_57 (by decide) ?_
      exact wX8_free_B58 hO G hr hnm H27 _ _ _ _ _ _ _ hX
    · have hX := z_if hc50 hX
      refine z_iconst (pc := 53) (v := 1) G dX8_free_53 (by decide) ?_
      refine z_goto (pc := 54) (tgt := 58) G dX8_free_54 (by decide) ?_
      exact wX8_free_B58 hO G hr hnm H27 _ _ _ _ _ _ _ hX
set_option maxHeartbeats 4000000 in
set_option maxRecDepth 100000 in
theorem wX8_free_L27 {Γ : ZG} {p : Program} {l : Launch} {e : Env} {s : State} {m : MethodId} {args : Array Value} {below : List Frame} {meth : Method} {c : Code} (hO : z_OK Γ) (G : z_GG Γ p s m args meth c cX8_free 6 RX8) (hr : meth.sig.returnType = (some .int)) (hnm : meth.name = "free") {r : (Int32 × ZH)} : ∀ (nn : Nat) (l0 : Nat) (l1 : Int32) (l2 : Int32) (l3 : Int32) (l4 : Int32) (h : ZH), xX8_free_L27  nn l0 l1 l2 l3 l4 h = some r → z_W Γ p l e rmX8_free s m args below meth c 6 0 0 (MQ below (z_Qc Γ (some (.int r.1)) r.2) args s rmX8_free.cells rmX8_free.slots (z_A Γ)) 27 [(0, .ref l0), (1, .int l1), (2, .int l2), (3, .int l3), (4, .int l4)] [] h := by
  intro nn
  induction nn with
  | zero => intro l0 l1 l2 l3 l4 h hX; cases hX
  | succ nn ih => intro l0 l1 l2 l3 l4 h hX; exact wX8_free_B27 hO G hr hnm  ih l0 l1 l2 l3 l4 h hX
noncomputable def xX8_free (l0 : Nat) (l1 : Int32) (h : ZH) : Option (Int32 × ZH) := ((z_gR h l0 8 5).bind fun x1 => (z_gu (z_is h x1 2) ((xX2_isShip x1 l1 h).bind fun r5 => (if r5.1 = 0 then some ((-1 : Int32), r5.2) else ((z_gR r5.2 l0 8 6).bind fun x14 => (z_gu (z_is r5.2 x14 5) ((xX5_ownedBits x14 l1 r5.2).bind fun r18 => xX8_free_L27 zFU l0 l1 r18.1 (0 : Int32) (0 : Int32) r18.2)))))))
set_option maxHeartbeats 4000000 in
set_option maxRecDepth 100000 in
theorem lX8_free {Γ : ZG} {l : Launch} (hO : z_OK Γ) {l0 : Nat} {l1 : Int32} {h : ZH} {r : (Int32 × ZH)} (hX : xX8_free l0 l1 h = some r) : z_M Γ l yX8_free (z_ws1 yX8_free cX8_free 6 (some .int)) rmX8_free [.ref l0, .int l1] h (some (.int r.1)) r.2 := by
  refine z_start hO (plainFor_of_name (by decide)) (Nat.le_of_ble_eq_true rfl) ?_
  intro p e s m args below meth c G hr hnm
  refine z_lvc (lv2 := [(0, .ref l0), (1, .int l1)]) rfl ?_
  refine z_aload_n (pc := 0) G 0 dX8_free_0 rfl rfl ?_
  obtain ⟨x1, hv1, hX⟩ := z_bd hX
  refine z_getR (pc := 1) G kK8 (k := 5) (by decide) kt_429 dX8_free_1 hv1 ?_
  refine z_iload_n (pc := 4) G 1 dX8_free_4 rfl rfl ?_
  obtain ⟨hi5, hX⟩ := z_gu_s hX
  obtain ⟨r5, hv5, hX⟩ := z_bd hX
  refine z_cVI (pc := 5) (As := [.int l1]) (c2 := 0) (s2 := 0) G kK2 (lX2_isShip hO hv5) hi5 kt_727 kt_3 kt_724 kt_725 kt_726 ydX2_isShip ⟨by decide, by decide⟩ rfl (Nat.le_of_ble_eq_true rfl) ⟨rfl, rfl⟩ ⟨by decide, by decide⟩ rfl dX8_free_5 ?_
  refine z_if_ne (pc := 8) (tgt := 13) G dX8_free_8 (by decide) (fun hc8 => ?_) (fun hc8 => ?_)
  · have hX := z_if hc8 hX
    refine z_aload_n (pc := 13) G 0 dX8_free_13 rfl rfl ?_
    obtain ⟨x14, hv14, hX⟩ := z_bd hX
    refine z_getR (pc := 14) G kK8 (k := 6) (by decide) kt_430 dX8_free_14 hv14 ?_
    refine z_iload_n (pc := 17) G 1 dX8_free_17 rfl rfl ?_
    obtain ⟨hi18, hX⟩ := z_gu_s hX
    obtain ⟨r18, hv18, hX⟩ := z_bd hX
    refine z_cVI (pc := 18) (As := [.int l1]) (c2 := 0) (s2 := 0) G kK5 (lX5_ownedBits hO hv18) hi18 kt_871 kt_4 kt_956 kt_869 kt_870 ydX5_ownedBits ⟨by decide, by decide⟩ rfl (Nat.le_of_ble_eq_true rfl) ⟨rfl, rfl⟩ ⟨by decide, by decide⟩ rfl dX8_free_18 ?_
    refine z_istore_n (pc := 21) (lv2 := [(0, .ref l0), (1, .int l1), (2, .int r18.1)]) G dX8_free_21 rfl (by decide) rfl rfl ?_
    refine z_iconst (pc := 22) (v := 0) G dX8_free_22 (by decide) ?_
    refine z_istore_n (pc := 23) (lv2 := [(0, .ref l0), (1, .int l1), (2, .int r18.1), (3, .int (0 : Int32))]) G dX8_free_23 rfl (by decide) rfl rfl ?_
    refine z_iconst (pc := 24) (v := 0) G dX8_free_24 (by decide) ?_
    refine z_istore (pc := 25) (lv2 := [(0, .ref l0), (1, .int l1), (2, .int r18.1), (3, .int (0 : Int32)), (4, .int (0 : Int32))]) G dX8_free_25 (by decide) rfl rfl ?_
    exact wX8_free_L27 hO G hr hnm zFU _ _ _ _ _ _ hX
  · have hX := z_it hc8 hX
    refine z_iconst (pc := 11) (v := (-1)) G dX8_free_11 (by decide) ?_
    exact z_iretX (pc := 12) hX G hr dX8_free_12 (by decide) (by decide)
theorem dX8_reuse_0 : decode cX8_reuse 0 = .ok (.aload_n 0, 1) := by decide +kernel
theorem dX8_reuse_1 : decode cX8_reuse 1 = .ok (.getfield 27, 3) := by decide +kernel
theorem dX8_reuse_4 : decode cX8_reuse 4 = .ok (.iload_n 1, 1) := by decide +kernel
theorem dX8_reuse_5 : decode cX8_reuse 5 = .ok (.invokevirtual 127, 3) := by decide +kernel
theorem dX8_reuse_8 : decode cX8_reuse 8 = .ok (.ifCond .eq 14, 3) := by decide +kernel
theorem dX8_reuse_11 : decode cX8_reuse 11 = .ok (.aload_n 0, 1) := by decide +kernel
theorem dX8_reuse_12 : decode cX8_reuse 12 = .ok (.getfield 27, 3) := by decide +kernel
theorem dX8_reuse_15 : decode cX8_reuse 15 = .ok (.iload_n 2, 1) := by decide +kernel
theorem dX8_reuse_16 : decode cX8_reuse 16 = .ok (.invokevirtual 165, 3) := by decide +kernel
theorem dX8_reuse_19 : decode cX8_reuse 19 = .ok (.ifCond .ne 5, 3) := by decide +kernel
theorem dX8_reuse_22 : decode cX8_reuse 22 = .ok (.iconst (-1), 1) := by decide +kernel
theorem dX8_reuse_23 : decode cX8_reuse 23 = .ok (.ireturn, 1) := by decide +kernel
theorem dX8_reuse_24 : decode cX8_reuse 24 = .ok (.aload_n 0, 1) := by decide +kernel
theorem dX8_reuse_25 : decode cX8_reuse 25 = .ok (.getfield 46, 3) := by decide +kernel
theorem dX8_reuse_28 : decode cX8_reuse 28 = .ok (.aload_n 0, 1) := by decide +kernel
theorem dX8_reuse_29 : decode cX8_reuse 29 = .ok (.getfield 27, 3) := by decide +kernel
theorem dX8_reuse_32 : decode cX8_reuse 32 = .ok (.iload_n 2, 1) := by decide +kernel
theorem dX8_reuse_33 : decode cX8_reuse 33 = .ok (.aload_n 0, 1) := by decide +kernel
theorem dX8_reuse_34 : decode cX8_reuse 34 = .ok (.getfield 27, 3) := by decide +kernel
theorem dX8_reuse_37 : decode cX8_reuse 37 = .ok (.getfield 221, 3) := by decide +kernel
theorem dX8_reuse_40 : decode cX8_reuse 40 = .ok (.invokevirtual 240, 3) := by decide +kernel
theorem dX8_reuse_43 : decode cX8_reuse 43 = .ok (.aload_n 0, 1) := by decide +kernel
theorem dX8_reuse_44 : decode cX8_reuse 44 = .ok (.getfield 46, 3) := by decide +kernel
theorem dX8_reuse_47 : decode cX8_reuse 47 = .ok (.aload_n 0, 1) := by decide +kernel
theorem dX8_reuse_48 : decode cX8_reuse 48 = .ok (.getfield 36, 3) := by decide +kernel
theorem dX8_reuse_51 : decode cX8_reuse 51 = .ok (.iload_n 1, 1) := by decide +kernel
theorem dX8_reuse_52 : decode cX8_reuse 52 = .ok (.aload_n 0, 1) := by decide +kernel
theorem dX8_reuse_53 : decode cX8_reuse 53 = .ok (.getfield 36, 3) := by decide +kernel
theorem dX8_reuse_56 : decode cX8_reuse 56 = .ok (.iload_n 1, 1) := by decide +kernel
theorem dX8_reuse_57 : decode cX8_reuse 57 = .ok (.invokevirtual 231, 3) := by decide +kernel
theorem dX8_reuse_60 : decode cX8_reuse 60 = .ok (.invokevirtual 244, 3) := by decide +kernel
theorem dX8_reuse_63 : decode cX8_reuse 63 = .ok (.ireturn, 1) := by decide +kernel
theorem ydX8_reuse : z_yd yX8_reuse 2 := ⟨by decide, by decide, by decide +kernel⟩
abbrev rmX8_reuse : Room := { frames := 2, cells := 0, slots := 0, locals := 52 }
noncomputable def xX8_reuse (l0 : Nat) (l1 : Int32) (l2 : Int32) (h : ZH) : Option (Int32 × ZH) := ((z_gR h l0 8 5).bind fun x1 => (z_gu (z_is h x1 2) ((xX2_isShip x1 l1 h).bind fun r5 => (if r5.1 = 0 then some ((-1 : Int32), r5.2) else ((z_gR r5.2 l0 8 5).bind fun x12 => (z_gu (z_is r5.2 x12 2) ((xX2_isSlot x12 l2 r5.2).bind fun r16 => (if r16.1 = 0 then some ((-1 : Int32), r16.2) else ((z_gR r16.2 l0 8 8).bind fun x25 => ((z_gR r16.2 l0 8 5).bind fun x29 => ((z_gR r16.2 l0 8 5).bind fun x34 => ((z_gI r16.2 x34 2 2).bind fun x37 => (z_gu (z_is r16.2 x25 0) ((xX0_setOrder x25 x29 l2 x37 r16.2).bind fun h40 => ((z_gR h40 l0 8 8).bind fun x44 => ((z_gR h40 l0 8 6).bind fun x48 => ((z_gR h40 l0 8 6).bind fun x53 => (z_gu (z_is h40 x53 5) ((xX5_ownedBits x53 l1 h40).bind fun r57 => (z_gu (z_is r57.2 x44 0) ((xX0_farthestHeld x44 x48 l1 r57.1 r57.2).bind fun r60 => some (r60.1, r60.2))))))))))))))))))))))
set_option maxHeartbeats 4000000 in
set_option maxRecDepth 100000 in
theorem lX8_reuse {Γ : ZG} {l : Launch} (hO : z_OK Γ) {l0 : Nat} {l1 : Int32} {l2 : Int32} {h : ZH} {r : (Int32 × ZH)} (hX : xX8_reuse l0 l1 l2 h = some r) : z_M Γ l yX8_reuse (z_ws1 yX8_reuse cX8_reuse 3 (some .int)) rmX8_reuse [.ref l0, .int l1, .int l2] h (some (.int r.1)) r.2 := by
  refine z_start hO (plainFor_of_name (by decide)) (Nat.le_of_ble_eq_true rfl) ?_
  intro p e s m args below meth c G hr hnm
  refine z_lvc (lv2 := [(0, .ref l0), (1, .int l1), (2, .int l2)]) rfl ?_
  refine z_aload_n (pc := 0) G 0 dX8_reuse_0 rfl rfl ?_
  obtain ⟨x1, hv1, hX⟩ := z_bd hX
  refine z_getR (pc := 1) G kK8 (k := 5) (by decide) kt_429 dX8_reuse_1 hv1 ?_
  refine z_iload_n (pc := 4) G 1 dX8_reuse_4 rfl rfl ?_
  obtain ⟨hi5, hX⟩ := z_gu_s hX
  obtain ⟨r5, hv5, hX⟩ := z_bd hX
  refine z_cVI (pc := 5) (As := [.int l1]) (c2 := 0) (s2 := 0) G kK2 (lX2_isShip hO hv5) hi5 kt_727 kt_3 kt_724 kt_725 kt_726 ydX2_isShip ⟨by decide, by decide⟩ rfl (Nat.le_of_ble_eq_true rfl) ⟨rfl, rfl⟩ ⟨by decide, by decide⟩ rfl dX8_reuse_5 ?_
  refine z_if_eq (pc := 8) (tgt := 22) G dX8_reuse_8 (by decide) (fun hc8 => ?_) (fun hc8 => ?_)
  · have hX := z_it hc8 hX
    refine z_iconst (pc := 22) (v := (-1)) G dX8_reuse_22 (by decide) ?_
    exact z_iretX (pc := 23) hX G hr dX8_reuse_23 (by decide) (by decide)
  · have hX := z_if hc8 hX
    refine z_aload_n (pc := 11) G 0 dX8_reuse_11 rfl rfl ?_
    obtain ⟨x12, hv12, hX⟩ := z_bd hX
    refine z_getR (pc := 12) G kK8 (k := 5) (by decide) kt_429 dX8_reuse_12 hv12 ?_
    refine z_iload_n (pc := 15) G 2 dX8_reuse_15 rfl rfl ?_
    obtain ⟨hi16, hX⟩ := z_gu_s hX
    obtain ⟨r16, hv16, hX⟩ := z_bd hX
    refine z_cVI (pc := 16) (As := [.int l2]) (c2 := 0) (s2 := 0) G kK2 (lX2_isSlot hO hv16) hi16 kt_766 kt_3 kt_763 kt_764 kt_765 ydX2_isSlot ⟨by decide, by decide⟩ rfl (Nat.le_of_ble_eq_true rfl) ⟨rfl, rfl⟩ ⟨by decide, by decide⟩ rfl dX8_reuse_16 ?_
    refine z_if_ne (pc := 19) (tgt := 24) G dX8_reuse_19 (by decide) (fun hc19 => ?_) (fun hc19 => ?_)
    · have hX := z_if hc19 hX
      refine z_aload_n (pc := 24) G 0 dX8_reuse_24 rfl rfl ?_
      obtain ⟨x25, hv25, hX⟩ := z_bd hX
      refine z_getR (pc := 25) G kK8 (k := 8) (by decide) kt_432 dX8_reuse_25 hv25 ?_
      refine z_aload_n (pc := 28) G 0 dX8_reuse_28 rfl rfl ?_
      obtain ⟨x29, hv29, hX⟩ := z_bd hX
      refine z_getR (pc := 29) G kK8 (k := 5) (by decide) kt_429 dX8_reuse_29 hv29 ?_
      refine z_iload_n (pc := 32) G 2 dX8_reuse_32 rfl rfl ?_
      refine z_aload_n (pc := 33) G 0 dX8_reuse_33 rfl rfl ?_
      obtain ⟨x34, hv34, hX⟩ := z_bd hX
      refine z_getR (pc := 34) G kK8 (k := 5) (by decide) kt_429 dX8_reuse_34 hv34 ?_
      obtain ⟨x37, hv37, hX⟩ := z_bd hX
      refine z_getI (pc := 37) G kK2 (k := 2) (by decide) kt_53 dX8_reuse_37 hv37 ?_
      obtain ⟨hi40, hX⟩ := z_gu_s hX
      obtain ⟨h40, hv40, hX⟩ := z_bd hX
      refine z_cVV (pc := 40) (As := [.ref x29, .int l2, .int x37]) (c2 := 0) (s2 := 0) G kK0 (lX0_setOrder hO hv40) hi40 kt_863 kt_5 kt_962 kt_861 kt_862 ydX0_setOrder ⟨by decide, by decide⟩ rfl (Nat.le_of_ble_eq_true rfl) ⟨rfl, rfl⟩ ⟨by decide, by decide⟩ rfl dX8_reuse_40 ?_
      refine z_aload_n (pc := 43) G 0 dX8_reuse_43 rfl rfl ?_
      obtain ⟨x44, hv44, hX⟩ := z_bd hX
      refine z_getR (pc := 44) G kK8 (k := 8) (by decide) kt_432 dX8_reuse_44 hv44 ?_
      refine z_aload_n (pc := 47) G 0 dX8_reuse_47 rfl rfl ?_
      obtain ⟨x48, hv48, hX⟩ := z_bd hX
      refine z_getR (pc := 48) G kK8 (k := 6) (by decide) kt_430 dX8_reuse_48 hv48 ?_
      refine z_iload_n (pc := 51) G 1 dX8_reuse_51 rfl rfl ?_
      refine z_aload_n (pc := 52) G 0 dX8_reuse_52 rfl rfl ?_
      obtain ⟨x53, hv53, hX⟩ := z_bd hX
      refine z_getR (pc := 53) G kK8 (k := 6) (by decide) kt_430 dX8_reuse_53 hv53 ?_
      refine z_iload_n (pc := 56) G 1 dX8_reuse_56 rfl rfl ?_
      obtain ⟨hi57, hX⟩ := z_gu_s hX
      obtain ⟨r57, hv57, hX⟩ := z_bd hX
      refine z_cVI (pc := 57) (As := [.int l1]) (c2 := 0) (s2 := 0) G kK5 (lX5_ownedBits hO hv57) hi57 kt_871 kt_4 kt_956 kt_869 kt_870 ydX5_ownedBits ⟨by decide, by decide⟩ rfl (Nat.le_of_ble_eq_true rfl) ⟨rfl, rfl⟩ ⟨by decide, by decide⟩ rfl dX8_reuse_57 ?_
      obtain ⟨hi60, hX⟩ := z_gu_s hX
      obtain ⟨r60, hv60, hX⟩ := z_bd hX
      refine z_cVI (pc := 60) (As := [.ref x48, .int l1, .int r57.1]) (c2 := 0) (s2 := 0) G kK0 (lX0_farthestHeld hO hv60) hi60 kt_877 kt_5 kt_963 kt_875 kt_876 ydX0_farthestHeld ⟨by decide, by decide⟩ rfl (Nat.le_of_ble_eq_true rfl) ⟨rfl, rfl⟩ ⟨by decide, by decide⟩ rfl dX8_reuse_60 ?_
      exact z_iretX (pc := 63) hX G hr dX8_reuse_63 (by decide) (by decide)
    · have hX := z_it hc19 hX
      refine z_iconst (pc := 22) (v := (-1)) G dX8_reuse_22 (by decide) ?_
      exact z_iretX (pc := 23) hX G hr dX8_reuse_23 (by decide) (by decide)
theorem dX8_rate_0 : decode cX8_rate 0 = .ok (.aload_n 0, 1) := by decide +kernel
theorem dX8_rate_1 : decode cX8_rate 1 = .ok (.getfield 27, 3) := by decide +kernel
theorem dX8_rate_4 : decode cX8_rate 4 = .ok (.iload_n 1, 1) := by decide +kernel
theorem dX8_rate_5 : decode cX8_rate 5 = .ok (.invokevirtual 127, 3) := by decide +kernel
theorem dX8_rate_8 : decode cX8_rate 8 = .ok (.ifCond .ne 5, 3) := by decide +kernel
theorem dX8_rate_11 : decode cX8_rate 11 = .ok (.iconst (-1), 1) := by decide +kernel
theorem dX8_rate_12 : decode cX8_rate 12 = .ok (.ireturn, 1) := by decide +kernel
theorem dX8_rate_13 : decode cX8_rate 13 = .ok (.aload_n 0, 1) := by decide +kernel
theorem dX8_rate_14 : decode cX8_rate 14 = .ok (.getfield 36, 3) := by decide +kernel
theorem dX8_rate_17 : decode cX8_rate 17 = .ok (.iload_n 1, 1) := by decide +kernel
theorem dX8_rate_18 : decode cX8_rate 18 = .ok (.invokevirtual 248, 3) := by decide +kernel
theorem dX8_rate_21 : decode cX8_rate 21 = .ok (.ireturn, 1) := by decide +kernel
theorem ydX8_rate : z_yd yX8_rate 1 := ⟨by decide, by decide, by decide +kernel⟩
abbrev rmX8_rate : Room := { frames := 4, cells := 0, slots := 0, locals := 91 }
noncomputable def xX8_rate (l0 : Nat) (l1 : Int32) (h : ZH) : Option (Int32 × ZH) := ((z_gR h l0 8 5).bind fun x1 => (z_gu (z_is h x1 2) ((xX2_isShip x1 l1 h).bind fun r5 => (if r5.1 = 0 then some ((-1 : Int32), r5.2) else ((z_gR r5.2 l0 8 6).bind fun x14 => (z_gu (z_is r5.2 x14 5) ((xX5_howOften x14 l1 r5.2).bind fun r18 => some (r18.1, r18.2))))))))
set_option maxHeartbeats 4000000 in
set_option maxRecDepth 100000 in
theorem lX8_rate {Γ : ZG} {l : Launch} (hO : z_OK Γ) {l0 : Nat} {l1 : Int32} {h : ZH} {r : (Int32 × ZH)} (hX : xX8_rate l0 l1 h = some r) : z_M Γ l yX8_rate (z_ws1 yX8_rate cX8_rate 2 (some .int)) rmX8_rate [.ref l0, .int l1] h (some (.int r.1)) r.2 := by
  refine z_start hO (plainFor_of_name (by decide)) (Nat.le_of_ble_eq_true rfl) ?_
  intro p e s m args below meth c G hr hnm
  refine z_lvc (lv2 := [(0, .ref l0), (1, .int l1)]) rfl ?_
  refine z_aload_n (pc := 0) G 0 dX8_rate_0 rfl rfl ?_
  obtain ⟨x1, hv1, hX⟩ := z_bd hX
  refine z_getR (pc := 1) G kK8 (k := 5) (by decide) kt_429 dX8_rate_1 hv1 ?_
  refine z_iload_n (pc := 4) G 1 dX8_rate_4 rfl rfl ?_
  obtain ⟨hi5, hX⟩ := z_gu_s hX
  obtain ⟨r5, hv5, hX⟩ := z_bd hX
  refine z_cVI (pc := 5) (As := [.int l1]) (c2 := 0) (s2 := 0) G kK2 (lX2_isShip hO hv5) hi5 kt_727 kt_3 kt_724 kt_725 kt_726 ydX2_isShip ⟨by decide, by decide⟩ rfl (Nat.le_of_ble_eq_true rfl) ⟨rfl, rfl⟩ ⟨by decide, by decide⟩ rfl dX8_rate_5 ?_
  refine z_if_ne (pc := 8) (tgt := 13) G dX8_rate_8 (by decide) (fun hc8 => ?_) (fun hc8 => ?_)
  · have hX := z_if hc8 hX
    refine z_aload_n (pc := 13) G 0 dX8_rate_13 rfl rfl ?_
    obtain ⟨x14, hv14, hX⟩ := z_bd hX
    refine z_getR (pc := 14) G kK8 (k := 6) (by decide) kt_430 dX8_rate_14 hv14 ?_
    refine z_iload_n (pc := 17) G 1 dX8_rate_17 rfl rfl ?_
    obtain ⟨hi18, hX⟩ := z_gu_s hX
    obtain ⟨r18, hv18, hX⟩ := z_bd hX
    refine z_cVI (pc := 18) (As := [.int l1]) (c2 := 0) (s2 := 0) G kK5 (lX5_howOften hO hv18) hi18 kt_831 kt_4 kt_968 kt_829 kt_830 ydX5_howOften ⟨by decide, by decide⟩ rfl (Nat.le_of_ble_eq_true rfl) ⟨rfl, rfl⟩ ⟨by decide, by decide⟩ rfl dX8_rate_18 ?_
    exact z_iretX (pc := 21) hX G hr dX8_rate_21 (by decide) (by decide)
  · have hX := z_it hc8 hX
    refine z_iconst (pc := 11) (v := (-1)) G dX8_rate_11 (by decide) ?_
    exact z_iretX (pc := 12) hX G hr dX8_rate_12 (by decide) (by decide)
theorem dX8_next_0 : decode cX8_next 0 = .ok (.aload_n 0, 1) := by decide +kernel
theorem dX8_next_1 : decode cX8_next 1 = .ok (.getfield 27, 3) := by decide +kernel
theorem dX8_next_4 : decode cX8_next 4 = .ok (.iload_n 1, 1) := by decide +kernel
theorem dX8_next_5 : decode cX8_next 5 = .ok (.invokevirtual 127, 3) := by decide +kernel
theorem dX8_next_8 : decode cX8_next 8 = .ok (.ifCond .ne 5, 3) := by decide +kernel
theorem dX8_next_11 : decode cX8_next 11 = .ok (.iconst (-1), 1) := by decide +kernel
theorem dX8_next_12 : decode cX8_next 12 = .ok (.ireturn, 1) := by decide +kernel
theorem dX8_next_13 : decode cX8_next 13 = .ok (.aload_n 0, 1) := by decide +kernel
theorem dX8_next_14 : decode cX8_next 14 = .ok (.getfield 40, 3) := by decide +kernel
theorem dX8_next_17 : decode cX8_next 17 = .ok (.aload_n 0, 1) := by decide +kernel
theorem dX8_next_18 : decode cX8_next 18 = .ok (.getfield 36, 3) := by decide +kernel
theorem dX8_next_21 : decode cX8_next 21 = .ok (.invokevirtual 251, 3) := by decide +kernel
theorem dX8_next_24 : decode cX8_next 24 = .ok (.iconst 1, 1) := by decide +kernel
theorem dX8_next_25 : decode cX8_next 25 = .ok (.istore_n 2, 1) := by decide +kernel
theorem dX8_next_26 : decode cX8_next 26 = .ok (.iload_n 2, 1) := by decide +kernel
theorem dX8_next_27 : decode cX8_next 27 = .ok (.bipush 90, 2) := by decide +kernel
theorem dX8_next_29 : decode cX8_next 29 = .ok (.if_icmp .gt 32, 3) := by decide +kernel
theorem dX8_next_32 : decode cX8_next 32 = .ok (.aload_n 0, 1) := by decide +kernel
theorem dX8_next_33 : decode cX8_next 33 = .ok (.getfield 53, 3) := by decide +kernel
theorem dX8_next_36 : decode cX8_next 36 = .ok (.aload_n 0, 1) := by decide +kernel
theorem dX8_next_37 : decode cX8_next 37 = .ok (.getfield 40, 3) := by decide +kernel
theorem dX8_next_40 : decode cX8_next 40 = .ok (.invokevirtual 195, 3) := by decide +kernel
theorem dX8_next_43 : decode cX8_next 43 = .ok (.istore_n 3, 1) := by decide +kernel
theorem dX8_next_44 : decode cX8_next 44 = .ok (.iload_n 3, 1) := by decide +kernel
theorem dX8_next_45 : decode cX8_next 45 = .ok (.iload_n 1, 1) := by decide +kernel
theorem dX8_next_46 : decode cX8_next 46 = .ok (.ishr, 1) := by decide +kernel
theorem dX8_next_47 : decode cX8_next 47 = .ok (.iconst 1, 1) := by decide +kernel
theorem dX8_next_48 : decode cX8_next 48 = .ok (.iand, 1) := by decide +kernel
theorem dX8_next_49 : decode cX8_next 49 = .ok (.iconst 1, 1) := by decide +kernel
theorem dX8_next_50 : decode cX8_next 50 = .ok (.if_icmp .ne 5, 3) := by decide +kernel
theorem dX8_next_53 : decode cX8_next 53 = .ok (.iload_n 2, 1) := by decide +kernel
theorem dX8_next_54 : decode cX8_next 54 = .ok (.ireturn, 1) := by decide +kernel
theorem dX8_next_55 : decode cX8_next 55 = .ok (.iinc 2 1, 3) := by decide +kernel
theorem dX8_next_58 : decode cX8_next 58 = .ok (.goto (-32), 3) := by decide +kernel
theorem dX8_next_61 : decode cX8_next 61 = .ok (.iconst (-1), 1) := by decide +kernel
theorem dX8_next_62 : decode cX8_next 62 = .ok (.ireturn, 1) := by decide +kernel
theorem ydX8_next : z_yd yX8_next 1 := ⟨by decide, by decide, by decide +kernel⟩
abbrev rmX8_next : Room := { frames := 7, cells := 0, slots := 0, locals := 177 }
noncomputable def xX8_next_B26 (r26 : Nat → Int32 → Int32 → ZH → Option (Int32 × ZH)) (l0 : Nat) (l1 : Int32) (l2 : Int32) (h : ZH) : Option (Int32 × ZH) := (if (90 : Int32) < l2 then some ((-1 : Int32), h) else ((z_gR h l0 8 9).bind fun x33 => ((z_gR h l0 8 7).bind fun x37 => (z_gu (z_is h x33 6) ((xX6_go x33 x37 h).bind fun r40 => (if ((r40.1 >>> (l1 &&& 31)) &&& (1 : Int32)) = (1 : Int32) then some (l2, r40.2) else r26 l0 l1 (l2 + 1) r40.2))))))
noncomputable def xX8_next_L26 (n : Nat) : Nat → Int32 → Int32 → ZH → Option (Int32 × ZH) := Nat.rec (motive := fun _ => Nat → Int32 → Int32 → ZH → Option (Int32 × ZH)) (fun _ _ _ _ => none) (fun _ rec => xX8_next_B26  rec) n
set_option maxHeartbeats 4000000 in
set_option maxRecDepth 100000 in
theorem wX8_next_B26 {Γ : ZG} {p : Program} {l : Launch} {e : Env} {s : State} {m : MethodId} {args : Array Value} {below : List Frame} {meth : Method} {c : Code} (hO : z_OK Γ) (G : z_GG Γ p s m args meth c cX8_next 4 RX8) (hr : meth.sig.returnType = (some .int)) (hnm : meth.name = "next") {r : (Int32 × ZH)} {r26 : Nat → Int32 → Int32 → ZH → Option (Int32 × ZH)} (H26 : ∀ (l0 : Nat) (l1 : Int32) (l2 : Int32) (h : ZH), r26 l0 l1 l2 h = some r → z_W Γ p l e rmX8_next s m args below meth c 4 0 0 (MQ below (z_Qc Γ (some (.int r.1)) r.2) args s rmX8_next.cells rmX8_next.slots (z_A Γ)) 26 [(0, .ref l0), (1, .int l1), (2, .int l2)] [] h) : ∀ (l0 : Nat) (l1 : Int32) (l2 : Int32) (h : ZH), xX8_next_B26  r26 l0 l1 l2 h = some r → z_W Γ p l e rmX8_next s m args below meth c 4 0 0 (MQ below (z_Qc Γ (some (.int r.1)) r.2) args s rmX8_next.cells rmX8_next.slots (z_A Γ)) 26 [(0, .ref l0), (1, .int l1), (2, .int l2)] [] h := by
  intro l0 l1 l2 h hX
  refine z_iload_n (pc := 26) G 2 dX8_next_26 rfl rfl ?_
  refine z_bipush (pc := 27) (v := 90) G dX8_next_27 (by decide) ?_
  refine z_icmp_gt (pc := 29) (tgt := 61) G dX8_next_29 (by decide) (fun hc29 => ?_) (fun hc29 => ?_)
  · have hX := z_it hc29 hX
    refine z_iconst (pc := 61) (v := (-1)) G dX8_next_61 (by decide) ?_
    exact z_iretX (pc := 62) hX G hr dX8_next_62 (by decide) (by decide)
  · have hX := z_if hc29 hX
    refine z_aload_n (pc := 32) G 0 dX8_next_32 rfl rfl ?_
    obtain ⟨x33, hv33, hX⟩ := z_bd hX
    refine z_getR (pc := 33) G kK8 (k := 9) (by decide) kt_433 dX8_next_33 hv33 ?_
    refine z_aload_n (pc := 36) G 0 dX8_next_36 rfl rfl ?_
    obtain ⟨x37, hv37, hX⟩ := z_bd hX
    refine z_getR (pc := 37) G kK8 (k := 7) (by decide) kt_431 dX8_next_37 hv37 ?_
    obtain ⟨hi40, hX⟩ := z_gu_s hX
    obtain ⟨r40, hv40, hX⟩ := z_bd hX
    refine z_cVI (pc := 40) (As := [.ref x37]) (c2 := 0) (s2 := 0) G kK6 (lX6_go hO hv40) hi40 kt_807 kt_6 kt_804 kt_805 kt_806 ydX6_go ⟨by decide, by decide⟩ rfl (Nat.le_of_ble_eq_true rfl) ⟨rfl, rfl⟩ ⟨by decide, by decide⟩ rfl dX8_next_40 ?_
    refine z_istore_n (pc := 43) (lv2 := [(0, .ref l0), (1, .int l1), (2, .int l2), (3, .int r40.1)]) G dX8_next_43 rfl (by decide) rfl rfl ?_
    refine z_iload_n (pc := 44) G 3 dX8_next_44 rfl rfl ?_
    refine z_iload_n (pc := 45) G 1 dX8_next_45 rfl rfl ?_
    refine z_ishr (pc := 46) G dX8_next_46 ?_
    refine z_iconst (pc := 47) (v := 1) G dX8_next_47 (by decide) ?_
    refine z_iand (pc := 48) G dX8_next_48 ?_
    refine z_iconst (pc := 49) (v := 1) G dX8_next_49 (by decide) ?_
    refine z_icmp_ne (pc := 50) (tgt := 55) G dX8_next_50 (by decide) (fun hc50 => ?_) (fun hc50 => ?_)
    · have hX := z_if hc50 hX
      refine z_iincw (pc := 55) (w := 1) (lv2 := [(0, .ref l0), (1, .int l1), (2, .int (l2 + 1)), (3, .int r40.1)]) G 2 dX8_next_55 rfl (by decide) (by decide) rfl rfl ?_
      refine z_goto (pc := 58) (tgt := 26) G dX8_next_58 (by decide) ?_
      refine z_drop (lv2 := [(0, .ref l0), (1, .int l1), (2, .int (l2 + 1))]) [0, 1, 2] rfl ?_
      exact H26 _ _ _ _ hX
    · have hX := z_it hc50 hX
      refine z_iload_n (pc := 53) G 2 dX8_next_53 rfl rfl ?_
      exact z_iretX (pc := 54) hX G hr dX8_next_54 (by decide) (by decide)
set_option maxHeartbeats 4000000 in
set_option maxRecDepth 100000 in
theorem wX8_next_L26 {Γ : ZG} {p : Program} {l : Launch} {e : Env} {s : State} {m : MethodId} {args : Array Value} {below : List Frame} {meth : Method} {c : Code} (hO : z_OK Γ) (G : z_GG Γ p s m args meth c cX8_next 4 RX8) (hr : meth.sig.returnType = (some .int)) (hnm : meth.name = "next") {r : (Int32 × ZH)} : ∀ (nn : Nat) (l0 : Nat) (l1 : Int32) (l2 : Int32) (h : ZH), xX8_next_L26  nn l0 l1 l2 h = some r → z_W Γ p l e rmX8_next s m args below meth c 4 0 0 (MQ below (z_Qc Γ (some (.int r.1)) r.2) args s rmX8_next.cells rmX8_next.slots (z_A Γ)) 26 [(0, .ref l0), (1, .int l1), (2, .int l2)] [] h := by
  intro nn
  induction nn with
  | zero => intro l0 l1 l2 h hX; cases hX
  | succ nn ih => intro l0 l1 l2 h hX; exact wX8_next_B26 hO G hr hnm  ih l0 l1 l2 h hX
noncomputable def xX8_next (l0 : Nat) (l1 : Int32) (h : ZH) : Option (Int32 × ZH) := ((z_gR h l0 8 5).bind fun x1 => (z_gu (z_is h x1 2) ((xX2_isShip x1 l1 h).bind fun r5 => (if r5.1 = 0 then some ((-1 : Int32), r5.2) else ((z_gR r5.2 l0 8 7).bind fun x14 => ((z_gR r5.2 l0 8 6).bind fun x18 => (z_gu (z_is r5.2 x14 5) ((xX5_copy x14 x18 r5.2).bind fun h21 => xX8_next_L26 zFU l0 l1 (1 : Int32) h21))))))))
set_option maxHeartbeats 4000000 in
set_option maxRecDepth 100000 in
theorem lX8_next {Γ : ZG} {l : Launch} (hO : z_OK Γ) {l0 : Nat} {l1 : Int32} {h : ZH} {r : (Int32 × ZH)} (hX : xX8_next l0 l1 h = some r) : z_M Γ l yX8_next (z_ws1 yX8_next cX8_next 4 (some .int)) rmX8_next [.ref l0, .int l1] h (some (.int r.1)) r.2 := by
  refine z_start hO (plainFor_of_name (by decide)) (Nat.le_of_ble_eq_true rfl) ?_
  intro p e s m args below meth c G hr hnm
  refine z_lvc (lv2 := [(0, .ref l0), (1, .int l1)]) rfl ?_
  refine z_aload_n (pc := 0) G 0 dX8_next_0 rfl rfl ?_
  obtain ⟨x1, hv1, hX⟩ := z_bd hX
  refine z_getR (pc := 1) G kK8 (k := 5) (by decide) kt_429 dX8_next_1 hv1 ?_
  refine z_iload_n (pc := 4) G 1 dX8_next_4 rfl rfl ?_
  obtain ⟨hi5, hX⟩ := z_gu_s hX
  obtain ⟨r5, hv5, hX⟩ := z_bd hX
  refine z_cVI (pc := 5) (As := [.int l1]) (c2 := 0) (s2 := 0) G kK2 (lX2_isShip hO hv5) hi5 kt_727 kt_3 kt_724 kt_725 kt_726 ydX2_isShip ⟨by decide, by decide⟩ rfl (Nat.le_of_ble_eq_true rfl) ⟨rfl, rfl⟩ ⟨by decide, by decide⟩ rfl dX8_next_5 ?_
  refine z_if_ne (pc := 8) (tgt := 13) G dX8_next_8 (by decide) (fun hc8 => ?_) (fun hc8 => ?_)
  · have hX := z_if hc8 hX
    refine z_aload_n (pc := 13) G 0 dX8_next_13 rfl rfl ?_
    obtain ⟨x14, hv14, hX⟩ := z_bd hX
    refine z_getR (pc := 14) G kK8 (k := 7) (by decide) kt_431 dX8_next_14 hv14 ?_
    refine z_aload_n (pc := 17) G 0 dX8_next_17 rfl rfl ?_
    obtain ⟨x18, hv18, hX⟩ := z_bd hX
    refine z_getR (pc := 18) G kK8 (k := 6) (by decide) kt_430 dX8_next_18 hv18 ?_
    obtain ⟨hi21, hX⟩ := z_gu_s hX
    obtain ⟨h21, hv21, hX⟩ := z_bd hX
    refine z_cVV (pc := 21) (As := [.ref x18]) (c2 := 0) (s2 := 0) G kK5 (lX5_copy hO hv21) hi21 kt_803 kt_4 kt_973 kt_801 kt_802 ydX5_copy ⟨by decide, by decide⟩ rfl (Nat.le_of_ble_eq_true rfl) ⟨rfl, rfl⟩ ⟨by decide, by decide⟩ rfl dX8_next_21 ?_
    refine z_iconst (pc := 24) (v := 1) G dX8_next_24 (by decide) ?_
    refine z_istore_n (pc := 25) (lv2 := [(0, .ref l0), (1, .int l1), (2, .int (1 : Int32))]) G dX8_next_25 rfl (by decide) rfl rfl ?_
    exact wX8_next_L26 hO G hr hnm zFU _ _ _ _ hX
  · have hX := z_it hc8 hX
    refine z_iconst (pc := 11) (v := (-1)) G dX8_next_11 (by decide) ?_
    exact z_iretX (pc := 12) hX G hr dX8_next_12 (by decide) (by decide)
theorem dX8_will_0 : decode cX8_will 0 = .ok (.aload_n 0, 1) := by decide +kernel
theorem dX8_will_1 : decode cX8_will 1 = .ok (.getfield 27, 3) := by decide +kernel
theorem dX8_will_4 : decode cX8_will 4 = .ok (.iload_n 1, 1) := by decide +kernel
theorem dX8_will_5 : decode cX8_will 5 = .ok (.invokevirtual 127, 3) := by decide +kernel
theorem dX8_will_8 : decode cX8_will 8 = .ok (.ifCond .eq 13, 3) := by decide +kernel
theorem dX8_will_11 : decode cX8_will 11 = .ok (.iload_n 2, 1) := by decide +kernel
theorem dX8_will_12 : decode cX8_will 12 = .ok (.ifCond .lt 9, 3) := by decide +kernel
theorem dX8_will_15 : decode cX8_will 15 = .ok (.iload_n 2, 1) := by decide +kernel
theorem dX8_will_16 : decode cX8_will 16 = .ok (.bipush 90, 2) := by decide +kernel
theorem dX8_will_18 : decode cX8_will 18 = .ok (.if_icmp .le 5, 3) := by decide +kernel
theorem dX8_will_21 : decode cX8_will 21 = .ok (.iconst (-1), 1) := by decide +kernel
theorem dX8_will_22 : decode cX8_will 22 = .ok (.ireturn, 1) := by decide +kernel
theorem dX8_will_23 : decode cX8_will 23 = .ok (.aload_n 0, 1) := by decide +kernel
theorem dX8_will_24 : decode cX8_will 24 = .ok (.getfield 40, 3) := by decide +kernel
theorem dX8_will_27 : decode cX8_will 27 = .ok (.aload_n 0, 1) := by decide +kernel
theorem dX8_will_28 : decode cX8_will 28 = .ok (.getfield 36, 3) := by decide +kernel
theorem dX8_will_31 : decode cX8_will 31 = .ok (.invokevirtual 251, 3) := by decide +kernel
theorem dX8_will_34 : decode cX8_will 34 = .ok (.iconst 0, 1) := by decide +kernel
theorem dX8_will_35 : decode cX8_will 35 = .ok (.istore_n 3, 1) := by decide +kernel
theorem dX8_will_36 : decode cX8_will 36 = .ok (.iload_n 3, 1) := by decide +kernel
theorem dX8_will_37 : decode cX8_will 37 = .ok (.iload_n 2, 1) := by decide +kernel
theorem dX8_will_38 : decode cX8_will 38 = .ok (.if_icmp .ge 21, 3) := by decide +kernel
theorem dX8_will_41 : decode cX8_will 41 = .ok (.aload_n 0, 1) := by decide +kernel
theorem dX8_will_42 : decode cX8_will 42 = .ok (.getfield 53, 3) := by decide +kernel
theorem dX8_will_45 : decode cX8_will 45 = .ok (.aload_n 0, 1) := by decide +kernel
theorem dX8_will_46 : decode cX8_will 46 = .ok (.getfield 40, 3) := by decide +kernel
theorem dX8_will_49 : decode cX8_will 49 = .ok (.invokevirtual 195, 3) := by decide +kernel
theorem dX8_will_52 : decode cX8_will 52 = .ok (.pop, 1) := by decide +kernel
theorem dX8_will_53 : decode cX8_will 53 = .ok (.iinc 3 1, 3) := by decide +kernel
theorem dX8_will_56 : decode cX8_will 56 = .ok (.goto (-20), 3) := by decide +kernel
theorem dX8_will_59 : decode cX8_will 59 = .ok (.aload_n 0, 1) := by decide +kernel
theorem dX8_will_60 : decode cX8_will 60 = .ok (.getfield 40, 3) := by decide +kernel
theorem dX8_will_63 : decode cX8_will 63 = .ok (.getfield 150, 3) := by decide +kernel
theorem dX8_will_66 : decode cX8_will 66 = .ok (.iload_n 1, 1) := by decide +kernel
theorem dX8_will_67 : decode cX8_will 67 = .ok (.iaload, 1) := by decide +kernel
theorem dX8_will_68 : decode cX8_will 68 = .ok (.ifCond .ne 7, 3) := by decide +kernel
theorem dX8_will_71 : decode cX8_will 71 = .ok (.iconst (-1), 1) := by decide +kernel
theorem dX8_will_72 : decode cX8_will 72 = .ok (.goto 14, 3) := by decide +kernel
theorem dX8_will_75 : decode cX8_will 75 = .ok (.aload_n 0, 1) := by decide +kernel
theorem dX8_will_76 : decode cX8_will 76 = .ok (.getfield 40, 3) := by decide +kernel
theorem dX8_will_79 : decode cX8_will 79 = .ok (.getfield 156, 3) := by decide +kernel
theorem dX8_will_82 : decode cX8_will 82 = .ok (.iload_n 1, 1) := by decide +kernel
theorem dX8_will_83 : decode cX8_will 83 = .ok (.iconst 3, 1) := by decide +kernel
theorem dX8_will_84 : decode cX8_will 84 = .ok (.imul, 1) := by decide +kernel
theorem dX8_will_85 : decode cX8_will 85 = .ok (.iaload, 1) := by decide +kernel
theorem dX8_will_86 : decode cX8_will 86 = .ok (.ireturn, 1) := by decide +kernel
theorem ydX8_will : z_yd yX8_will 2 := ⟨by decide, by decide, by decide +kernel⟩
abbrev rmX8_will : Room := { frames := 7, cells := 0, slots := 0, locals := 177 }
noncomputable def xX8_will_B59 (l0 : Nat) (l1 : Int32) (h : ZH) : Option (Int32 × ZH) := ((z_gR h l0 8 7).bind fun x60 => ((z_gR h x60 5 5).bind fun x63 => ((z_aI h x63 l1).bind fun x67 => (if x67 = 0 then some ((-1 : Int32), h) else ((z_gR h l0 8 7).bind fun x76 => ((z_gR h x76 5 6).bind fun x79 => ((z_aI h x79 (l1 * (3 : Int32))).bind fun x85 => some (x85, h))))))))
set_option maxHeartbeats 4000000 in
set_option maxRecDepth 100000 in
theorem wX8_will_B59 {Γ : ZG} {p : Program} {l : Launch} {e : Env} {s : State} {m : MethodId} {args : Array Value} {below : List Frame} {meth : Method} {c : Code} (hO : z_OK Γ) (G : z_GG Γ p s m args meth c cX8_will 4 RX8) (hr : meth.sig.returnType = (some .int)) (hnm : meth.name = "will") {r : (Int32 × ZH)} : ∀ (l0 : Nat) (l1 : Int32) (h : ZH), xX8_will_B59  l0 l1 h = some r → z_W Γ p l e rmX8_will s m args below meth c 4 0 0 (MQ below (z_Qc Γ (some (.int r.1)) r.2) args s rmX8_will.cells rmX8_will.slots (z_A Γ)) 59 [(0, .ref l0), (1, .int l1)] [] h := by
  intro l0 l1 h hX
  refine z_aload_n (pc := 59) G 0 dX8_will_59 rfl rfl ?_
  obtain ⟨x60, hv60, hX⟩ := z_bd hX
  refine z_getR (pc := 60) G kK8 (k := 7) (by decide) kt_431 dX8_will_60 hv60 ?_
  obtain ⟨x63, hv63, hX⟩ := z_bd hX
  refine z_getR (pc := 63) G kK5 (k := 5) (by decide) kt_205 dX8_will_63 hv63 ?_
  refine z_iload_n (pc := 66) G 1 dX8_will_66 rfl rfl ?_
  obtain ⟨x67, hv67, hX⟩ := z_bd hX
  refine z_iald (pc := 67) G dX8_will_67 hv67 ?_
  refine z_if_ne (pc := 68) (tgt := 75) G dX8_will_68 (by decide) (fun hc68 => ?_) (fun hc68 => ?_)
  · have hX := z_if hc68 hX
    refine z_aload_n (pc := 75) G 0 dX8_will_75 rfl rfl ?_
    obtain ⟨x76, hv76, hX⟩ := z_bd hX
    refine z_getR (pc := 76) G kK8 (k := 7) (by decide) kt_431 dX8_will_76 hv76 ?_
    obtain ⟨x79, hv79, hX⟩ := z_bd hX
    refine z_getR (pc := 79) G kK5 (k := 6) (by decide) kt_208 dX8_will_79 hv79 ?_
    refine z_iload_n (pc := 82) G 1 dX8_will_82 rfl rfl ?_
    refine z_iconst (pc := 83) (v := 3) G dX8_will_83 (by decide) ?_
    refine z_imul (pc := 84) G dX8_will_84 ?_
    obtain ⟨x85, hv85, hX⟩ := z_bd hX
    refine z_iald (pc := 85) G dX8_will_85 hv85 ?_
    exact z_iretX (pc := 86) hX G hr dX8_will_86 (by decide) (by decide)
  · have hX := z_it hc68 hX
    refine z_iconst (pc := 71) (v := (-1)) G dX8_will_71 (by decide) ?_
    refine z_goto (pc := 72) (tgt := 86) G dX8_will_72 (by decide) ?_
    exact z_iretX (pc := 86) hX G hr dX8_will_86 (by decide) (by decide)
noncomputable def xX8_will_B36 (r36 : Nat → Int32 → Int32 → Int32 → ZH → Option (Int32 × ZH)) (l0 : Nat) (l1 : Int32) (l2 : Int32) (l3 : Int32) (h : ZH) : Option (Int32 × ZH) := (if l2 ≤ l3 then xX8_will_B59 l0 l1 h else ((z_gR h l0 8 9).bind fun x42 => ((z_gR h l0 8 7).bind fun x46 => (z_gu (z_is h x42 6) ((xX6_go x42 x46 h).bind fun r49 => r36 l0 l1 l2 (l3 + 1) r49.2)))))
noncomputable def xX8_will_L36 (n : Nat) : Nat → Int32 → Int32 → Int32 → ZH → Option (Int32 × ZH) := Nat.rec (motive := fun _ => Nat → Int32 → Int32 → Int32 → ZH → Option (Int32 × ZH)) (fun _ _ _ _ _ => none) (fun _ rec => xX8_will_B36  rec) n
set_option maxHeartbeats 4000000 in
set_option maxRecDepth 100000 in
theorem wX8_will_B36 {Γ : ZG} {p : Program} {l : Launch} {e : Env} {s : State} {m : MethodId} {args : Array Value} {below : List Frame} {meth : Method} {c : Code} (hO : z_OK Γ) (G : z_GG Γ p s m args meth c cX8_will 4 RX8) (hr : meth.sig.returnType = (some .int)) (hnm : meth.name = "will") {r : (Int32 × ZH)} {r36 : Nat → Int32 → Int32 → Int32 → ZH → Option (Int32 × ZH)} (H36 : ∀ (l0 : Nat) (l1 : Int32) (l2 : Int32) (l3 : Int32) (h : ZH), r36 l0 l1 l2 l3 h = some r → z_W Γ p l e rmX8_will s m args below meth c 4 0 0 (MQ below (z_Qc Γ (some (.int r.1)) r.2) args s rmX8_will.cells rmX8_will.slots (z_A Γ)) 36 [(0, .ref l0), (1, .int l1), (2, .int l2), (3, .int l3)] [] h) : ∀ (l0 : Nat) (l1 : Int32) (l2 : Int32) (l3 : Int32) (h : ZH), xX8_will_B36  r36 l0 l1 l2 l3 h = some r → z_W Γ p l e rmX8_will s m args below meth c 4 0 0 (MQ below (z_Qc Γ (some (.int r.1)) r.2) args s rmX8_will.cells rmX8_will.slots (z_A Γ)) 36 [(0, .ref l0), (1, .int l1), (2, .int l2), (3, .int l3)] [] h := by
  intro l0 l1 l2 l3 h hX
  refine z_iload_n (pc := 36) G 3 dX8_will_36 rfl rfl ?_
  refine z_iload_n (pc := 37) G 2 dX8_will_37 rfl rfl ?_
  refine z_icmp_ge (pc := 38) (tgt := 59) G dX8_will_38 (by decide) (fun hc38 => ?_) (fun hc38 => ?_)
  · have hX := z_it hc38 hX
    refine z_drop (lv2 := [(0, .ref l0), (1, .int l1)]) [0, 1] rfl ?_
    exact wX8_will_B59 hO G hr hnm _ _ _ hX
  · have hX := z_if hc38 hX
    refine z_aload_n (pc := 41) G 0 dX8_will_41 rfl rfl ?_
    obtain ⟨x42, hv42, hX⟩ := z_bd hX
    refine z_getR (pc := 42) G kK8 (k := 9) (by decide) kt_433 dX8_will_42 hv42 ?_
    refine z_aload_n (pc := 45) G 0 dX8_will_45 rfl rfl ?_
    obtain ⟨x46, hv46, hX⟩ := z_bd hX
    refine z_getR (pc := 46) G kK8 (k := 7) (by decide) kt_431 dX8_will_46 hv46 ?_
    obtain ⟨hi49, hX⟩ := z_gu_s hX
    obtain ⟨r49, hv49, hX⟩ := z_bd hX
    refine z_cVI (pc := 49) (As := [.ref x46]) (c2 := 0) (s2 := 0) G kK6 (lX6_go hO hv49) hi49 kt_807 kt_6 kt_804 kt_805 kt_806 ydX6_go ⟨by decide, by decide⟩ rfl (Nat.le_of_ble_eq_true rfl) ⟨rfl, rfl⟩ ⟨by decide, by decide⟩ rfl dX8_will_49 ?_
    refine z_pop (pc := 52) G dX8_will_52 rfl ?_
    refine z_iincw (pc := 53) (w := 1) (lv2 := [(0, .ref l0), (1, .int l1), (2, .int l2), (3, .int (l3 + 1))]) G 3 dX8_will_53 rfl (by decide) (by decide) rfl rfl ?_
    refine z_goto (pc := 56) (tgt := 36) G dX8_will_56 (by decide) ?_
    exact H36 _ _ _ _ _ hX
set_option maxHeartbeats 4000000 in
set_option maxRecDepth 100000 in
theorem wX8_will_L36 {Γ : ZG} {p : Program} {l : Launch} {e : Env} {s : State} {m : MethodId} {args : Array Value} {below : List Frame} {meth : Method} {c : Code} (hO : z_OK Γ) (G : z_GG Γ p s m args meth c cX8_will 4 RX8) (hr : meth.sig.returnType = (some .int)) (hnm : meth.name = "will") {r : (Int32 × ZH)} : ∀ (nn : Nat) (l0 : Nat) (l1 : Int32) (l2 : Int32) (l3 : Int32) (h : ZH), xX8_will_L36  nn l0 l1 l2 l3 h = some r → z_W Γ p l e rmX8_will s m args below meth c 4 0 0 (MQ below (z_Qc Γ (some (.int r.1)) r.2) args s rmX8_will.cells rmX8_will.slots (z_A Γ)) 36 [(0, .ref l0), (1, .int l1), (2, .int l2), (3, .int l3)] [] h := by
  intro nn
  induction nn with
  | zero => intro l0 l1 l2 l3 h hX; cases hX
  | succ nn ih => intro l0 l1 l2 l3 h hX; exact wX8_will_B36 hO G hr hnm  ih l0 l1 l2 l3 h hX
noncomputable def xX8_will (l0 : Nat) (l1 : Int32) (l2 : Int32) (h : ZH) : Option (Int32 × ZH) := ((z_gR h l0 8 5).bind fun x1 => (z_gu (z_is h x1 2) ((xX2_isShip x1 l1 h).bind fun r5 => (if r5.1 = 0 then some ((-1 : Int32), r5.2) else (if l2 < 0 then some ((-1 : Int32), r5.2) else (if l2 ≤ (90 : Int32) then ((z_gR r5.2 l0 8 7).bind fun x24 => ((z_gR r5.2 l0 8 6).bind fun x28 => (z_gu (z_is r5.2 x24 5) ((xX5_copy x24 x28 r5.2).bind fun h31 => xX8_will_L36 zFU l0 l1 l2 (0 : Int32) h31)))) else some ((-1 : Int32), r5.2)))))))
set_option maxHeartbeats 4000000 in
set_option maxRecDepth 100000 in
theorem lX8_will {Γ : ZG} {l : Launch} (hO : z_OK Γ) {l0 : Nat} {l1 : Int32} {l2 : Int32} {h : ZH} {r : (Int32 × ZH)} (hX : xX8_will l0 l1 l2 h = some r) : z_M Γ l yX8_will (z_ws1 yX8_will cX8_will 4 (some .int)) rmX8_will [.ref l0, .int l1, .int l2] h (some (.int r.1)) r.2 := by
  refine z_start hO (plainFor_of_name (by decide)) (Nat.le_of_ble_eq_true rfl) ?_
  intro p e s m args below meth c G hr hnm
  refine z_lvc (lv2 := [(0, .ref l0), (1, .int l1), (2, .int l2)]) rfl ?_
  refine z_aload_n (pc := 0) G 0 dX8_will_0 rfl rfl ?_
  obtain ⟨x1, hv1, hX⟩ := z_bd hX
  refine z_getR (pc := 1) G kK8 (k := 5) (by decide) kt_429 dX8_will_1 hv1 ?_
  refine z_iload_n (pc := 4) G 1 dX8_will_4 rfl rfl ?_
  obtain ⟨hi5, hX⟩ := z_gu_s hX
  obtain ⟨r5, hv5, hX⟩ := z_bd hX
  refine z_cVI (pc := 5) (As := [.int l1]) (c2 := 0) (s2 := 0) G kK2 (lX2_isShip hO hv5) hi5 kt_727 kt_3 kt_724 kt_725 kt_726 ydX2_isShip ⟨by decide, by decide⟩ rfl (Nat.le_of_ble_eq_true rfl) ⟨rfl, rfl⟩ ⟨by decide, by decide⟩ rfl dX8_will_5 ?_
  refine z_if_eq (pc := 8) (tgt := 21) G dX8_will_8 (by decide) (fun hc8 => ?_) (fun hc8 => ?_)
  · have hX := z_it hc8 hX
    refine z_iconst (pc := 21) (v := (-1)) G dX8_will_21 (by decide) ?_
    exact z_iretX (pc := 22) hX G hr dX8_will_22 (by decide) (by decide)
  · have hX := z_if hc8 hX
    refine z_iload_n (pc := 11) G 2 dX8_will_11 rfl rfl ?_
    refine z_if_lt (pc := 12) (tgt := 21) G dX8_will_12 (by decide) (fun hc12 => ?_) (fun hc12 => ?_)
    · have hX := z_it hc12 hX
      refine z_iconst (pc := 21) (v := (-1)) G dX8_will_21 (by decide) ?_
      exact z_iretX (pc := 22) hX G hr dX8_will_22 (by decide) (by decide)
    · have hX := z_if hc12 hX
      refine z_iload_n (pc := 15) G 2 dX8_will_15 rfl rfl ?_
      refine z_bipush (pc := 16) (v := 90) G dX8_will_16 (by decide) ?_
      refine z_icmp_le (pc := 18) (tgt := 23) G dX8_will_18 (by decide) (fun hc18 => ?_) (fun hc18 => ?_)
      · have hX := z_it hc18 hX
        refine z_aload_n (pc := 23) G 0 dX8_will_23 rfl rfl ?_
        obtain ⟨x24, hv24, hX⟩ := z_bd hX
        refine z_getR (pc := 24) G kK8 (k := 7) (by decide) kt_431 dX8_will_24 hv24 ?_
        refine z_aload_n (pc := 27) G 0 dX8_will_27 rfl rfl ?_
        obtain ⟨x28, hv28, hX⟩ := z_bd hX
        refine z_getR (pc := 28) G kK8 (k := 6) (by decide) kt_430 dX8_will_28 hv28 ?_
        obtain ⟨hi31, hX⟩ := z_gu_s hX
        obtain ⟨h31, hv31, hX⟩ := z_bd hX
        refine z_cVV (pc := 31) (As := [.ref x28]) (c2 := 0) (s2 := 0) G kK5 (lX5_copy hO hv31) hi31 kt_803 kt_4 kt_973 kt_801 kt_802 ydX5_copy ⟨by decide, by decide⟩ rfl (Nat.le_of_ble_eq_true rfl) ⟨rfl, rfl⟩ ⟨by decide, by decide⟩ rfl dX8_will_31 ?_
        refine z_iconst (pc := 34) (v := 0) G dX8_will_34 (by decide) ?_
        refine z_istore_n (pc := 35) (lv2 := [(0, .ref l0), (1, .int l1), (2, .int l2), (3, .int (0 : Int32))]) G dX8_will_35 rfl (by decide) rfl rfl ?_
        exact wX8_will_L36 hO G hr hnm zFU _ _ _ _ _ hX
      · have hX := z_if hc18 hX
        refine z_iconst (pc := 21) (v := (-1)) G dX8_will_21 (by decide) ?_
        exact z_iretX (pc := 22) hX G hr dX8_will_22 (by decide) (by decide)
theorem dX8_clashes_0 : decode cX8_clashes 0 = .ok (.iload_n 1, 1) := by decide +kernel
theorem dX8_clashes_1 : decode cX8_clashes 1 = .ok (.ifCond .lt 9, 3) := by decide +kernel
theorem dX8_clashes_4 : decode cX8_clashes 4 = .ok (.iload_n 1, 1) := by decide +kernel
theorem dX8_clashes_5 : decode cX8_clashes 5 = .ok (.bipush 90, 2) := by decide +kernel
theorem dX8_clashes_7 : decode cX8_clashes 7 = .ok (.if_icmp .le 5, 3) := by decide +kernel
theorem dX8_clashes_10 : decode cX8_clashes 10 = .ok (.iconst (-1), 1) := by decide +kernel
theorem dX8_clashes_11 : decode cX8_clashes 11 = .ok (.ireturn, 1) := by decide +kernel
theorem dX8_clashes_12 : decode cX8_clashes 12 = .ok (.aload_n 0, 1) := by decide +kernel
theorem dX8_clashes_13 : decode cX8_clashes 13 = .ok (.getfield 40, 3) := by decide +kernel
theorem dX8_clashes_16 : decode cX8_clashes 16 = .ok (.aload_n 0, 1) := by decide +kernel
theorem dX8_clashes_17 : decode cX8_clashes 17 = .ok (.getfield 36, 3) := by decide +kernel
theorem dX8_clashes_20 : decode cX8_clashes 20 = .ok (.invokevirtual 251, 3) := by decide +kernel
theorem dX8_clashes_23 : decode cX8_clashes 23 = .ok (.iconst 0, 1) := by decide +kernel
theorem dX8_clashes_24 : decode cX8_clashes 24 = .ok (.istore_n 2, 1) := by decide +kernel
theorem dX8_clashes_25 : decode cX8_clashes 25 = .ok (.iload_n 2, 1) := by decide +kernel
theorem dX8_clashes_26 : decode cX8_clashes 26 = .ok (.iload_n 1, 1) := by decide +kernel
theorem dX8_clashes_27 : decode cX8_clashes 27 = .ok (.if_icmp .ge 21, 3) := by decide +kernel
theorem dX8_clashes_30 : decode cX8_clashes 30 = .ok (.aload_n 0, 1) := by decide +kernel
theorem dX8_clashes_31 : decode cX8_clashes 31 = .ok (.getfield 53, 3) := by decide +kernel
theorem dX8_clashes_34 : decode cX8_clashes 34 = .ok (.aload_n 0, 1) := by decide +kernel
theorem dX8_clashes_35 : decode cX8_clashes 35 = .ok (.getfield 40, 3) := by decide +kernel
theorem dX8_clashes_38 : decode cX8_clashes 38 = .ok (.invokevirtual 195, 3) := by decide +kernel
theorem dX8_clashes_41 : decode cX8_clashes 41 = .ok (.pop, 1) := by decide +kernel
theorem dX8_clashes_42 : decode cX8_clashes 42 = .ok (.iinc 2 1, 3) := by decide +kernel
theorem dX8_clashes_45 : decode cX8_clashes 45 = .ok (.goto (-20), 3) := by decide +kernel
theorem dX8_clashes_48 : decode cX8_clashes 48 = .ok (.aload_n 0, 1) := by decide +kernel
theorem dX8_clashes_49 : decode cX8_clashes 49 = .ok (.getfield 40, 3) := by decide +kernel
theorem dX8_clashes_52 : decode cX8_clashes 52 = .ok (.getfield 253, 3) := by decide +kernel
theorem dX8_clashes_55 : decode cX8_clashes 55 = .ok (.aload_n 0, 1) := by decide +kernel
theorem dX8_clashes_56 : decode cX8_clashes 56 = .ok (.getfield 36, 3) := by decide +kernel
theorem dX8_clashes_59 : decode cX8_clashes 59 = .ok (.getfield 253, 3) := by decide +kernel
theorem dX8_clashes_62 : decode cX8_clashes 62 = .ok (.isub, 1) := by decide +kernel
theorem dX8_clashes_63 : decode cX8_clashes 63 = .ok (.ireturn, 1) := by decide +kernel
theorem ydX8_clashes : z_yd yX8_clashes 1 := ⟨by decide, by decide, by decide +kernel⟩
abbrev rmX8_clashes : Room := { frames := 7, cells := 0, slots := 0, locals := 177 }
noncomputable def xX8_clashes_B48 (l0 : Nat) (h : ZH) : Option (Int32 × ZH) := ((z_gR h l0 8 7).bind fun x49 => ((z_gI h x49 5 14).bind fun x52 => ((z_gR h l0 8 6).bind fun x56 => ((z_gI h x56 5 14).bind fun x59 => some ((x52 - x59), h)))))
set_option maxHeartbeats 4000000 in
set_option maxRecDepth 100000 in
theorem wX8_clashes_B48 {Γ : ZG} {p : Program} {l : Launch} {e : Env} {s : State} {m : MethodId} {args : Array Value} {below : List Frame} {meth : Method} {c : Code} (hO : z_OK Γ) (G : z_GG Γ p s m args meth c cX8_clashes 3 RX8) (hr : meth.sig.returnType = (some .int)) (hnm : meth.name = "clashes") {r : (Int32 × ZH)} : ∀ (l0 : Nat) (h : ZH), xX8_clashes_B48  l0 h = some r → z_W Γ p l e rmX8_clashes s m args below meth c 3 0 0 (MQ below (z_Qc Γ (some (.int r.1)) r.2) args s rmX8_clashes.cells rmX8_clashes.slots (z_A Γ)) 48 [(0, .ref l0)] [] h := by
  intro l0 h hX
  refine z_aload_n (pc := 48) G 0 dX8_clashes_48 rfl rfl ?_
  obtain ⟨x49, hv49, hX⟩ := z_bd hX
  refine z_getR (pc := 49) G kK8 (k := 7) (by decide) kt_431 dX8_clashes_49 hv49 ?_
  obtain ⟨x52, hv52, hX⟩ := z_bd hX
  refine z_getI (pc := 52) G kK5 (k := 14) (by decide) kt_231 dX8_clashes_52 hv52 ?_
  refine z_aload_n (pc := 55) G 0 dX8_clashes_55 rfl rfl ?_
  obtain ⟨x56, hv56, hX⟩ := z_bd hX
  refine z_getR (pc := 56) G kK8 (k := 6) (by decide) kt_430 dX8_clashes_56 hv56 ?_
  obtain ⟨x59, hv59, hX⟩ := z_bd hX
  refine z_getI (pc := 59) G kK5 (k := 14) (by decide) kt_231 dX8_clashes_59 hv59 ?_
  refine z_isub (pc := 62) G dX8_clashes_62 ?_
  exact z_iretX (pc := 63) hX G hr dX8_clashes_63 (by decide) (by decide)
noncomputable def xX8_clashes_B25 (r25 : Nat → Int32 → Int32 → ZH → Option (Int32 × ZH)) (l0 : Nat) (l1 : Int32) (l2 : Int32) (h : ZH) : Option (Int32 × ZH) := (if l1 ≤ l2 then xX8_clashes_B48 l0 h else ((z_gR h l0 8 9).bind fun x31 => ((z_gR h l0 8 7).bind fun x35 => (z_gu (z_is h x31 6) ((xX6_go x31 x35 h).bind fun r38 => r25 l0 l1 (l2 + 1) r38.2)))))
noncomputable def xX8_clashes_L25 (n : Nat) : Nat → Int32 → Int32 → ZH → Option (Int32 × ZH) := Nat.rec (motive := fun _ => Nat → Int32 → Int32 → ZH → Option (Int32 × ZH)) (fun _ _ _ _ => none) (fun _ rec => xX8_clashes_B25  rec) n
set_option maxHeartbeats 4000000 in
set_option maxRecDepth 100000 in
theorem wX8_clashes_B25 {Γ : ZG} {p : Program} {l : Launch} {e : Env} {s : State} {m : MethodId} {args : Array Value} {below : List Frame} {meth : Method} {c : Code} (hO : z_OK Γ) (G : z_GG Γ p s m args meth c cX8_clashes 3 RX8) (hr : meth.sig.returnType = (some .int)) (hnm : meth.name = "clashes") {r : (Int32 × ZH)} {r25 : Nat → Int32 → Int32 → ZH → Option (Int32 × ZH)} (H25 : ∀ (l0 : Nat) (l1 : Int32) (l2 : Int32) (h : ZH), r25 l0 l1 l2 h = some r → z_W Γ p l e rmX8_clashes s m args below meth c 3 0 0 (MQ below (z_Qc Γ (some (.int r.1)) r.2) args s rmX8_clashes.cells rmX8_clashes.slots (z_A Γ)) 25 [(0, .ref l0), (1, .int l1), (2, .int l2)] [] h) : ∀ (l0 : Nat) (l1 : Int32) (l2 : Int32) (h : ZH), xX8_clashes_B25  r25 l0 l1 l2 h = some r → z_W Γ p l e rmX8_clashes s m args below meth c 3 0 0 (MQ below (z_Qc Γ (some (.int r.1)) r.2) args s rmX8_clashes.cells rmX8_clashes.slots (z_A Γ)) 25 [(0, .ref l0), (1, .int l1), (2, .int l2)] [] h := by
  intro l0 l1 l2 h hX
  refine z_iload_n (pc := 25) G 2 dX8_clashes_25 rfl rfl ?_
  refine z_iload_n (pc := 26) G 1 dX8_clashes_26 rfl rfl ?_
  refine z_icmp_ge (pc := 27) (tgt := 48) G dX8_clashes_27 (by decide) (fun hc27 => ?_) (fun hc27 => ?_)
  · have hX := z_it hc27 hX
    refine z_drop (lv2 := [(0, .ref l0)]) [0] rfl ?_
    exact wX8_clashes_B48 hO G hr hnm _ _ hX
  · have hX := z_if hc27 hX
    refine z_aload_n (pc := 30) G 0 dX8_clashes_30 rfl rfl ?_
    obtain ⟨x31, hv31, hX⟩ := z_bd hX
    refine z_getR (pc := 31) G kK8 (k := 9) (by decide) kt_433 dX8_clashes_31 hv31 ?_
    refine z_aload_n (pc := 34) G 0 dX8_clashes_34 rfl rfl ?_
    obtain ⟨x35, hv35, hX⟩ := z_bd hX
    refine z_getR (pc := 35) G kK8 (k := 7) (by decide) kt_431 dX8_clashes_35 hv35 ?_
    obtain ⟨hi38, hX⟩ := z_gu_s hX
    obtain ⟨r38, hv38, hX⟩ := z_bd hX
    refine z_cVI (pc := 38) (As := [.ref x35]) (c2 := 0) (s2 := 0) G kK6 (lX6_go hO hv38) hi38 kt_807 kt_6 kt_804 kt_805 kt_806 ydX6_go ⟨by decide, by decide⟩ rfl (Nat.le_of_ble_eq_true rfl) ⟨rfl, rfl⟩ ⟨by decide, by decide⟩ rfl dX8_clashes_38 ?_
    refine z_pop (pc := 41) G dX8_clashes_41 rfl ?_
    refine z_iincw (pc := 42) (w := 1) (lv2 := [(0, .ref l0), (1, .int l1), (2, .int (l2 + 1))]) G 2 dX8_clashes_42 rfl (by decide) (by decide) rfl rfl ?_
    refine z_goto (pc := 45) (tgt := 25) G dX8_clashes_45 (by decide) ?_
    exact H25 _ _ _ _ hX
set_option maxHeartbeats 4000000 in
set_option maxRecDepth 100000 in
theorem wX8_clashes_L25 {Γ : ZG} {p : Program} {l : Launch} {e : Env} {s : State} {m : MethodId} {args : Array Value} {below : List Frame} {meth : Method} {c : Code} (hO : z_OK Γ) (G : z_GG Γ p s m args meth c cX8_clashes 3 RX8) (hr : meth.sig.returnType = (some .int)) (hnm : meth.name = "clashes") {r : (Int32 × ZH)} : ∀ (nn : Nat) (l0 : Nat) (l1 : Int32) (l2 : Int32) (h : ZH), xX8_clashes_L25  nn l0 l1 l2 h = some r → z_W Γ p l e rmX8_clashes s m args below meth c 3 0 0 (MQ below (z_Qc Γ (some (.int r.1)) r.2) args s rmX8_clashes.cells rmX8_clashes.slots (z_A Γ)) 25 [(0, .ref l0), (1, .int l1), (2, .int l2)] [] h := by
  intro nn
  induction nn with
  | zero => intro l0 l1 l2 h hX; cases hX
  | succ nn ih => intro l0 l1 l2 h hX; exact wX8_clashes_B25 hO G hr hnm  ih l0 l1 l2 h hX
noncomputable def xX8_clashes (l0 : Nat) (l1 : Int32) (h : ZH) : Option (Int32 × ZH) := (if l1 < 0 then some ((-1 : Int32), h) else (if l1 ≤ (90 : Int32) then ((z_gR h l0 8 7).bind fun x13 => ((z_gR h l0 8 6).bind fun x17 => (z_gu (z_is h x13 5) ((xX5_copy x13 x17 h).bind fun h20 => xX8_clashes_L25 zFU l0 l1 (0 : Int32) h20)))) else some ((-1 : Int32), h)))
set_option maxHeartbeats 4000000 in
set_option maxRecDepth 100000 in
theorem lX8_clashes {Γ : ZG} {l : Launch} (hO : z_OK Γ) {l0 : Nat} {l1 : Int32} {h : ZH} {r : (Int32 × ZH)} (hX : xX8_clashes l0 l1 h = some r) : z_M Γ l yX8_clashes (z_ws1 yX8_clashes cX8_clashes 3 (some .int)) rmX8_clashes [.ref l0, .int l1] h (some (.int r.1)) r.2 := by
  refine z_start hO (plainFor_of_name (by decide)) (Nat.le_of_ble_eq_true rfl) ?_
  intro p e s m args below meth c G hr hnm
  refine z_lvc (lv2 := [(0, .ref l0), (1, .int l1)]) rfl ?_
  refine z_iload_n (pc := 0) G 1 dX8_clashes_0 rfl rfl ?_
  refine z_if_lt (pc := 1) (tgt := 10) G dX8_clashes_1 (by decide) (fun hc1 => ?_) (fun hc1 => ?_)
  · have hX := z_it hc1 hX
    refine z_iconst (pc := 10) (v := (-1)) G dX8_clashes_10 (by decide) ?_
    exact z_iretX (pc := 11) hX G hr dX8_clashes_11 (by decide) (by decide)
  · have hX := z_if hc1 hX
    refine z_iload_n (pc := 4) G 1 dX8_clashes_4 rfl rfl ?_
    refine z_bipush (pc := 5) (v := 90) G dX8_clashes_5 (by decide) ?_
    refine z_icmp_le (pc := 7) (tgt := 12) G dX8_clashes_7 (by decide) (fun hc7 => ?_) (fun hc7 => ?_)
    · have hX := z_it hc7 hX
      refine z_aload_n (pc := 12) G 0 dX8_clashes_12 rfl rfl ?_
      obtain ⟨x13, hv13, hX⟩ := z_bd hX
      refine z_getR (pc := 13) G kK8 (k := 7) (by decide) kt_431 dX8_clashes_13 hv13 ?_
      refine z_aload_n (pc := 16) G 0 dX8_clashes_16 rfl rfl ?_
      obtain ⟨x17, hv17, hX⟩ := z_bd hX
      refine z_getR (pc := 17) G kK8 (k := 6) (by decide) kt_430 dX8_clashes_17 hv17 ?_
      obtain ⟨hi20, hX⟩ := z_gu_s hX
      obtain ⟨h20, hv20, hX⟩ := z_bd hX
      refine z_cVV (pc := 20) (As := [.ref x17]) (c2 := 0) (s2 := 0) G kK5 (lX5_copy hO hv20) hi20 kt_803 kt_4 kt_973 kt_801 kt_802 ydX5_copy ⟨by decide, by decide⟩ rfl (Nat.le_of_ble_eq_true rfl) ⟨rfl, rfl⟩ ⟨by decide, by decide⟩ rfl dX8_clashes_20 ?_
      refine z_iconst (pc := 23) (v := 0) G dX8_clashes_23 (by decide) ?_
      refine z_istore_n (pc := 24) (lv2 := [(0, .ref l0), (1, .int l1), (2, .int (0 : Int32))]) G dX8_clashes_24 rfl (by decide) rfl rfl ?_
      exact wX8_clashes_L25 hO G hr hnm zFU _ _ _ _ hX
    · have hX := z_if hc7 hX
      refine z_iconst (pc := 10) (v := (-1)) G dX8_clashes_10 (by decide) ?_
      exact z_iretX (pc := 11) hX G hr dX8_clashes_11 (by decide) (by decide)
theorem dX8_agree_0 : decode cX8_agree 0 = .ok (.aload_n 0, 1) := by decide +kernel
theorem dX8_agree_1 : decode cX8_agree 1 = .ok (.getfield 27, 3) := by decide +kernel
theorem dX8_agree_4 : decode cX8_agree 4 = .ok (.iload_n 1, 1) := by decide +kernel
theorem dX8_agree_5 : decode cX8_agree 5 = .ok (.invokevirtual 127, 3) := by decide +kernel
theorem dX8_agree_8 : decode cX8_agree 8 = .ok (.ifCond .eq 14, 3) := by decide +kernel
theorem dX8_agree_11 : decode cX8_agree 11 = .ok (.aload_n 0, 1) := by decide +kernel
theorem dX8_agree_12 : decode cX8_agree 12 = .ok (.getfield 27, 3) := by decide +kernel
theorem dX8_agree_15 : decode cX8_agree 15 = .ok (.iload_n 2, 1) := by decide +kernel
theorem dX8_agree_16 : decode cX8_agree 16 = .ok (.invokevirtual 127, 3) := by decide +kernel
theorem dX8_agree_19 : decode cX8_agree 19 = .ok (.ifCond .ne 5, 3) := by decide +kernel
theorem dX8_agree_22 : decode cX8_agree 22 = .ok (.iconst (-1), 1) := by decide +kernel
theorem dX8_agree_23 : decode cX8_agree 23 = .ok (.ireturn, 1) := by decide +kernel
theorem dX8_agree_24 : decode cX8_agree 24 = .ok (.iconst 0, 1) := by decide +kernel
theorem dX8_agree_25 : decode cX8_agree 25 = .ok (.istore_n 3, 1) := by decide +kernel
theorem dX8_agree_26 : decode cX8_agree 26 = .ok (.iconst 0, 1) := by decide +kernel
theorem dX8_agree_27 : decode cX8_agree 27 = .ok (.istore 4, 2) := by decide +kernel
theorem dX8_agree_29 : decode cX8_agree 29 = .ok (.iload 4, 2) := by decide +kernel
theorem dX8_agree_31 : decode cX8_agree 31 = .ok (.aload_n 0, 1) := by decide +kernel
theorem dX8_agree_32 : decode cX8_agree 32 = .ok (.getfield 27, 3) := by decide +kernel
theorem dX8_agree_35 : decode cX8_agree 35 = .ok (.getfield 234, 3) := by decide +kernel
theorem dX8_agree_38 : decode cX8_agree 38 = .ok (.if_icmp .ge 35, 3) := by decide +kernel
theorem dX8_agree_41 : decode cX8_agree 41 = .ok (.aload_n 0, 1) := by decide +kernel
theorem dX8_agree_42 : decode cX8_agree 42 = .ok (.getfield 36, 3) := by decide +kernel
theorem dX8_agree_45 : decode cX8_agree 45 = .ok (.iload_n 1, 1) := by decide +kernel
theorem dX8_agree_46 : decode cX8_agree 46 = .ok (.iload 4, 2) := by decide +kernel
theorem dX8_agree_48 : decode cX8_agree 48 = .ok (.invokevirtual 237, 3) := by decide +kernel
theorem dX8_agree_51 : decode cX8_agree 51 = .ok (.aload_n 0, 1) := by decide +kernel
theorem dX8_agree_52 : decode cX8_agree 52 = .ok (.getfield 36, 3) := by decide +kernel
theorem dX8_agree_55 : decode cX8_agree 55 = .ok (.iload_n 2, 1) := by decide +kernel
theorem dX8_agree_56 : decode cX8_agree 56 = .ok (.iload 4, 2) := by decide +kernel
theorem dX8_agree_58 : decode cX8_agree 58 = .ok (.invokevirtual 237, 3) := by decide +kernel
theorem dX8_agree_61 : decode cX8_agree 61 = .ok (.if_icmp .ne 6, 3) := by decide +kernel
theorem dX8_agree_64 : decode cX8_agree 64 = .ok (.iinc 3 1, 3) := by decide +kernel
theorem dX8_agree_67 : decode cX8_agree 67 = .ok (.iinc 4 1, 3) := by decide +kernel
theorem dX8_agree_70 : decode cX8_agree 70 = .ok (.goto (-41), 3) := by decide +kernel
theorem dX8_agree_73 : decode cX8_agree 73 = .ok (.iload_n 3, 1) := by decide +kernel
theorem dX8_agree_74 : decode cX8_agree 74 = .ok (.ireturn, 1) := by decide +kernel
theorem ydX8_agree : z_yd yX8_agree 2 := ⟨by decide, by decide, by decide +kernel⟩
abbrev rmX8_agree : Room := { frames := 1, cells := 0, slots := 0, locals := 22 }
noncomputable def xX8_agree_B29 (r29 : Nat → Int32 → Int32 → Int32 → Int32 → ZH → Option (Int32 × ZH)) (l0 : Nat) (l1 : Int32) (l2 : Int32) (l3 : Int32) (l4 : Int32) (h : ZH) : Option (Int32 × ZH) := ((z_gR h l0 8 5).bind fun x32 => ((z_gI h x32 2 0).bind fun x35 => (if x35 ≤ l4 then some (l3, h) else ((z_gR h l0 8 6).bind fun x42 => (z_gu (z_is h x42 5) ((xX5_holderOf x42 l1 l4 h).bind fun r48 => ((z_gR r48.2 l0 8 6).bind fun x52 => (z_gu (z_is r48.2 x52 5) ((xX5_holderOf x52 l2 l4 r48.2).bind fun r58 => (if r48.1 = r58.1 then r29 l0 l1 l2 (l3 + 1) (l4 + 1) r58.2 else r29 l0 l1 l2 l3 (l4 + 1) r58.2))))))))))
noncomputable def xX8_agree_L29 (n : Nat) : Nat → Int32 → Int32 → Int32 → Int32 → ZH → Option (Int32 × ZH) := Nat.rec (motive := fun _ => Nat → Int32 → Int32 → Int32 → Int32 → ZH → Option (Int32 × ZH)) (fun _ _ _ _ _ _ => none) (fun _ rec => xX8_agree_B29  rec) n
set_option maxHeartbeats 4000000 in
set_option maxRecDepth 100000 in
theorem wX8_agree_B29 {Γ : ZG} {p : Program} {l : Launch} {e : Env} {s : State} {m : MethodId} {args : Array Value} {below : List Frame} {meth : Method} {c : Code} (hO : z_OK Γ) (G : z_GG Γ p s m args meth c cX8_agree 5 RX8) (hr : meth.sig.returnType = (some .int)) (hnm : meth.name = "agree") {r : (Int32 × ZH)} {r29 : Nat → Int32 → Int32 → Int32 → Int32 → ZH → Option (Int32 × ZH)} (H29 : ∀ (l0 : Nat) (l1 : Int32) (l2 : Int32) (l3 : Int32) (l4 : Int32) (h : ZH), r29 l0 l1 l2 l3 l4 h = some r → z_W Γ p l e rmX8_agree s m args below meth c 5 0 0 (MQ below (z_Qc Γ (some (.int r.1)) r.2) args s rmX8_agree.cells rmX8_agree.slots (z_A Γ)) 29 [(0, .ref l0), (1, .int l1), (2, .int l2), (3, .int l3), (4, .int l4)] [] h) : ∀ (l0 : Nat) (l1 : Int32) (l2 : Int32) (l3 : Int32) (l4 : Int32) (h : ZH), xX8_agree_B29  r29 l0 l1 l2 l3 l4 h = some r → z_W Γ p l e rmX8_agree s m args below meth c 5 0 0 (MQ below (z_Qc Γ (some (.int r.1)) r.2) args s rmX8_agree.cells rmX8_agree.slots (z_A Γ)) 29 [(0, .ref l0), (1, .int l1), (2, .int l2), (3, .int l3), (4, .int l4)] [] h := by
  intro l0 l1 l2 l3 l4 h hX
  refine z_iload (pc := 29) G 4 dX8_agree_29 rfl ?_
  refine z_aload_n (pc := 31) G 0 dX8_agree_31 rfl rfl ?_
  obtain ⟨x32, hv32, hX⟩ := z_bd hX
  refine z_getR (pc := 32) G kK8 (k := 5) (by decide) kt_429 dX8_agree_32 hv32 ?_
  obtain ⟨x35, hv35, hX⟩ := z_bd hX
  refine z_getI (pc := 35) G kK2 (k := 0) (by decide) kt_44 dX8_agree_35 hv35 ?_
  refine z_icmp_ge (pc := 38) (tgt := 73) G dX8_agree_38 (by decide) (fun hc38 => ?_) (fun hc38 => ?_)
  · have hX := z_it hc38 hX
    refine z_iload_n (pc := 73) G 3 dX8_agree_73 rfl rfl ?_
    exact z_iretX (pc := 74) hX G hr dX8_agree_74 (by decide) (by decide)
  · have hX := z_if hc38 hX
    refine z_aload_n (pc := 41) G 0 dX8_agree_41 rfl rfl ?_
    obtain ⟨x42, hv42, hX⟩ := z_bd hX
    refine z_getR (pc := 42) G kK8 (k := 6) (by decide) kt_430 dX8_agree_42 hv42 ?_
    refine z_iload_n (pc := 45) G 1 dX8_agree_45 rfl rfl ?_
    refine z_iload (pc := 46) G 4 dX8_agree_46 rfl ?_
    obtain ⟨hi48, hX⟩ := z_gu_s hX
    obtain ⟨r48, hv48, hX⟩ := z_bd hX
    refine z_cVI (pc := 48) (As := [.int l1, .int l4]) (c2 := 0) (s2 := 0) G kK5 (lX5_holderOf hO hv48) hi48 kt_748 kt_4 kt_957 kt_746 kt_747 ydX5_holderOf ⟨by decide, by decide⟩ rfl (Nat.le_of_ble_eq_true rfl) ⟨rfl, rfl⟩ ⟨by decide, by decide⟩ rfl dX8_agree_48 ?_
    refine z_aload_n (pc := 51) G 0 dX8_agree_51 rfl rfl ?_
    obtain ⟨x52, hv52, hX⟩ := z_bd hX
    refine z_getR (pc := 52) G kK8 (k := 6) (by decide) kt_430 dX8_agree_52 hv52 ?_
    refine z_iload_n (pc := 55) G 2 dX8_agree_55 rfl rfl ?_
    refine z_iload (pc := 56) G 4 dX8_agree_56 rfl ?_
    obtain ⟨hi58, hX⟩ := z_gu_s hX
    obtain ⟨r58, hv58, hX⟩ := z_bd hX
    refine z_cVI (pc := 58) (As := [.int l2, .int l4]) (c2 := 0) (s2 := 0) G kK5 (lX5_holderOf hO hv58) hi58 kt_748 kt_4 kt_957 kt_746 kt_747 ydX5_holderOf ⟨by decide, by decide⟩ rfl (Nat.le_of_ble_eq_true rfl) ⟨rfl, rfl⟩ ⟨by decide, by decide⟩ rfl dX8_agree_58 ?_
    refine z_icmp_ne (pc := 61) (tgt := 67) G dX8_agree_61 (by decide) (fun hc61 => ?_) (fun hc61 => ?_)
    · have hX := z_if hc61 hX
      refine z_iincw (pc := 67) (w := 1) (lv2 := [(0, .ref l0), (1, .int l1), (2, .int l2), (3, .int l3), (4, .int (l4 + 1))]) G 4 dX8_agree_67 rfl (by decide) (by decide) rfl rfl ?_
      refine z_goto (pc := 70) (tgt := 29) G dX8_agree_70 (by decide) ?_
      exact H29 _ _ _ _ _ _ hX
    · have hX := z_it hc61 hX
      refine z_iincw (pc := 64) (w := 1) (lv2 := [(0, .ref l0), (1, .int l1), (2, .int l2), (3, .int (l3 + 1)), (4, .int l4)]) G 3 dX8_agree_64 rfl (by decide) (by decide) rfl rfl ?_
      refine z_iincw (pc := 67) (w := 1) (lv2 := [(0, .ref l0), (1, .int l1), (2, .int l2), (3, .int (l3 + 1)), (4, .int (l4 + 1))]) G 4 dX8_agree_67 rfl (by decide) (by decide) rfl rfl ?_
      refine z_goto (pc := 70) (tgt := 29) G dX8_agree_70 (by decide) ?_
      exact H29 _ _ _ _ _ _ hX
set_option maxHeartbeats 4000000 in
set_option maxRecDepth 100000 in
theorem wX8_agree_L29 {Γ : ZG} {p : Program} {l : Launch} {e : Env} {s : State} {m : MethodId} {args : Array Value} {below : List Frame} {meth : Method} {c : Code} (hO : z_OK Γ) (G : z_GG Γ p s m args meth c cX8_agree 5 RX8) (hr : meth.sig.returnType = (some .int)) (hnm : meth.name = "agree") {r : (Int32 × ZH)} : ∀ (nn : Nat) (l0 : Nat) (l1 : Int32) (l2 : Int32) (l3 : Int32) (l4 : Int32) (h : ZH), xX8_agree_L29  nn l0 l1 l2 l3 l4 h = some r → z_W Γ p l e rmX8_agree s m args below meth c 5 0 0 (MQ below (z_Qc Γ (some (.int r.1)) r.2) args s rmX8_agree.cells rmX8_agree.slots (z_A Γ)) 29 [(0, .ref l0), (1, .int l1), (2, .int l2), (3, .int l3), (4, .int l4)] [] h := by
  intro nn
  induction nn with
  | zero => intro l0 l1 l2 l3 l4 h hX; cases hX
  | succ nn ih => intro l0 l1 l2 l3 l4 h hX; exact wX8_agree_B29 hO G hr hnm  ih l0 l1 l2 l3 l4 h hX
noncomputable def xX8_agree (l0 : Nat) (l1 : Int32) (l2 : Int32) (h : ZH) : Option (Int32 × ZH) := ((z_gR h l0 8 5).bind fun x1 => (z_gu (z_is h x1 2) ((xX2_isShip x1 l1 h).bind fun r5 => (if r5.1 = 0 then some ((-1 : Int32), r5.2) else ((z_gR r5.2 l0 8 5).bind fun x12 => (z_gu (z_is r5.2 x12 2) ((xX2_isShip x12 l2 r5.2).bind fun r16 => (if r16.1 = 0 then some ((-1 : Int32), r16.2) else xX8_agree_L29 zFU l0 l1 l2 (0 : Int32) (0 : Int32) r16.2))))))))
set_option maxHeartbeats 4000000 in
set_option maxRecDepth 100000 in
theorem lX8_agree {Γ : ZG} {l : Launch} (hO : z_OK Γ) {l0 : Nat} {l1 : Int32} {l2 : Int32} {h : ZH} {r : (Int32 × ZH)} (hX : xX8_agree l0 l1 l2 h = some r) : z_M Γ l yX8_agree (z_ws1 yX8_agree cX8_agree 5 (some .int)) rmX8_agree [.ref l0, .int l1, .int l2] h (some (.int r.1)) r.2 := by
  refine z_start hO (plainFor_of_name (by decide)) (Nat.le_of_ble_eq_true rfl) ?_
  intro p e s m args below meth c G hr hnm
  refine z_lvc (lv2 := [(0, .ref l0), (1, .int l1), (2, .int l2)]) rfl ?_
  refine z_aload_n (pc := 0) G 0 dX8_agree_0 rfl rfl ?_
  obtain ⟨x1, hv1, hX⟩ := z_bd hX
  refine z_getR (pc := 1) G kK8 (k := 5) (by decide) kt_429 dX8_agree_1 hv1 ?_
  refine z_iload_n (pc := 4) G 1 dX8_agree_4 rfl rfl ?_
  obtain ⟨hi5, hX⟩ := z_gu_s hX
  obtain ⟨r5, hv5, hX⟩ := z_bd hX
  refine z_cVI (pc := 5) (As := [.int l1]) (c2 := 0) (s2 := 0) G kK2 (lX2_isShip hO hv5) hi5 kt_727 kt_3 kt_724 kt_725 kt_726 ydX2_isShip ⟨by decide, by decide⟩ rfl (Nat.le_of_ble_eq_true rfl) ⟨rfl, rfl⟩ ⟨by decide, by decide⟩ rfl dX8_agree_5 ?_
  refine z_if_eq (pc := 8) (tgt := 22) G dX8_agree_8 (by decide) (fun hc8 => ?_) (fun hc8 => ?_)
  · have hX := z_it hc8 hX
    refine z_iconst (pc := 22) (v := (-1)) G dX8_agree_22 (by decide) ?_
    exact z_iretX (pc := 23) hX G hr dX8_agree_23 (by decide) (by decide)
  · have hX := z_if hc8 hX
    refine z_aload_n (pc := 11) G 0 dX8_agree_11 rfl rfl ?_
    obtain ⟨x12, hv12, hX⟩ := z_bd hX
    refine z_getR (pc := 12) G kK8 (k := 5) (by decide) kt_429 dX8_agree_12 hv12 ?_
    refine z_iload_n (pc := 15) G 2 dX8_agree_15 rfl rfl ?_
    obtain ⟨hi16, hX⟩ := z_gu_s hX
    obtain ⟨r16, hv16, hX⟩ := z_bd hX
    refine z_cVI (pc := 16) (As := [.int l2]) (c2 := 0) (s2 := 0) G kK2 (lX2_isShip hO hv16) hi16 kt_727 kt_3 kt_724 kt_725 kt_726 ydX2_isShip ⟨by decide, by decide⟩ rfl (Nat.le_of_ble_eq_true rfl) ⟨rfl, rfl⟩ ⟨by decide, by decide⟩ rfl dX8_agree_16 ?_
    refine z_if_ne (pc := 19) (tgt := 24) G dX8_agree_19 (by decide) (fun hc19 => ?_) (fun hc19 => ?_)
    · have hX := z_if hc19 hX
      refine z_iconst (pc := 24) (v := 0) G dX8_agree_24 (by decide) ?_
      refine z_istore_n (pc := 25) (lv2 := [(0, .ref l0), (1, .int l1), (2, .int l2), (3, .int (0 : Int32))]) G dX8_agree_25 rfl (by decide) rfl rfl ?_
      refine z_iconst (pc := 26) (v := 0) G dX8_agree_26 (by decide) ?_
      refine z_istore (pc := 27) (lv2 := [(0, .ref l0), (1, .int l1), (2, .int l2), (3, .int (0 : Int32)), (4, .int (0 : Int32))]) G dX8_agree_27 (by decide) rfl rfl ?_
      exact wX8_agree_L29 hO G hr hnm zFU _ _ _ _ _ _ hX
    · have hX := z_it hc19 hX
      refine z_iconst (pc := 22) (v := (-1)) G dX8_agree_22 (by decide) ?_
      exact z_iretX (pc := 23) hX G hr dX8_agree_23 (by decide) (by decide)
theorem dX8_wrong_0 : decode cX8_wrong 0 = .ok (.aload_n 0, 1) := by decide +kernel
theorem dX8_wrong_1 : decode cX8_wrong 1 = .ok (.getfield 27, 3) := by decide +kernel
theorem dX8_wrong_4 : decode cX8_wrong 4 = .ok (.iload_n 1, 1) := by decide +kernel
theorem dX8_wrong_5 : decode cX8_wrong 5 = .ok (.invokevirtual 127, 3) := by decide +kernel
theorem dX8_wrong_8 : decode cX8_wrong 8 = .ok (.ifCond .ne 5, 3) := by decide +kernel
theorem dX8_wrong_11 : decode cX8_wrong 11 = .ok (.iconst (-1), 1) := by decide +kernel
theorem dX8_wrong_12 : decode cX8_wrong 12 = .ok (.ireturn, 1) := by decide +kernel
theorem dX8_wrong_13 : decode cX8_wrong 13 = .ok (.iconst 0, 1) := by decide +kernel
theorem dX8_wrong_14 : decode cX8_wrong 14 = .ok (.istore_n 2, 1) := by decide +kernel
theorem dX8_wrong_15 : decode cX8_wrong 15 = .ok (.iconst 0, 1) := by decide +kernel
theorem dX8_wrong_16 : decode cX8_wrong 16 = .ok (.istore_n 3, 1) := by decide +kernel
theorem dX8_wrong_17 : decode cX8_wrong 17 = .ok (.iload_n 3, 1) := by decide +kernel
theorem dX8_wrong_18 : decode cX8_wrong 18 = .ok (.aload_n 0, 1) := by decide +kernel
theorem dX8_wrong_19 : decode cX8_wrong 19 = .ok (.getfield 27, 3) := by decide +kernel
theorem dX8_wrong_22 : decode cX8_wrong 22 = .ok (.getfield 234, 3) := by decide +kernel
theorem dX8_wrong_25 : decode cX8_wrong 25 = .ok (.if_icmp .ge 45, 3) := by decide +kernel
theorem dX8_wrong_28 : decode cX8_wrong 28 = .ok (.aload_n 0, 1) := by decide +kernel
theorem dX8_wrong_29 : decode cX8_wrong 29 = .ok (.getfield 36, 3) := by decide +kernel
theorem dX8_wrong_32 : decode cX8_wrong 32 = .ok (.iload_n 1, 1) := by decide +kernel
theorem dX8_wrong_33 : decode cX8_wrong 33 = .ok (.iload_n 3, 1) := by decide +kernel
theorem dX8_wrong_34 : decode cX8_wrong 34 = .ok (.invokevirtual 237, 3) := by decide +kernel
theorem dX8_wrong_37 : decode cX8_wrong 37 = .ok (.istore 4, 2) := by decide +kernel
theorem dX8_wrong_39 : decode cX8_wrong 39 = .ok (.iload 4, 2) := by decide +kernel
theorem dX8_wrong_41 : decode cX8_wrong 41 = .ok (.iconst (-1), 1) := by decide +kernel
theorem dX8_wrong_42 : decode cX8_wrong 42 = .ok (.if_icmp .eq 22, 3) := by decide +kernel
theorem dX8_wrong_45 : decode cX8_wrong 45 = .ok (.aload_n 0, 1) := by decide +kernel
theorem dX8_wrong_46 : decode cX8_wrong 46 = .ok (.getfield 36, 3) := by decide +kernel
theorem dX8_wrong_49 : decode cX8_wrong 49 = .ok (.iload 4, 2) := by decide +kernel
theorem dX8_wrong_51 : decode cX8_wrong 51 = .ok (.iload_n 3, 1) := by decide +kernel
theorem dX8_wrong_52 : decode cX8_wrong 52 = .ok (.invokevirtual 256, 3) := by decide +kernel
theorem dX8_wrong_55 : decode cX8_wrong 55 = .ok (.ifCond .ne 9, 3) := by decide +kernel
theorem dX8_wrong_58 : decode cX8_wrong 58 = .ok (.iload_n 2, 1) := by decide +kernel
theorem dX8_wrong_59 : decode cX8_wrong 59 = .ok (.iconst 1, 1) := by decide +kernel
theorem dX8_wrong_60 : decode cX8_wrong 60 = .ok (.iload_n 3, 1) := by decide +kernel
theorem dX8_wrong_61 : decode cX8_wrong 61 = .ok (.ishl, 1) := by decide +kernel
theorem dX8_wrong_62 : decode cX8_wrong 62 = .ok (.ior, 1) := by decide +kernel
theorem dX8_wrong_63 : decode cX8_wrong 63 = .ok (.istore_n 2, 1) := by decide +kernel
theorem dX8_wrong_64 : decode cX8_wrong 64 = .ok (.iinc 3 1, 3) := by decide +kernel
theorem dX8_wrong_67 : decode cX8_wrong 67 = .ok (.goto (-50), 3) := by decide +kernel
theorem dX8_wrong_70 : decode cX8_wrong 70 = .ok (.iload_n 2, 1) := by decide +kernel
theorem dX8_wrong_71 : decode cX8_wrong 71 = .ok (.ireturn, 1) := by decide +kernel
theorem ydX8_wrong : z_yd yX8_wrong 1 := ⟨by decide, by decide, by decide +kernel⟩
abbrev rmX8_wrong : Room := { frames := 1, cells := 0, slots := 0, locals := 23 }
noncomputable def xX8_wrong_B17 (r17 : Nat → Int32 → Int32 → Int32 → ZH → Option (Int32 × ZH)) (l0 : Nat) (l1 : Int32) (l2 : Int32) (l3 : Int32) (h : ZH) : Option (Int32 × ZH) := ((z_gR h l0 8 5).bind fun x19 => ((z_gI h x19 2 0).bind fun x22 => (if x22 ≤ l3 then some (l2, h) else ((z_gR h l0 8 6).bind fun x29 => (z_gu (z_is h x29 5) ((xX5_holderOf x29 l1 l3 h).bind fun r34 => (if r34.1 = (-1 : Int32) then r17 l0 l1 l2 (l3 + 1) r34.2 else ((z_gR r34.2 l0 8 6).bind fun x46 => (z_gu (z_is r34.2 x46 5) ((xX5_owns x46 r34.1 l3 r34.2).bind fun r52 => (if r52.1 = 0 then r17 l0 l1 (l2 ||| ((1 : Int32) <<< (l3 &&& 31))) (l3 + 1) r52.2 else r17 l0 l1 l2 (l3 + 1) r52.2)))))))))))
noncomputable def xX8_wrong_L17 (n : Nat) : Nat → Int32 → Int32 → Int32 → ZH → Option (Int32 × ZH) := Nat.rec (motive := fun _ => Nat → Int32 → Int32 → Int32 → ZH → Option (Int32 × ZH)) (fun _ _ _ _ _ => none) (fun _ rec => xX8_wrong_B17  rec) n
set_option maxHeartbeats 4000000 in
set_option maxRecDepth 100000 in
theorem wX8_wrong_B17 {Γ : ZG} {p : Program} {l : Launch} {e : Env} {s : State} {m : MethodId} {args : Array Value} {below : List Frame} {meth : Method} {c : Code} (hO : z_OK Γ) (G : z_GG Γ p s m args meth c cX8_wrong 5 RX8) (hr : meth.sig.returnType = (some .int)) (hnm : meth.name = "wrong") {r : (Int32 × ZH)} {r17 : Nat → Int32 → Int32 → Int32 → ZH → Option (Int32 × ZH)} (H17 : ∀ (l0 : Nat) (l1 : Int32) (l2 : Int32) (l3 : Int32) (h : ZH), r17 l0 l1 l2 l3 h = some r → z_W Γ p l e rmX8_wrong s m args below meth c 5 0 0 (MQ below (z_Qc Γ (some (.int r.1)) r.2) args s rmX8_wrong.cells rmX8_wrong.slots (z_A Γ)) 17 [(0, .ref l0), (1, .int l1), (2, .int l2), (3, .int l3)] [] h) : ∀ (l0 : Nat) (l1 : Int32) (l2 : Int32) (l3 : Int32) (h : ZH), xX8_wrong_B17  r17 l0 l1 l2 l3 h = some r → z_W Γ p l e rmX8_wrong s m args below meth c 5 0 0 (MQ below (z_Qc Γ (some (.int r.1)) r.2) args s rmX8_wrong.cells rmX8_wrong.slots (z_A Γ)) 17 [(0, .ref l0), (1, .int l1), (2, .int l2), (3, .int l3)] [] h := by
  intro l0 l1 l2 l3 h hX
  refine z_iload_n (pc := 17) G 3 dX8_wrong_17 rfl rfl ?_
  refine z_aload_n (pc := 18) G 0 dX8_wrong_18 rfl rfl ?_
  obtain ⟨x19, hv19, hX⟩ := z_bd hX
  refine z_getR (pc := 19) G kK8 (k := 5) (by decide) kt_429 dX8_wrong_19 hv19 ?_
  obtain ⟨x22, hv22, hX⟩ := z_bd hX
  refine z_getI (pc := 22) G kK2 (k := 0) (by decide) kt_44 dX8_wrong_22 hv22 ?_
  refine z_icmp_ge (pc := 25) (tgt := 70) G dX8_wrong_25 (by decide) (fun hc25 => ?_) (fun hc25 => ?_)
  · have hX := z_it hc25 hX
    refine z_iload_n (pc := 70) G 2 dX8_wrong_70 rfl rfl ?_
    exact z_iretX (pc := 71) hX G hr dX8_wrong_71 (by decide) (by decide)
  · have hX := z_if hc25 hX
    refine z_aload_n (pc := 28) G 0 dX8_wrong_28 rfl rfl ?_
    obtain ⟨x29, hv29, hX⟩ := z_bd hX
    refine z_getR (pc := 29) G kK8 (k := 6) (by decide) kt_430 dX8_wrong_29 hv29 ?_
    refine z_iload_n (pc := 32) G 1 dX8_wrong_32 rfl rfl ?_
    refine z_iload_n (pc := 33) G 3 dX8_wrong_33 rfl rfl ?_
    obtain ⟨hi34, hX⟩ := z_gu_s hX
    obtain ⟨r34, hv34, hX⟩ := z_bd hX
    refine z_cVI (pc := 34) (As := [.int l1, .int l3]) (c2 := 0) (s2 := 0) G kK5 (lX5_holderOf hO hv34) hi34 kt_748 kt_4 kt_957 kt_746 kt_747 ydX5_holderOf ⟨by decide, by decide⟩ rfl (Nat.le_of_ble_eq_true rfl) ⟨rfl, rfl⟩ ⟨by decide, by decide⟩ rfl dX8_wrong_34 ?_
    refine z_istore (pc := 37) (lv2 := [(0, .ref l0), (1, .int l1), (2, .int l2), (3, .int l3), (4, .int r34.1)]) G dX8_wrong_37 (by decide) rfl rfl ?_
    refine z_iload (pc := 39) G 4 dX8_wrong_39 rfl ?_
    refine z_iconst (pc := 41) (v := (-1)) G dX8_wrong_41 (by decide) ?_
    refine z_icmp_eq (pc := 42) (tgt := 64) G dX8_wrong_42 (by decide) (fun hc42 => ?_) (fun hc42 => ?_)
    · have hX := z_it hc42 hX
      refine z_iincw (pc := 64) (w := 1) (lv2 := [(0, .ref l0), (1, .int l1), (2, .int l2), (3, .int (l3 + 1)), (4, .int r34.1)]) G 3 dX8_wrong_64 rfl (by decide) (by decide) rfl rfl ?_
      refine z_goto (pc := 67) (tgt := 17) G dX8_wrong_67 (by decide) ?_
      refine z_drop (lv2 := [(0, .ref l0), (1, .int l1), (2, .int l2), (3, .int (l3 + 1))]) [0, 1, 2, 3] rfl ?_
      exact H17 _ _ _ _ _ hX
    · have hX := z_if hc42 hX
      refine z_aload_n (pc := 45) G 0 dX8_wrong_45 rfl rfl ?_
      obtain ⟨x46, hv46, hX⟩ := z_bd hX
      refine z_getR (pc := 46) G kK8 (k := 6) (by decide) kt_430 dX8_wrong_46 hv46 ?_
      refine z_iload (pc := 49) G 4 dX8_wrong_49 rfl ?_
      refine z_iload_n (pc := 51) G 3 dX8_wrong_51 rfl rfl ?_
      obtain ⟨hi52, hX⟩ := z_gu_s hX
      obtain ⟨r52, hv52, hX⟩ := z_bd hX
      refine z_cVI (pc := 52) (As := [.int r34.1, .int l3]) (c2 := 0) (s2 := 0) G kK5 (lX5_owns hO hv52) hi52 kt_993 kt_4 kt_990 kt_991 kt_992 ydX5_owns ⟨by decide, by decide⟩ rfl (Nat.le_of_ble_eq_true rfl) ⟨rfl, rfl⟩ ⟨by decide, by decide⟩ rfl dX8_wrong_52 ?_
      refine z_if_ne (pc := 55) (tgt := 64) G dX8_wrong_55 (by decide) (fun hc55 => ?_) (fun hc55 => ?_)
      · have hX := z_if hc55 hX
        refine z_iincw (pc := 64) (w := 1) (lv2 := [(0, .ref l0), (1, .int l1), (2, .int l2), (3, .int (l3 + 1)), (4, .int r34.1)]) G 3 dX8_wrong_64 rfl (by decide) (by decide) rfl rfl ?_
        refine z_goto (pc := 67) (tgt := 17) G dX8_wrong_67 (by decide) ?_
        refine z_drop (lv2 := [(0, .ref l0), (1, .int l1), (2, .int l2), (3, .int (l3 + 1))]) [0, 1, 2, 3] rfl ?_
        exact H17 _ _ _ _ _ hX
      · have hX := z_it hc55 hX
        refine z_iload_n (pc := 58) G 2 dX8_wrong_58 rfl rfl ?_
        refine z_iconst (pc := 59) (v := 1) G dX8_wrong_59 (by decide) ?_
        refine z_iload_n (pc := 60) G 3 dX8_wrong_60 rfl rfl ?_
        refine z_ishl (pc := 61) G dX8_wrong_61 ?_
        refine z_ior (pc := 62) G dX8_wrong_62 ?_
        refine z_istore_n (pc := 63) (lv2 := [(0, .ref l0), (1, .int l1), (2, .int (l2 ||| ((1 : Int32) <<< (l3 &&& 31)))), (3, .int l3), (4, .int r34.1)]) G dX8_wrong_63 rfl (by decide) rfl rfl ?_
        refine z_iincw (pc := 64) (w := 1) (lv2 := [(0, .ref l0), (1, .int l1), (2, .int (l2 ||| ((1 : Int32) <<< (l3 &&& 31)))), (3, .int (l3 + 1)), (4, .int r34.1)]) G 3 dX8_wrong_64 rfl (by decide) (by decide) rfl rfl ?_
        refine z_goto (pc := 67) (tgt := 17) G dX8_wrong_67 (by decide) ?_
        refine z_drop (lv2 := [(0, .ref l0), (1, .int l1), (2, .int (l2 ||| ((1 : Int32) <<< (l3 &&& 31)))), (3, .int (l3 + 1))]) [0, 1, 2, 3] rfl ?_
        exact H17 _ _ _ _ _ hX
set_option maxHeartbeats 4000000 in
set_option maxRecDepth 100000 in
theorem wX8_wrong_L17 {Γ : ZG} {p : Program} {l : Launch} {e : Env} {s : State} {m : MethodId} {args : Array Value} {below : List Frame} {meth : Method} {c : Code} (hO : z_OK Γ) (G : z_GG Γ p s m args meth c cX8_wrong 5 RX8) (hr : meth.sig.returnType = (some .int)) (hnm : meth.name = "wrong") {r : (Int32 × ZH)} : ∀ (nn : Nat) (l0 : Nat) (l1 : Int32) (l2 : Int32) (l3 : Int32) (h : ZH), xX8_wrong_L17  nn l0 l1 l2 l3 h = some r → z_W Γ p l e rmX8_wrong s m args below meth c 5 0 0 (MQ below (z_Qc Γ (some (.int r.1)) r.2) args s rmX8_wrong.cells rmX8_wrong.slots (z_A Γ)) 17 [(0, .ref l0), (1, .int l1), (2, .int l2), (3, .int l3)] [] h := by
  intro nn
  induction nn with
  | zero => intro l0 l1 l2 l3 h hX; cases hX
  | succ nn ih => intro l0 l1 l2 l3 h hX; exact wX8_wrong_B17 hO G hr hnm  ih l0 l1 l2 l3 h hX
noncomputable def xX8_wrong (l0 : Nat) (l1 : Int32) (h : ZH) : Option (Int32 × ZH) := ((z_gR h l0 8 5).bind fun x1 => (z_gu (z_is h x1 2) ((xX2_isShip x1 l1 h).bind fun r5 => (if r5.1 = 0 then some ((-1 : Int32), r5.2) else xX8_wrong_L17 zFU l0 l1 (0 : Int32) (0 : Int32) r5.2))))
set_option maxHeartbeats 4000000 in
set_option maxRecDepth 100000 in
theorem lX8_wrong {Γ : ZG} {l : Launch} (hO : z_OK Γ) {l0 : Nat} {l1 : Int32} {h : ZH} {r : (Int32 × ZH)} (hX : xX8_wrong l0 l1 h = some r) : z_M Γ l yX8_wrong (z_ws1 yX8_wrong cX8_wrong 5 (some .int)) rmX8_wrong [.ref l0, .int l1] h (some (.int r.1)) r.2 := by
  refine z_start hO (plainFor_of_name (by decide)) (Nat.le_of_ble_eq_true rfl) ?_
  intro p e s m args below meth c G hr hnm
  refine z_lvc (lv2 := [(0, .ref l0), (1, .int l1)]) rfl ?_
  refine z_aload_n (pc := 0) G 0 dX8_wrong_0 rfl rfl ?_
  obtain ⟨x1, hv1, hX⟩ := z_bd hX
  refine z_getR (pc := 1) G kK8 (k := 5) (by decide) kt_429 dX8_wrong_1 hv1 ?_
  refine z_iload_n (pc := 4) G 1 dX8_wrong_4 rfl rfl ?_
  obtain ⟨hi5, hX⟩ := z_gu_s hX
  obtain ⟨r5, hv5, hX⟩ := z_bd hX
  refine z_cVI (pc := 5) (As := [.int l1]) (c2 := 0) (s2 := 0) G kK2 (lX2_isShip hO hv5) hi5 kt_727 kt_3 kt_724 kt_725 kt_726 ydX2_isShip ⟨by decide, by decide⟩ rfl (Nat.le_of_ble_eq_true rfl) ⟨rfl, rfl⟩ ⟨by decide, by decide⟩ rfl dX8_wrong_5 ?_
  refine z_if_ne (pc := 8) (tgt := 13) G dX8_wrong_8 (by decide) (fun hc8 => ?_) (fun hc8 => ?_)
  · have hX := z_if hc8 hX
    refine z_iconst (pc := 13) (v := 0) G dX8_wrong_13 (by decide) ?_
    refine z_istore_n (pc := 14) (lv2 := [(0, .ref l0), (1, .int l1), (2, .int (0 : Int32))]) G dX8_wrong_14 rfl (by decide) rfl rfl ?_
    refine z_iconst (pc := 15) (v := 0) G dX8_wrong_15 (by decide) ?_
    refine z_istore_n (pc := 16) (lv2 := [(0, .ref l0), (1, .int l1), (2, .int (0 : Int32)), (3, .int (0 : Int32))]) G dX8_wrong_16 rfl (by decide) rfl rfl ?_
    exact wX8_wrong_L17 hO G hr hnm zFU _ _ _ _ _ hX
  · have hX := z_it hc8 hX
    refine z_iconst (pc := 11) (v := (-1)) G dX8_wrong_11 (by decide) ?_
    exact z_iretX (pc := 12) hX G hr dX8_wrong_12 (by decide) (by decide)
theorem dX8_hidden_0 : decode cX8_hidden 0 = .ok (.aload_n 0, 1) := by decide +kernel
theorem dX8_hidden_1 : decode cX8_hidden 1 = .ok (.getfield 27, 3) := by decide +kernel
theorem dX8_hidden_4 : decode cX8_hidden 4 = .ok (.iload_n 1, 1) := by decide +kernel
theorem dX8_hidden_5 : decode cX8_hidden 5 = .ok (.invokevirtual 127, 3) := by decide +kernel
theorem dX8_hidden_8 : decode cX8_hidden 8 = .ok (.ifCond .eq 14, 3) := by decide +kernel
theorem dX8_hidden_11 : decode cX8_hidden 11 = .ok (.aload_n 0, 1) := by decide +kernel
theorem dX8_hidden_12 : decode cX8_hidden 12 = .ok (.getfield 27, 3) := by decide +kernel
theorem dX8_hidden_15 : decode cX8_hidden 15 = .ok (.iload_n 2, 1) := by decide +kernel
theorem dX8_hidden_16 : decode cX8_hidden 16 = .ok (.invokevirtual 127, 3) := by decide +kernel
theorem dX8_hidden_19 : decode cX8_hidden 19 = .ok (.ifCond .ne 5, 3) := by decide +kernel
theorem dX8_hidden_22 : decode cX8_hidden 22 = .ok (.iconst (-1), 1) := by decide +kernel
theorem dX8_hidden_23 : decode cX8_hidden 23 = .ok (.ireturn, 1) := by decide +kernel
theorem dX8_hidden_24 : decode cX8_hidden 24 = .ok (.aload_n 0, 1) := by decide +kernel
theorem dX8_hidden_25 : decode cX8_hidden 25 = .ok (.getfield 60, 3) := by decide +kernel
theorem dX8_hidden_28 : decode cX8_hidden 28 = .ok (.aload_n 0, 1) := by decide +kernel
theorem dX8_hidden_29 : decode cX8_hidden 29 = .ok (.getfield 36, 3) := by decide +kernel
theorem dX8_hidden_32 : decode cX8_hidden 32 = .ok (.invokevirtual 259, 3) := by decide +kernel
theorem dX8_hidden_35 : decode cX8_hidden 35 = .ok (.aload_n 0, 1) := by decide +kernel
theorem dX8_hidden_36 : decode cX8_hidden 36 = .ok (.getfield 60, 3) := by decide +kernel
theorem dX8_hidden_39 : decode cX8_hidden 39 = .ok (.iload_n 1, 1) := by decide +kernel
theorem dX8_hidden_40 : decode cX8_hidden 40 = .ok (.iload_n 2, 1) := by decide +kernel
theorem dX8_hidden_41 : decode cX8_hidden 41 = .ok (.invokevirtual 262, 3) := by decide +kernel
theorem dX8_hidden_44 : decode cX8_hidden 44 = .ok (.ireturn, 1) := by decide +kernel
theorem ydX8_hidden : z_yd yX8_hidden 2 := ⟨by decide, by decide, by decide +kernel⟩
abbrev rmX8_hidden : Room := { frames := 4, cells := 0, slots := 0, locals := 88 }
noncomputable def xX8_hidden (l0 : Nat) (l1 : Int32) (l2 : Int32) (h : ZH) : Option (Int32 × ZH) := ((z_gR h l0 8 5).bind fun x1 => (z_gu (z_is h x1 2) ((xX2_isShip x1 l1 h).bind fun r5 => (if r5.1 = 0 then some ((-1 : Int32), r5.2) else ((z_gR r5.2 l0 8 5).bind fun x12 => (z_gu (z_is r5.2 x12 2) ((xX2_isShip x12 l2 r5.2).bind fun r16 => (if r16.1 = 0 then some ((-1 : Int32), r16.2) else ((z_gR r16.2 l0 8 10).bind fun x25 => ((z_gR r16.2 l0 8 6).bind fun x29 => (z_gu (z_is r16.2 x25 7) ((xX7_knot x25 x29 r16.2).bind fun h32 => ((z_gR h32 l0 8 10).bind fun x36 => (z_gu (z_is h32 x36 7) ((xX7_thirdOnes x36 l1 l2 h32).bind fun r41 => some (r41.1, r41.2))))))))))))))))
set_option maxHeartbeats 4000000 in
set_option maxRecDepth 100000 in
theorem lX8_hidden {Γ : ZG} {l : Launch} (hO : z_OK Γ) {l0 : Nat} {l1 : Int32} {l2 : Int32} {h : ZH} {r : (Int32 × ZH)} (hX : xX8_hidden l0 l1 l2 h = some r) : z_M Γ l yX8_hidden (z_ws1 yX8_hidden cX8_hidden 3 (some .int)) rmX8_hidden [.ref l0, .int l1, .int l2] h (some (.int r.1)) r.2 := by
  refine z_start hO (plainFor_of_name (by decide)) (Nat.le_of_ble_eq_true rfl) ?_
  intro p e s m args below meth c G hr hnm
  refine z_lvc (lv2 := [(0, .ref l0), (1, .int l1), (2, .int l2)]) rfl ?_
  refine z_aload_n (pc := 0) G 0 dX8_hidden_0 rfl rfl ?_
  obtain ⟨x1, hv1, hX⟩ := z_bd hX
  refine z_getR (pc := 1) G kK8 (k := 5) (by decide) kt_429 dX8_hidden_1 hv1 ?_
  refine z_iload_n (pc := 4) G 1 dX8_hidden_4 rfl rfl ?_
  obtain ⟨hi5, hX⟩ := z_gu_s hX
  obtain ⟨r5, hv5, hX⟩ := z_bd hX
  refine z_cVI (pc := 5) (As := [.int l1]) (c2 := 0) (s2 := 0) G kK2 (lX2_isShip hO hv5) hi5 kt_727 kt_3 kt_724 kt_725 kt_726 ydX2_isShip ⟨by decide, by decide⟩ rfl (Nat.le_of_ble_eq_true rfl) ⟨rfl, rfl⟩ ⟨by decide, by decide⟩ rfl dX8_hidden_5 ?_
  refine z_if_eq (pc := 8) (tgt := 22) G dX8_hidden_8 (by decide) (fun hc8 => ?_) (fun hc8 => ?_)
  · have hX := z_it hc8 hX
    refine z_iconst (pc := 22) (v := (-1)) G dX8_hidden_22 (by decide) ?_
    exact z_iretX (pc := 23) hX G hr dX8_hidden_23 (by decide) (by decide)
  · have hX := z_if hc8 hX
    refine z_aload_n (pc := 11) G 0 dX8_hidden_11 rfl rfl ?_
    obtain ⟨x12, hv12, hX⟩ := z_bd hX
    refine z_getR (pc := 12) G kK8 (k := 5) (by decide) kt_429 dX8_hidden_12 hv12 ?_
    refine z_iload_n (pc := 15) G 2 dX8_hidden_15 rfl rfl ?_
    obtain ⟨hi16, hX⟩ := z_gu_s hX
    obtain ⟨r16, hv16, hX⟩ := z_bd hX
    refine z_cVI (pc := 16) (As := [.int l2]) (c2 := 0) (s2 := 0) G kK2 (lX2_isShip hO hv16) hi16 kt_727 kt_3 kt_724 kt_725 kt_726 ydX2_isShip ⟨by decide, by decide⟩ rfl (Nat.le_of_ble_eq_true rfl) ⟨rfl, rfl⟩ ⟨by decide, by decide⟩ rfl dX8_hidden_16 ?_
    refine z_if_ne (pc := 19) (tgt := 24) G dX8_hidden_19 (by decide) (fun hc19 => ?_) (fun hc19 => ?_)
    · have hX := z_if hc19 hX
      refine z_aload_n (pc := 24) G 0 dX8_hidden_24 rfl rfl ?_
      obtain ⟨x25, hv25, hX⟩ := z_bd hX
      refine z_getR (pc := 25) G kK8 (k := 10) (by decide) kt_434 dX8_hidden_25 hv25 ?_
      refine z_aload_n (pc := 28) G 0 dX8_hidden_28 rfl rfl ?_
      obtain ⟨x29, hv29, hX⟩ := z_bd hX
      refine z_getR (pc := 29) G kK8 (k := 6) (by decide) kt_430 dX8_hidden_29 hv29 ?_
      obtain ⟨hi32, hX⟩ := z_gu_s hX
      obtain ⟨h32, hv32, hX⟩ := z_bd hX
      refine z_cVV (pc := 32) (As := [.ref x29]) (c2 := 0) (s2 := 0) G kK7 (lX7_knot hO hv32) hi32 kt_1001 kt_7 kt_998 kt_999 kt_1000 ydX7_knot ⟨by decide, by decide⟩ rfl (Nat.le_of_ble_eq_true rfl) ⟨rfl, rfl⟩ ⟨by decide, by decide⟩ rfl dX8_hidden_32 ?_
      refine z_aload_n (pc := 35) G 0 dX8_hidden_35 rfl rfl ?_
      obtain ⟨x36, hv36, hX⟩ := z_bd hX
      refine z_getR (pc := 36) G kK8 (k := 10) (by decide) kt_434 dX8_hidden_36 hv36 ?_
      refine z_iload_n (pc := 39) G 1 dX8_hidden_39 rfl rfl ?_
      refine z_iload_n (pc := 40) G 2 dX8_hidden_40 rfl rfl ?_
      obtain ⟨hi41, hX⟩ := z_gu_s hX
      obtain ⟨r41, hv41, hX⟩ := z_bd hX
      refine z_cVI (pc := 41) (As := [.int l1, .int l2]) (c2 := 0) (s2 := 0) G kK7 (lX7_thirdOnes hO hv41) hi41 kt_1011 kt_7 kt_1008 kt_1009 kt_1010 ydX7_thirdOnes ⟨by decide, by decide⟩ rfl (Nat.le_of_ble_eq_true rfl) ⟨rfl, rfl⟩ ⟨by decide, by decide⟩ rfl dX8_hidden_41 ?_
      exact z_iretX (pc := 44) hX G hr dX8_hidden_44 (by decide) (by decide)
    · have hX := z_it hc19 hX
      refine z_iconst (pc := 22) (v := (-1)) G dX8_hidden_22 (by decide) ?_
      exact z_iretX (pc := 23) hX G hr dX8_hidden_23 (by decide) (by decide)
theorem dX8_colours_0 : decode cX8_colours 0 = .ok (.iload_n 1, 1) := by decide +kernel
theorem dX8_colours_1 : decode cX8_colours 1 = .ok (.ifCond .eq 10, 3) := by decide +kernel
theorem dX8_colours_4 : decode cX8_colours 4 = .ok (.iload_n 1, 1) := by decide +kernel
theorem dX8_colours_5 : decode cX8_colours 5 = .ok (.iconst 1, 1) := by decide +kernel
theorem dX8_colours_6 : decode cX8_colours 6 = .ok (.if_icmp .eq 5, 3) := by decide +kernel
theorem dX8_colours_9 : decode cX8_colours 9 = .ok (.iconst (-1), 1) := by decide +kernel
theorem dX8_colours_10 : decode cX8_colours 10 = .ok (.ireturn, 1) := by decide +kernel
theorem dX8_colours_11 : decode cX8_colours 11 = .ok (.aload_n 0, 1) := by decide +kernel
theorem dX8_colours_12 : decode cX8_colours 12 = .ok (.getfield 60, 3) := by decide +kernel
theorem dX8_colours_15 : decode cX8_colours 15 = .ok (.aload_n 0, 1) := by decide +kernel
theorem dX8_colours_16 : decode cX8_colours 16 = .ok (.getfield 36, 3) := by decide +kernel
theorem dX8_colours_19 : decode cX8_colours 19 = .ok (.invokevirtual 259, 3) := by decide +kernel
theorem dX8_colours_22 : decode cX8_colours 22 = .ok (.iload_n 1, 1) := by decide +kernel
theorem dX8_colours_23 : decode cX8_colours 23 = .ok (.iconst 1, 1) := by decide +kernel
theorem dX8_colours_24 : decode cX8_colours 24 = .ok (.if_icmp .ne 10, 3) := by decide +kernel
theorem dX8_colours_27 : decode cX8_colours 27 = .ok (.aload_n 0, 1) := by decide +kernel
theorem dX8_colours_28 : decode cX8_colours 28 = .ok (.getfield 60, 3) := by decide +kernel
theorem dX8_colours_31 : decode cX8_colours 31 = .ok (.invokevirtual 265, 3) := by decide +kernel
theorem dX8_colours_34 : decode cX8_colours 34 = .ok (.aload_n 0, 1) := by decide +kernel
theorem dX8_colours_35 : decode cX8_colours 35 = .ok (.getfield 60, 3) := by decide +kernel
theorem dX8_colours_38 : decode cX8_colours 38 = .ok (.invokevirtual 268, 3) := by decide +kernel
theorem dX8_colours_41 : decode cX8_colours 41 = .ok (.ireturn, 1) := by decide +kernel
theorem ydX8_colours : z_yd yX8_colours 1 := ⟨by decide, by decide, by decide +kernel⟩
abbrev rmX8_colours : Room := { frames := 4, cells := 0, slots := 0, locals := 88 }
noncomputable def xX8_colours_B11 (l0 : Nat) (l1 : Int32) (h : ZH) : Option (Int32 × ZH) := ((z_gR h l0 8 10).bind fun x12 => ((z_gR h l0 8 6).bind fun x16 => (z_gu (z_is h x12 7) ((xX7_knot x12 x16 h).bind fun h19 => (if l1 = (1 : Int32) then ((z_gR h19 l0 8 10).bind fun x28 => (z_gu (z_is h19 x28 7) ((xX7_widen x28 h19).bind fun h31 => ((z_gR h31 l0 8 10).bind fun x35 => (z_gu (z_is h31 x35 7) ((xX7_fewestColours x35 h31).bind fun r38 => some (r38.1, r38.2))))))) else ((z_gR h19 l0 8 10).bind fun x35 => (z_gu (z_is h19 x35 7) ((xX7_fewestColours x35 h19).bind fun r38 => some (r38.1, r38.2)))))))))
set_option maxHeartbeats 4000000 in
set_option maxRecDepth 100000 in
theorem wX8_colours_B11 {Γ : ZG} {p : Program} {l : Launch} {e : Env} {s : State} {m : MethodId} {args : Array Value} {below : List Frame} {meth : Method} {c : Code} (hO : z_OK Γ) (G : z_GG Γ p s m args meth c cX8_colours 2 RX8) (hr : meth.sig.returnType = (some .int)) (hnm : meth.name = "colours") {r : (Int32 × ZH)} : ∀ (l0 : Nat) (l1 : Int32) (h : ZH), xX8_colours_B11  l0 l1 h = some r → z_W Γ p l e rmX8_colours s m args below meth c 2 0 0 (MQ below (z_Qc Γ (some (.int r.1)) r.2) args s rmX8_colours.cells rmX8_colours.slots (z_A Γ)) 11 [(0, .ref l0), (1, .int l1)] [] h := by
  intro l0 l1 h hX
  refine z_aload_n (pc := 11) G 0 dX8_colours_11 rfl rfl ?_
  obtain ⟨x12, hv12, hX⟩ := z_bd hX
  refine z_getR (pc := 12) G kK8 (k := 10) (by decide) kt_434 dX8_colours_12 hv12 ?_
  refine z_aload_n (pc := 15) G 0 dX8_colours_15 rfl rfl ?_
  obtain ⟨x16, hv16, hX⟩ := z_bd hX
  refine z_getR (pc := 16) G kK8 (k := 6) (by decide) kt_430 dX8_colours_16 hv16 ?_
  obtain ⟨hi19, hX⟩ := z_gu_s hX
  obtain ⟨h19, hv19, hX⟩ := z_bd hX
  refine z_cVV (pc := 19) (As := [.ref x16]) (c2 := 0) (s2 := 0) G kK7 (lX7_knot hO hv19) hi19 kt_1001 kt_7 kt_998 kt_999 kt_1000 ydX7_knot ⟨by decide, by decide⟩ rfl (Nat.le_of_ble_eq_true rfl) ⟨rfl, rfl⟩ ⟨by decide, by decide⟩ rfl dX8_colours_19 ?_
  refine z_iload_n (pc := 22) G 1 dX8_colours_22 rfl rfl ?_
  refine z_iconst (pc := 23) (v := 1) G dX8_colours_23 (by decide) ?_
  refine z_icmp_ne (pc := 24) (tgt := 34) G dX8_colours_24 (by decide) (fun hc24 => ?_) (fun hc24 => ?_)
  · have hX := z_if hc24 hX
    refine z_aload_n (pc := 34) G 0 dX8_colours_34 rfl rfl ?_
    obtain ⟨x35, hv35, hX⟩ := z_bd hX
    refine z_getR (pc := 35) G kK8 (k := 10) (by decide) kt_434 dX8_colours_35 hv35 ?_
    obtain ⟨hi38, hX⟩ := z_gu_s hX
    obtain ⟨r38, hv38, hX⟩ := z_bd hX
    refine z_cVI (pc := 38) (As := []) (c2 := 0) (s2 := 0) G kK7 (lX7_fewestColours hO hv38) hi38 kt_1028 kt_7 kt_1025 kt_1026 kt_1027 ydX7_fewestColours ⟨by decide, by decide⟩ rfl (Nat.le_of_ble_eq_true rfl) ⟨rfl, rfl⟩ ⟨by decide, by decide⟩ rfl dX8_colours_38 ?_
    exact z_iretX (pc := 41) hX G hr dX8_colours_41 (by decide) (by decide)
  · have hX := z_it hc24 hX
    refine z_aload_n (pc := 27) G 0 dX8_colours_27 rfl rfl ?_
    obtain ⟨x28, hv28, hX⟩ := z_bd hX
    refine z_getR (pc := 28) G kK8 (k := 10) (by decide) kt_434 dX8_colours_28 hv28 ?_
    obtain ⟨hi31, hX⟩ := z_gu_s hX
    obtain ⟨h31, hv31, hX⟩ := z_bd hX
    refine z_cVV (pc := 31) (As := []) (c2 := 0) (s2 := 0) G kK7 (lX7_widen hO hv31) hi31 kt_1023 kt_7 kt_1020 kt_1021 kt_1022 ydX7_widen ⟨by decide, by decide⟩ rfl (Nat.le_of_ble_eq_true rfl) ⟨rfl, rfl⟩ ⟨by decide, by decide⟩ rfl dX8_colours_31 ?_
    refine z_aload_n (pc := 34) G 0 dX8_colours_34 rfl rfl ?_
    obtain ⟨x35, hv35, hX⟩ := z_bd hX
    refine z_getR (pc := 35) G kK8 (k := 10) (by decide) kt_434 dX8_colours_35 hv35 ?_
    obtain ⟨hi38, hX⟩ := z_gu_s hX
    obtain ⟨r38, hv38, hX⟩ := z_bd hX
    refine z_cVI (pc := 38) (As := []) (c2 := 0) (s2 := 0) G kK7 (lX7_fewestColours hO hv38) hi38 kt_1028 kt_7 kt_1025 kt_1026 kt_1027 ydX7_fewestColours ⟨by decide, by decide⟩ rfl (Nat.le_of_ble_eq_true rfl) ⟨rfl, rfl⟩ ⟨by decide, by decide⟩ rfl dX8_colours_38 ?_
    exact z_iretX (pc := 41) hX G hr dX8_colours_41 (by decide) (by decide)
noncomputable def xX8_colours (l0 : Nat) (l1 : Int32) (h : ZH) : Option (Int32 × ZH) := (if l1 = 0 then xX8_colours_B11 l0 l1 h else (if l1 = (1 : Int32) then xX8_colours_B11 l0 l1 h else some ((-1 : Int32), h)))
set_option maxHeartbeats 4000000 in
set_option maxRecDepth 100000 in
theorem lX8_colours {Γ : ZG} {l : Launch} (hO : z_OK Γ) {l0 : Nat} {l1 : Int32} {h : ZH} {r : (Int32 × ZH)} (hX : xX8_colours l0 l1 h = some r) : z_M Γ l yX8_colours (z_ws1 yX8_colours cX8_colours 2 (some .int)) rmX8_colours [.ref l0, .int l1] h (some (.int r.1)) r.2 := by
  refine z_start hO (plainFor_of_name (by decide)) (Nat.le_of_ble_eq_true rfl) ?_
  intro p e s m args below meth c G hr hnm
  refine z_lvc (lv2 := [(0, .ref l0), (1, .int l1)]) rfl ?_
  refine z_iload_n (pc := 0) G 1 dX8_colours_0 rfl rfl ?_
  refine z_if_eq (pc := 1) (tgt := 11) G dX8_colours_1 (by decide) (fun hc1 => ?_) (fun hc1 => ?_)
  · have hX := z_it hc1 hX
    exact wX8_colours_B11 hO G hr hnm _ _ _ hX
  · have hX := z_if hc1 hX
    refine z_iload_n (pc := 4) G 1 dX8_colours_4 rfl rfl ?_
    refine z_iconst (pc := 5) (v := 1) G dX8_colours_5 (by decide) ?_
    refine z_icmp_eq (pc := 6) (tgt := 11) G dX8_colours_6 (by decide) (fun hc6 => ?_) (fun hc6 => ?_)
    · have hX := z_it hc6 hX
      exact wX8_colours_B11 hO G hr hnm _ _ _ hX
    · have hX := z_if hc6 hX
      refine z_iconst (pc := 9) (v := (-1)) G dX8_colours_9 (by decide) ?_
      exact z_iretX (pc := 10) hX G hr dX8_colours_10 (by decide) (by decide)
theorem dX8_crowd_0 : decode cX8_crowd 0 = .ok (.iload_n 1, 1) := by decide +kernel
theorem dX8_crowd_1 : decode cX8_crowd 1 = .ok (.ifCond .eq 10, 3) := by decide +kernel
theorem dX8_crowd_4 : decode cX8_crowd 4 = .ok (.iload_n 1, 1) := by decide +kernel
theorem dX8_crowd_5 : decode cX8_crowd 5 = .ok (.iconst 1, 1) := by decide +kernel
theorem dX8_crowd_6 : decode cX8_crowd 6 = .ok (.if_icmp .eq 5, 3) := by decide +kernel
theorem dX8_crowd_9 : decode cX8_crowd 9 = .ok (.iconst (-1), 1) := by decide +kernel
theorem dX8_crowd_10 : decode cX8_crowd 10 = .ok (.ireturn, 1) := by decide +kernel
theorem dX8_crowd_11 : decode cX8_crowd 11 = .ok (.aload_n 0, 1) := by decide +kernel
theorem dX8_crowd_12 : decode cX8_crowd 12 = .ok (.getfield 60, 3) := by decide +kernel
theorem dX8_crowd_15 : decode cX8_crowd 15 = .ok (.aload_n 0, 1) := by decide +kernel
theorem dX8_crowd_16 : decode cX8_crowd 16 = .ok (.getfield 36, 3) := by decide +kernel
theorem dX8_crowd_19 : decode cX8_crowd 19 = .ok (.invokevirtual 259, 3) := by decide +kernel
theorem dX8_crowd_22 : decode cX8_crowd 22 = .ok (.aload_n 0, 1) := by decide +kernel
theorem dX8_crowd_23 : decode cX8_crowd 23 = .ok (.getfield 60, 3) := by decide +kernel
theorem dX8_crowd_26 : decode cX8_crowd 26 = .ok (.invokevirtual 272, 3) := by decide +kernel
theorem dX8_crowd_29 : decode cX8_crowd 29 = .ok (.istore_n 2, 1) := by decide +kernel
theorem dX8_crowd_30 : decode cX8_crowd 30 = .ok (.iload_n 1, 1) := by decide +kernel
theorem dX8_crowd_31 : decode cX8_crowd 31 = .ok (.ifCond .ne 10, 3) := by decide +kernel
theorem dX8_crowd_34 : decode cX8_crowd 34 = .ok (.iload_n 2, 1) := by decide +kernel
theorem dX8_crowd_35 : decode cX8_crowd 35 = .ok (.invokestatic 275, 3) := by decide +kernel
theorem dX8_crowd_38 : decode cX8_crowd 38 = .ok (.goto 4, 3) := by decide +kernel
theorem dX8_crowd_41 : decode cX8_crowd 41 = .ok (.iload_n 2, 1) := by decide +kernel
theorem dX8_crowd_42 : decode cX8_crowd 42 = .ok (.ireturn, 1) := by decide +kernel
theorem ydX8_crowd : z_yd yX8_crowd 1 := ⟨by decide, by decide, by decide +kernel⟩
abbrev rmX8_crowd : Room := { frames := 4, cells := 0, slots := 0, locals := 88 }
noncomputable def xX8_crowd_B11 (l0 : Nat) (l1 : Int32) (h : ZH) : Option (Int32 × ZH) := ((z_gR h l0 8 10).bind fun x12 => ((z_gR h l0 8 6).bind fun x16 => (z_gu (z_is h x12 7) ((xX7_knot x12 x16 h).bind fun h19 => ((z_gR h19 l0 8 10).bind fun x23 => (z_gu (z_is h19 x23 7) ((xX7_largestCrowd x23 h19).bind fun r26 => (if l1 = 0 then ((xJ6_bitCount_0f7a4 r26.1 r26.2).bind fun r35 => some (r35.1, r35.2)) else some (r26.1, r26.2)))))))))
set_option maxHeartbeats 4000000 in
set_option maxRecDepth 100000 in
theorem wX8_crowd_B11 {Γ : ZG} {p : Program} {l : Launch} {e : Env} {s : State} {m : MethodId} {args : Array Value} {below : List Frame} {meth : Method} {c : Code} (hO : z_OK Γ) (G : z_GG Γ p s m args meth c cX8_crowd 3 RX8) (hr : meth.sig.returnType = (some .int)) (hnm : meth.name = "crowd") {r : (Int32 × ZH)} : ∀ (l0 : Nat) (l1 : Int32) (h : ZH), xX8_crowd_B11  l0 l1 h = some r → z_W Γ p l e rmX8_crowd s m args below meth c 3 0 0 (MQ below (z_Qc Γ (some (.int r.1)) r.2) args s rmX8_crowd.cells rmX8_crowd.slots (z_A Γ)) 11 [(0, .ref l0), (1, .int l1)] [] h := by
  intro l0 l1 h hX
  refine z_aload_n (pc := 11) G 0 dX8_crowd_11 rfl rfl ?_
  obtain ⟨x12, hv12, hX⟩ := z_bd hX
  refine z_getR (pc := 12) G kK8 (k := 10) (by decide) kt_434 dX8_crowd_12 hv12 ?_
  refine z_aload_n (pc := 15) G 0 dX8_crowd_15 rfl rfl ?_
  obtain ⟨x16, hv16, hX⟩ := z_bd hX
  refine z_getR (pc := 16) G kK8 (k := 6) (by decide) kt_430 dX8_crowd_16 hv16 ?_
  obtain ⟨hi19, hX⟩ := z_gu_s hX
  obtain ⟨h19, hv19, hX⟩ := z_bd hX
  refine z_cVV (pc := 19) (As := [.ref x16]) (c2 := 0) (s2 := 0) G kK7 (lX7_knot hO hv19) hi19 kt_1001 kt_7 kt_998 kt_999 kt_1000 ydX7_knot ⟨by decide, by decide⟩ rfl (Nat.le_of_ble_eq_true rfl) ⟨rfl, rfl⟩ ⟨by decide, by decide⟩ rfl dX8_crowd_19 ?_
  refine z_aload_n (pc := 22) G 0 dX8_crowd_22 rfl rfl ?_
  obtain ⟨x23, hv23, hX⟩ := z_bd hX
  refine z_getR (pc := 23) G kK8 (k := 10) (by decide) kt_434 dX8_crowd_23 hv23 ?_
  obtain ⟨hi26, hX⟩ := z_gu_s hX
  obtain ⟨r26, hv26, hX⟩ := z_bd hX
  refine z_cVI (pc := 26) (As := []) (c2 := 0) (s2 := 0) G kK7 (lX7_largestCrowd hO hv26) hi26 kt_1040 kt_7 kt_1037 kt_1038 kt_1039 ydX7_largestCrowd ⟨by decide, by decide⟩ rfl (Nat.le_of_ble_eq_true rfl) ⟨rfl, rfl⟩ ⟨by decide, by decide⟩ rfl dX8_crowd_26 ?_
  refine z_istore_n (pc := 29) (lv2 := [(0, .ref l0), (1, .int l1), (2, .int r26.1)]) G dX8_crowd_29 rfl (by decide) rfl rfl ?_
  refine z_iload_n (pc := 30) G 1 dX8_crowd_30 rfl rfl ?_
  refine z_if_ne (pc := 31) (tgt := 41) G dX8_crowd_31 (by decide) (fun hc31 => ?_) (fun hc31 => ?_)
  · have hX := z_if hc31 hX
    refine z_iload_n (pc := 41) G 2 dX8_crowd_41 rfl rfl ?_
    exact z_iretX (pc := 42) hX G hr dX8_crowd_42 (by decide) (by decide)
  · have hX := z_it hc31 hX
    refine z_iload_n (pc := 34) G 2 dX8_crowd_34 rfl rfl ?_
    obtain ⟨r35, hv35, hX⟩ := z_bd hX
    refine z_cSI (pc := 35) (As := [.int r26.1]) (c2 := 0) (s2 := 0) G (lJ6_bitCount_0f7a4 hO hv35) kt_751 kt_18 kt_1046 kt_750 ydJ6_bitCount_0f7a4 ⟨by decide, by decide⟩ rfl (Nat.le_of_ble_eq_true rfl) ⟨rfl, rfl⟩ ⟨by decide, by decide⟩ rfl dX8_crowd_35 ?_
    refine z_goto (pc := 38) (tgt := 42) G dX8_crowd_38 (by decide) ?_
    exact z_iretX (pc := 42) hX G hr dX8_crowd_42 (by decide) (by decide)
noncomputable def xX8_crowd (l0 : Nat) (l1 : Int32) (h : ZH) : Option (Int32 × ZH) := (if l1 = 0 then xX8_crowd_B11 l0 l1 h else (if l1 = (1 : Int32) then xX8_crowd_B11 l0 l1 h else some ((-1 : Int32), h)))
set_option maxHeartbeats 4000000 in
set_option maxRecDepth 100000 in
theorem lX8_crowd {Γ : ZG} {l : Launch} (hO : z_OK Γ) {l0 : Nat} {l1 : Int32} {h : ZH} {r : (Int32 × ZH)} (hX : xX8_crowd l0 l1 h = some r) : z_M Γ l yX8_crowd (z_ws1 yX8_crowd cX8_crowd 3 (some .int)) rmX8_crowd [.ref l0, .int l1] h (some (.int r.1)) r.2 := by
  refine z_start hO (plainFor_of_name (by decide)) (Nat.le_of_ble_eq_true rfl) ?_
  intro p e s m args below meth c G hr hnm
  refine z_lvc (lv2 := [(0, .ref l0), (1, .int l1)]) rfl ?_
  refine z_iload_n (pc := 0) G 1 dX8_crowd_0 rfl rfl ?_
  refine z_if_eq (pc := 1) (tgt := 11) G dX8_crowd_1 (by decide) (fun hc1 => ?_) (fun hc1 => ?_)
  · have hX := z_it hc1 hX
    exact wX8_crowd_B11 hO G hr hnm _ _ _ hX
  · have hX := z_if hc1 hX
    refine z_iload_n (pc := 4) G 1 dX8_crowd_4 rfl rfl ?_
    refine z_iconst (pc := 5) (v := 1) G dX8_crowd_5 (by decide) ?_
    refine z_icmp_eq (pc := 6) (tgt := 11) G dX8_crowd_6 (by decide) (fun hc6 => ?_) (fun hc6 => ?_)
    · have hX := z_it hc6 hX
      exact wX8_crowd_B11 hO G hr hnm _ _ _ hX
    · have hX := z_if hc6 hX
      refine z_iconst (pc := 9) (v := (-1)) G dX8_crowd_9 (by decide) ?_
      exact z_iretX (pc := 10) hX G hr dX8_crowd_10 (by decide) (by decide)
theorem dX8_parts_0 : decode cX8_parts 0 = .ok (.aload_n 0, 1) := by decide +kernel
theorem dX8_parts_1 : decode cX8_parts 1 = .ok (.getfield 60, 3) := by decide +kernel
theorem dX8_parts_4 : decode cX8_parts 4 = .ok (.aload_n 0, 1) := by decide +kernel
theorem dX8_parts_5 : decode cX8_parts 5 = .ok (.getfield 36, 3) := by decide +kernel
theorem dX8_parts_8 : decode cX8_parts 8 = .ok (.invokevirtual 259, 3) := by decide +kernel
theorem dX8_parts_11 : decode cX8_parts 11 = .ok (.aload_n 0, 1) := by decide +kernel
theorem dX8_parts_12 : decode cX8_parts 12 = .ok (.getfield 60, 3) := by decide +kernel
theorem dX8_parts_15 : decode cX8_parts 15 = .ok (.invokevirtual 280, 3) := by decide +kernel
theorem dX8_parts_18 : decode cX8_parts 18 = .ok (.ireturn, 1) := by decide +kernel
theorem ydX8_parts : z_yd yX8_parts 0 := ⟨by decide, by decide, by decide +kernel⟩
abbrev rmX8_parts : Room := { frames := 4, cells := 0, slots := 0, locals := 88 }
noncomputable def xX8_parts (l0 : Nat) (h : ZH) : Option (Int32 × ZH) := ((z_gR h l0 8 10).bind fun x1 => ((z_gR h l0 8 6).bind fun x5 => (z_gu (z_is h x1 7) ((xX7_knot x1 x5 h).bind fun h8 => ((z_gR h8 l0 8 10).bind fun x12 => (z_gu (z_is h8 x12 7) ((xX7_countParts x12 h8).bind fun r15 => some (r15.1, r15.2))))))))
set_option maxHeartbeats 4000000 in
set_option maxRecDepth 100000 in
theorem lX8_parts {Γ : ZG} {l : Launch} (hO : z_OK Γ) {l0 : Nat} {h : ZH} {r : (Int32 × ZH)} (hX : xX8_parts l0 h = some r) : z_M Γ l yX8_parts (z_ws1 yX8_parts cX8_parts 1 (some .int)) rmX8_parts [.ref l0] h (some (.int r.1)) r.2 := by
  refine z_start hO (plainFor_of_name (by decide)) (Nat.le_of_ble_eq_true rfl) ?_
  intro p e s m args below meth c G hr hnm
  refine z_lvc (lv2 := [(0, .ref l0)]) rfl ?_
  refine z_aload_n (pc := 0) G 0 dX8_parts_0 rfl rfl ?_
  obtain ⟨x1, hv1, hX⟩ := z_bd hX
  refine z_getR (pc := 1) G kK8 (k := 10) (by decide) kt_434 dX8_parts_1 hv1 ?_
  refine z_aload_n (pc := 4) G 0 dX8_parts_4 rfl rfl ?_
  obtain ⟨x5, hv5, hX⟩ := z_bd hX
  refine z_getR (pc := 5) G kK8 (k := 6) (by decide) kt_430 dX8_parts_5 hv5 ?_
  obtain ⟨hi8, hX⟩ := z_gu_s hX
  obtain ⟨h8, hv8, hX⟩ := z_bd hX
  refine z_cVV (pc := 8) (As := [.ref x5]) (c2 := 0) (s2 := 0) G kK7 (lX7_knot hO hv8) hi8 kt_1001 kt_7 kt_998 kt_999 kt_1000 ydX7_knot ⟨by decide, by decide⟩ rfl (Nat.le_of_ble_eq_true rfl) ⟨rfl, rfl⟩ ⟨by decide, by decide⟩ rfl dX8_parts_8 ?_
  refine z_aload_n (pc := 11) G 0 dX8_parts_11 rfl rfl ?_
  obtain ⟨x12, hv12, hX⟩ := z_bd hX
  refine z_getR (pc := 12) G kK8 (k := 10) (by decide) kt_434 dX8_parts_12 hv12 ?_
  obtain ⟨hi15, hX⟩ := z_gu_s hX
  obtain ⟨r15, hv15, hX⟩ := z_bd hX
  refine z_cVI (pc := 15) (As := []) (c2 := 0) (s2 := 0) G kK7 (lX7_countParts hO hv15) hi15 kt_1054 kt_7 kt_1051 kt_1052 kt_1053 ydX7_countParts ⟨by decide, by decide⟩ rfl (Nat.le_of_ble_eq_true rfl) ⟨rfl, rfl⟩ ⟨by decide, by decide⟩ rfl dX8_parts_15 ?_
  exact z_iretX (pc := 18) hX G hr dX8_parts_18 (by decide) (by decide)
theorem dX8_twins_0 : decode cX8_twins 0 = .ok (.iconst 0, 1) := by decide +kernel
theorem dX8_twins_1 : decode cX8_twins 1 = .ok (.istore_n 1, 1) := by decide +kernel
theorem dX8_twins_2 : decode cX8_twins 2 = .ok (.aload_n 0, 1) := by decide +kernel
theorem dX8_twins_3 : decode cX8_twins 3 = .ok (.getfield 60, 3) := by decide +kernel
theorem dX8_twins_6 : decode cX8_twins 6 = .ok (.aload_n 0, 1) := by decide +kernel
theorem dX8_twins_7 : decode cX8_twins 7 = .ok (.getfield 36, 3) := by decide +kernel
theorem dX8_twins_10 : decode cX8_twins 10 = .ok (.invokevirtual 259, 3) := by decide +kernel
theorem dX8_twins_13 : decode cX8_twins 13 = .ok (.iconst 0, 1) := by decide +kernel
theorem dX8_twins_14 : decode cX8_twins 14 = .ok (.istore_n 2, 1) := by decide +kernel
theorem dX8_twins_15 : decode cX8_twins 15 = .ok (.iload_n 2, 1) := by decide +kernel
theorem dX8_twins_16 : decode cX8_twins 16 = .ok (.aload_n 0, 1) := by decide +kernel
theorem dX8_twins_17 : decode cX8_twins 17 = .ok (.getfield 27, 3) := by decide +kernel
theorem dX8_twins_20 : decode cX8_twins 20 = .ok (.getfield 124, 3) := by decide +kernel
theorem dX8_twins_23 : decode cX8_twins 23 = .ok (.if_icmp .ge 62, 3) := by decide +kernel
theorem dX8_twins_26 : decode cX8_twins 26 = .ok (.iload_n 2, 1) := by decide +kernel
theorem dX8_twins_27 : decode cX8_twins 27 = .ok (.iconst 1, 1) := by decide +kernel
theorem dX8_twins_28 : decode cX8_twins 28 = .ok (.iadd, 1) := by decide +kernel
theorem dX8_twins_29 : decode cX8_twins 29 = .ok (.istore_n 3, 1) := by decide +kernel
theorem dX8_twins_30 : decode cX8_twins 30 = .ok (.iload_n 3, 1) := by decide +kernel
theorem dX8_twins_31 : decode cX8_twins 31 = .ok (.aload_n 0, 1) := by decide +kernel
theorem dX8_twins_32 : decode cX8_twins 32 = .ok (.getfield 27, 3) := by decide +kernel
theorem dX8_twins_35 : decode cX8_twins 35 = .ok (.getfield 124, 3) := by decide +kernel
theorem dX8_twins_38 : decode cX8_twins 38 = .ok (.if_icmp .ge 41, 3) := by decide +kernel
theorem dX8_twins_41 : decode cX8_twins 41 = .ok (.aload_n 0, 1) := by decide +kernel
theorem dX8_twins_42 : decode cX8_twins 42 = .ok (.getfield 60, 3) := by decide +kernel
theorem dX8_twins_45 : decode cX8_twins 45 = .ok (.iload_n 2, 1) := by decide +kernel
theorem dX8_twins_46 : decode cX8_twins 46 = .ok (.iload_n 3, 1) := by decide +kernel
theorem dX8_twins_47 : decode cX8_twins 47 = .ok (.invokevirtual 283, 3) := by decide +kernel
theorem dX8_twins_50 : decode cX8_twins 50 = .ok (.ifCond .eq 23, 3) := by decide +kernel
theorem dX8_twins_53 : decode cX8_twins 53 = .ok (.iload_n 1, 1) := by decide +kernel
theorem dX8_twins_54 : decode cX8_twins 54 = .ok (.aload_n 0, 1) := by decide +kernel
theorem dX8_twins_55 : decode cX8_twins 55 = .ok (.getfield 36, 3) := by decide +kernel
theorem dX8_twins_58 : decode cX8_twins 58 = .ok (.iload_n 2, 1) := by decide +kernel
theorem dX8_twins_59 : decode cX8_twins 59 = .ok (.invokevirtual 231, 3) := by decide +kernel
theorem dX8_twins_62 : decode cX8_twins 62 = .ok (.aload_n 0, 1) := by decide +kernel
theorem dX8_twins_63 : decode cX8_twins 63 = .ok (.getfield 36, 3) := by decide +kernel
theorem dX8_twins_66 : decode cX8_twins 66 = .ok (.iload_n 3, 1) := by decide +kernel
theorem dX8_twins_67 : decode cX8_twins 67 = .ok (.invokevirtual 231, 3) := by decide +kernel
theorem dX8_twins_70 : decode cX8_twins 70 = .ok (.iand, 1) := by decide +kernel
theorem dX8_twins_71 : decode cX8_twins 71 = .ok (.ior, 1) := by decide +kernel
theorem dX8_twins_72 : decode cX8_twins 72 = .ok (.istore_n 1, 1) := by decide +kernel
theorem dX8_twins_73 : decode cX8_twins 73 = .ok (.iinc 3 1, 3) := by decide +kernel
theorem dX8_twins_76 : decode cX8_twins 76 = .ok (.goto (-46), 3) := by decide +kernel
theorem dX8_twins_79 : decode cX8_twins 79 = .ok (.iinc 2 1, 3) := by decide +kernel
theorem dX8_twins_82 : decode cX8_twins 82 = .ok (.goto (-67), 3) := by decide +kernel
theorem dX8_twins_85 : decode cX8_twins 85 = .ok (.iload_n 1, 1) := by decide +kernel
theorem dX8_twins_86 : decode cX8_twins 86 = .ok (.ireturn, 1) := by decide +kernel
theorem ydX8_twins : z_yd yX8_twins 0 := ⟨by decide, by decide, by decide +kernel⟩
abbrev rmX8_twins : Room := { frames := 4, cells := 0, slots := 0, locals := 88 }
noncomputable def xX8_twins_B30 (r15 : Nat → Int32 → Int32 → ZH → Option (Int32 × ZH)) (r30 : Nat → Int32 → Int32 → Int32 → ZH → Option (Int32 × ZH)) (l0 : Nat) (l1 : Int32) (l2 : Int32) (l3 : Int32) (h : ZH) : Option (Int32 × ZH) := ((z_gR h l0 8 5).bind fun x32 => ((z_gI h x32 2 7).bind fun x35 => (if x35 ≤ l3 then r15 l0 l1 (l2 + 1) h else ((z_gR h l0 8 10).bind fun x42 => (z_gu (z_is h x42 7) ((xX7_linked x42 l2 l3 h).bind fun r47 => (if r47.1 = 0 then r30 l0 l1 l2 (l3 + 1) r47.2 else ((z_gR r47.2 l0 8 6).bind fun x55 => (z_gu (z_is r47.2 x55 5) ((xX5_ownedBits x55 l2 r47.2).bind fun r59 => ((z_gR r59.2 l0 8 6).bind fun x63 => (z_gu (z_is r59.2 x63 5) ((xX5_ownedBits x63 l3 r59.2).bind fun r67 => r30 l0 (l1 ||| (r59.1 &&& r67.1)) l2 (l3 + 1) r67.2)))))))))))))
noncomputable def xX8_twins_L30 (r15 : Nat → Int32 → Int32 → ZH → Option (Int32 × ZH)) (n : Nat) : Nat → Int32 → Int32 → Int32 → ZH → Option (Int32 × ZH) := Nat.rec (motive := fun _ => Nat → Int32 → Int32 → Int32 → ZH → Option (Int32 × ZH)) (fun _ _ _ _ _ => none) (fun _ rec => xX8_twins_B30  r15 rec) n
set_option maxHeartbeats 4000000 in
set_option maxRecDepth 100000 in
theorem wX8_twins_B30 {Γ : ZG} {p : Program} {l : Launch} {e : Env} {s : State} {m : MethodId} {args : Array Value} {below : List Frame} {meth : Method} {c : Code} (hO : z_OK Γ) (G : z_GG Γ p s m args meth c cX8_twins 4 RX8) (hr : meth.sig.returnType = (some .int)) (hnm : meth.name = "twins") {r : (Int32 × ZH)} {r15 : Nat → Int32 → Int32 → ZH → Option (Int32 × ZH)} (H15 : ∀ (l0 : Nat) (l1 : Int32) (l2 : Int32) (h : ZH), r15 l0 l1 l2 h = some r → z_W Γ p l e rmX8_twins s m args below meth c 4 0 0 (MQ below (z_Qc Γ (some (.int r.1)) r.2) args s rmX8_twins.cells rmX8_twins.slots (z_A Γ)) 15 [(0, .ref l0), (1, .int l1), (2, .int l2)] [] h) {r30 : Nat → Int32 → Int32 → Int32 → ZH → Option (Int32 × ZH)} (H30 : ∀ (l0 : Nat) (l1 : Int32) (l2 : Int32) (l3 : Int32) (h : ZH), r30 l0 l1 l2 l3 h = some r → z_W Γ p l e rmX8_twins s m args below meth c 4 0 0 (MQ below (z_Qc Γ (some (.int r.1)) r.2) args s rmX8_twins.cells rmX8_twins.slots (z_A Γ)) 30 [(0, .ref l0), (1, .int l1), (2, .int l2), (3, .int l3)] [] h) : ∀ (l0 : Nat) (l1 : Int32) (l2 : Int32) (l3 : Int32) (h : ZH), xX8_twins_B30  r15 r30 l0 l1 l2 l3 h = some r → z_W Γ p l e rmX8_twins s m args below meth c 4 0 0 (MQ below (z_Qc Γ (some (.int r.1)) r.2) args s rmX8_twins.cells rmX8_twins.slots (z_A Γ)) 30 [(0, .ref l0), (1, .int l1), (2, .int l2), (3, .int l3)] [] h := by
  intro l0 l1 l2 l3 h hX
  refine z_iload_n (pc := 30) G 3 dX8_twins_30 rfl rfl ?_
  refine z_aload_n (pc := 31) G 0 dX8_twins_31 rfl rfl ?_
  obtain ⟨x32, hv32, hX⟩ := z_bd hX
  refine z_getR (pc := 32) G kK8 (k := 5) (by decide) kt_429 dX8_twins_32 hv32 ?_
  obtain ⟨x35, hv35, hX⟩ := z_bd hX
  refine z_getI (pc := 35) G kK2 (k := 7) (by decide) kt_71 dX8_twins_35 hv35 ?_
  refine z_icmp_ge (pc := 38) (tgt := 79) G dX8_twins_38 (by decide) (fun hc38 => ?_) (fun hc38 => ?_)
  · have hX := z_it hc38 hX
    refine z_iincw (pc := 79) (w := 1) (lv2 := [(0, .ref l0), (1, .int l1), (2, .int (l2 + 1)), (3, .int l3)]) G 2 dX8_twins_79 rfl (by decide) (by decide) rfl rfl ?_
    refine z_goto (pc := 82) (tgt := 15) G dX8_twins_82 (by decide) ?_
    refine z_drop (lv2 := [(0, .ref l0), (1, .int l1), (2, .int (l2 + 1))]) [0, 1, 2] rfl ?_
    exact H15 _ _ _ _ hX
  · have hX := z_if hc38 hX
    refine z_aload_n (pc := 41) G 0 dX8_twins_41 rfl rfl ?_
    obtain ⟨x42, hv42, hX⟩ := z_bd hX
    refine z_getR (pc := 42) G kK8 (k := 10) (by decide) kt_434 dX8_twins_42 hv42 ?_
    refine z_iload_n (pc := 45) G 2 dX8_twins_45 rfl rfl ?_
    refine z_iload_n (pc := 46) G 3 dX8_twins_46 rfl rfl ?_
    obtain ⟨hi47, hX⟩ := z_gu_s hX
    obtain ⟨r47, hv47, hX⟩ := z_bd hX
    refine z_cVI (pc := 47) (As := [.int l2, .int l3]) (c2 := 0) (s2 := 0) G kK7 (lX7_linked hO hv47) hi47 kt_1015 kt_7 kt_1063 kt_1013 kt_1014 ydX7_linked ⟨by decide, by decide⟩ rfl (Nat.le_of_ble_eq_true rfl) ⟨rfl, rfl⟩ ⟨by decide, by decide⟩ rfl dX8_twins_47 ?_
    refine z_if_eq (pc := 50) (tgt := 73) G dX8_twins_50 (by decide) (fun hc50 => ?_) (fun hc50 => ?_)
    · have hX := z_it hc50 hX
      refine z_iincw (pc := 73) (w := 1) (lv2 := [(0, .ref l0), (1, .int l1), (2, .int l2), (3, .int (l3 + 1))]) G 3 dX8_twins_73 rfl (by decide) (by decide) rfl rfl ?_
      refine z_goto (pc := 76) (tgt := 30) G dX8_twins_76 (by decide) ?_
      exact H30 _ _ _ _ _ hX
    · have hX := z_if hc50 hX
      refine z_iload_n (pc := 53) G 1 dX8_twins_53 rfl rfl ?_
      refine z_aload_n (pc := 54) G 0 dX8_twins_54 rfl rfl ?_
      obtain ⟨x55, hv55, hX⟩ := z_bd hX
      refine z_getR (pc := 55) G kK8 (k := 6) (by decide) kt_430 dX8_twins_55 hv55 ?_
      refine z_iload_n (pc := 58) G 2 dX8_twins_58 rfl rfl ?_
      obtain ⟨hi59, hX⟩ := z_gu_s hX
      obtain ⟨r59, hv59, hX⟩ := z_bd hX
      refine z_cVI (pc := 59) (As := [.int l2]) (c2 := 0) (s2 := 0) G kK5 (lX5_ownedBits hO hv59) hi59 kt_871 kt_4 kt_956 kt_869 kt_870 ydX5_ownedBits ⟨by decide, by decide⟩ rfl (Nat.le_of_ble_eq_true rfl) ⟨rfl, rfl⟩ ⟨by decide, by decide⟩ rfl dX8_twins_59 ?_
      refine z_aload_n (pc := 62) G 0 dX8_twins_62 rfl rfl ?_
      obtain ⟨x63, hv63, hX⟩ := z_bd hX
      refine z_getR (pc := 63) G kK8 (k := 6) (by decide) kt_430 dX8_twins_63 hv63 ?_
      refine z_iload_n (pc := 66) G 3 dX8_twins_66 rfl rfl ?_
      obtain ⟨hi67, hX⟩ := z_gu_s hX
      obtain ⟨r67, hv67, hX⟩ := z_bd hX
      refine z_cVI (pc := 67) (As := [.int l3]) (c2 := 0) (s2 := 0) G kK5 (lX5_ownedBits hO hv67) hi67 kt_871 kt_4 kt_956 kt_869 kt_870 ydX5_ownedBits ⟨by decide, by decide⟩ rfl (Nat.le_of_ble_eq_true rfl) ⟨rfl, rfl⟩ ⟨by decide, by decide⟩ rfl dX8_twins_67 ?_
      refine z_iand (pc := 70) G dX8_twins_70 ?_
      refine z_ior (pc := 71) G dX8_twins_71 ?_
      refine z_istore_n (pc := 72) (lv2 := [(0, .ref l0), (1, .int (l1 ||| (r59.1 &&& r67.1))), (2, .int l2), (3, .int l3)]) G dX8_twins_72 rfl (by decide) rfl rfl ?_
      refine z_iincw (pc := 73) (w := 1) (lv2 := [(0, .ref l0), (1, .int (l1 ||| (r59.1 &&& r67.1))), (2, .int l2), (3, .int (l3 + 1))]) G 3 dX8_twins_73 rfl (by decide) (by decide) rfl rfl ?_
      refine z_goto (pc := 76) (tgt := 30) G dX8_twins_76 (by decide) ?_
      exact H30 _ _ _ _ _ hX
set_option maxHeartbeats 4000000 in
set_option maxRecDepth 100000 in
theorem wX8_twins_L30 {Γ : ZG} {p : Program} {l : Launch} {e : Env} {s : State} {m : MethodId} {args : Array Value} {below : List Frame} {meth : Method} {c : Code} (hO : z_OK Γ) (G : z_GG Γ p s m args meth c cX8_twins 4 RX8) (hr : meth.sig.returnType = (some .int)) (hnm : meth.name = "twins") {r : (Int32 × ZH)} {r15 : Nat → Int32 → Int32 → ZH → Option (Int32 × ZH)} (H15 : ∀ (l0 : Nat) (l1 : Int32) (l2 : Int32) (h : ZH), r15 l0 l1 l2 h = some r → z_W Γ p l e rmX8_twins s m args below meth c 4 0 0 (MQ below (z_Qc Γ (some (.int r.1)) r.2) args s rmX8_twins.cells rmX8_twins.slots (z_A Γ)) 15 [(0, .ref l0), (1, .int l1), (2, .int l2)] [] h) : ∀ (nn : Nat) (l0 : Nat) (l1 : Int32) (l2 : Int32) (l3 : Int32) (h : ZH), xX8_twins_L30  r15 nn l0 l1 l2 l3 h = some r → z_W Γ p l e rmX8_twins s m args below meth c 4 0 0 (MQ below (z_Qc Γ (some (.int r.1)) r.2) args s rmX8_twins.cells rmX8_twins.slots (z_A Γ)) 30 [(0, .ref l0), (1, .int l1), (2, .int l2), (3, .int l3)] [] h := by
  intro nn
  induction nn with
  | zero => intro l0 l1 l2 l3 h hX; cases hX
  | succ nn ih => intro l0 l1 l2 l3 h hX; exact wX8_twins_B30 hO G hr hnm  H15 ih l0 l1 l2 l3 h hX
noncomputable def xX8_twins_B15 (r15 : Nat → Int32 → Int32 → ZH → Option (Int32 × ZH)) (l0 : Nat) (l1 : Int32) (l2 : Int32) (h : ZH) : Option (Int32 × ZH) := ((z_gR h l0 8 5).bind fun x17 => ((z_gI h x17 2 7).bind fun x20 => (if x20 ≤ l2 then some (l1, h) else xX8_twins_L30 r15 zFU l0 l1 l2 (l2 + (1 : Int32)) h)))
noncomputable def xX8_twins_L15 (n : Nat) : Nat → Int32 → Int32 → ZH → Option (Int32 × ZH) := Nat.rec (motive := fun _ => Nat → Int32 → Int32 → ZH → Option (Int32 × ZH)) (fun _ _ _ _ => none) (fun _ rec => xX8_twins_B15  rec) n
set_option maxHeartbeats 4000000 in
set_option maxRecDepth 100000 in
theorem wX8_twins_B15 {Γ : ZG} {p : Program} {l : Launch} {e : Env} {s : State} {m : MethodId} {args : Array Value} {below : List Frame} {meth : Method} {c : Code} (hO : z_OK Γ) (G : z_GG Γ p s m args meth c cX8_twins 4 RX8) (hr : meth.sig.returnType = (some .int)) (hnm : meth.name = "twins") {r : (Int32 × ZH)} {r15 : Nat → Int32 → Int32 → ZH → Option (Int32 × ZH)} (H15 : ∀ (l0 : Nat) (l1 : Int32) (l2 : Int32) (h : ZH), r15 l0 l1 l2 h = some r → z_W Γ p l e rmX8_twins s m args below meth c 4 0 0 (MQ below (z_Qc Γ (some (.int r.1)) r.2) args s rmX8_twins.cells rmX8_twins.slots (z_A Γ)) 15 [(0, .ref l0), (1, .int l1), (2, .int l2)] [] h) : ∀ (l0 : Nat) (l1 : Int32) (l2 : Int32) (h : ZH), xX8_twins_B15  r15 l0 l1 l2 h = some r → z_W Γ p l e rmX8_twins s m args below meth c 4 0 0 (MQ below (z_Qc Γ (some (.int r.1)) r.2) args s rmX8_twins.cells rmX8_twins.slots (z_A Γ)) 15 [(0, .ref l0), (1, .int l1), (2, .int l2)] [] h := by
  intro l0 l1 l2 h hX
  refine z_iload_n (pc := 15) G 2 dX8_twins_15 rfl rfl ?_
  refine z_aload_n (pc := 16) G 0 dX8_twins_16 rfl rfl ?_
  obtain ⟨x17, hv17, hX⟩ := z_bd hX
  refine z_getR (pc := 17) G kK8 (k := 5) (by decide) kt_429 dX8_twins_17 hv17 ?_
  obtain ⟨x20, hv20, hX⟩ := z_bd hX
  refine z_getI (pc := 20) G kK2 (k := 7) (by decide) kt_71 dX8_twins_20 hv20 ?_
  refine z_icmp_ge (pc := 23) (tgt := 85) G dX8_twins_23 (by decide) (fun hc23 => ?_) (fun hc23 => ?_)
  · have hX := z_it hc23 hX
    refine z_iload_n (pc := 85) G 1 dX8_twins_85 rfl rfl ?_
    exact z_iretX (pc := 86) hX G hr dX8_twins_86 (by decide) (by decide)
  · have hX := z_if hc23 hX
    refine z_iload_n (pc := 26) G 2 dX8_twins_26 rfl rfl ?_
    refine z_iconst (pc := 27) (v := 1) G dX8_twins_27 (by decide) ?_
    refine z_iadd (pc := 28) G dX8_twins_28 ?_
    refine z_istore_n (pc := 29) (lv2 := [(0, .ref l0), (1, .int l1), (2, .int l2), (3, .int (l2 + (1 : Int32)))]) G dX8_twins_29 rfl (by decide) rfl rfl ?_
    exact wX8_twins_L30 hO G hr hnm H15 zFU _ _ _ _ _ hX
set_option maxHeartbeats 4000000 in
set_option maxRecDepth 100000 in
theorem wX8_twins_L15 {Γ : ZG} {p : Program} {l : Launch} {e : Env} {s : State} {m : MethodId} {args : Array Value} {below : List Frame} {meth : Method} {c : Code} (hO : z_OK Γ) (G : z_GG Γ p s m args meth c cX8_twins 4 RX8) (hr : meth.sig.returnType = (some .int)) (hnm : meth.name = "twins") {r : (Int32 × ZH)} : ∀ (nn : Nat) (l0 : Nat) (l1 : Int32) (l2 : Int32) (h : ZH), xX8_twins_L15  nn l0 l1 l2 h = some r → z_W Γ p l e rmX8_twins s m args below meth c 4 0 0 (MQ below (z_Qc Γ (some (.int r.1)) r.2) args s rmX8_twins.cells rmX8_twins.slots (z_A Γ)) 15 [(0, .ref l0), (1, .int l1), (2, .int l2)] [] h := by
  intro nn
  induction nn with
  | zero => intro l0 l1 l2 h hX; cases hX
  | succ nn ih => intro l0 l1 l2 h hX; exact wX8_twins_B15 hO G hr hnm  ih l0 l1 l2 h hX
noncomputable def xX8_twins (l0 : Nat) (h : ZH) : Option (Int32 × ZH) := ((z_gR h l0 8 10).bind fun x3 => ((z_gR h l0 8 6).bind fun x7 => (z_gu (z_is h x3 7) ((xX7_knot x3 x7 h).bind fun h10 => xX8_twins_L15 zFU l0 (0 : Int32) (0 : Int32) h10))))
set_option maxHeartbeats 4000000 in
set_option maxRecDepth 100000 in
theorem lX8_twins {Γ : ZG} {l : Launch} (hO : z_OK Γ) {l0 : Nat} {h : ZH} {r : (Int32 × ZH)} (hX : xX8_twins l0 h = some r) : z_M Γ l yX8_twins (z_ws1 yX8_twins cX8_twins 4 (some .int)) rmX8_twins [.ref l0] h (some (.int r.1)) r.2 := by
  refine z_start hO (plainFor_of_name (by decide)) (Nat.le_of_ble_eq_true rfl) ?_
  intro p e s m args below meth c G hr hnm
  refine z_lvc (lv2 := [(0, .ref l0)]) rfl ?_
  refine z_iconst (pc := 0) (v := 0) G dX8_twins_0 (by decide) ?_
  refine z_istore_n (pc := 1) (lv2 := [(0, .ref l0), (1, .int (0 : Int32))]) G dX8_twins_1 rfl (by decide) rfl rfl ?_
  refine z_aload_n (pc := 2) G 0 dX8_twins_2 rfl rfl ?_
  obtain ⟨x3, hv3, hX⟩ := z_bd hX
  refine z_getR (pc := 3) G kK8 (k := 10) (by decide) kt_434 dX8_twins_3 hv3 ?_
  refine z_aload_n (pc := 6) G 0 dX8_twins_6 rfl rfl ?_
  obtain ⟨x7, hv7, hX⟩ := z_bd hX
  refine z_getR (pc := 7) G kK8 (k := 6) (by decide) kt_430 dX8_twins_7 hv7 ?_
  obtain ⟨hi10, hX⟩ := z_gu_s hX
  obtain ⟨h10, hv10, hX⟩ := z_bd hX
  refine z_cVV (pc := 10) (As := [.ref x7]) (c2 := 0) (s2 := 0) G kK7 (lX7_knot hO hv10) hi10 kt_1001 kt_7 kt_998 kt_999 kt_1000 ydX7_knot ⟨by decide, by decide⟩ rfl (Nat.le_of_ble_eq_true rfl) ⟨rfl, rfl⟩ ⟨by decide, by decide⟩ rfl dX8_twins_10 ?_
  refine z_iconst (pc := 13) (v := 0) G dX8_twins_13 (by decide) ?_
  refine z_istore_n (pc := 14) (lv2 := [(0, .ref l0), (1, .int (0 : Int32)), (2, .int (0 : Int32))]) G dX8_twins_14 rfl (by decide) rfl rfl ?_
  exact wX8_twins_L15 hO G hr hnm zFU _ _ _ _ hX
