theorem dX6_hear_0 : decode cX6_hear 0 = .ok (.aload_n 1, 1) := by decide +kernel
theorem dX6_hear_1 : decode cX6_hear 1 = .ok (.iload_n 2, 1) := by decide +kernel
theorem dX6_hear_2 : decode cX6_hear 2 = .ok (.aload_n 1, 1) := by decide +kernel
theorem dX6_hear_3 : decode cX6_hear 3 = .ok (.getfield 25, 3) := by decide +kernel
theorem dX6_hear_6 : decode cX6_hear 6 = .ok (.iconst (-1), 1) := by decide +kernel
theorem dX6_hear_7 : decode cX6_hear 7 = .ok (.iconst 0, 1) := by decide +kernel
theorem dX6_hear_8 : decode cX6_hear 8 = .ok (.invokevirtual 132, 3) := by decide +kernel
theorem dX6_hear_11 : decode cX6_hear 11 = .ok (.aload_n 1, 1) := by decide +kernel
theorem dX6_hear_12 : decode cX6_hear 12 = .ok (.iload_n 2, 1) := by decide +kernel
theorem dX6_hear_13 : decode cX6_hear 13 = .ok (.aload_n 0, 1) := by decide +kernel
theorem dX6_hear_14 : decode cX6_hear 14 = .ok (.getfield 18, 3) := by decide +kernel
theorem dX6_hear_17 : decode cX6_hear 17 = .ok (.iload_n 3, 1) := by decide +kernel
theorem dX6_hear_18 : decode cX6_hear 18 = .ok (.iaload, 1) := by decide +kernel
theorem dX6_hear_19 : decode cX6_hear 19 = .ok (.iload_n 3, 1) := by decide +kernel
theorem dX6_hear_20 : decode cX6_hear 20 = .ok (.aload_n 0, 1) := by decide +kernel
theorem dX6_hear_21 : decode cX6_hear 21 = .ok (.getfield 22, 3) := by decide +kernel
theorem dX6_hear_24 : decode cX6_hear 24 = .ok (.iload_n 3, 1) := by decide +kernel
theorem dX6_hear_25 : decode cX6_hear 25 = .ok (.iaload, 1) := by decide +kernel
theorem dX6_hear_26 : decode cX6_hear 26 = .ok (.iconst 1, 1) := by decide +kernel
theorem dX6_hear_27 : decode cX6_hear 27 = .ok (.iadd, 1) := by decide +kernel
theorem dX6_hear_28 : decode cX6_hear 28 = .ok (.invokevirtual 132, 3) := by decide +kernel
theorem dX6_hear_31 : decode cX6_hear 31 = .ok (.iload_n 2, 1) := by decide +kernel
theorem dX6_hear_32 : decode cX6_hear 32 = .ok (.bipush 6, 2) := by decide +kernel
theorem dX6_hear_34 : decode cX6_hear 34 = .ok (.imul, 1) := by decide +kernel
theorem dX6_hear_35 : decode cX6_hear 35 = .ok (.iload_n 3, 1) := by decide +kernel
theorem dX6_hear_36 : decode cX6_hear 36 = .ok (.iadd, 1) := by decide +kernel
theorem dX6_hear_37 : decode cX6_hear 37 = .ok (.istore 4, 2) := by decide +kernel
theorem dX6_hear_39 : decode cX6_hear 39 = .ok (.aload_n 1, 1) := by decide +kernel
theorem dX6_hear_40 : decode cX6_hear 40 = .ok (.getfield 136, 3) := by decide +kernel
theorem dX6_hear_43 : decode cX6_hear 43 = .ok (.iload 4, 2) := by decide +kernel
theorem dX6_hear_45 : decode cX6_hear 45 = .ok (.aload_n 1, 1) := by decide +kernel
theorem dX6_hear_46 : decode cX6_hear 46 = .ok (.getfield 139, 3) := by decide +kernel
theorem dX6_hear_49 : decode cX6_hear 49 = .ok (.iload_n 3, 1) := by decide +kernel
theorem dX6_hear_50 : decode cX6_hear 50 = .ok (.iaload, 1) := by decide +kernel
theorem dX6_hear_51 : decode cX6_hear 51 = .ok (.iastore, 1) := by decide +kernel
theorem dX6_hear_52 : decode cX6_hear 52 = .ok (.aload_n 1, 1) := by decide +kernel
theorem dX6_hear_53 : decode cX6_hear 53 = .ok (.getfield 142, 3) := by decide +kernel
theorem dX6_hear_56 : decode cX6_hear 56 = .ok (.iload 4, 2) := by decide +kernel
theorem dX6_hear_58 : decode cX6_hear 58 = .ok (.aload_n 1, 1) := by decide +kernel
theorem dX6_hear_59 : decode cX6_hear 59 = .ok (.getfield 145, 3) := by decide +kernel
theorem dX6_hear_62 : decode cX6_hear 62 = .ok (.iload_n 3, 1) := by decide +kernel
theorem dX6_hear_63 : decode cX6_hear 63 = .ok (.iaload, 1) := by decide +kernel
theorem dX6_hear_64 : decode cX6_hear 64 = .ok (.iastore, 1) := by decide +kernel
theorem dX6_hear_65 : decode cX6_hear 65 = .ok (.return_, 1) := by decide +kernel
theorem ydX6_hear : z_yd yX6_hear 3 := ⟨by decide, by decide, by decide +kernel⟩
abbrev rmX6_hear : Room := { frames := 1, cells := 0, slots := 0, locals := 24 }
noncomputable def xX6_hear (l0 : Nat) (l1 : Nat) (l2 : Int32) (l3 : Int32) (h : ZH) : Option ZH := ((z_gI h l1 5 16).bind fun x3 => (z_gu (z_is h l1 5) ((xX5_setHolder l1 l2 x3 (-1 : Int32) (0 : Int32) h).bind fun h8 => ((z_gR h8 l0 6 1).bind fun x14 => ((z_aI h8 x14 l3).bind fun x18 => ((z_gR h8 l0 6 2).bind fun x21 => ((z_aI h8 x21 l3).bind fun x25 => (z_gu (z_is h8 l1 5) ((xX5_setHolder l1 l2 x18 l3 (x25 + (1 : Int32)) h8).bind fun h28 => ((z_gR h28 l1 5 11).bind fun x40 => ((z_gR h28 l1 5 1).bind fun x46 => ((z_aI h28 x46 l3).bind fun x50 => ((z_uI h28 x40 ((l2 * (6 : Int32)) + l3) x50).bind fun h51 => ((z_gR h51 l1 5 12).bind fun x53 => ((z_gR h51 l1 5 2).bind fun x59 => ((z_aI h51 x59 l3).bind fun x63 => ((z_uI h51 x53 ((l2 * (6 : Int32)) + l3) x63).bind fun h64 => some h64)))))))))))))))))
set_option maxHeartbeats 4000000 in
set_option maxRecDepth 100000 in
theorem lX6_hear {Γ : ZG} {l : Launch} (hO : z_OK Γ) {l0 : Nat} {l1 : Nat} {l2 : Int32} {l3 : Int32} {h : ZH} {r : ZH} (hX : xX6_hear l0 l1 l2 l3 h = some r) : z_M Γ l yX6_hear (z_ws1 yX6_hear cX6_hear 5 none) rmX6_hear [.ref l0, .ref l1, .int l2, .int l3] h none r := by
  refine z_start hO (plainFor_of_name (by decide)) (Nat.le_of_ble_eq_true rfl) ?_
  intro p e s m args below meth c G hr hnm
  refine z_lvc (lv2 := [(0, .ref l0), (1, .ref l1), (2, .int l2), (3, .int l3)]) rfl ?_
  refine z_aload_n (pc := 0) G 1 dX6_hear_0 rfl rfl ?_
  refine z_iload_n (pc := 1) G 2 dX6_hear_1 rfl rfl ?_
  refine z_aload_n (pc := 2) G 1 dX6_hear_2 rfl rfl ?_
  obtain ⟨x3, hv3, hX⟩ := z_bd hX
  refine z_getI (pc := 3) G kK5 (k := 16) (by decide) kt_235 dX6_hear_3 hv3 ?_
  refine z_iconst (pc := 6) (v := (-1)) G dX6_hear_6 (by decide) ?_
  refine z_iconst (pc := 7) (v := 0) G dX6_hear_7 (by decide) ?_
  obtain ⟨hi8, hX⟩ := z_gu_s hX
  obtain ⟨h8, hv8, hX⟩ := z_bd hX
  refine z_cVV (pc := 8) (As := [.int l2, .int x3, .int (-1 : Int32), .int (0 : Int32)]) (c2 := 0) (s2 := 0) G kK5 (lX5_setHolder hO hv8) hi8 kt_423 kt_4 kt_910 kt_421 kt_422 ydX5_setHolder ⟨by decide, by decide⟩ rfl (Nat.le_of_ble_eq_true rfl) ⟨rfl, rfl⟩ ⟨by decide, by decide⟩ rfl dX6_hear_8 ?_
  refine z_aload_n (pc := 11) G 1 dX6_hear_11 rfl rfl ?_
  refine z_iload_n (pc := 12) G 2 dX6_hear_12 rfl rfl ?_
  refine z_aload_n (pc := 13) G 0 dX6_hear_13 rfl rfl ?_
  obtain ⟨x14, hv14, hX⟩ := z_bd hX
  refine z_getR (pc := 14) G kK6 (k := 1) (by decide) kt_311 dX6_hear_14 hv14 ?_
  refine z_iload_n (pc := 17) G 3 dX6_hear_17 rfl rfl ?_
  obtain ⟨x18, hv18, hX⟩ := z_bd hX
  refine z_iald (pc := 18) G dX6_hear_18 hv18 ?_
  refine z_iload_n (pc := 19) G 3 dX6_hear_19 rfl rfl ?_
  refine z_aload_n (pc := 20) G 0 dX6_hear_20 rfl rfl ?_
  obtain ⟨x21, hv21, hX⟩ := z_bd hX
  refine z_getR (pc := 21) G kK6 (k := 2) (by decide) kt_312 dX6_hear_21 hv21 ?_
  refine z_iload_n (pc := 24) G 3 dX6_hear_24 rfl rfl ?_
  obtain ⟨x25, hv25, hX⟩ := z_bd hX
  refine z_iald (pc := 25) G dX6_hear_25 hv25 ?_
  refine z_iconst (pc := 26) (v := 1) G dX6_hear_26 (by decide) ?_
  refine z_iadd (pc := 27) G dX6_hear_27 ?_
  obtain ⟨hi28, hX⟩ := z_gu_s hX
  obtain ⟨h28, hv28, hX⟩ := z_bd hX
  refine z_cVV (pc := 28) (As := [.int l2, .int x18, .int l3, .int (x25 + (1 : Int32))]) (c2 := 0) (s2 := 0) G kK5 (lX5_setHolder hO hv28) hi28 kt_423 kt_4 kt_910 kt_421 kt_422 ydX5_setHolder ⟨by decide, by decide⟩ rfl (Nat.le_of_ble_eq_true rfl) ⟨rfl, rfl⟩ ⟨by decide, by decide⟩ rfl dX6_hear_28 ?_
  refine z_iload_n (pc := 31) G 2 dX6_hear_31 rfl rfl ?_
  refine z_bipush (pc := 32) (v := 6) G dX6_hear_32 (by decide) ?_
  refine z_imul (pc := 34) G dX6_hear_34 ?_
  refine z_iload_n (pc := 35) G 3 dX6_hear_35 rfl rfl ?_
  refine z_iadd (pc := 36) G dX6_hear_36 ?_
  refine z_istore (pc := 37) (lv2 := [(0, .ref l0), (1, .ref l1), (2, .int l2), (3, .int l3), (4, .int ((l2 * (6 : Int32)) + l3))]) G dX6_hear_37 (by decide) rfl rfl ?_
  refine z_aload_n (pc := 39) G 1 dX6_hear_39 rfl rfl ?_
  obtain ⟨x40, hv40, hX⟩ := z_bd hX
  refine z_getR (pc := 40) G kK5 (k := 11) (by decide) kt_221 dX6_hear_40 hv40 ?_
  refine z_iload (pc := 43) G 4 dX6_hear_43 rfl ?_
  refine z_aload_n (pc := 45) G 1 dX6_hear_45 rfl rfl ?_
  obtain ⟨x46, hv46, hX⟩ := z_bd hX
  refine z_getR (pc := 46) G kK5 (k := 1) (by decide) kt_194 dX6_hear_46 hv46 ?_
  refine z_iload_n (pc := 49) G 3 dX6_hear_49 rfl rfl ?_
  obtain ⟨x50, hv50, hX⟩ := z_bd hX
  refine z_iald (pc := 50) G dX6_hear_50 hv50 ?_
  obtain ⟨h51, hv51, hX⟩ := z_bd hX
  refine z_iast (pc := 51) G dX6_hear_51 hv51 ?_
  refine z_aload_n (pc := 52) G 1 dX6_hear_52 rfl rfl ?_
  obtain ⟨x53, hv53, hX⟩ := z_bd hX
  refine z_getR (pc := 53) G kK5 (k := 12) (by decide) kt_225 dX6_hear_53 hv53 ?_
  refine z_iload (pc := 56) G 4 dX6_hear_56 rfl ?_
  refine z_aload_n (pc := 58) G 1 dX6_hear_58 rfl rfl ?_
  obtain ⟨x59, hv59, hX⟩ := z_bd hX
  refine z_getR (pc := 59) G kK5 (k := 2) (by decide) kt_198 dX6_hear_59 hv59 ?_
  refine z_iload_n (pc := 62) G 3 dX6_hear_62 rfl rfl ?_
  obtain ⟨x63, hv63, hX⟩ := z_bd hX
  refine z_iald (pc := 63) G dX6_hear_63 hv63 ?_
  obtain ⟨h64, hv64, hX⟩ := z_bd hX
  refine z_iast (pc := 64) G dX6_hear_64 hv64 ?_
  exact z_vretX (pc := 65) hX G hr dX6_hear_65 (by decide) (by decide)
theorem dX6_listenAll_0 : decode cX6_listenAll 0 = .ok (.iconst 0, 1) := by decide +kernel
theorem dX6_listenAll_1 : decode cX6_listenAll 1 = .ok (.istore_n 3, 1) := by decide +kernel
theorem dX6_listenAll_2 : decode cX6_listenAll 2 = .ok (.iload_n 3, 1) := by decide +kernel
theorem dX6_listenAll_3 : decode cX6_listenAll 3 = .ok (.aload_n 1, 1) := by decide +kernel
theorem dX6_listenAll_4 : decode cX6_listenAll 4 = .ok (.getfield 55, 3) := by decide +kernel
theorem dX6_listenAll_7 : decode cX6_listenAll 7 = .ok (.getfield 59, 3) := by decide +kernel
theorem dX6_listenAll_10 : decode cX6_listenAll 10 = .ok (.if_icmp .ge 125, 3) := by decide +kernel
theorem dX6_listenAll_13 : decode cX6_listenAll 13 = .ok (.aload_n 1, 1) := by decide +kernel
theorem dX6_listenAll_14 : decode cX6_listenAll 14 = .ok (.iload_n 3, 1) := by decide +kernel
theorem dX6_listenAll_15 : decode cX6_listenAll 15 = .ok (.invokevirtual 64, 3) := by decide +kernel
theorem dX6_listenAll_18 : decode cX6_listenAll 18 = .ok (.ifCond .eq 111, 3) := by decide +kernel
theorem dX6_listenAll_21 : decode cX6_listenAll 21 = .ok (.iload_n 2, 1) := by decide +kernel
theorem dX6_listenAll_22 : decode cX6_listenAll 22 = .ok (.iload_n 3, 1) := by decide +kernel
theorem dX6_listenAll_23 : decode cX6_listenAll 23 = .ok (.ishr, 1) := by decide +kernel
theorem dX6_listenAll_24 : decode cX6_listenAll 24 = .ok (.iconst 1, 1) := by decide +kernel
theorem dX6_listenAll_25 : decode cX6_listenAll 25 = .ok (.iand, 1) := by decide +kernel
theorem dX6_listenAll_26 : decode cX6_listenAll 26 = .ok (.iconst 1, 1) := by decide +kernel
theorem dX6_listenAll_27 : decode cX6_listenAll 27 = .ok (.if_icmp .ne 6, 3) := by decide +kernel
theorem dX6_listenAll_30 : decode cX6_listenAll 30 = .ok (.goto 99, 3) := by decide +kernel
theorem dX6_listenAll_33 : decode cX6_listenAll 33 = .ok (.iconst 0, 1) := by decide +kernel
theorem dX6_listenAll_34 : decode cX6_listenAll 34 = .ok (.istore 4, 2) := by decide +kernel
theorem dX6_listenAll_36 : decode cX6_listenAll 36 = .ok (.iconst (-1), 1) := by decide +kernel
theorem dX6_listenAll_37 : decode cX6_listenAll 37 = .ok (.istore 5, 2) := by decide +kernel
theorem dX6_listenAll_39 : decode cX6_listenAll 39 = .ok (.iconst 0, 1) := by decide +kernel
theorem dX6_listenAll_40 : decode cX6_listenAll 40 = .ok (.istore 6, 2) := by decide +kernel
theorem dX6_listenAll_42 : decode cX6_listenAll 42 = .ok (.iload 6, 2) := by decide +kernel
theorem dX6_listenAll_44 : decode cX6_listenAll 44 = .ok (.aload_n 1, 1) := by decide +kernel
theorem dX6_listenAll_45 : decode cX6_listenAll 45 = .ok (.getfield 55, 3) := by decide +kernel
theorem dX6_listenAll_48 : decode cX6_listenAll 48 = .ok (.getfield 59, 3) := by decide +kernel
theorem dX6_listenAll_51 : decode cX6_listenAll 51 = .ok (.if_icmp .ge 36, 3) := by decide +kernel
theorem dX6_listenAll_54 : decode cX6_listenAll 54 = .ok (.iload_n 2, 1) := by decide +kernel
theorem dX6_listenAll_55 : decode cX6_listenAll 55 = .ok (.iload 6, 2) := by decide +kernel
theorem dX6_listenAll_57 : decode cX6_listenAll 57 = .ok (.ishr, 1) := by decide +kernel
theorem dX6_listenAll_58 : decode cX6_listenAll 58 = .ok (.iconst 1, 1) := by decide +kernel
theorem dX6_listenAll_59 : decode cX6_listenAll 59 = .ok (.iand, 1) := by decide +kernel
theorem dX6_listenAll_60 : decode cX6_listenAll 60 = .ok (.iconst 1, 1) := by decide +kernel
theorem dX6_listenAll_61 : decode cX6_listenAll 61 = .ok (.if_icmp .ne 20, 3) := by decide +kernel
theorem dX6_listenAll_64 : decode cX6_listenAll 64 = .ok (.aload_n 1, 1) := by decide +kernel
theorem dX6_listenAll_65 : decode cX6_listenAll 65 = .ok (.iload_n 3, 1) := by decide +kernel
theorem dX6_listenAll_66 : decode cX6_listenAll 66 = .ok (.iload 6, 2) := by decide +kernel
theorem dX6_listenAll_68 : decode cX6_listenAll 68 = .ok (.invokevirtual 122, 3) := by decide +kernel
theorem dX6_listenAll_71 : decode cX6_listenAll 71 = .ok (.ifCond .eq 10, 3) := by decide +kernel
theorem dX6_listenAll_74 : decode cX6_listenAll 74 = .ok (.iinc 4 1, 3) := by decide +kernel
theorem dX6_listenAll_77 : decode cX6_listenAll 77 = .ok (.iload 6, 2) := by decide +kernel
theorem dX6_listenAll_79 : decode cX6_listenAll 79 = .ok (.istore 5, 2) := by decide +kernel
theorem dX6_listenAll_81 : decode cX6_listenAll 81 = .ok (.iinc 6 1, 3) := by decide +kernel
theorem dX6_listenAll_84 : decode cX6_listenAll 84 = .ok (.goto (-42), 3) := by decide +kernel
theorem dX6_listenAll_87 : decode cX6_listenAll 87 = .ok (.iload 4, 2) := by decide +kernel
theorem dX6_listenAll_89 : decode cX6_listenAll 89 = .ok (.iconst 1, 1) := by decide +kernel
theorem dX6_listenAll_90 : decode cX6_listenAll 90 = .ok (.if_icmp .le 13, 3) := by decide +kernel
theorem dX6_listenAll_93 : decode cX6_listenAll 93 = .ok (.aload_n 1, 1) := by decide +kernel
theorem dX6_listenAll_94 : decode cX6_listenAll 94 = .ok (.dup, 1) := by decide +kernel
theorem dX6_listenAll_95 : decode cX6_listenAll 95 = .ok (.getfield 126, 3) := by decide +kernel
theorem dX6_listenAll_98 : decode cX6_listenAll 98 = .ok (.iconst 1, 1) := by decide +kernel
theorem dX6_listenAll_99 : decode cX6_listenAll 99 = .ok (.iadd, 1) := by decide +kernel
theorem dX6_listenAll_100 : decode cX6_listenAll 100 = .ok (.putfield 126, 3) := by decide +kernel
theorem dX6_listenAll_103 : decode cX6_listenAll 103 = .ok (.iload 4, 2) := by decide +kernel
theorem dX6_listenAll_105 : decode cX6_listenAll 105 = .ok (.iconst 1, 1) := by decide +kernel
theorem dX6_listenAll_106 : decode cX6_listenAll 106 = .ok (.if_icmp .ne 23, 3) := by decide +kernel
theorem dX6_listenAll_109 : decode cX6_listenAll 109 = .ok (.aload_n 0, 1) := by decide +kernel
theorem dX6_listenAll_110 : decode cX6_listenAll 110 = .ok (.getfield 105, 3) := by decide +kernel
theorem dX6_listenAll_113 : decode cX6_listenAll 113 = .ok (.iload 5, 2) := by decide +kernel
theorem dX6_listenAll_115 : decode cX6_listenAll 115 = .ok (.ishr, 1) := by decide +kernel
theorem dX6_listenAll_116 : decode cX6_listenAll 116 = .ok (.iconst 1, 1) := by decide +kernel
theorem dX6_listenAll_117 : decode cX6_listenAll 117 = .ok (.iand, 1) := by decide +kernel
theorem dX6_listenAll_118 : decode cX6_listenAll 118 = .ok (.ifCond .ne 11, 3) := by decide +kernel
theorem dX6_listenAll_121 : decode cX6_listenAll 121 = .ok (.aload_n 0, 1) := by decide +kernel
theorem dX6_listenAll_122 : decode cX6_listenAll 122 = .ok (.aload_n 1, 1) := by decide +kernel
theorem dX6_listenAll_123 : decode cX6_listenAll 123 = .ok (.iload_n 3, 1) := by decide +kernel
theorem dX6_listenAll_124 : decode cX6_listenAll 124 = .ok (.iload 5, 2) := by decide +kernel
theorem dX6_listenAll_126 : decode cX6_listenAll 126 = .ok (.invokevirtual 129, 3) := by decide +kernel
theorem dX6_listenAll_129 : decode cX6_listenAll 129 = .ok (.iinc 3 1, 3) := by decide +kernel
theorem dX6_listenAll_132 : decode cX6_listenAll 132 = .ok (.goto (-130), 3) := by decide +kernel
theorem dX6_listenAll_135 : decode cX6_listenAll 135 = .ok (.return_, 1) := by decide +kernel
theorem ydX6_listenAll : z_yd yX6_listenAll 2 := ⟨by decide, by decide, by decide +kernel⟩
abbrev rmX6_listenAll : Room := { frames := 3, cells := 0, slots := 0, locals := 64 }
noncomputable def xX6_listenAll_B103 (r2 : Nat → Nat → Int32 → Int32 → ZH → Option ZH) (l0 : Nat) (l1 : Nat) (l2 : Int32) (l3 : Int32) (l4 : Int32) (l5 : Int32) (h : ZH) : Option ZH := (if l4 = (1 : Int32) then ((z_gI h l0 6 3).bind fun x110 => (if ((x110 >>> (l5 &&& 31)) &&& (1 : Int32)) = 0 then (z_gu (z_is h l0 6) ((xX6_hear l0 l1 l3 l5 h).bind fun h126 => r2 l0 l1 l2 (l3 + 1) h126)) else r2 l0 l1 l2 (l3 + 1) h)) else r2 l0 l1 l2 (l3 + 1) h)
set_option maxHeartbeats 4000000 in
set_option maxRecDepth 100000 in
theorem wX6_listenAll_B103 {Γ : ZG} {p : Program} {l : Launch} {e : Env} {s : State} {m : MethodId} {args : Array Value} {below : List Frame} {meth : Method} {c : Code} (hO : z_OK Γ) (G : z_GG Γ p s m args meth c cX6_listenAll 7 RX6) (hr : meth.sig.returnType = none) (hnm : meth.name = "listenAll") {r : ZH} {r2 : Nat → Nat → Int32 → Int32 → ZH → Option ZH} (H2 : ∀ (l0 : Nat) (l1 : Nat) (l2 : Int32) (l3 : Int32) (h : ZH), r2 l0 l1 l2 l3 h = some r → z_W Γ p l e rmX6_listenAll s m args below meth c 7 0 0 (MQ below (z_Qc Γ none r) args s rmX6_listenAll.cells rmX6_listenAll.slots (z_A Γ)) 2 [(0, .ref l0), (1, .ref l1), (2, .int l2), (3, .int l3)] [] h) : ∀ (l0 : Nat) (l1 : Nat) (l2 : Int32) (l3 : Int32) (l4 : Int32) (l5 : Int32) (h : ZH), xX6_listenAll_B103  r2 l0 l1 l2 l3 l4 l5 h = some r → z_W Γ p l e rmX6_listenAll s m args below meth c 7 0 0 (MQ below (z_Qc Γ none r) args s rmX6_listenAll.cells rmX6_listenAll.slots (z_A Γ)) 103 [(0, .ref l0), (1, .ref l1), (2, .int l2), (3, .int l3), (4, .int l4), (5, .int l5)] [] h := by
  intro l0 l1 l2 l3 l4 l5 h hX
  refine z_iload (pc := 103) G 4 dX6_listenAll_103 rfl ?_
  refine z_iconst (pc := 105) (v := 1) G dX6_listenAll_105 (by decide) ?_
  refine z_icmp_ne (pc := 106) (tgt := 129) G dX6_listenAll_106 (by decide) (fun hc106 => ?_) (fun hc106 => ?_)
  · have hX := z_if hc106 hX
    refine z_iincw (pc := 129) (w := 1) (lv2 := [(0, .ref l0), (1, .ref l1), (2, .int l2), (3, .int (l3 + 1)), (4, .int l4), (5, .int l5)]) G 3 dX6_listenAll_129 rfl (by decide) (by decide) rfl rfl ?_
    refine z_goto (pc := 132) (tgt := 2) G dX6_listenAll_132 (by decide) ?_
    refine z_drop (lv2 := [(0, .ref l0), (1, .ref l1), (2, .int l2), (3, .int (l3 + 1))]) [0, 1, 2, 3] rfl ?_
    exact H2 _ _ _ _ _ hX
  · have hX := z_it hc106 hX
    refine z_aload_n (pc := 109) G 0 dX6_listenAll_109 rfl rfl ?_
    obtain ⟨x110, hv110, hX⟩ := z_bd hX
    refine z_getI (pc := 110) G kK6 (k := 3) (by decide) kt_313 dX6_listenAll_110 hv110 ?_
    refine z_iload (pc := 113) G 5 dX6_listenAll_113 rfl ?_
    refine z_ishr (pc := 115) G dX6_listenAll_115 ?_
    refine z_iconst (pc := 116) (v := 1) G dX6_listenAll_116 (by decide) ?_
    refine z_iand (pc := 117) G dX6_listenAll_117 ?_
    refine z_if_ne (pc := 118) (tgt := 129) G dX6_listenAll_118 (by decide) (fun hc118 => ?_) (fun hc118 => ?_)
    · have hX := z_if hc118 hX
      refine z_iincw (pc := 129) (w := 1) (lv2 := [(0, .ref l0), (1, .ref l1), (2, .int l2), (3, .int (l3 + 1)), (4, .int l4), (5, .int l5)]) G 3 dX6_listenAll_129 rfl (by decide) (by decide) rfl rfl ?_
      refine z_goto (pc := 132) (tgt := 2) G dX6_listenAll_132 (by decide) ?_
      refine z_drop (lv2 := [(0, .ref l0), (1, .ref l1), (2, .int l2), (3, .int (l3 + 1))]) [0, 1, 2, 3] rfl ?_
      exact H2 _ _ _ _ _ hX
    · have hX := z_it hc118 hX
      refine z_aload_n (pc := 121) G 0 dX6_listenAll_121 rfl rfl ?_
      refine z_aload_n (pc := 122) G 1 dX6_listenAll_122 rfl rfl ?_
      refine z_iload_n (pc := 123) G 3 dX6_listenAll_123 rfl rfl ?_
      refine z_iload (pc := 124) G 5 dX6_listenAll_124 rfl ?_
      obtain ⟨hi126, hX⟩ := z_gu_s hX
      obtain ⟨h126, hv126, hX⟩ := z_bd hX
      refine z_cVV (pc := 126) (As := [.ref l1, .int l3, .int l5]) (c2 := 0) (s2 := 0) G kK6 (lX6_hear hO hv126) hi126 kt_909 kt_6 kt_906 kt_908 ks_25 ydX6_hear ⟨by decide, by decide⟩ rfl (Nat.le_of_ble_eq_true rfl) ⟨rfl, rfl⟩ ⟨by decide, by decide⟩ rfl dX6_listenAll_126 ?_
      refine z_iincw (pc := 129) (w := 1) (lv2 := [(0, .ref l0), (1, .ref l1), (2, .int l2), (3, .int (l3 + 1)), (4, .int l4), (5, .int l5)]) G 3 dX6_listenAll_129 rfl (by decide) (by decide) rfl rfl ?_
      refine z_goto (pc := 132) (tgt := 2) G dX6_listenAll_132 (by decide) ?_
      refine z_drop (lv2 := [(0, .ref l0), (1, .ref l1), (2, .int l2), (3, .int (l3 + 1))]) [0, 1, 2, 3] rfl ?_
      exact H2 _ _ _ _ _ hX
noncomputable def xX6_listenAll_B87 (r2 : Nat → Nat → Int32 → Int32 → ZH → Option ZH) (l0 : Nat) (l1 : Nat) (l2 : Int32) (l3 : Int32) (l4 : Int32) (l5 : Int32) (h : ZH) : Option ZH := (if l4 ≤ (1 : Int32) then xX6_listenAll_B103 r2 l0 l1 l2 l3 l4 l5 h else ((z_gI h l1 5 14).bind fun x95 => ((z_sF h l1 5 14 (.int (x95 + (1 : Int32)))).bind fun h100 => xX6_listenAll_B103 r2 l0 l1 l2 l3 l4 l5 h100)))
set_option maxHeartbeats 4000000 in
set_option maxRecDepth 100000 in
theorem wX6_listenAll_B87 {Γ : ZG} {p : Program} {l : Launch} {e : Env} {s : State} {m : MethodId} {args : Array Value} {below : List Frame} {meth : Method} {c : Code} (hO : z_OK Γ) (G : z_GG Γ p s m args meth c cX6_listenAll 7 RX6) (hr : meth.sig.returnType = none) (hnm : meth.name = "listenAll") {r : ZH} {r2 : Nat → Nat → Int32 → Int32 → ZH → Option ZH} (H2 : ∀ (l0 : Nat) (l1 : Nat) (l2 : Int32) (l3 : Int32) (h : ZH), r2 l0 l1 l2 l3 h = some r → z_W Γ p l e rmX6_listenAll s m args below meth c 7 0 0 (MQ below (z_Qc Γ none r) args s rmX6_listenAll.cells rmX6_listenAll.slots (z_A Γ)) 2 [(0, .ref l0), (1, .ref l1), (2, .int l2), (3, .int l3)] [] h) : ∀ (l0 : Nat) (l1 : Nat) (l2 : Int32) (l3 : Int32) (l4 : Int32) (l5 : Int32) (h : ZH), xX6_listenAll_B87  r2 l0 l1 l2 l3 l4 l5 h = some r → z_W Γ p l e rmX6_listenAll s m args below meth c 7 0 0 (MQ below (z_Qc Γ none r) args s rmX6_listenAll.cells rmX6_listenAll.slots (z_A Γ)) 87 [(0, .ref l0), (1, .ref l1), (2, .int l2), (3, .int l3), (4, .int l4), (5, .int l5)] [] h := by
  intro l0 l1 l2 l3 l4 l5 h hX
  refine z_iload (pc := 87) G 4 dX6_listenAll_87 rfl ?_
  refine z_iconst (pc := 89) (v := 1) G dX6_listenAll_89 (by decide) ?_
  refine z_icmp_le (pc := 90) (tgt := 103) G dX6_listenAll_90 (by decide) (fun hc90 => ?_) (fun hc90 => ?_)
  · have hX := z_it hc90 hX
    exact wX6_listenAll_B103 hO G hr hnm H2 _ _ _ _ _ _ _ hX
  · have hX := z_if hc90 hX
    refine z_aload_n (pc := 93) G 1 dX6_listenAll_93 rfl rfl ?_
    refine z_dup (pc := 94) G dX6_listenAll_94 rfl ?_
    obtain ⟨x95, hv95, hX⟩ := z_bd hX
    refine z_getI (pc := 95) G kK5 (k := 14) (by decide) kt_230 dX6_listenAll_95 hv95 ?_
    refine z_iconst (pc := 98) (v := 1) G dX6_listenAll_98 (by decide) ?_
    refine z_iadd (pc := 99) G dX6_listenAll_99 ?_
    obtain ⟨h100, hv100, hX⟩ := z_bd hX
    refine z_putF (pc := 100) G kK5 (k := 14) (by decide) kt_230 (Or.inl rfl) rfl rfl dX6_listenAll_100 hv100 ?_
    exact wX6_listenAll_B103 hO G hr hnm H2 _ _ _ _ _ _ _ hX
noncomputable def xX6_listenAll_B42 (r2 : Nat → Nat → Int32 → Int32 → ZH → Option ZH) (r42 : Nat → Nat → Int32 → Int32 → Int32 → Int32 → Int32 → ZH → Option ZH) (l0 : Nat) (l1 : Nat) (l2 : Int32) (l3 : Int32) (l4 : Int32) (l5 : Int32) (l6 : Int32) (h : ZH) : Option ZH := ((z_gR h l1 5 0).bind fun x45 => ((z_gI h x45 2 7).bind fun x48 => (if x48 ≤ l6 then xX6_listenAll_B87 r2 l0 l1 l2 l3 l4 l5 h else (if ((l2 >>> (l6 &&& 31)) &&& (1 : Int32)) = (1 : Int32) then (z_gu (z_is h l1 5) ((xX5_inRange l1 l3 l6 h).bind fun r68 => (if r68.1 = 0 then r42 l0 l1 l2 l3 l4 l5 (l6 + 1) r68.2 else r42 l0 l1 l2 l3 (l4 + 1) l6 (l6 + 1) r68.2))) else r42 l0 l1 l2 l3 l4 l5 (l6 + 1) h))))
noncomputable def xX6_listenAll_L42 (r2 : Nat → Nat → Int32 → Int32 → ZH → Option ZH) (n : Nat) : Nat → Nat → Int32 → Int32 → Int32 → Int32 → Int32 → ZH → Option ZH := Nat.rec (motive := fun _ => Nat → Nat → Int32 → Int32 → Int32 → Int32 → Int32 → ZH → Option ZH) (fun _ _ _ _ _ _ _ _ => none) (fun _ rec => xX6_listenAll_B42  r2 rec) n
set_option maxHeartbeats 4000000 in
set_option maxRecDepth 100000 in
theorem wX6_listenAll_B42 {Γ : ZG} {p : Program} {l : Launch} {e : Env} {s : State} {m : MethodId} {args : Array Value} {below : List Frame} {meth : Method} {c : Code} (hO : z_OK Γ) (G : z_GG Γ p s m args meth c cX6_listenAll 7 RX6) (hr : meth.sig.returnType = none) (hnm : meth.name = "listenAll") {r : ZH} {r2 : Nat → Nat → Int32 → Int32 → ZH → Option ZH} (H2 : ∀ (l0 : Nat) (l1 : Nat) (l2 : Int32) (l3 : Int32) (h : ZH), r2 l0 l1 l2 l3 h = some r → z_W Γ p l e rmX6_listenAll s m args below meth c 7 0 0 (MQ below (z_Qc Γ none r) args s rmX6_listenAll.cells rmX6_listenAll.slots (z_A Γ)) 2 [(0, .ref l0), (1, .ref l1), (2, .int l2), (3, .int l3)] [] h) {r42 : Nat → Nat → Int32 → Int32 → Int32 → Int32 → Int32 → ZH → Option ZH} (H42 : ∀ (l0 : Nat) (l1 : Nat) (l2 : Int32) (l3 : Int32) (l4 : Int32) (l5 : Int32) (l6 : Int32) (h : ZH), r42 l0 l1 l2 l3 l4 l5 l6 h = some r → z_W Γ p l e rmX6_listenAll s m args below meth c 7 0 0 (MQ below (z_Qc Γ none r) args s rmX6_listenAll.cells rmX6_listenAll.slots (z_A Γ)) 42 [(0, .ref l0), (1, .ref l1), (2, .int l2), (3, .int l3), (4, .int l4), (5, .int l5), (6, .int l6)] [] h) : ∀ (l0 : Nat) (l1 : Nat) (l2 : Int32) (l3 : Int32) (l4 : Int32) (l5 : Int32) (l6 : Int32) (h : ZH), xX6_listenAll_B42  r2 r42 l0 l1 l2 l3 l4 l5 l6 h = some r → z_W Γ p l e rmX6_listenAll s m args below meth c 7 0 0 (MQ below (z_Qc Γ none r) args s rmX6_listenAll.cells rmX6_listenAll.slots (z_A Γ)) 42 [(0, .ref l0), (1, .ref l1), (2, .int l2), (3, .int l3), (4, .int l4), (5, .int l5), (6, .int l6)] [] h := by
  intro l0 l1 l2 l3 l4 l5 l6 h hX
  refine z_iload (pc := 42) G 6 dX6_listenAll_42 rfl ?_
  refine z_aload_n (pc := 44) G 1 dX6_listenAll_44 rfl rfl ?_
  obtain ⟨x45, hv45, hX⟩ := z_bd hX
  refine z_getR (pc := 45) G kK5 (k := 0) (by decide) kt_190 dX6_listenAll_45 hv45 ?_
  obtain ⟨x48, hv48, hX⟩ := z_bd hX
  refine z_getI (pc := 48) G kK2 (k := 7) (by decide) kt_68 dX6_listenAll_48 hv48 ?_
  refine z_icmp_ge (pc := 51) (tgt := 87) G dX6_listenAll_51 (by decide) (fun hc51 => ?_) (fun hc51 => ?_)
  · have hX := z_it hc51 hX
    refine z_drop (lv2 := [(0, .ref l0), (1, .ref l1), (2, .int l2), (3, .int l3), (4, .int l4), (5, .int l5)]) [0, 1, 2, 3, 4, 5] rfl ?_
    exact wX6_listenAll_B87 hO G hr hnm H2 _ _ _ _ _ _ _ hX
  · have hX := z_if hc51 hX
    refine z_iload_n (pc := 54) G 2 dX6_listenAll_54 rfl rfl ?_
    refine z_iload (pc := 55) G 6 dX6_listenAll_55 rfl ?_
    refine z_ishr (pc := 57) G dX6_listenAll_57 ?_
    refine z_iconst (pc := 58) (v := 1) G dX6_listenAll_58 (by decide) ?_
    refine z_iand (pc := 59) G dX6_listenAll_59 ?_
    refine z_iconst (pc := 60) (v := 1) G dX6_listenAll_60 (by decide) ?_
    refine z_icmp_ne (pc := 61) (tgt := 81) G dX6_listenAll_61 (by decide) (fun hc61 => ?_) (fun hc61 => ?_)
    · have hX := z_if hc61 hX
      refine z_iincw (pc := 81) (w := 1) (lv2 := [(0, .ref l0), (1, .ref l1), (2, .int l2), (3, .int l3), (4, .int l4), (5, .int l5), (6, .int (l6 + 1))]) G 6 dX6_listenAll_81 rfl (by decide) (by decide) rfl rfl ?_
      refine z_goto (pc := 84) (tgt := 42) G dX6_listenAll_84 (by decide) ?_
      exact H42 _ _ _ _ _ _ _ _ hX
    · have hX := z_it hc61 hX
      refine z_aload_n (pc := 64) G 1 dX6_listenAll_64 rfl rfl ?_
      refine z_iload_n (pc := 65) G 3 dX6_listenAll_65 rfl rfl ?_
      refine z_iload (pc := 66) G 6 dX6_listenAll_66 rfl ?_
      obtain ⟨hi68, hX⟩ := z_gu_s hX
      obtain ⟨r68, hv68, hX⟩ := z_bd hX
      refine z_cVI (pc := 68) (As := [.int l3, .int l6]) (c2 := 0) (s2 := 0) G kK5 (lX5_inRange hO hv68) hi68 kt_904 kt_4 kt_901 kt_902 kt_903 ydX5_inRange ⟨by decide, by decide⟩ rfl (Nat.le_of_ble_eq_true rfl) ⟨rfl, rfl⟩ ⟨by decide, by decide⟩ rfl dX6_listenAll_68 ?_
      refine z_if_eq (pc := 71) (tgt := 81) G dX6_listenAll_71 (by decide) (fun hc71 => ?_) (fun hc71 => ?_)
      · have hX := z_it hc71 hX
        refine z_iincw (pc := 81) (w := 1) (lv2 := [(0, .ref l0), (1, .ref l1), (2, .int l2), (3, .int l3), (4, .int l4), (5, .int l5), (6, .int (l6 + 1))]) G 6 dX6_listenAll_81 rfl (by decide) (by decide) rfl rfl ?_
        refine z_goto (pc := 84) (tgt := 42) G dX6_listenAll_84 (by decide) ?_
        exact H42 _ _ _ _ _ _ _ _ hX
      · have hX := z_if hc71 hX
        refine z_iincw (pc := 74) (w := 1) (lv2 := [(0, .ref l0), (1, .ref l1), (2, .int l2), (3, .int l3), (4, .int (l4 + 1)), (5, .int l5), (6, .int l6)]) G 4 dX6_listenAll_74 rfl (by decide) (by decide) rfl rfl ?_
        refine z_iload (pc := 77) G 6 dX6_listenAll_77 rfl ?_
        refine z_istore (pc := 79) (lv2 := [(0, .ref l0), (1, .ref l1), (2, .int l2), (3, .int l3), (4, .int (l4 + 1)), (5, .int l6), (6, .int l6)]) G dX6_listenAll_79 (by decide) rfl rfl ?_
        refine z_iincw (pc := 81) (w := 1) (lv2 := [(0, .ref l0), (1, .ref l1), (2, .int l2), (3, .int l3), (4, .int (l4 + 1)), (5, .int l6), (6, .int (l6 + 1))]) G 6 dX6_listenAll_81 rfl (by decide) (by decide) rfl rfl ?_
        refine z_goto (pc := 84) (tgt := 42) G dX6_listenAll_84 (by decide) ?_
        exact H42 _ _ _ _ _ _ _ _ hX
set_option maxHeartbeats 4000000 in
set_option maxRecDepth 100000 in
theorem wX6_listenAll_L42 {Γ : ZG} {p : Program} {l : Launch} {e : Env} {s : State} {m : MethodId} {args : Array Value} {below : List Frame} {meth : Method} {c : Code} (hO : z_OK Γ) (G : z_GG Γ p s m args meth c cX6_listenAll 7 RX6) (hr : meth.sig.returnType = none) (hnm : meth.name = "listenAll") {r : ZH} {r2 : Nat → Nat → Int32 → Int32 → ZH → Option ZH} (H2 : ∀ (l0 : Nat) (l1 : Nat) (l2 : Int32) (l3 : Int32) (h : ZH), r2 l0 l1 l2 l3 h = some r → z_W Γ p l e rmX6_listenAll s m args below meth c 7 0 0 (MQ below (z_Qc Γ none r) args s rmX6_listenAll.cells rmX6_listenAll.slots (z_A Γ)) 2 [(0, .ref l0), (1, .ref l1), (2, .int l2), (3, .int l3)] [] h) : ∀ (nn : Nat) (l0 : Nat) (l1 : Nat) (l2 : Int32) (l3 : Int32) (l4 : Int32) (l5 : Int32) (l6 : Int32) (h : ZH), xX6_listenAll_L42  r2 nn l0 l1 l2 l3 l4 l5 l6 h = some r → z_W Γ p l e rmX6_listenAll s m args below meth c 7 0 0 (MQ below (z_Qc Γ none r) args s rmX6_listenAll.cells rmX6_listenAll.slots (z_A Γ)) 42 [(0, .ref l0), (1, .ref l1), (2, .int l2), (3, .int l3), (4, .int l4), (5, .int l5), (6, .int l6)] [] h := by
  intro nn
  induction nn with
  | zero => intro l0 l1 l2 l3 l4 l5 l6 h hX; cases hX
  | succ nn ih => intro l0 l1 l2 l3 l4 l5 l6 h hX; exact wX6_listenAll_B42 hO G hr hnm  H2 ih l0 l1 l2 l3 l4 l5 l6 h hX
noncomputable def xX6_listenAll_B2 (r2 : Nat → Nat → Int32 → Int32 → ZH → Option ZH) (l0 : Nat) (l1 : Nat) (l2 : Int32) (l3 : Int32) (h : ZH) : Option ZH := ((z_gR h l1 5 0).bind fun x4 => ((z_gI h x4 2 7).bind fun x7 => (if x7 ≤ l3 then some h else (z_gu (z_is h l1 5) ((xX5_isOn l1 l3 h).bind fun r15 => (if r15.1 = 0 then r2 l0 l1 l2 (l3 + 1) r15.2 else (if ((l2 >>> (l3 &&& 31)) &&& (1 : Int32)) = (1 : Int32) then r2 l0 l1 l2 (l3 + 1) r15.2 else xX6_listenAll_L42 r2 zFU l0 l1 l2 l3 (0 : Int32) (-1 : Int32) (0 : Int32) r15.2)))))))
noncomputable def xX6_listenAll_L2 (n : Nat) : Nat → Nat → Int32 → Int32 → ZH → Option ZH := Nat.rec (motive := fun _ => Nat → Nat → Int32 → Int32 → ZH → Option ZH) (fun _ _ _ _ _ => none) (fun _ rec => xX6_listenAll_B2  rec) n
set_option maxHeartbeats 4000000 in
set_option maxRecDepth 100000 in
theorem wX6_listenAll_B2 {Γ : ZG} {p : Program} {l : Launch} {e : Env} {s : State} {m : MethodId} {args : Array Value} {below : List Frame} {meth : Method} {c : Code} (hO : z_OK Γ) (G : z_GG Γ p s m args meth c cX6_listenAll 7 RX6) (hr : meth.sig.returnType = none) (hnm : meth.name = "listenAll") {r : ZH} {r2 : Nat → Nat → Int32 → Int32 → ZH → Option ZH} (H2 : ∀ (l0 : Nat) (l1 : Nat) (l2 : Int32) (l3 : Int32) (h : ZH), r2 l0 l1 l2 l3 h = some r → z_W Γ p l e rmX6_listenAll s m args below meth c 7 0 0 (MQ below (z_Qc Γ none r) args s rmX6_listenAll.cells rmX6_listenAll.slots (z_A Γ)) 2 [(0, .ref l0), (1, .ref l1), (2, .int l2), (3, .int l3)] [] h) : ∀ (l0 : Nat) (l1 : Nat) (l2 : Int32) (l3 : Int32) (h : ZH), xX6_listenAll_B2  r2 l0 l1 l2 l3 h = some r → z_W Γ p l e rmX6_listenAll s m args below meth c 7 0 0 (MQ below (z_Qc Γ none r) args s rmX6_listenAll.cells rmX6_listenAll.slots (z_A Γ)) 2 [(0, .ref l0), (1, .ref l1), (2, .int l2), (3, .int l3)] [] h := by
  intro l0 l1 l2 l3 h hX
  refine z_iload_n (pc := 2) G 3 dX6_listenAll_2 rfl rfl ?_
  refine z_aload_n (pc := 3) G 1 dX6_listenAll_3 rfl rfl ?_
  obtain ⟨x4, hv4, hX⟩ := z_bd hX
  refine z_getR (pc := 4) G kK5 (k := 0) (by decide) kt_190 dX6_listenAll_4 hv4 ?_
  obtain ⟨x7, hv7, hX⟩ := z_bd hX
  refine z_getI (pc := 7) G kK2 (k := 7) (by decide) kt_68 dX6_listenAll_7 hv7 ?_
  refine z_icmp_ge (pc := 10) (tgt := 135) G dX6_listenAll_10 (by decide) (fun hc10 => ?_) (fun hc10 => ?_)
  · have hX := z_it hc10 hX
    exact z_vretX (pc := 135) hX G hr dX6_listenAll_135 (by decide) (by decide)
  · have hX := z_if hc10 hX
    refine z_aload_n (pc := 13) G 1 dX6_listenAll_13 rfl rfl ?_
    refine z_iload_n (pc := 14) G 3 dX6_listenAll_14 rfl rfl ?_
    obtain ⟨hi15, hX⟩ := z_gu_s hX
    obtain ⟨r15, hv15, hX⟩ := z_bd hX
    refine z_cVI (pc := 15) (As := [.int l3]) (c2 := 0) (s2 := 0) G kK5 (lX5_isOn hO hv15) hi15 kt_736 kt_4 kt_823 kt_734 kt_735 ydX5_isOn ⟨by decide, by decide⟩ rfl (Nat.le_of_ble_eq_true rfl) ⟨rfl, rfl⟩ ⟨by decide, by decide⟩ rfl dX6_listenAll_15 ?_
    refine z_if_eq (pc := 18) (tgt := 129) G dX6_listenAll_18 (by decide) (fun hc18 => ?_) (fun hc18 => ?_)
    · have hX := z_it hc18 hX
      refine z_iincw (pc := 129) (w := 1) (lv2 := [(0, .ref l0), (1, .ref l1), (2, .int l2), (3, .int (l3 + 1))]) G 3 dX6_listenAll_129 rfl (by decide) (by decide) rfl rfl ?_
      refine z_goto (pc := 132) (tgt := 2) G dX6_listenAll_132 (by decide) ?_
      exact H2 _ _ _ _ _ hX
    · have hX := z_if hc18 hX
      refine z_iload_n (pc := 21) G 2 dX6_listenAll_21 rfl rfl ?_
      refine z_iload_n (pc := 22) G 3 dX6_listenAll_22 rfl rfl ?_
      refine z_ishr (pc := 23) G dX6_listenAll_23 ?_
      refine z_iconst (pc := 24) (v := 1) G dX6_listenAll_24 (by decide) ?_
      refine z_iand (pc := 25) G dX6_listenAll_25 ?_
      refine z_iconst (pc := 26) (v := 1) G dX6_listenAll_26 (by decide) ?_
      refine z_icmp_ne (pc := 27) (tgt := 33) G dX6_listenAll_27 (by decide) (fun hc27 => ?_) (fun hc27 => ?_)
      · have hX := z_if hc27 hX
        refine z_iconst (pc := 33) (v := 0) G dX6_listenAll_33 (by decide) ?_
        refine z_istore (pc := 34) (lv2 := [(0, .ref l0), (1, .ref l1), (2, .int l2), (3, .int l3), (4, .int (0 : Int32))]) G dX6_listenAll_34 (by decide) rfl rfl ?_
        refine z_iconst (pc := 36) (v := (-1)) G dX6_listenAll_36 (by decide) ?_
        refine z_istore (pc := 37) (lv2 := [(0, .ref l0), (1, .ref l1), (2, .int l2), (3, .int l3), (4, .int (0 : Int32)), (5, .int (-1 : Int32))]) G dX6_listenAll_37 (by decide) rfl rfl ?_
        refine z_iconst (pc := 39) (v := 0) G dX6_listenAll_39 (by decide) ?_
        refine z_istore (pc := 40) (lv2 := [(0, .ref l0), (1, .ref l1), (2, .int l2), (3, .int l3), (4, .int (0 : Int32)), (5, .int (-1 : Int32)), (6, .int (0 : Int32))]) G dX6_listenAll_40 (by decide) rfl rfl ?_
        exact wX6_listenAll_L42 hO G hr hnm H2 zFU _ _ _ _ _ _ _ _ hX
      · have hX := z_it hc27 hX
        refine z_goto (pc := 30) (tgt := 129) G dX6_listenAll_30 (by decide) ?_
        refine z_iincw (pc := 129) (w := 1) (lv2 := [(0, .ref l0), (1, .ref l1), (2, .int l2), (3, .int (l3 + 1))]) G 3 dX6_listenAll_129 rfl (by decide) (by decide) rfl rfl ?_
        refine z_goto (pc := 132) (tgt := 2) G dX6_listenAll_132 (by decide) ?_
        exact H2 _ _ _ _ _ hX
set_option maxHeartbeats 4000000 in
set_option maxRecDepth 100000 in
theorem wX6_listenAll_L2 {Γ : ZG} {p : Program} {l : Launch} {e : Env} {s : State} {m : MethodId} {args : Array Value} {below : List Frame} {meth : Method} {c : Code} (hO : z_OK Γ) (G : z_GG Γ p s m args meth c cX6_listenAll 7 RX6) (hr : meth.sig.returnType = none) (hnm : meth.name = "listenAll") {r : ZH} : ∀ (nn : Nat) (l0 : Nat) (l1 : Nat) (l2 : Int32) (l3 : Int32) (h : ZH), xX6_listenAll_L2  nn l0 l1 l2 l3 h = some r → z_W Γ p l e rmX6_listenAll s m args below meth c 7 0 0 (MQ below (z_Qc Γ none r) args s rmX6_listenAll.cells rmX6_listenAll.slots (z_A Γ)) 2 [(0, .ref l0), (1, .ref l1), (2, .int l2), (3, .int l3)] [] h := by
  intro nn
  induction nn with
  | zero => intro l0 l1 l2 l3 h hX; cases hX
  | succ nn ih => intro l0 l1 l2 l3 h hX; exact wX6_listenAll_B2 hO G hr hnm  ih l0 l1 l2 l3 h hX
noncomputable def xX6_listenAll (l0 : Nat) (l1 : Nat) (l2 : Int32) (h : ZH) : Option ZH := xX6_listenAll_L2 zFU l0 l1 l2 (0 : Int32) h
set_option maxHeartbeats 4000000 in
set_option maxRecDepth 100000 in
theorem lX6_listenAll {Γ : ZG} {l : Launch} (hO : z_OK Γ) {l0 : Nat} {l1 : Nat} {l2 : Int32} {h : ZH} {r : ZH} (hX : xX6_listenAll l0 l1 l2 h = some r) : z_M Γ l yX6_listenAll (z_ws1 yX6_listenAll cX6_listenAll 7 none) rmX6_listenAll [.ref l0, .ref l1, .int l2] h none r := by
  refine z_start hO (plainFor_of_name (by decide)) (Nat.le_of_ble_eq_true rfl) ?_
  intro p e s m args below meth c G hr hnm
  refine z_lvc (lv2 := [(0, .ref l0), (1, .ref l1), (2, .int l2)]) rfl ?_
  refine z_iconst (pc := 0) (v := 0) G dX6_listenAll_0 (by decide) ?_
  refine z_istore_n (pc := 1) (lv2 := [(0, .ref l0), (1, .ref l1), (2, .int l2), (3, .int (0 : Int32))]) G dX6_listenAll_1 rfl (by decide) rfl rfl ?_
  exact wX6_listenAll_L2 hO G hr hnm zFU _ _ _ _ _ hX
theorem dX6_dueNow_0 : decode cX6_dueNow 0 = .ok (.iconst 0, 1) := by decide +kernel
theorem dX6_dueNow_1 : decode cX6_dueNow 1 = .ok (.istore_n 2, 1) := by decide +kernel
theorem dX6_dueNow_2 : decode cX6_dueNow 2 = .ok (.iload_n 2, 1) := by decide +kernel
theorem dX6_dueNow_3 : decode cX6_dueNow 3 = .ok (.aload_n 0, 1) := by decide +kernel
theorem dX6_dueNow_4 : decode cX6_dueNow 4 = .ok (.getfield 81, 3) := by decide +kernel
theorem dX6_dueNow_7 : decode cX6_dueNow 7 = .ok (.iload_n 1, 1) := by decide +kernel
theorem dX6_dueNow_8 : decode cX6_dueNow 8 = .ok (.iaload, 1) := by decide +kernel
theorem dX6_dueNow_9 : decode cX6_dueNow 9 = .ok (.if_icmp .ge 43, 3) := by decide +kernel
theorem dX6_dueNow_12 : decode cX6_dueNow 12 = .ok (.iload_n 1, 1) := by decide +kernel
theorem dX6_dueNow_13 : decode cX6_dueNow 13 = .ok (.iconst 3, 1) := by decide +kernel
theorem dX6_dueNow_14 : decode cX6_dueNow 14 = .ok (.imul, 1) := by decide +kernel
theorem dX6_dueNow_15 : decode cX6_dueNow 15 = .ok (.iload_n 2, 1) := by decide +kernel
theorem dX6_dueNow_16 : decode cX6_dueNow 16 = .ok (.iadd, 1) := by decide +kernel
theorem dX6_dueNow_17 : decode cX6_dueNow 17 = .ok (.istore_n 3, 1) := by decide +kernel
theorem dX6_dueNow_18 : decode cX6_dueNow 18 = .ok (.aload_n 0, 1) := by decide +kernel
theorem dX6_dueNow_19 : decode cX6_dueNow 19 = .ok (.getfield 88, 3) := by decide +kernel
theorem dX6_dueNow_22 : decode cX6_dueNow 22 = .ok (.iload_n 3, 1) := by decide +kernel
theorem dX6_dueNow_23 : decode cX6_dueNow 23 = .ok (.iaload, 1) := by decide +kernel
theorem dX6_dueNow_24 : decode cX6_dueNow 24 = .ok (.aload_n 0, 1) := by decide +kernel
theorem dX6_dueNow_25 : decode cX6_dueNow 25 = .ok (.getfield 25, 3) := by decide +kernel
theorem dX6_dueNow_28 : decode cX6_dueNow 28 = .ok (.if_icmp .ne 18, 3) := by decide +kernel
theorem dX6_dueNow_31 : decode cX6_dueNow 31 = .ok (.aload_n 0, 1) := by decide +kernel
theorem dX6_dueNow_32 : decode cX6_dueNow 32 = .ok (.getfield 102, 3) := by decide +kernel
theorem dX6_dueNow_35 : decode cX6_dueNow 35 = .ok (.iload_n 3, 1) := by decide +kernel
theorem dX6_dueNow_36 : decode cX6_dueNow 36 = .ok (.iaload, 1) := by decide +kernel
theorem dX6_dueNow_37 : decode cX6_dueNow 37 = .ok (.aload_n 0, 1) := by decide +kernel
theorem dX6_dueNow_38 : decode cX6_dueNow 38 = .ok (.getfield 46, 3) := by decide +kernel
theorem dX6_dueNow_41 : decode cX6_dueNow 41 = .ok (.if_icmp .gt 5, 3) := by decide +kernel
theorem dX6_dueNow_44 : decode cX6_dueNow 44 = .ok (.iload_n 2, 1) := by decide +kernel
theorem dX6_dueNow_45 : decode cX6_dueNow 45 = .ok (.ireturn, 1) := by decide +kernel
theorem dX6_dueNow_46 : decode cX6_dueNow 46 = .ok (.iinc 2 1, 3) := by decide +kernel
theorem dX6_dueNow_49 : decode cX6_dueNow 49 = .ok (.goto (-47), 3) := by decide +kernel
theorem dX6_dueNow_52 : decode cX6_dueNow 52 = .ok (.iconst (-1), 1) := by decide +kernel
theorem dX6_dueNow_53 : decode cX6_dueNow 53 = .ok (.ireturn, 1) := by decide +kernel
theorem ydX6_dueNow : z_yd yX6_dueNow 2 := ⟨by decide, by decide, by decide +kernel⟩
abbrev rmX6_dueNow : Room := { frames := 0, cells := 0, slots := 0, locals := 0 }
noncomputable def xX6_dueNow_B2 (r2 : Nat → Int32 → Int32 → ZH → Option (Int32 × ZH)) (l0 : Nat) (l1 : Int32) (l2 : Int32) (h : ZH) : Option (Int32 × ZH) := ((z_gR h l0 5 5).bind fun x4 => ((z_aI h x4 l1).bind fun x8 => (if x8 ≤ l2 then some ((-1 : Int32), h) else ((z_gR h l0 5 6).bind fun x19 => ((z_aI h x19 ((l1 * (3 : Int32)) + l2)).bind fun x23 => ((z_gI h l0 5 16).bind fun x25 => (if x23 = x25 then ((z_gR h l0 5 8).bind fun x32 => ((z_aI h x32 ((l1 * (3 : Int32)) + l2)).bind fun x36 => ((z_gI h l0 5 15).bind fun x38 => (if x38 < x36 then r2 l0 l1 (l2 + 1) h else some (l2, h))))) else r2 l0 l1 (l2 + 1) h)))))))
noncomputable def xX6_dueNow_L2 (n : Nat) : Nat → Int32 → Int32 → ZH → Option (Int32 × ZH) := Nat.rec (motive := fun _ => Nat → Int32 → Int32 → ZH → Option (Int32 × ZH)) (fun _ _ _ _ => none) (fun _ rec => xX6_dueNow_B2  rec) n
set_option maxHeartbeats 4000000 in
set_option maxRecDepth 100000 in
theorem wX6_dueNow_B2 {Γ : ZG} {p : Program} {l : Launch} {e : Env} {s : State} {m : MethodId} {args : Array Value} {below : List Frame} {meth : Method} {c : Code} (hO : z_OK Γ) (G : z_GG Γ p s m args meth c cX6_dueNow 4 RX6) (hr : meth.sig.returnType = (some .int)) (hnm : meth.name = "dueNow") {r : (Int32 × ZH)} {r2 : Nat → Int32 → Int32 → ZH → Option (Int32 × ZH)} (H2 : ∀ (l0 : Nat) (l1 : Int32) (l2 : Int32) (h : ZH), r2 l0 l1 l2 h = some r → z_W Γ p l e rmX6_dueNow s m args below meth c 4 0 0 (MQ below (z_Qc Γ (some (.int r.1)) r.2) args s rmX6_dueNow.cells rmX6_dueNow.slots (z_A Γ)) 2 [(0, .ref l0), (1, .int l1), (2, .int l2)] [] h) : ∀ (l0 : Nat) (l1 : Int32) (l2 : Int32) (h : ZH), xX6_dueNow_B2  r2 l0 l1 l2 h = some r → z_W Γ p l e rmX6_dueNow s m args below meth c 4 0 0 (MQ below (z_Qc Γ (some (.int r.1)) r.2) args s rmX6_dueNow.cells rmX6_dueNow.slots (z_A Γ)) 2 [(0, .ref l0), (1, .int l1), (2, .int l2)] [] h := by
  intro l0 l1 l2 h hX
  refine z_iload_n (pc := 2) G 2 dX6_dueNow_2 rfl rfl ?_
  refine z_aload_n (pc := 3) G 0 dX6_dueNow_3 rfl rfl ?_
  obtain ⟨x4, hv4, hX⟩ := z_bd hX
  refine z_getR (pc := 4) G kK5 (k := 5) (by decide) kt_204 dX6_dueNow_4 hv4 ?_
  refine z_iload_n (pc := 7) G 1 dX6_dueNow_7 rfl rfl ?_
  obtain ⟨x8, hv8, hX⟩ := z_bd hX
  refine z_iald (pc := 8) G dX6_dueNow_8 hv8 ?_
  refine z_icmp_ge (pc := 9) (tgt := 52) G dX6_dueNow_9 (by decide) (fun hc9 => ?_) (fun hc9 => ?_)
  · have hX := z_it hc9 hX
    refine z_iconst (pc := 52) (v := (-1)) G dX6_dueNow_52 (by decide) ?_
    exact z_iretX (pc := 53) hX G hr dX6_dueNow_53 (by decide) (by decide)
  · have hX := z_if hc9 hX
    refine z_iload_n (pc := 12) G 1 dX6_dueNow_12 rfl rfl ?_
    refine z_iconst (pc := 13) (v := 3) G dX6_dueNow_13 (by decide) ?_
    refine z_imul (pc := 14) G dX6_dueNow_14 ?_
    refine z_iload_n (pc := 15) G 2 dX6_dueNow_15 rfl rfl ?_
    refine z_iadd (pc := 16) G dX6_dueNow_16 ?_
    refine z_istore_n (pc := 17) (lv2 := [(0, .ref l0), (1, .int l1), (2, .int l2), (3, .int ((l1 * (3 : Int32)) + l2))]) G dX6_dueNow_17 rfl (by decide) rfl rfl ?_
    refine z_aload_n (pc := 18) G 0 dX6_dueNow_18 rfl rfl ?_
    obtain ⟨x19, hv19, hX⟩ := z_bd hX
    refine z_getR (pc := 19) G kK5 (k := 6) (by decide) kt_207 dX6_dueNow_19 hv19 ?_
    refine z_iload_n (pc := 22) G 3 dX6_dueNow_22 rfl rfl ?_
    obtain ⟨x23, hv23, hX⟩ := z_bd hX
    refine z_iald (pc := 23) G dX6_dueNow_23 hv23 ?_
    refine z_aload_n (pc := 24) G 0 dX6_dueNow_24 rfl rfl ?_
    obtain ⟨x25, hv25, hX⟩ := z_bd hX
    refine z_getI (pc := 25) G kK5 (k := 16) (by decide) kt_235 dX6_dueNow_25 hv25 ?_
    refine z_icmp_ne (pc := 28) (tgt := 46) G dX6_dueNow_28 (by decide) (fun hc28 => ?_) (fun hc28 => ?_)
    · have hX := z_if hc28 hX
      refine z_iincw (pc := 46) (w := 1) (lv2 := [(0, .ref l0), (1, .int l1), (2, .int (l2 + 1)), (3, .int ((l1 * (3 : Int32)) + l2))]) G 2 dX6_dueNow_46 rfl (by decide) (by decide) rfl rfl ?_
      refine z_goto (pc := 49) (tgt := 2) G dX6_dueNow_49 (by decide) ?_
      refine z_drop (lv2 := [(0, .ref l0), (1, .int l1), (2, .int (l2 + 1))]) [0, 1, 2] rfl ?_
      exact H2 _ _ _ _ hX
    · have hX := z_it hc28 hX
      refine z_aload_n (pc := 31) G 0 dX6_dueNow_31 rfl rfl ?_
      obtain ⟨x32, hv32, hX⟩ := z_bd hX
      refine z_getR (pc := 32) G kK5 (k := 8) (by decide) kt_213 dX6_dueNow_32 hv32 ?_
      refine z_iload_n (pc := 35) G 3 dX6_dueNow_35 rfl rfl ?_
      obtain ⟨x36, hv36, hX⟩ := z_bd hX
      refine z_iald (pc := 36) G dX6_dueNow_36 hv36 ?_
      refine z_aload_n (pc := 37) G 0 dX6_dueNow_37 rfl rfl ?_
      obtain ⟨x38, hv38, hX⟩ := z_bd hX
      refine z_getI (pc := 38) G kK5 (k := 15) (by decide) kt_233 dX6_dueNow_38 hv38 ?_
      refine z_icmp_gt (pc := 41) (tgt := 46) G dX6_dueNow_41 (by decide) (fun hc41 => ?_) (fun hc41 => ?_)
      · have hX := z_it hc41 hX
        refine z_iincw (pc := 46) (w := 1) (lv2 := [(0, .ref l0), (1, .int l1), (2, .int (l2 + 1)), (3, .int ((l1 * (3 : Int32)) + l2))]) G 2 dX6_dueNow_46 rfl (by decide) (by decide) rfl rfl ?_
        refine z_goto (pc := 49) (tgt := 2) G dX6_dueNow_49 (by decide) ?_
        refine z_drop (lv2 := [(0, .ref l0), (1, .int l1), (2, .int (l2 + 1))]) [0, 1, 2] rfl ?_
        exact H2 _ _ _ _ hX
      · have hX := z_if hc41 hX
        refine z_iload_n (pc := 44) G 2 dX6_dueNow_44 rfl rfl ?_
        exact z_iretX (pc := 45) hX G hr dX6_dueNow_45 (by decide) (by decide)
set_option maxHeartbeats 4000000 in
set_option maxRecDepth 100000 in
theorem wX6_dueNow_L2 {Γ : ZG} {p : Program} {l : Launch} {e : Env} {s : State} {m : MethodId} {args : Array Value} {below : List Frame} {meth : Method} {c : Code} (hO : z_OK Γ) (G : z_GG Γ p s m args meth c cX6_dueNow 4 RX6) (hr : meth.sig.returnType = (some .int)) (hnm : meth.name = "dueNow") {r : (Int32 × ZH)} : ∀ (nn : Nat) (l0 : Nat) (l1 : Int32) (l2 : Int32) (h : ZH), xX6_dueNow_L2  nn l0 l1 l2 h = some r → z_W Γ p l e rmX6_dueNow s m args below meth c 4 0 0 (MQ below (z_Qc Γ (some (.int r.1)) r.2) args s rmX6_dueNow.cells rmX6_dueNow.slots (z_A Γ)) 2 [(0, .ref l0), (1, .int l1), (2, .int l2)] [] h := by
  intro nn
  induction nn with
  | zero => intro l0 l1 l2 h hX; cases hX
  | succ nn ih => intro l0 l1 l2 h hX; exact wX6_dueNow_B2 hO G hr hnm  ih l0 l1 l2 h hX
noncomputable def xX6_dueNow (l0 : Nat) (l1 : Int32) (h : ZH) : Option (Int32 × ZH) := xX6_dueNow_L2 zFU l0 l1 (0 : Int32) h
set_option maxHeartbeats 4000000 in
set_option maxRecDepth 100000 in
theorem lX6_dueNow {Γ : ZG} {l : Launch} (hO : z_OK Γ) {l0 : Nat} {l1 : Int32} {h : ZH} {r : (Int32 × ZH)} (hX : xX6_dueNow l0 l1 h = some r) : z_M Γ l yX6_dueNow (z_ws1 yX6_dueNow cX6_dueNow 4 (some .int)) rmX6_dueNow [.ref l0, .int l1] h (some (.int r.1)) r.2 := by
  refine z_start hO (plainFor_of_name (by decide)) (Nat.le_of_ble_eq_true rfl) ?_
  intro p e s m args below meth c G hr hnm
  refine z_lvc (lv2 := [(0, .ref l0), (1, .int l1)]) rfl ?_
  refine z_iconst (pc := 0) (v := 0) G dX6_dueNow_0 (by decide) ?_
  refine z_istore_n (pc := 1) (lv2 := [(0, .ref l0), (1, .int l1), (2, .int (0 : Int32))]) G dX6_dueNow_1 rfl (by decide) rfl rfl ?_
  exact wX6_dueNow_L2 hO G hr hnm zFU _ _ _ _ hX
theorem dX6_reportOne_0 : decode cX6_reportOne 0 = .ok (.aload_n 1, 1) := by decide +kernel
theorem dX6_reportOne_1 : decode cX6_reportOne 1 = .ok (.getfield 96, 3) := by decide +kernel
theorem dX6_reportOne_4 : decode cX6_reportOne 4 = .ok (.iload_n 3, 1) := by decide +kernel
theorem dX6_reportOne_5 : decode cX6_reportOne 5 = .ok (.dup2, 1) := by decide +kernel
theorem dX6_reportOne_6 : decode cX6_reportOne 6 = .ok (.iaload, 1) := by decide +kernel
theorem dX6_reportOne_7 : decode cX6_reportOne 7 = .ok (.iconst 1, 1) := by decide +kernel
theorem dX6_reportOne_8 : decode cX6_reportOne 8 = .ok (.isub, 1) := by decide +kernel
theorem dX6_reportOne_9 : decode cX6_reportOne 9 = .ok (.iastore, 1) := by decide +kernel
theorem dX6_reportOne_10 : decode cX6_reportOne 10 = .ok (.aload_n 1, 1) := by decide +kernel
theorem dX6_reportOne_11 : decode cX6_reportOne 11 = .ok (.getfield 96, 3) := by decide +kernel
theorem dX6_reportOne_14 : decode cX6_reportOne 14 = .ok (.iload_n 3, 1) := by decide +kernel
theorem dX6_reportOne_15 : decode cX6_reportOne 15 = .ok (.iaload, 1) := by decide +kernel
theorem dX6_reportOne_16 : decode cX6_reportOne 16 = .ok (.ifCond .gt 70, 3) := by decide +kernel
theorem dX6_reportOne_19 : decode cX6_reportOne 19 = .ok (.aload_n 0, 1) := by decide +kernel
theorem dX6_reportOne_20 : decode cX6_reportOne 20 = .ok (.getfield 12, 3) := by decide +kernel
theorem dX6_reportOne_23 : decode cX6_reportOne 23 = .ok (.aload_n 1, 1) := by decide +kernel
theorem dX6_reportOne_24 : decode cX6_reportOne 24 = .ok (.iload_n 2, 1) := by decide +kernel
theorem dX6_reportOne_25 : decode cX6_reportOne 25 = .ok (.aload_n 1, 1) := by decide +kernel
theorem dX6_reportOne_26 : decode cX6_reportOne 26 = .ok (.getfield 25, 3) := by decide +kernel
theorem dX6_reportOne_29 : decode cX6_reportOne 29 = .ok (.invokevirtual 91, 3) := by decide +kernel
theorem dX6_reportOne_32 : decode cX6_reportOne 32 = .ok (.ifCond .eq 44, 3) := by decide +kernel
theorem dX6_reportOne_35 : decode cX6_reportOne 35 = .ok (.aload_n 1, 1) := by decide +kernel
theorem dX6_reportOne_36 : decode cX6_reportOne 36 = .ok (.getfield 88, 3) := by decide +kernel
theorem dX6_reportOne_39 : decode cX6_reportOne 39 = .ok (.iload_n 3, 1) := by decide +kernel
theorem dX6_reportOne_40 : decode cX6_reportOne 40 = .ok (.aload_n 0, 1) := by decide +kernel
theorem dX6_reportOne_41 : decode cX6_reportOne 41 = .ok (.getfield 12, 3) := by decide +kernel
theorem dX6_reportOne_44 : decode cX6_reportOne 44 = .ok (.getfield 95, 3) := by decide +kernel
theorem dX6_reportOne_47 : decode cX6_reportOne 47 = .ok (.iastore, 1) := by decide +kernel
theorem dX6_reportOne_48 : decode cX6_reportOne 48 = .ok (.aload_n 1, 1) := by decide +kernel
theorem dX6_reportOne_49 : decode cX6_reportOne 49 = .ok (.getfield 96, 3) := by decide +kernel
theorem dX6_reportOne_52 : decode cX6_reportOne 52 = .ok (.iload_n 3, 1) := by decide +kernel
theorem dX6_reportOne_53 : decode cX6_reportOne 53 = .ok (.aload_n 0, 1) := by decide +kernel
theorem dX6_reportOne_54 : decode cX6_reportOne 54 = .ok (.getfield 12, 3) := by decide +kernel
theorem dX6_reportOne_57 : decode cX6_reportOne 57 = .ok (.getfield 99, 3) := by decide +kernel
theorem dX6_reportOne_60 : decode cX6_reportOne 60 = .ok (.iastore, 1) := by decide +kernel
theorem dX6_reportOne_61 : decode cX6_reportOne 61 = .ok (.aload_n 1, 1) := by decide +kernel
theorem dX6_reportOne_62 : decode cX6_reportOne 62 = .ok (.getfield 102, 3) := by decide +kernel
theorem dX6_reportOne_65 : decode cX6_reportOne 65 = .ok (.iload_n 3, 1) := by decide +kernel
theorem dX6_reportOne_66 : decode cX6_reportOne 66 = .ok (.aload_n 1, 1) := by decide +kernel
theorem dX6_reportOne_67 : decode cX6_reportOne 67 = .ok (.getfield 46, 3) := by decide +kernel
theorem dX6_reportOne_70 : decode cX6_reportOne 70 = .ok (.iconst 1, 1) := by decide +kernel
theorem dX6_reportOne_71 : decode cX6_reportOne 71 = .ok (.iadd, 1) := by decide +kernel
theorem dX6_reportOne_72 : decode cX6_reportOne 72 = .ok (.iastore, 1) := by decide +kernel
theorem dX6_reportOne_73 : decode cX6_reportOne 73 = .ok (.goto 13, 3) := by decide +kernel
theorem dX6_reportOne_76 : decode cX6_reportOne 76 = .ok (.aload_n 1, 1) := by decide +kernel
theorem dX6_reportOne_77 : decode cX6_reportOne 77 = .ok (.getfield 96, 3) := by decide +kernel
theorem dX6_reportOne_80 : decode cX6_reportOne 80 = .ok (.iload_n 3, 1) := by decide +kernel
theorem dX6_reportOne_81 : decode cX6_reportOne 81 = .ok (.aload_n 1, 1) := by decide +kernel
theorem dX6_reportOne_82 : decode cX6_reportOne 82 = .ok (.invokevirtual 116, 3) := by decide +kernel
theorem dX6_reportOne_85 : decode cX6_reportOne 85 = .ok (.iastore, 1) := by decide +kernel
theorem dX6_reportOne_86 : decode cX6_reportOne 86 = .ok (.aload_n 0, 1) := by decide +kernel
theorem dX6_reportOne_87 : decode cX6_reportOne 87 = .ok (.getfield 18, 3) := by decide +kernel
theorem dX6_reportOne_90 : decode cX6_reportOne 90 = .ok (.iload_n 2, 1) := by decide +kernel
theorem dX6_reportOne_91 : decode cX6_reportOne 91 = .ok (.aload_n 1, 1) := by decide +kernel
theorem dX6_reportOne_92 : decode cX6_reportOne 92 = .ok (.getfield 88, 3) := by decide +kernel
theorem dX6_reportOne_95 : decode cX6_reportOne 95 = .ok (.iload_n 3, 1) := by decide +kernel
theorem dX6_reportOne_96 : decode cX6_reportOne 96 = .ok (.iaload, 1) := by decide +kernel
theorem dX6_reportOne_97 : decode cX6_reportOne 97 = .ok (.iastore, 1) := by decide +kernel
theorem dX6_reportOne_98 : decode cX6_reportOne 98 = .ok (.aload_n 0, 1) := by decide +kernel
theorem dX6_reportOne_99 : decode cX6_reportOne 99 = .ok (.getfield 22, 3) := by decide +kernel
theorem dX6_reportOne_102 : decode cX6_reportOne 102 = .ok (.iload_n 2, 1) := by decide +kernel
theorem dX6_reportOne_103 : decode cX6_reportOne 103 = .ok (.aload_n 1, 1) := by decide +kernel
theorem dX6_reportOne_104 : decode cX6_reportOne 104 = .ok (.getfield 96, 3) := by decide +kernel
theorem dX6_reportOne_107 : decode cX6_reportOne 107 = .ok (.iload_n 3, 1) := by decide +kernel
theorem dX6_reportOne_108 : decode cX6_reportOne 108 = .ok (.iaload, 1) := by decide +kernel
theorem dX6_reportOne_109 : decode cX6_reportOne 109 = .ok (.iastore, 1) := by decide +kernel
theorem dX6_reportOne_110 : decode cX6_reportOne 110 = .ok (.aload_n 1, 1) := by decide +kernel
theorem dX6_reportOne_111 : decode cX6_reportOne 111 = .ok (.invokevirtual 84, 3) := by decide +kernel
theorem dX6_reportOne_114 : decode cX6_reportOne 114 = .ok (.bipush 100, 2) := by decide +kernel
theorem dX6_reportOne_116 : decode cX6_reportOne 116 = .ok (.irem, 1) := by decide +kernel
theorem dX6_reportOne_117 : decode cX6_reportOne 117 = .ok (.aload_n 1, 1) := by decide +kernel
theorem dX6_reportOne_118 : decode cX6_reportOne 118 = .ok (.getfield 55, 3) := by decide +kernel
theorem dX6_reportOne_121 : decode cX6_reportOne 121 = .ok (.getfield 119, 3) := by decide +kernel
theorem dX6_reportOne_124 : decode cX6_reportOne 124 = .ok (.if_icmp .ge 15, 3) := by decide +kernel
theorem dX6_reportOne_127 : decode cX6_reportOne 127 = .ok (.aload_n 0, 1) := by decide +kernel
theorem dX6_reportOne_128 : decode cX6_reportOne 128 = .ok (.dup, 1) := by decide +kernel
theorem dX6_reportOne_129 : decode cX6_reportOne 129 = .ok (.getfield 105, 3) := by decide +kernel
theorem dX6_reportOne_132 : decode cX6_reportOne 132 = .ok (.iconst 1, 1) := by decide +kernel
theorem dX6_reportOne_133 : decode cX6_reportOne 133 = .ok (.iload_n 2, 1) := by decide +kernel
theorem dX6_reportOne_134 : decode cX6_reportOne 134 = .ok (.ishl, 1) := by decide +kernel
theorem dX6_reportOne_135 : decode cX6_reportOne 135 = .ok (.ior, 1) := by decide +kernel
theorem dX6_reportOne_136 : decode cX6_reportOne 136 = .ok (.putfield 105, 3) := by decide +kernel
theorem dX6_reportOne_139 : decode cX6_reportOne 139 = .ok (.return_, 1) := by decide +kernel
theorem ydX6_reportOne : z_yd yX6_reportOne 3 := ⟨by decide, by decide, by decide +kernel⟩
abbrev rmX6_reportOne : Room := { frames := 4, cells := 0, slots := 0, locals := 105 }
noncomputable def xX6_reportOne_B86 (l0 : Nat) (l1 : Nat) (l2 : Int32) (l3 : Int32) (h : ZH) : Option ZH := ((z_gR h l0 6 1).bind fun x87 => ((z_gR h l1 5 6).bind fun x92 => ((z_aI h x92 l3).bind fun x96 => ((z_uI h x87 l2 x96).bind fun h97 => ((z_gR h97 l0 6 2).bind fun x99 => ((z_gR h97 l1 5 7).bind fun x104 => ((z_aI h97 x104 l3).bind fun x108 => ((z_uI h97 x99 l2 x108).bind fun h109 => (z_gu (z_is h109 l1 5) ((xX5_drawSeed l1 h109).bind fun r111 => ((z_gR r111.2 l1 5 0).bind fun x118 => ((z_gI r111.2 x118 2 5).bind fun x121 => (if x121 ≤ (r111.1 - r111.1 / (100 : Int32) * (100 : Int32)) then some r111.2 else ((z_gI r111.2 l0 6 3).bind fun x129 => ((z_sF r111.2 l0 6 3 (.int (x129 ||| ((1 : Int32) <<< (l2 &&& 31))))).bind fun h136 => some h136)))))))))))))))
set_option maxHeartbeats 4000000 in
set_option maxRecDepth 100000 in
theorem wX6_reportOne_B86 {Γ : ZG} {p : Program} {l : Launch} {e : Env} {s : State} {m : MethodId} {args : Array Value} {below : List Frame} {meth : Method} {c : Code} (hO : z_OK Γ) (G : z_GG Γ p s m args meth c cX6_reportOne 4 RX6) (hr : meth.sig.returnType = none) (hnm : meth.name = "reportOne") {r : ZH} : ∀ (l0 : Nat) (l1 : Nat) (l2 : Int32) (l3 : Int32) (h : ZH), xX6_reportOne_B86  l0 l1 l2 l3 h = some r → z_W Γ p l e rmX6_reportOne s m args below meth c 4 0 0 (MQ below (z_Qc Γ none r) args s rmX6_reportOne.cells rmX6_reportOne.slots (z_A Γ)) 86 [(0, .ref l0), (1, .ref l1), (2, .int l2), (3, .int l3)] [] h := by
  intro l0 l1 l2 l3 h hX
  refine z_aload_n (pc := 86) G 0 dX6_reportOne_86 rfl rfl ?_
  obtain ⟨x87, hv87, hX⟩ := z_bd hX
  refine z_getR (pc := 87) G kK6 (k := 1) (by decide) kt_311 dX6_reportOne_87 hv87 ?_
  refine z_iload_n (pc := 90) G 2 dX6_reportOne_90 rfl rfl ?_
  refine z_aload_n (pc := 91) G 1 dX6_reportOne_91 rfl rfl ?_
  obtain ⟨x92, hv92, hX⟩ := z_bd hX
  refine z_getR (pc := 92) G kK5 (k := 6) (by decide) kt_207 dX6_reportOne_92 hv92 ?_
  refine z_iload_n (pc := 95) G 3 dX6_reportOne_95 rfl rfl ?_
  obtain ⟨x96, hv96, hX⟩ := z_bd hX
  refine z_iald (pc := 96) G dX6_reportOne_96 hv96 ?_
  obtain ⟨h97, hv97, hX⟩ := z_bd hX
  refine z_iast (pc := 97) G dX6_reportOne_97 hv97 ?_
  refine z_aload_n (pc := 98) G 0 dX6_reportOne_98 rfl rfl ?_
  obtain ⟨x99, hv99, hX⟩ := z_bd hX
  refine z_getR (pc := 99) G kK6 (k := 2) (by decide) kt_312 dX6_reportOne_99 hv99 ?_
  refine z_iload_n (pc := 102) G 2 dX6_reportOne_102 rfl rfl ?_
  refine z_aload_n (pc := 103) G 1 dX6_reportOne_103 rfl rfl ?_
  obtain ⟨x104, hv104, hX⟩ := z_bd hX
  refine z_getR (pc := 104) G kK5 (k := 7) (by decide) kt_210 dX6_reportOne_104 hv104 ?_
  refine z_iload_n (pc := 107) G 3 dX6_reportOne_107 rfl rfl ?_
  obtain ⟨x108, hv108, hX⟩ := z_bd hX
  refine z_iald (pc := 108) G dX6_reportOne_108 hv108 ?_
  obtain ⟨h109, hv109, hX⟩ := z_bd hX
  refine z_iast (pc := 109) G dX6_reportOne_109 hv109 ?_
  refine z_aload_n (pc := 110) G 1 dX6_reportOne_110 rfl rfl ?_
  obtain ⟨hi111, hX⟩ := z_gu_s hX
  obtain ⟨r111, hv111, hX⟩ := z_bd hX
  refine z_cVI (pc := 111) (As := []) (c2 := 0) (s2 := 0) G kK5 (lX5_drawSeed hO hv111) hi111 kt_851 kt_4 kt_848 kt_849 kt_850 ydX5_drawSeed ⟨by decide, by decide⟩ rfl (Nat.le_of_ble_eq_true rfl) ⟨rfl, rfl⟩ ⟨by decide, by decide⟩ rfl dX6_reportOne_111 ?_
  refine z_bipush (pc := 114) (v := 100) G dX6_reportOne_114 (by decide) ?_
  refine z_irem (pc := 116) G dX6_reportOne_116 (by decide) ?_
  refine z_aload_n (pc := 117) G 1 dX6_reportOne_117 rfl rfl ?_
  obtain ⟨x118, hv118, hX⟩ := z_bd hX
  refine z_getR (pc := 118) G kK5 (k := 0) (by decide) kt_190 dX6_reportOne_118 hv118 ?_
  obtain ⟨x121, hv121, hX⟩ := z_bd hX
  refine z_getI (pc := 121) G kK2 (k := 5) (by decide) kt_62 dX6_reportOne_121 hv121 ?_
  refine z_icmp_ge (pc := 124) (tgt := 139) G dX6_reportOne_124 (by decide) (fun hc124 => ?_) (fun hc124 => ?_)
  · have hX := z_it hc124 hX
    exact z_vretX (pc := 139) hX G hr dX6_reportOne_139 (by decide) (by decide)
  · have hX := z_if hc124 hX
    refine z_aload_n (pc := 127) G 0 dX6_reportOne_127 rfl rfl ?_
    refine z_dup (pc := 128) G dX6_reportOne_128 rfl ?_
    obtain ⟨x129, hv129, hX⟩ := z_bd hX
    refine z_getI (pc := 129) G kK6 (k := 3) (by decide) kt_313 dX6_reportOne_129 hv129 ?_
    refine z_iconst (pc := 132) (v := 1) G dX6_reportOne_132 (by decide) ?_
    refine z_iload_n (pc := 133) G 2 dX6_reportOne_133 rfl rfl ?_
    refine z_ishl (pc := 134) G dX6_reportOne_134 ?_
    refine z_ior (pc := 135) G dX6_reportOne_135 ?_
    obtain ⟨h136, hv136, hX⟩ := z_bd hX
    refine z_putF (pc := 136) G kK6 (k := 3) (by decide) kt_313 (Or.inl rfl) rfl rfl dX6_reportOne_136 hv136 ?_
    exact z_vretX (pc := 139) hX G hr dX6_reportOne_139 (by decide) (by decide)
noncomputable def xX6_reportOne (l0 : Nat) (l1 : Nat) (l2 : Int32) (l3 : Int32) (h : ZH) : Option ZH := ((z_gR h l1 5 7).bind fun x1 => ((z_aI h x1 l3).bind fun x6 => ((z_uI h x1 l3 (x6 - (1 : Int32))).bind fun h9 => ((z_gR h9 l1 5 7).bind fun x11 => ((z_aI h9 x11 l3).bind fun x15 => (if 0 < x15 then xX6_reportOne_B86 l0 l1 l2 l3 h9 else ((z_gR h9 l0 6 0).bind fun x20 => ((z_gI h9 l1 5 16).bind fun x26 => (z_gu (z_is h9 x20 0) ((xX0_choose x20 l1 l2 x26 h9).bind fun r29 => (if r29.1 = 0 then ((z_gR r29.2 l1 5 7).bind fun x77 => (z_gu (z_is r29.2 l1 5) ((xX5_drawLeft l1 r29.2).bind fun r82 => ((z_uI r82.2 x77 l3 r82.1).bind fun h85 => xX6_reportOne_B86 l0 l1 l2 l3 h85)))) else ((z_gR r29.2 l1 5 6).bind fun x36 => ((z_gR r29.2 l0 6 0).bind fun x41 => ((z_gI r29.2 x41 0 1).bind fun x44 => ((z_uI r29.2 x36 l3 x44).bind fun h47 => ((z_gR h47 l1 5 7).bind fun x49 => ((z_gR h47 l0 6 0).bind fun x54 => ((z_gI h47 x54 0 2).bind fun x57 => ((z_uI h47 x49 l3 x57).bind fun h60 => ((z_gR h60 l1 5 8).bind fun x62 => ((z_gI h60 l1 5 15).bind fun x67 => ((z_uI h60 x62 l3 (x67 + (1 : Int32))).bind fun h72 => xX6_reportOne_B86 l0 l1 l2 l3 h72))))))))))))))))))))))
set_option maxHeartbeats 4000000 in
set_option maxRecDepth 100000 in
theorem lX6_reportOne {Γ : ZG} {l : Launch} (hO : z_OK Γ) {l0 : Nat} {l1 : Nat} {l2 : Int32} {l3 : Int32} {h : ZH} {r : ZH} (hX : xX6_reportOne l0 l1 l2 l3 h = some r) : z_M Γ l yX6_reportOne (z_ws1 yX6_reportOne cX6_reportOne 4 none) rmX6_reportOne [.ref l0, .ref l1, .int l2, .int l3] h none r := by
  refine z_start hO (plainFor_of_name (by decide)) (Nat.le_of_ble_eq_true rfl) ?_
  intro p e s m args below meth c G hr hnm
  refine z_lvc (lv2 := [(0, .ref l0), (1, .ref l1), (2, .int l2), (3, .int l3)]) rfl ?_
  refine z_aload_n (pc := 0) G 1 dX6_reportOne_0 rfl rfl ?_
  obtain ⟨x1, hv1, hX⟩ := z_bd hX
  refine z_getR (pc := 1) G kK5 (k := 7) (by decide) kt_210 dX6_reportOne_1 hv1 ?_
  refine z_iload_n (pc := 4) G 3 dX6_reportOne_4 rfl rfl ?_
  refine z_dup2 (pc := 5) G dX6_reportOne_5 rfl rfl ?_
  obtain ⟨x6, hv6, hX⟩ := z_bd hX
  refine z_iald (pc := 6) G dX6_reportOne_6 hv6 ?_
  refine z_iconst (pc := 7) (v := 1) G dX6_reportOne_7 (by decide) ?_
  refine z_isub (pc := 8) G dX6_reportOne_8 ?_
  obtain ⟨h9, hv9, hX⟩ := z_bd hX
  refine z_iast (pc := 9) G dX6_reportOne_9 hv9 ?_
  refine z_aload_n (pc := 10) G 1 dX6_reportOne_10 rfl rfl ?_
  obtain ⟨x11, hv11, hX⟩ := z_bd hX
  refine z_getR (pc := 11) G kK5 (k := 7) (by decide) kt_210 dX6_reportOne_11 hv11 ?_
  refine z_iload_n (pc := 14) G 3 dX6_reportOne_14 rfl rfl ?_
  obtain ⟨x15, hv15, hX⟩ := z_bd hX
  refine z_iald (pc := 15) G dX6_reportOne_15 hv15 ?_
  refine z_if_gt (pc := 16) (tgt := 86) G dX6_reportOne_16 (by decide) (fun hc16 => ?_) (fun hc16 => ?_)
  · have hX := z_it hc16 hX
    exact wX6_reportOne_B86 hO G hr hnm _ _ _ _ _ hX
  · have hX := z_if hc16 hX
    refine z_aload_n (pc := 19) G 0 dX6_reportOne_19 rfl rfl ?_
    obtain ⟨x20, hv20, hX⟩ := z_bd hX
    refine z_getR (pc := 20) G kK6 (k := 0) (by decide) kt_310 dX6_reportOne_20 hv20 ?_
    refine z_aload_n (pc := 23) G 1 dX6_reportOne_23 rfl rfl ?_
    refine z_iload_n (pc := 24) G 2 dX6_reportOne_24 rfl rfl ?_
    refine z_aload_n (pc := 25) G 1 dX6_reportOne_25 rfl rfl ?_
    obtain ⟨x26, hv26, hX⟩ := z_bd hX
    refine z_getI (pc := 26) G kK5 (k := 16) (by decide) kt_235 dX6_reportOne_26 hv26 ?_
    obtain ⟨hi29, hX⟩ := z_gu_s hX
    obtain ⟨r29, hv29, hX⟩ := z_bd hX
    refine z_cVI (pc := 29) (As := [.ref l1, .int l2, .int x26]) (c2 := 0) (s2 := 0) G kK0 (lX0_choose hO hv29) hi29 kt_855 kt_5 kt_852 kt_853 kt_854 ydX0_choose ⟨by decide, by decide⟩ rfl (Nat.le_of_ble_eq_true rfl) ⟨rfl, rfl⟩ ⟨by decide, by decide⟩ rfl dX6_reportOne_29 ?_
    refine z_if_eq (pc := 32) (tgt := 76) G dX6_reportOne_32 (by decide) (fun hc32 => ?_) (fun hc32 => ?_)
    · have hX := z_it hc32 hX
      refine z_aload_n (pc := 76) G 1 dX6_reportOne_76 rfl rfl ?_
      obtain ⟨x77, hv77, hX⟩ := z_bd hX
      refine z_getR (pc := 77) G kK5 (k := 7) (by decide) kt_210 dX6_reportOne_77 hv77 ?_
      refine z_iload_n (pc := 80) G 3 dX6_reportOne_80 rfl rfl ?_
      refine z_aload_n (pc := 81) G 1 dX6_reportOne_81 rfl rfl ?_
      obtain ⟨hi82, hX⟩ := z_gu_s hX
      obtain ⟨r82, hv82, hX⟩ := z_bd hX
      refine z_cVI (pc := 82) (As := []) (c2 := 0) (s2 := 0) G kK5 (lX5_drawLeft hO hv82) hi82 kt_883 kt_4 kt_896 kt_881 kt_882 ydX5_drawLeft ⟨by decide, by decide⟩ rfl (Nat.le_of_ble_eq_true rfl) ⟨rfl, rfl⟩ ⟨by decide, by decide⟩ rfl dX6_reportOne_82 ?_
      obtain ⟨h85, hv85, hX⟩ := z_bd hX
      refine z_iast (pc := 85) G dX6_reportOne_85 hv85 ?_
      exact wX6_reportOne_B86 hO G hr hnm _ _ _ _ _ hX
    · have hX := z_if hc32 hX
      refine z_aload_n (pc := 35) G 1 dX6_reportOne_35 rfl rfl ?_
      obtain ⟨x36, hv36, hX⟩ := z_bd hX
      refine z_getR (pc := 36) G kK5 (k := 6) (by decide) kt_207 dX6_reportOne_36 hv36 ?_
      refine z_iload_n (pc := 39) G 3 dX6_reportOne_39 rfl rfl ?_
      refine z_aload_n (pc := 40) G 0 dX6_reportOne_40 rfl rfl ?_
      obtain ⟨x41, hv41, hX⟩ := z_bd hX
      refine z_getR (pc := 41) G kK6 (k := 0) (by decide) kt_310 dX6_reportOne_41 hv41 ?_
      obtain ⟨x44, hv44, hX⟩ := z_bd hX
      refine z_getI (pc := 44) G kK0 (k := 1) (by decide) kt_285 dX6_reportOne_44 hv44 ?_
      obtain ⟨h47, hv47, hX⟩ := z_bd hX
      refine z_iast (pc := 47) G dX6_reportOne_47 hv47 ?_
      refine z_aload_n (pc := 48) G 1 dX6_reportOne_48 rfl rfl ?_
      obtain ⟨x49, hv49, hX⟩ := z_bd hX
      refine z_getR (pc := 49) G kK5 (k := 7) (by decide) kt_210 dX6_reportOne_49 hv49 ?_
      refine z_iload_n (pc := 52) G 3 dX6_reportOne_52 rfl rfl ?_
      refine z_aload_n (pc := 53) G 0 dX6_reportOne_53 rfl rfl ?_
      obtain ⟨x54, hv54, hX⟩ := z_bd hX
      refine z_getR (pc := 54) G kK6 (k := 0) (by decide) kt_310 dX6_reportOne_54 hv54 ?_
      obtain ⟨x57, hv57, hX⟩ := z_bd hX
      refine z_getI (pc := 57) G kK0 (k := 2) (by decide) kt_287 dX6_reportOne_57 hv57 ?_
      obtain ⟨h60, hv60, hX⟩ := z_bd hX
      refine z_iast (pc := 60) G dX6_reportOne_60 hv60 ?_
      refine z_aload_n (pc := 61) G 1 dX6_reportOne_61 rfl rfl ?_
      obtain ⟨x62, hv62, hX⟩ := z_bd hX
      refine z_getR (pc := 62) G kK5 (k := 8) (by decide) kt_213 dX6_reportOne_62 hv62 ?_
      refine z_iload_n (pc := 65) G 3 dX6_reportOne_65 rfl rfl ?_
      refine z_aload_n (pc := 66) G 1 dX6_reportOne_66 rfl rfl ?_
      obtain ⟨x67, hv67, hX⟩ := z_bd hX
      refine z_getI (pc := 67) G kK5 (k := 15) (by decide) kt_233 dX6_reportOne_67 hv67 ?_
      refine z_iconst (pc := 70) (v := 1) G dX6_reportOne_70 (by decide) ?_
      refine z_iadd (pc := 71) G dX6_reportOne_71 ?_
      obtain ⟨h72, hv72, hX⟩ := z_bd hX
      refine z_iast (pc := 72) G dX6_reportOne_72 hv72 ?_
      refine z_goto (pc := 73) (tgt := 86) G dX6_reportOne_73 (by decide) ?_
      exact wX6_reportOne_B86 hO G hr hnm _ _ _ _ _ hX
theorem dX6_reportAll_0 : decode cX6_reportAll 0 = .ok (.iconst 0, 1) := by decide +kernel
theorem dX6_reportAll_1 : decode cX6_reportAll 1 = .ok (.istore_n 2, 1) := by decide +kernel
theorem dX6_reportAll_2 : decode cX6_reportAll 2 = .ok (.aload_n 0, 1) := by decide +kernel
theorem dX6_reportAll_3 : decode cX6_reportAll 3 = .ok (.iconst 0, 1) := by decide +kernel
theorem dX6_reportAll_4 : decode cX6_reportAll 4 = .ok (.putfield 105, 3) := by decide +kernel
theorem dX6_reportAll_7 : decode cX6_reportAll 7 = .ok (.iconst 0, 1) := by decide +kernel
theorem dX6_reportAll_8 : decode cX6_reportAll 8 = .ok (.istore_n 3, 1) := by decide +kernel
theorem dX6_reportAll_9 : decode cX6_reportAll 9 = .ok (.iload_n 3, 1) := by decide +kernel
theorem dX6_reportAll_10 : decode cX6_reportAll 10 = .ok (.aload_n 1, 1) := by decide +kernel
theorem dX6_reportAll_11 : decode cX6_reportAll 11 = .ok (.getfield 55, 3) := by decide +kernel
theorem dX6_reportAll_14 : decode cX6_reportAll 14 = .ok (.getfield 59, 3) := by decide +kernel
theorem dX6_reportAll_17 : decode cX6_reportAll 17 = .ok (.if_icmp .ge 52, 3) := by decide +kernel
theorem dX6_reportAll_20 : decode cX6_reportAll 20 = .ok (.aload_n 1, 1) := by decide +kernel
theorem dX6_reportAll_21 : decode cX6_reportAll 21 = .ok (.iload_n 3, 1) := by decide +kernel
theorem dX6_reportAll_22 : decode cX6_reportAll 22 = .ok (.invokevirtual 64, 3) := by decide +kernel
theorem dX6_reportAll_25 : decode cX6_reportAll 25 = .ok (.ifCond .eq 11, 3) := by decide +kernel
theorem dX6_reportAll_28 : decode cX6_reportAll 28 = .ok (.aload_n 1, 1) := by decide +kernel
theorem dX6_reportAll_29 : decode cX6_reportAll 29 = .ok (.iload_n 3, 1) := by decide +kernel
theorem dX6_reportAll_30 : decode cX6_reportAll 30 = .ok (.invokestatic 108, 3) := by decide +kernel
theorem dX6_reportAll_33 : decode cX6_reportAll 33 = .ok (.goto 4, 3) := by decide +kernel
theorem dX6_reportAll_36 : decode cX6_reportAll 36 = .ok (.iconst (-1), 1) := by decide +kernel
theorem dX6_reportAll_37 : decode cX6_reportAll 37 = .ok (.istore 4, 2) := by decide +kernel
theorem dX6_reportAll_39 : decode cX6_reportAll 39 = .ok (.iload 4, 2) := by decide +kernel
theorem dX6_reportAll_41 : decode cX6_reportAll 41 = .ok (.iconst (-1), 1) := by decide +kernel
theorem dX6_reportAll_42 : decode cX6_reportAll 42 = .ok (.if_icmp .eq 21, 3) := by decide +kernel
theorem dX6_reportAll_45 : decode cX6_reportAll 45 = .ok (.aload_n 0, 1) := by decide +kernel
theorem dX6_reportAll_46 : decode cX6_reportAll 46 = .ok (.aload_n 1, 1) := by decide +kernel
theorem dX6_reportAll_47 : decode cX6_reportAll 47 = .ok (.iload_n 3, 1) := by decide +kernel
theorem dX6_reportAll_48 : decode cX6_reportAll 48 = .ok (.iload_n 3, 1) := by decide +kernel
theorem dX6_reportAll_49 : decode cX6_reportAll 49 = .ok (.iconst 3, 1) := by decide +kernel
theorem dX6_reportAll_50 : decode cX6_reportAll 50 = .ok (.imul, 1) := by decide +kernel
theorem dX6_reportAll_51 : decode cX6_reportAll 51 = .ok (.iload 4, 2) := by decide +kernel
theorem dX6_reportAll_53 : decode cX6_reportAll 53 = .ok (.iadd, 1) := by decide +kernel
theorem dX6_reportAll_54 : decode cX6_reportAll 54 = .ok (.invokevirtual 112, 3) := by decide +kernel
theorem dX6_reportAll_57 : decode cX6_reportAll 57 = .ok (.iload_n 2, 1) := by decide +kernel
theorem dX6_reportAll_58 : decode cX6_reportAll 58 = .ok (.iconst 1, 1) := by decide +kernel
theorem dX6_reportAll_59 : decode cX6_reportAll 59 = .ok (.iload_n 3, 1) := by decide +kernel
theorem dX6_reportAll_60 : decode cX6_reportAll 60 = .ok (.ishl, 1) := by decide +kernel
theorem dX6_reportAll_61 : decode cX6_reportAll 61 = .ok (.ior, 1) := by decide +kernel
theorem dX6_reportAll_62 : decode cX6_reportAll 62 = .ok (.istore_n 2, 1) := by decide +kernel
theorem dX6_reportAll_63 : decode cX6_reportAll 63 = .ok (.iinc 3 1, 3) := by decide +kernel
theorem dX6_reportAll_66 : decode cX6_reportAll 66 = .ok (.goto (-57), 3) := by decide +kernel
theorem dX6_reportAll_69 : decode cX6_reportAll 69 = .ok (.iload_n 2, 1) := by decide +kernel
theorem dX6_reportAll_70 : decode cX6_reportAll 70 = .ok (.ireturn, 1) := by decide +kernel
theorem ydX6_reportAll : z_yd yX6_reportAll 1 := ⟨by decide, by decide, by decide +kernel⟩
abbrev rmX6_reportAll : Room := { frames := 5, cells := 0, slots := 0, locals := 128 }
noncomputable def xX6_reportAll_B37 (r9 : Nat → Nat → Int32 → Int32 → ZH → Option (Int32 × ZH)) (l0 : Nat) (l1 : Nat) (l2 : Int32) (l3 : Int32) (s0 : Int32) (h : ZH) : Option (Int32 × ZH) := (if s0 = (-1 : Int32) then r9 l0 l1 l2 (l3 + 1) h else (z_gu (z_is h l0 6) ((xX6_reportOne l0 l1 l3 ((l3 * (3 : Int32)) + s0) h).bind fun h54 => r9 l0 l1 (l2 ||| ((1 : Int32) <<< (l3 &&& 31))) (l3 + 1) h54)))
set_option maxHeartbeats 4000000 in
set_option maxRecDepth 100000 in
theorem wX6_reportAll_B37 {Γ : ZG} {p : Program} {l : Launch} {e : Env} {s : State} {m : MethodId} {args : Array Value} {below : List Frame} {meth : Method} {c : Code} (hO : z_OK Γ) (G : z_GG Γ p s m args meth c cX6_reportAll 5 RX6) (hr : meth.sig.returnType = (some .int)) (hnm : meth.name = "reportAll") {r : (Int32 × ZH)} {r9 : Nat → Nat → Int32 → Int32 → ZH → Option (Int32 × ZH)} (H9 : ∀ (l0 : Nat) (l1 : Nat) (l2 : Int32) (l3 : Int32) (h : ZH), r9 l0 l1 l2 l3 h = some r → z_W Γ p l e rmX6_reportAll s m args below meth c 5 0 0 (MQ below (z_Qc Γ (some (.int r.1)) r.2) args s rmX6_reportAll.cells rmX6_reportAll.slots (z_A Γ)) 9 [(0, .ref l0), (1, .ref l1), (2, .int l2), (3, .int l3)] [] h) : ∀ (l0 : Nat) (l1 : Nat) (l2 : Int32) (l3 : Int32) (s0 : Int32) (h : ZH), xX6_reportAll_B37  r9 l0 l1 l2 l3 s0 h = some r → z_W Γ p l e rmX6_reportAll s m args below meth c 5 0 0 (MQ below (z_Qc Γ (some (.int r.1)) r.2) args s rmX6_reportAll.cells rmX6_reportAll.slots (z_A Γ)) 37 [(0, .ref l0), (1, .ref l1), (2, .int l2), (3, .int l3)] [.int s0] h := by
  intro l0 l1 l2 l3 s0 h hX
  refine z_istore (pc := 37) (lv2 := [(0, .ref l0), (1, .ref l1), (2, .int l2), (3, .int l3), (4, .int s0)]) G dX6_reportAll_37 (by decide) rfl rfl ?_
  refine z_iload (pc := 39) G 4 dX6_reportAll_39 rfl ?_
  refine z_iconst (pc := 41) (v := (-1)) G dX6_reportAll_41 (by decide) ?_
  refine z_icmp_eq (pc := 42) (tgt := 63) G dX6_reportAll_42 (by decide) (fun hc42 => ?_) (fun hc42 => ?_)
  · have hX := z_it hc42 hX
    refine z_iincw (pc := 63) (w := 1) (lv2 := [(0, .ref l0), (1, .ref l1), (2, .int l2), (3, .int (l3 + 1)), (4, .int s0)]) G 3 dX6_reportAll_63 rfl (by decide) (by decide) rfl rfl ?_
    refine z_goto (pc := 66) (tgt := 9) G dX6_reportAll_66 (by decide) ?_
    refine z_drop (lv2 := [(0, .ref l0), (1, .ref l1), (2, .int l2), (3, .int (l3 + 1))]) [0, 1, 2, 3] rfl ?_
    exact H9 _ _ _ _ _ hX
  · have hX := z_if hc42 hX
    refine z_aload_n (pc := 45) G 0 dX6_reportAll_45 rfl rfl ?_
    refine z_aload_n (pc := 46) G 1 dX6_reportAll_46 rfl rfl ?_
    refine z_iload_n (pc := 47) G 3 dX6_reportAll_47 rfl rfl ?_
    refine z_iload_n (pc := 48) G 3 dX6_reportAll_48 rfl rfl ?_
    refine z_iconst (pc := 49) (v := 3) G dX6_reportAll_49 (by decide) ?_
    refine z_imul (pc := 50) G dX6_reportAll_50 ?_
    refine z_iload (pc := 51) G 4 dX6_reportAll_51 rfl ?_
    refine z_iadd (pc := 53) G dX6_reportAll_53 ?_
    obtain ⟨hi54, hX⟩ := z_gu_s hX
    obtain ⟨h54, hv54, hX⟩ := z_bd hX
    refine z_cVV (pc := 54) (As := [.ref l1, .int l3, .int ((l3 * (3 : Int32)) + s0)]) (c2 := 0) (s2 := 0) G kK6 (lX6_reportOne hO hv54) hi54 kt_895 kt_6 kt_892 kt_894 ks_23 ydX6_reportOne ⟨by decide, by decide⟩ rfl (Nat.le_of_ble_eq_true rfl) ⟨rfl, rfl⟩ ⟨by decide, by decide⟩ rfl dX6_reportAll_54 ?_
    refine z_iload_n (pc := 57) G 2 dX6_reportAll_57 rfl rfl ?_
    refine z_iconst (pc := 58) (v := 1) G dX6_reportAll_58 (by decide) ?_
    refine z_iload_n (pc := 59) G 3 dX6_reportAll_59 rfl rfl ?_
    refine z_ishl (pc := 60) G dX6_reportAll_60 ?_
    refine z_ior (pc := 61) G dX6_reportAll_61 ?_
    refine z_istore_n (pc := 62) (lv2 := [(0, .ref l0), (1, .ref l1), (2, .int (l2 ||| ((1 : Int32) <<< (l3 &&& 31)))), (3, .int l3), (4, .int s0)]) G dX6_reportAll_62 rfl (by decide) rfl rfl ?_
    refine z_iincw (pc := 63) (w := 1) (lv2 := [(0, .ref l0), (1, .ref l1), (2, .int (l2 ||| ((1 : Int32) <<< (l3 &&& 31)))), (3, .int (l3 + 1)), (4, .int s0)]) G 3 dX6_reportAll_63 rfl (by decide) (by decide) rfl rfl ?_
    refine z_goto (pc := 66) (tgt := 9) G dX6_reportAll_66 (by decide) ?_
    refine z_drop (lv2 := [(0, .ref l0), (1, .ref l1), (2, .int (l2 ||| ((1 : Int32) <<< (l3 &&& 31)))), (3, .int (l3 + 1))]) [0, 1, 2, 3] rfl ?_
    exact H9 _ _ _ _ _ hX
noncomputable def xX6_reportAll_B9 (r9 : Nat → Nat → Int32 → Int32 → ZH → Option (Int32 × ZH)) (l0 : Nat) (l1 : Nat) (l2 : Int32) (l3 : Int32) (h : ZH) : Option (Int32 × ZH) := ((z_gR h l1 5 0).bind fun x11 => ((z_gI h x11 2 7).bind fun x14 => (if x14 ≤ l3 then some (l2, h) else (z_gu (z_is h l1 5) ((xX5_isOn l1 l3 h).bind fun r22 => (if r22.1 = 0 then xX6_reportAll_B37 r9 l0 l1 l2 l3 (-1 : Int32) r22.2 else ((xX6_dueNow l1 l3 r22.2).bind fun r30 => xX6_reportAll_B37 r9 l0 l1 l2 l3 r30.1 r30.2)))))))
noncomputable def xX6_reportAll_L9 (n : Nat) : Nat → Nat → Int32 → Int32 → ZH → Option (Int32 × ZH) := Nat.rec (motive := fun _ => Nat → Nat → Int32 → Int32 → ZH → Option (Int32 × ZH)) (fun _ _ _ _ _ => none) (fun _ rec => xX6_reportAll_B9  rec) n
set_option maxHeartbeats 4000000 in
set_option maxRecDepth 100000 in
theorem wX6_reportAll_B9 {Γ : ZG} {p : Program} {l : Launch} {e : Env} {s : State} {m : MethodId} {args : Array Value} {below : List Frame} {meth : Method} {c : Code} (hO : z_OK Γ) (G : z_GG Γ p s m args meth c cX6_reportAll 5 RX6) (hr : meth.sig.returnType = (some .int)) (hnm : meth.name = "reportAll") {r : (Int32 × ZH)} {r9 : Nat → Nat → Int32 → Int32 → ZH → Option (Int32 × ZH)} (H9 : ∀ (l0 : Nat) (l1 : Nat) (l2 : Int32) (l3 : Int32) (h : ZH), r9 l0 l1 l2 l3 h = some r → z_W Γ p l e rmX6_reportAll s m args below meth c 5 0 0 (MQ below (z_Qc Γ (some (.int r.1)) r.2) args s rmX6_reportAll.cells rmX6_reportAll.slots (z_A Γ)) 9 [(0, .ref l0), (1, .ref l1), (2, .int l2), (3, .int l3)] [] h) : ∀ (l0 : Nat) (l1 : Nat) (l2 : Int32) (l3 : Int32) (h : ZH), xX6_reportAll_B9  r9 l0 l1 l2 l3 h = some r → z_W Γ p l e rmX6_reportAll s m args below meth c 5 0 0 (MQ below (z_Qc Γ (some (.int r.1)) r.2) args s rmX6_reportAll.cells rmX6_reportAll.slots (z_A Γ)) 9 [(0, .ref l0), (1, .ref l1), (2, .int l2), (3, .int l3)] [] h := by
  intro l0 l1 l2 l3 h hX
  refine z_iload_n (pc := 9) G 3 dX6_reportAll_9 rfl rfl ?_
  refine z_aload_n (pc := 10) G 1 dX6_reportAll_10 rfl rfl ?_
  obtain ⟨x11, hv11, hX⟩ := z_bd hX
  refine z_getR (pc := 11) G kK5 (k := 0) (by decide) kt_190 dX6_reportAll_11 hv11 ?_
  obtain ⟨x14, hv14, hX⟩ := z_bd hX
  refine z_getI (pc := 14) G kK2 (k := 7) (by decide) kt_68 dX6_reportAll_14 hv14 ?_
  refine z_icmp_ge (pc := 17) (tgt := 69) G dX6_reportAll_17 (by decide) (fun hc17 => ?_) (fun hc17 => ?_)
  · have hX := z_it hc17 hX
    refine z_iload_n (pc := 69) G 2 dX6_reportAll_69 rfl rfl ?_
    exact z_iretX (pc := 70) hX G hr dX6_reportAll_70 (by decide) (by decide)
  · have hX := z_if hc17 hX
    refine z_aload_n (pc := 20) G 1 dX6_reportAll_20 rfl rfl ?_
    refine z_iload_n (pc := 21) G 3 dX6_reportAll_21 rfl rfl ?_
    obtain ⟨hi22, hX⟩ := z_gu_s hX
    obtain ⟨r22, hv22, hX⟩ := z_bd hX
    refine z_cVI (pc := 22) (As := [.int l3]) (c2 := 0) (s2 := 0) G kK5 (lX5_isOn hO hv22) hi22 kt_736 kt_4 kt_823 kt_734 kt_735 ydX5_isOn ⟨by decide, by decide⟩ rfl (Nat.le_of_ble_eq_true rfl) ⟨rfl, rfl⟩ ⟨by decide, by decide⟩ rfl dX6_reportAll_22 ?_
    refine z_if_eq (pc := 25) (tgt := 36) G dX6_reportAll_25 (by decide) (fun hc25 => ?_) (fun hc25 => ?_)
    · have hX := z_it hc25 hX
      refine z_iconst (pc := 36) (v := (-1)) G dX6_reportAll_36 (by decide) ?_
      exact wX6_reportAll_B37 hO G hr hnm H9 _ _ _ _ _ _ hX
    · have hX := z_if hc25 hX
      refine z_aload_n (pc := 28) G 1 dX6_reportAll_28 rfl rfl ?_
      refine z_iload_n (pc := 29) G 3 dX6_reportAll_29 rfl rfl ?_
      obtain ⟨r30, hv30, hX⟩ := z_bd hX
      refine z_cSI (pc := 30) (As := [.ref l1, .int l3]) (c2 := 0) (s2 := 0) G (lX6_dueNow hO hv30) kt_891 kt_6 kt_889 kt_890 ydX6_dueNow ⟨by decide, by decide⟩ rfl (Nat.le_of_ble_eq_true rfl) ⟨rfl, rfl⟩ ⟨by decide, by decide⟩ rfl dX6_reportAll_30 ?_
      refine z_goto (pc := 33) (tgt := 37) G dX6_reportAll_33 (by decide) ?_
      exact wX6_reportAll_B37 hO G hr hnm H9 _ _ _ _ _ _ hX
set_option maxHeartbeats 4000000 in
set_option maxRecDepth 100000 in
theorem wX6_reportAll_L9 {Γ : ZG} {p : Program} {l : Launch} {e : Env} {s : State} {m : MethodId} {args : Array Value} {below : List Frame} {meth : Method} {c : Code} (hO : z_OK Γ) (G : z_GG Γ p s m args meth c cX6_reportAll 5 RX6) (hr : meth.sig.returnType = (some .int)) (hnm : meth.name = "reportAll") {r : (Int32 × ZH)} : ∀ (nn : Nat) (l0 : Nat) (l1 : Nat) (l2 : Int32) (l3 : Int32) (h : ZH), xX6_reportAll_L9  nn l0 l1 l2 l3 h = some r → z_W Γ p l e rmX6_reportAll s m args below meth c 5 0 0 (MQ below (z_Qc Γ (some (.int r.1)) r.2) args s rmX6_reportAll.cells rmX6_reportAll.slots (z_A Γ)) 9 [(0, .ref l0), (1, .ref l1), (2, .int l2), (3, .int l3)] [] h := by
  intro nn
  induction nn with
  | zero => intro l0 l1 l2 l3 h hX; cases hX
  | succ nn ih => intro l0 l1 l2 l3 h hX; exact wX6_reportAll_B9 hO G hr hnm  ih l0 l1 l2 l3 h hX
noncomputable def xX6_reportAll (l0 : Nat) (l1 : Nat) (h : ZH) : Option (Int32 × ZH) := ((z_sF h l0 6 3 (.int (0 : Int32))).bind fun h4 => xX6_reportAll_L9 zFU l0 l1 (0 : Int32) (0 : Int32) h4)
set_option maxHeartbeats 4000000 in
set_option maxRecDepth 100000 in
theorem lX6_reportAll {Γ : ZG} {l : Launch} (hO : z_OK Γ) {l0 : Nat} {l1 : Nat} {h : ZH} {r : (Int32 × ZH)} (hX : xX6_reportAll l0 l1 h = some r) : z_M Γ l yX6_reportAll (z_ws1 yX6_reportAll cX6_reportAll 5 (some .int)) rmX6_reportAll [.ref l0, .ref l1] h (some (.int r.1)) r.2 := by
  refine z_start hO (plainFor_of_name (by decide)) (Nat.le_of_ble_eq_true rfl) ?_
  intro p e s m args below meth c G hr hnm
  refine z_lvc (lv2 := [(0, .ref l0), (1, .ref l1)]) rfl ?_
  refine z_iconst (pc := 0) (v := 0) G dX6_reportAll_0 (by decide) ?_
  refine z_istore_n (pc := 1) (lv2 := [(0, .ref l0), (1, .ref l1), (2, .int (0 : Int32))]) G dX6_reportAll_1 rfl (by decide) rfl rfl ?_
  refine z_aload_n (pc := 2) G 0 dX6_reportAll_2 rfl rfl ?_
  refine z_iconst (pc := 3) (v := 0) G dX6_reportAll_3 (by decide) ?_
  obtain ⟨h4, hv4, hX⟩ := z_bd hX
  refine z_putF (pc := 4) G kK6 (k := 3) (by decide) kt_313 (Or.inl rfl) rfl rfl dX6_reportAll_4 hv4 ?_
  refine z_iconst (pc := 7) (v := 0) G dX6_reportAll_7 (by decide) ?_
  refine z_istore_n (pc := 8) (lv2 := [(0, .ref l0), (1, .ref l1), (2, .int (0 : Int32)), (3, .int (0 : Int32))]) G dX6_reportAll_8 rfl (by decide) rfl rfl ?_
  exact wX6_reportAll_L9 hO G hr hnm zFU _ _ _ _ _ hX
theorem dX6_go_0 : decode cX6_go 0 = .ok (.aload_n 1, 1) := by decide +kernel
theorem dX6_go_1 : decode cX6_go 1 = .ok (.getfield 25, 3) := by decide +kernel
theorem dX6_go_4 : decode cX6_go 4 = .ok (.ifCond .ne 8, 3) := by decide +kernel
theorem dX6_go_7 : decode cX6_go 7 = .ok (.aload_n 0, 1) := by decide +kernel
theorem dX6_go_8 : decode cX6_go 8 = .ok (.aload_n 1, 1) := by decide +kernel
theorem dX6_go_9 : decode cX6_go 9 = .ok (.invokevirtual 31, 3) := by decide +kernel
theorem dX6_go_12 : decode cX6_go 12 = .ok (.aload_n 0, 1) := by decide +kernel
theorem dX6_go_13 : decode cX6_go 13 = .ok (.aload_n 1, 1) := by decide +kernel
theorem dX6_go_14 : decode cX6_go 14 = .ok (.invokevirtual 35, 3) := by decide +kernel
theorem dX6_go_17 : decode cX6_go 17 = .ok (.istore_n 2, 1) := by decide +kernel
theorem dX6_go_18 : decode cX6_go 18 = .ok (.iload_n 2, 1) := by decide +kernel
theorem dX6_go_19 : decode cX6_go 19 = .ok (.ifCond .eq 9, 3) := by decide +kernel
theorem dX6_go_22 : decode cX6_go 22 = .ok (.aload_n 0, 1) := by decide +kernel
theorem dX6_go_23 : decode cX6_go 23 = .ok (.aload_n 1, 1) := by decide +kernel
theorem dX6_go_24 : decode cX6_go 24 = .ok (.iload_n 2, 1) := by decide +kernel
theorem dX6_go_25 : decode cX6_go 25 = .ok (.invokevirtual 39, 3) := by decide +kernel
theorem dX6_go_28 : decode cX6_go 28 = .ok (.aload_n 1, 1) := by decide +kernel
theorem dX6_go_29 : decode cX6_go 29 = .ok (.invokevirtual 43, 3) := by decide +kernel
theorem dX6_go_32 : decode cX6_go 32 = .ok (.iload_n 2, 1) := by decide +kernel
theorem dX6_go_33 : decode cX6_go 33 = .ok (.ireturn, 1) := by decide +kernel
theorem ydX6_go : z_yd yX6_go 1 := ⟨by decide, by decide, by decide +kernel⟩
abbrev rmX6_go : Room := { frames := 6, cells := 0, slots := 0, locals := 155 }
noncomputable def xX6_go_B12 (l0 : Nat) (l1 : Nat) (h : ZH) : Option (Int32 × ZH) := (z_gu (z_is h l0 6) ((xX6_reportAll l0 l1 h).bind fun r14 => (if r14.1 = 0 then (z_gu (z_is r14.2 l1 5) ((xX5_goOn l1 r14.2).bind fun h29 => some (r14.1, h29))) else (z_gu (z_is r14.2 l0 6) ((xX6_listenAll l0 l1 r14.1 r14.2).bind fun h25 => (z_gu (z_is h25 l1 5) ((xX5_goOn l1 h25).bind fun h29 => some (r14.1, h29))))))))
set_option maxHeartbeats 4000000 in
set_option maxRecDepth 100000 in
theorem wX6_go_B12 {Γ : ZG} {p : Program} {l : Launch} {e : Env} {s : State} {m : MethodId} {args : Array Value} {below : List Frame} {meth : Method} {c : Code} (hO : z_OK Γ) (G : z_GG Γ p s m args meth c cX6_go 3 RX6) (hr : meth.sig.returnType = (some .int)) (hnm : meth.name = "go") {r : (Int32 × ZH)} : ∀ (l0 : Nat) (l1 : Nat) (h : ZH), xX6_go_B12  l0 l1 h = some r → z_W Γ p l e rmX6_go s m args below meth c 3 0 0 (MQ below (z_Qc Γ (some (.int r.1)) r.2) args s rmX6_go.cells rmX6_go.slots (z_A Γ)) 12 [(0, .ref l0), (1, .ref l1)] [] h := by
  intro l0 l1 h hX
  refine z_aload_n (pc := 12) G 0 dX6_go_12 rfl rfl ?_
  refine z_aload_n (pc := 13) G 1 dX6_go_13 rfl rfl ?_
  obtain ⟨hi14, hX⟩ := z_gu_s hX
  obtain ⟨r14, hv14, hX⟩ := z_bd hX
  refine z_cVI (pc := 14) (As := [.ref l1]) (c2 := 0) (s2 := 0) G kK6 (lX6_reportAll hO hv14) hi14 kt_888 kt_6 kt_885 kt_887 ks_22 ydX6_reportAll ⟨by decide, by decide⟩ rfl (Nat.le_of_ble_eq_true rfl) ⟨rfl, rfl⟩ ⟨by decide, by decide⟩ rfl dX6_go_14 ?_
  refine z_istore_n (pc := 17) (lv2 := [(0, .ref l0), (1, .ref l1), (2, .int r14.1)]) G dX6_go_17 rfl (by decide) rfl rfl ?_
  refine z_iload_n (pc := 18) G 2 dX6_go_18 rfl rfl ?_
  refine z_if_eq (pc := 19) (tgt := 28) G dX6_go_19 (by decide) (fun hc19 => ?_) (fun hc19 => ?_)
  · have hX := z_it hc19 hX
    refine z_aload_n (pc := 28) G 1 dX6_go_28 rfl rfl ?_
    obtain ⟨hi29, hX⟩ := z_gu_s hX
    obtain ⟨h29, hv29, hX⟩ := z_bd hX
    refine z_cVV (pc := 29) (As := []) (c2 := 0) (s2 := 0) G kK5 (lX5_goOn hO hv29) hi29 kt_914 kt_4 kt_911 kt_912 kt_913 ydX5_goOn ⟨by decide, by decide⟩ rfl (Nat.le_of_ble_eq_true rfl) ⟨rfl, rfl⟩ ⟨by decide, by decide⟩ rfl dX6_go_29 ?_
    refine z_iload_n (pc := 32) G 2 dX6_go_32 rfl rfl ?_
    exact z_iretX (pc := 33) hX G hr dX6_go_33 (by decide) (by decide)
  · have hX := z_if hc19 hX
    refine z_aload_n (pc := 22) G 0 dX6_go_22 rfl rfl ?_
    refine z_aload_n (pc := 23) G 1 dX6_go_23 rfl rfl ?_
    refine z_iload_n (pc := 24) G 2 dX6_go_24 rfl rfl ?_
    obtain ⟨hi25, hX⟩ := z_gu_s hX
    obtain ⟨h25, hv25, hX⟩ := z_bd hX
    refine z_cVV (pc := 25) (As := [.ref l1, .int r14.1]) (c2 := 0) (s2 := 0) G kK6 (lX6_listenAll hO hv25) hi25 kt_900 kt_6 kt_897 kt_899 ks_24 ydX6_listenAll ⟨by decide, by decide⟩ rfl (Nat.le_of_ble_eq_true rfl) ⟨rfl, rfl⟩ ⟨by decide, by decide⟩ rfl dX6_go_25 ?_
    refine z_aload_n (pc := 28) G 1 dX6_go_28 rfl rfl ?_
    obtain ⟨hi29, hX⟩ := z_gu_s hX
    obtain ⟨h29, hv29, hX⟩ := z_bd hX
    refine z_cVV (pc := 29) (As := []) (c2 := 0) (s2 := 0) G kK5 (lX5_goOn hO hv29) hi29 kt_914 kt_4 kt_911 kt_912 kt_913 ydX5_goOn ⟨by decide, by decide⟩ rfl (Nat.le_of_ble_eq_true rfl) ⟨rfl, rfl⟩ ⟨by decide, by decide⟩ rfl dX6_go_29 ?_
    refine z_iload_n (pc := 32) G 2 dX6_go_32 rfl rfl ?_
    exact z_iretX (pc := 33) hX G hr dX6_go_33 (by decide) (by decide)
noncomputable def xX6_go (l0 : Nat) (l1 : Nat) (h : ZH) : Option (Int32 × ZH) := ((z_gI h l1 5 16).bind fun x1 => (if x1 = 0 then (z_gu (z_is h l0 6) ((xX6_beginFrame l0 l1 h).bind fun h9 => xX6_go_B12 l0 l1 h9)) else xX6_go_B12 l0 l1 h))
set_option maxHeartbeats 4000000 in
set_option maxRecDepth 100000 in
theorem lX6_go {Γ : ZG} {l : Launch} (hO : z_OK Γ) {l0 : Nat} {l1 : Nat} {h : ZH} {r : (Int32 × ZH)} (hX : xX6_go l0 l1 h = some r) : z_M Γ l yX6_go (z_ws1 yX6_go cX6_go 3 (some .int)) rmX6_go [.ref l0, .ref l1] h (some (.int r.1)) r.2 := by
  refine z_start hO (plainFor_of_name (by decide)) (Nat.le_of_ble_eq_true rfl) ?_
  intro p e s m args below meth c G hr hnm
  refine z_lvc (lv2 := [(0, .ref l0), (1, .ref l1)]) rfl ?_
  refine z_aload_n (pc := 0) G 1 dX6_go_0 rfl rfl ?_
  obtain ⟨x1, hv1, hX⟩ := z_bd hX
  refine z_getI (pc := 1) G kK5 (k := 16) (by decide) kt_235 dX6_go_1 hv1 ?_
  refine z_if_ne (pc := 4) (tgt := 12) G dX6_go_4 (by decide) (fun hc4 => ?_) (fun hc4 => ?_)
  · have hX := z_if hc4 hX
    exact wX6_go_B12 hO G hr hnm _ _ _ hX
  · have hX := z_it hc4 hX
    refine z_aload_n (pc := 7) G 0 dX6_go_7 rfl rfl ?_
    refine z_aload_n (pc := 8) G 1 dX6_go_8 rfl rfl ?_
    obtain ⟨hi9, hX⟩ := z_gu_s hX
    obtain ⟨h9, hv9, hX⟩ := z_bd hX
    refine z_cVV (pc := 9) (As := [.ref l1]) (c2 := 0) (s2 := 0) G kK6 (lX6_beginFrame hO hv9) hi9 kt_811 kt_6 kt_808 kt_810 ks_20 ydX6_beginFrame ⟨by decide, by decide⟩ rfl (Nat.le_of_ble_eq_true rfl) ⟨rfl, rfl⟩ ⟨by decide, by decide⟩ rfl dX6_go_9 ?_
    exact wX6_go_B12 hO G hr hnm _ _ _ hX
theorem dX7_init_0 : decode cX7_init 0 = .ok (.aload_n 0, 1) := by decide +kernel
theorem dX7_init_1 : decode cX7_init 1 = .ok (.invokespecial 3, 3) := by decide +kernel
theorem dX7_init_4 : decode cX7_init 4 = .ok (.aload_n 0, 1) := by decide +kernel
theorem dX7_init_5 : decode cX7_init 5 = .ok (.bipush 6, 2) := by decide +kernel
theorem dX7_init_7 : decode cX7_init 7 = .ok (.newarray .int, 2) := by decide +kernel
theorem dX7_init_9 : decode cX7_init 9 = .ok (.putfield 9, 3) := by decide +kernel
theorem dX7_init_12 : decode cX7_init 12 = .ok (.aload_n 0, 1) := by decide +kernel
theorem dX7_init_13 : decode cX7_init 13 = .ok (.bipush 6, 2) := by decide +kernel
theorem dX7_init_15 : decode cX7_init 15 = .ok (.newarray .int, 2) := by decide +kernel
theorem dX7_init_17 : decode cX7_init 17 = .ok (.putfield 15, 3) := by decide +kernel
theorem dX7_init_20 : decode cX7_init 20 = .ok (.aload_n 0, 1) := by decide +kernel
theorem dX7_init_21 : decode cX7_init 21 = .ok (.bipush 64, 2) := by decide +kernel
theorem dX7_init_23 : decode cX7_init 23 = .ok (.newarray .int, 2) := by decide +kernel
theorem dX7_init_25 : decode cX7_init 25 = .ok (.putfield 18, 3) := by decide +kernel
theorem dX7_init_28 : decode cX7_init 28 = .ok (.return_, 1) := by decide +kernel
theorem ydX7_init : z_yd yX7_init 0 := ⟨by decide, by decide, by decide +kernel⟩
abbrev rmX7_init : Room := { frames := 1, cells := 3, slots := 76, locals := 12 }
noncomputable def xX7_init (l0 : Nat) (h : ZH) : Option ZH := ((z_nw h (.inr (.inl (0, List.replicate 6 0)))).bind fun q7 => ((z_sF q7.2 l0 7 1 (.ref q7.1)).bind fun h9 => ((z_nw h9 (.inr (.inl (0, List.replicate 6 0)))).bind fun q15 => ((z_sF q15.2 l0 7 2 (.ref q15.1)).bind fun h17 => ((z_nw h17 (.inr (.inl (0, List.replicate 64 0)))).bind fun q23 => ((z_sF q23.2 l0 7 3 (.ref q23.1)).bind fun h25 => some h25))))))
set_option maxHeartbeats 4000000 in
set_option maxRecDepth 100000 in
theorem lX7_init {Γ : ZG} {l : Launch} (hO : z_OK Γ) {l0 : Nat} {h : ZH} {r : ZH} (hX : xX7_init l0 h = some r) : z_M Γ l yX7_init (z_ws1 yX7_init cX7_init 1 none) rmX7_init [.ref l0] h none r := by
  refine z_start hO (plainFor_of_name (by decide)) (Nat.le_of_ble_eq_true rfl) ?_
  intro p e s m args below meth c G hr hnm
  refine z_lvc (lv2 := [(0, .ref l0)]) rfl ?_
  refine z_aload_n (pc := 0) G 0 dX7_init_0 rfl rfl ?_
  refine z_obj (pc := 1) G kt_328 kt_25 kt_26 (by decide) (Nat.le_of_ble_eq_true rfl) dX7_init_1 ?_
  refine z_aload_n (pc := 4) G 0 dX7_init_4 rfl rfl ?_
  refine z_bipush (pc := 5) (v := 6) G dX7_init_5 (by decide) ?_
  obtain ⟨q7, hv7, hX⟩ := z_bd hX
  refine z_nI (pc := 7) (atype := .int) (t := 0) (N := 6) (c2 := 1) (s2 := 6) G kt_136 rfl (by decide) rfl (fun _ z => by cases z) (by decide) (by decide) (by decide) ⟨rfl, rfl⟩ ⟨by decide, by decide⟩ dX7_init_7 hv7 ?_
  obtain ⟨h9, hv9, hX⟩ := z_bd hX
  refine z_putF (pc := 9) G kK7 (k := 1) (by decide) kt_330 (Or.inr ⟨rfl, hnm, rfl⟩) rfl rfl dX7_init_9 hv9 ?_
  refine z_aload_n (pc := 12) G 0 dX7_init_12 rfl rfl ?_
  refine z_bipush (pc := 13) (v := 6) G dX7_init_13 (by decide) ?_
  obtain ⟨q15, hv15, hX⟩ := z_bd hX
  refine z_nI (pc := 15) (atype := .int) (t := 0) (N := 6) (c2 := 2) (s2 := 12) G kt_136 rfl (by decide) rfl (fun _ z => by cases z) (by decide) (by decide) (by decide) ⟨rfl, rfl⟩ ⟨by decide, by decide⟩ dX7_init_15 hv15 ?_
  obtain ⟨h17, hv17, hX⟩ := z_bd hX
  refine z_putF (pc := 17) G kK7 (k := 2) (by decide) kt_331 (Or.inr ⟨rfl, hnm, rfl⟩) rfl rfl dX7_init_17 hv17 ?_
  refine z_aload_n (pc := 20) G 0 dX7_init_20 rfl rfl ?_
  refine z_bipush (pc := 21) (v := 64) G dX7_init_21 (by decide) ?_
  obtain ⟨q23, hv23, hX⟩ := z_bd hX
  refine z_nI (pc := 23) (atype := .int) (t := 0) (N := 64) (c2 := 3) (s2 := 76) G kt_136 rfl (by decide) rfl (fun _ z => by cases z) (by decide) (by decide) (by decide) ⟨rfl, rfl⟩ ⟨by decide, by decide⟩ dX7_init_23 hv23 ?_
  obtain ⟨h25, hv25, hX⟩ := z_bd hX
  refine z_putF (pc := 25) G kK7 (k := 3) (by decide) kt_332 (Or.inr ⟨rfl, hnm, rfl⟩) rfl rfl dX7_init_25 hv25 ?_
  exact z_vretX (pc := 28) hX G hr dX7_init_28 (by decide) (by decide)
theorem dX7_knot_0 : decode cX7_knot 0 = .ok (.aload_n 0, 1) := by decide +kernel
theorem dX7_knot_1 : decode cX7_knot 1 = .ok (.aload_n 1, 1) := by decide +kernel
theorem dX7_knot_2 : decode cX7_knot 2 = .ok (.invokevirtual 21, 3) := by decide +kernel
theorem dX7_knot_5 : decode cX7_knot 5 = .ok (.putfield 27, 3) := by decide +kernel
theorem dX7_knot_8 : decode cX7_knot 8 = .ok (.iconst 0, 1) := by decide +kernel
theorem dX7_knot_9 : decode cX7_knot 9 = .ok (.istore_n 2, 1) := by decide +kernel
theorem dX7_knot_10 : decode cX7_knot 10 = .ok (.iload_n 2, 1) := by decide +kernel
theorem dX7_knot_11 : decode cX7_knot 11 = .ok (.bipush 6, 2) := by decide +kernel
theorem dX7_knot_13 : decode cX7_knot 13 = .ok (.if_icmp .ge 87, 3) := by decide +kernel
theorem dX7_knot_16 : decode cX7_knot 16 = .ok (.aload_n 0, 1) := by decide +kernel
theorem dX7_knot_17 : decode cX7_knot 17 = .ok (.getfield 9, 3) := by decide +kernel
theorem dX7_knot_20 : decode cX7_knot 20 = .ok (.iload_n 2, 1) := by decide +kernel
theorem dX7_knot_21 : decode cX7_knot 21 = .ok (.iconst 0, 1) := by decide +kernel
theorem dX7_knot_22 : decode cX7_knot 22 = .ok (.iastore, 1) := by decide +kernel
theorem dX7_knot_23 : decode cX7_knot 23 = .ok (.iconst 0, 1) := by decide +kernel
theorem dX7_knot_24 : decode cX7_knot 24 = .ok (.istore_n 3, 1) := by decide +kernel
theorem dX7_knot_25 : decode cX7_knot 25 = .ok (.iload_n 3, 1) := by decide +kernel
theorem dX7_knot_26 : decode cX7_knot 26 = .ok (.bipush 6, 2) := by decide +kernel
theorem dX7_knot_28 : decode cX7_knot 28 = .ok (.if_icmp .ge 66, 3) := by decide +kernel
theorem dX7_knot_31 : decode cX7_knot 31 = .ok (.iload_n 2, 1) := by decide +kernel
theorem dX7_knot_32 : decode cX7_knot 32 = .ok (.iload_n 3, 1) := by decide +kernel
theorem dX7_knot_33 : decode cX7_knot 33 = .ok (.if_icmp .eq 26, 3) := by decide +kernel
theorem dX7_knot_36 : decode cX7_knot 36 = .ok (.aload_n 0, 1) := by decide +kernel
theorem dX7_knot_37 : decode cX7_knot 37 = .ok (.getfield 27, 3) := by decide +kernel
theorem dX7_knot_40 : decode cX7_knot 40 = .ok (.iload_n 2, 1) := by decide +kernel
theorem dX7_knot_41 : decode cX7_knot 41 = .ok (.ishr, 1) := by decide +kernel
theorem dX7_knot_42 : decode cX7_knot 42 = .ok (.aload_n 0, 1) := by decide +kernel
theorem dX7_knot_43 : decode cX7_knot 43 = .ok (.getfield 27, 3) := by decide +kernel
theorem dX7_knot_46 : decode cX7_knot 46 = .ok (.iload_n 3, 1) := by decide +kernel
theorem dX7_knot_47 : decode cX7_knot 47 = .ok (.ishr, 1) := by decide +kernel
theorem dX7_knot_48 : decode cX7_knot 48 = .ok (.iand, 1) := by decide +kernel
theorem dX7_knot_49 : decode cX7_knot 49 = .ok (.iconst 1, 1) := by decide +kernel
theorem dX7_knot_50 : decode cX7_knot 50 = .ok (.iand, 1) := by decide +kernel
theorem dX7_knot_51 : decode cX7_knot 51 = .ok (.iconst 1, 1) := by decide +kernel
theorem dX7_knot_52 : decode cX7_knot 52 = .ok (.if_icmp .ne 7, 3) := by decide +kernel
theorem dX7_knot_55 : decode cX7_knot 55 = .ok (.iconst 1, 1) := by decide +kernel
theorem dX7_knot_56 : decode cX7_knot 56 = .ok (.goto 4, 3) := by decide +kernel
theorem dX7_knot_59 : decode cX7_knot 59 = .ok (.iconst 0, 1) := by decide +kernel
theorem dX7_knot_60 : decode cX7_knot 60 = .ok (.istore 4, 2) := by decide +kernel
theorem dX7_knot_62 : decode cX7_knot 62 = .ok (.iload 4, 2) := by decide +kernel
theorem dX7_knot_64 : decode cX7_knot 64 = .ok (.ifCond .eq 24, 3) := by decide +kernel
theorem dX7_knot_67 : decode cX7_knot 67 = .ok (.aload_n 1, 1) := by decide +kernel
theorem dX7_knot_68 : decode cX7_knot 68 = .ok (.iload_n 2, 1) := by decide +kernel
theorem dX7_knot_69 : decode cX7_knot 69 = .ok (.iload_n 3, 1) := by decide +kernel
theorem dX7_knot_70 : decode cX7_knot 70 = .ok (.invokevirtual 31, 3) := by decide +kernel
theorem dX7_knot_73 : decode cX7_knot 73 = .ok (.ifCond .eq 15, 3) := by decide +kernel
theorem dX7_knot_76 : decode cX7_knot 76 = .ok (.aload_n 0, 1) := by decide +kernel
theorem dX7_knot_77 : decode cX7_knot 77 = .ok (.getfield 9, 3) := by decide +kernel
theorem dX7_knot_80 : decode cX7_knot 80 = .ok (.iload_n 2, 1) := by decide +kernel
theorem dX7_knot_81 : decode cX7_knot 81 = .ok (.dup2, 1) := by decide +kernel
theorem dX7_knot_82 : decode cX7_knot 82 = .ok (.iaload, 1) := by decide +kernel
theorem dX7_knot_83 : decode cX7_knot 83 = .ok (.iconst 1, 1) := by decide +kernel
theorem dX7_knot_84 : decode cX7_knot 84 = .ok (.iload_n 3, 1) := by decide +kernel
theorem dX7_knot_85 : decode cX7_knot 85 = .ok (.ishl, 1) := by decide +kernel
theorem dX7_knot_86 : decode cX7_knot 86 = .ok (.ior, 1) := by decide +kernel
theorem dX7_knot_87 : decode cX7_knot 87 = .ok (.iastore, 1) := by decide +kernel
theorem dX7_knot_88 : decode cX7_knot 88 = .ok (.iinc 3 1, 3) := by decide +kernel
theorem dX7_knot_91 : decode cX7_knot 91 = .ok (.goto (-66), 3) := by decide +kernel
theorem dX7_knot_94 : decode cX7_knot 94 = .ok (.iinc 2 1, 3) := by decide +kernel
theorem dX7_knot_97 : decode cX7_knot 97 = .ok (.goto (-87), 3) := by decide +kernel
theorem dX7_knot_100 : decode cX7_knot 100 = .ok (.return_, 1) := by decide +kernel
theorem ydX7_knot : z_yd yX7_knot 1 := ⟨by decide, by decide, by decide +kernel⟩
abbrev rmX7_knot : Room := { frames := 3, cells := 0, slots := 0, locals := 64 }
noncomputable def xX7_knot_B60 (r10 : Nat → Nat → Int32 → ZH → Option ZH) (r25 : Nat → Nat → Int32 → Int32 → ZH → Option ZH) (l0 : Nat) (l1 : Nat) (l2 : Int32) (l3 : Int32) (s0 : Int32) (h : ZH) : Option ZH := (if s0 = 0 then r25 l0 l1 l2 (l3 + 1) h else (z_gu (z_is h l1 5) ((xX5_inRange l1 l2 l3 h).bind fun r70 => (if r70.1 = 0 then r25 l0 l1 l2 (l3 + 1) r70.2 else ((z_gR r70.2 l0 7 1).bind fun x77 => ((z_aI r70.2 x77 l2).bind fun x82 => ((z_uI r70.2 x77 l2 (x82 ||| ((1 : Int32) <<< (l3 &&& 31)))).bind fun h87 => r25 l0 l1 l2 (l3 + 1) h87)))))))
set_option maxHeartbeats 4000000 in
set_option maxRecDepth 100000 in
theorem wX7_knot_B60 {Γ : ZG} {p : Program} {l : Launch} {e : Env} {s : State} {m : MethodId} {args : Array Value} {below : List Frame} {meth : Method} {c : Code} (hO : z_OK Γ) (G : z_GG Γ p s m args meth c cX7_knot 5 RX7) (hr : meth.sig.returnType = none) (hnm : meth.name = "knot") {r : ZH} {r10 : Nat → Nat → Int32 → ZH → Option ZH} (H10 : ∀ (l0 : Nat) (l1 : Nat) (l2 : Int32) (h : ZH), r10 l0 l1 l2 h = some r → z_W Γ p l e rmX7_knot s m args below meth c 5 0 0 (MQ below (z_Qc Γ none r) args s rmX7_knot.cells rmX7_knot.slots (z_A Γ)) 10 [(0, .ref l0), (1, .ref l1), (2, .int l2)] [] h) {r25 : Nat → Nat → Int32 → Int32 → ZH → Option ZH} (H25 : ∀ (l0 : Nat) (l1 : Nat) (l2 : Int32) (l3 : Int32) (h : ZH), r25 l0 l1 l2 l3 h = some r → z_W Γ p l e rmX7_knot s m args below meth c 5 0 0 (MQ below (z_Qc Γ none r) args s rmX7_knot.cells rmX7_knot.slots (z_A Γ)) 25 [(0, .ref l0), (1, .ref l1), (2, .int l2), (3, .int l3)] [] h) : ∀ (l0 : Nat) (l1 : Nat) (l2 : Int32) (l3 : Int32) (s0 : Int32) (h : ZH), xX7_knot_B60  r10 r25 l0 l1 l2 l3 s0 h = some r → z_W Γ p l e rmX7_knot s m args below meth c 5 0 0 (MQ below (z_Qc Γ none r) args s rmX7_knot.cells rmX7_knot.slots (z_A Γ)) 60 [(0, .ref l0), (1, .ref l1), (2, .int l2), (3, .int l3)] [.int s0] h := by
  intro l0 l1 l2 l3 s0 h hX
  refine z_istore (pc := 60) (lv2 := [(0, .ref l0), (1, .ref l1), (2, .int l2), (3, .int l3), (4, .int s0)]) G dX7_knot_60 (by decide) rfl rfl ?_
  refine z_iload (pc := 62) G 4 dX7_knot_62 rfl ?_
  refine z_if_eq (pc := 64) (tgt := 88) G dX7_knot_64 (by decide) (fun hc64 => ?_) (fun hc64 => ?_)
  · have hX := z_it hc64 hX
    refine z_iincw (pc := 88) (w := 1) (lv2 := [(0, .ref l0), (1, .ref l1), (2, .int l2), (3, .int (l3 + 1)), (4, .int s0)]) G 3 dX7_knot_88 rfl (by decide) (by decide) rfl rfl ?_
    refine z_goto (pc := 91) (tgt := 25) G dX7_knot_91 (by decide) ?_
    refine z_drop (lv2 := [(0, .ref l0), (1, .ref l1), (2, .int l2), (3, .int (l3 + 1))]) [0, 1, 2, 3] rfl ?_
    exact H25 _ _ _ _ _ hX
  · have hX := z_if hc64 hX
    refine z_aload_n (pc := 67) G 1 dX7_knot_67 rfl rfl ?_
    refine z_iload_n (pc := 68) G 2 dX7_knot_68 rfl rfl ?_
    refine z_iload_n (pc := 69) G 3 dX7_knot_69 rfl rfl ?_
    obtain ⟨hi70, hX⟩ := z_gu_s hX
    obtain ⟨r70, hv70, hX⟩ := z_bd hX
    refine z_cVI (pc := 70) (As := [.int l2, .int l3]) (c2 := 0) (s2 := 0) G kK5 (lX5_inRange hO hv70) hi70 kt_904 kt_4 kt_1007 kt_902 kt_903 ydX5_inRange ⟨by decide, by decide⟩ rfl (Nat.le_of_ble_eq_true rfl) ⟨rfl, rfl⟩ ⟨by decide, by decide⟩ rfl dX7_knot_70 ?_
    refine z_if_eq (pc := 73) (tgt := 88) G dX7_knot_73 (by decide) (fun hc73 => ?_) (fun hc73 => ?_)
    · have hX := z_it hc73 hX
      refine z_iincw (pc := 88) (w := 1) (lv2 := [(0, .ref l0), (1, .ref l1), (2, .int l2), (3, .int (l3 + 1)), (4, .int s0)]) G 3 dX7_knot_88 rfl (by decide) (by decide) rfl rfl ?_
      refine z_goto (pc := 91) (tgt := 25) G dX7_knot_91 (by decide) ?_
      refine z_drop (lv2 := [(0, .ref l0), (1, .ref l1), (2, .int l2), (3, .int (l3 + 1))]) [0, 1, 2, 3] rfl ?_
      exact H25 _ _ _ _ _ hX
    · have hX := z_if hc73 hX
      refine z_aload_n (pc := 76) G 0 dX7_knot_76 rfl rfl ?_
      obtain ⟨x77, hv77, hX⟩ := z_bd hX
      refine z_getR (pc := 77) G kK7 (k := 1) (by decide) kt_330 dX7_knot_77 hv77 ?_
      refine z_iload_n (pc := 80) G 2 dX7_knot_80 rfl rfl ?_
      refine z_dup2 (pc := 81) G dX7_knot_81 rfl rfl ?_
      obtain ⟨x82, hv82, hX⟩ := z_bd hX
      refine z_iald (pc := 82) G dX7_knot_82 hv82 ?_
      refine z_iconst (pc := 83) (v := 1) G dX7_knot_83 (by decide) ?_
      refine z_iload_n (pc := 84) G 3 dX7_knot_84 rfl rfl ?_
      refine z_ishl (pc := 85) G dX7_knot_85 ?_
      refine z_ior (pc := 86) G dX7_knot_86 ?_
      obtain ⟨h87, hv87, hX⟩ := z_bd hX
      refine z_iast (pc := 87) G dX7_knot_87 hv87 ?_
      refine z_iincw (pc := 88) (w := 1) (lv2 := [(0, .ref l0), (1, .ref l1), (2, .int l2), (3, .int (l3 + 1)), (4, .int s0)]) G 3 dX7_knot_88 rfl (by decide) (by decide) rfl rfl ?_
      refine z_goto (pc := 91) (tgt := 25) G dX7_knot_91 (by decide) ?_
      refine z_drop (lv2 := [(0, .ref l0), (1, .ref l1), (2, .int l2), (3, .int (l3 + 1))]) [0, 1, 2, 3] rfl ?_
      exact H25 _ _ _ _ _ hX
noncomputable def xX7_knot_B59 (r10 : Nat → Nat → Int32 → ZH → Option ZH) (r25 : Nat → Nat → Int32 → Int32 → ZH → Option ZH) (l0 : Nat) (l1 : Nat) (l2 : Int32) (l3 : Int32) (h : ZH) : Option ZH := xX7_knot_B60 r10 r25 l0 l1 l2 l3 (0 : Int32) h
set_option maxHeartbeats 4000000 in
set_option maxRecDepth 100000 in
theorem wX7_knot_B59 {Γ : ZG} {p : Program} {l : Launch} {e : Env} {s : State} {m : MethodId} {args : Array Value} {below : List Frame} {meth : Method} {c : Code} (hO : z_OK Γ) (G : z_GG Γ p s m args meth c cX7_knot 5 RX7) (hr : meth.sig.returnType = none) (hnm : meth.name = "knot") {r : ZH} {r10 : Nat → Nat → Int32 → ZH → Option ZH} (H10 : ∀ (l0 : Nat) (l1 : Nat) (l2 : Int32) (h : ZH), r10 l0 l1 l2 h = some r → z_W Γ p l e rmX7_knot s m args below meth c 5 0 0 (MQ below (z_Qc Γ none r) args s rmX7_knot.cells rmX7_knot.slots (z_A Γ)) 10 [(0, .ref l0), (1, .ref l1), (2, .int l2)] [] h) {r25 : Nat → Nat → Int32 → Int32 → ZH → Option ZH} (H25 : ∀ (l0 : Nat) (l1 : Nat) (l2 : Int32) (l3 : Int32) (h : ZH), r25 l0 l1 l2 l3 h = some r → z_W Γ p l e rmX7_knot s m args below meth c 5 0 0 (MQ below (z_Qc Γ none r) args s rmX7_knot.cells rmX7_knot.slots (z_A Γ)) 25 [(0, .ref l0), (1, .ref l1), (2, .int l2), (3, .int l3)] [] h) : ∀ (l0 : Nat) (l1 : Nat) (l2 : Int32) (l3 : Int32) (h : ZH), xX7_knot_B59  r10 r25 l0 l1 l2 l3 h = some r → z_W Γ p l e rmX7_knot s m args below meth c 5 0 0 (MQ below (z_Qc Γ none r) args s rmX7_knot.cells rmX7_knot.slots (z_A Γ)) 59 [(0, .ref l0), (1, .ref l1), (2, .int l2), (3, .int l3)] [] h := by
  intro l0 l1 l2 l3 h hX
  refine z_iconst (pc := 59) (v := 0) G dX7_knot_59 (by decide) ?_
  exact wX7_knot_B60 hO G hr hnm H10 H25 _ _ _ _ _ _ hX
noncomputable def xX7_knot_B25 (r10 : Nat → Nat → Int32 → ZH → Option ZH) (r25 : Nat → Nat → Int32 → Int32 → ZH → Option ZH) (l0 : Nat) (l1 : Nat) (l2 : Int32) (l3 : Int32) (h : ZH) : Option ZH := (if (6 : Int32) ≤ l3 then r10 l0 l1 (l2 + 1) h else (if l2 = l3 then xX7_knot_B59 r10 r25 l0 l1 l2 l3 h else ((z_gI h l0 7 0).bind fun x37 => ((z_gI h l0 7 0).bind fun x43 => (if (((x37 >>> (l2 &&& 31)) &&& (x43 >>> (l3 &&& 31))) &&& (1 : Int32)) = (1 : Int32) then xX7_knot_B60 r10 r25 l0 l1 l2 l3 (1 : Int32) h else xX7_knot_B59 r10 r25 l0 l1 l2 l3 h)))))
noncomputable def xX7_knot_L25 (r10 : Nat → Nat → Int32 → ZH → Option ZH) (n : Nat) : Nat → Nat → Int32 → Int32 → ZH → Option ZH := Nat.rec (motive := fun _ => Nat → Nat → Int32 → Int32 → ZH → Option ZH) (fun _ _ _ _ _ => none) (fun _ rec => xX7_knot_B25  r10 rec) n
set_option maxHeartbeats 4000000 in
set_option maxRecDepth 100000 in
theorem wX7_knot_B25 {Γ : ZG} {p : Program} {l : Launch} {e : Env} {s : State} {m : MethodId} {args : Array Value} {below : List Frame} {meth : Method} {c : Code} (hO : z_OK Γ) (G : z_GG Γ p s m args meth c cX7_knot 5 RX7) (hr : meth.sig.returnType = none) (hnm : meth.name = "knot") {r : ZH} {r10 : Nat → Nat → Int32 → ZH → Option ZH} (H10 : ∀ (l0 : Nat) (l1 : Nat) (l2 : Int32) (h : ZH), r10 l0 l1 l2 h = some r → z_W Γ p l e rmX7_knot s m args below meth c 5 0 0 (MQ below (z_Qc Γ none r) args s rmX7_knot.cells rmX7_knot.slots (z_A Γ)) 10 [(0, .ref l0), (1, .ref l1), (2, .int l2)] [] h) {r25 : Nat → Nat → Int32 → Int32 → ZH → Option ZH} (H25 : ∀ (l0 : Nat) (l1 : Nat) (l2 : Int32) (l3 : Int32) (h : ZH), r25 l0 l1 l2 l3 h = some r → z_W Γ p l e rmX7_knot s m args below meth c 5 0 0 (MQ below (z_Qc Γ none r) args s rmX7_knot.cells rmX7_knot.slots (z_A Γ)) 25 [(0, .ref l0), (1, .ref l1), (2, .int l2), (3, .int l3)] [] h) : ∀ (l0 : Nat) (l1 : Nat) (l2 : Int32) (l3 : Int32) (h : ZH), xX7_knot_B25  r10 r25 l0 l1 l2 l3 h = some r → z_W Γ p l e rmX7_knot s m args below meth c 5 0 0 (MQ below (z_Qc Γ none r) args s rmX7_knot.cells rmX7_knot.slots (z_A Γ)) 25 [(0, .ref l0), (1, .ref l1), (2, .int l2), (3, .int l3)] [] h := by
  intro l0 l1 l2 l3 h hX
  refine z_iload_n (pc := 25) G 3 dX7_knot_25 rfl rfl ?_
  refine z_bipush (pc := 26) (v := 6) G dX7_knot_26 (by decide) ?_
  refine z_icmp_ge (pc := 28) (tgt := 94) G dX7_knot_28 (by decide) (fun hc28 => ?_) (fun hc28 => ?_)
  · have hX := z_it hc28 hX
    refine z_iincw (pc := 94) (w := 1) (lv2 := [(0, .ref l0), (1, .ref l1), (2, .int (l2 + 1)), (3, .int l3)]) G 2 dX7_knot_94 rfl (by decide) (by decide) rfl rfl ?_
    refine z_goto (pc := 97) (tgt := 10) G dX7_knot_97 (by decide) ?_
    refine z_drop (lv2 := [(0, .ref l0), (1, .ref l1), (2, .int (l2 + 1))]) [0, 1, 2] rfl ?_
    exact H10 _ _ _ _ hX
  · have hX := z_if hc28 hX
    refine z_iload_n (pc := 31) G 2 dX7_knot_31 rfl rfl ?_
    refine z_iload_n (pc := 32) G 3 dX7_knot_32 rfl rfl ?_
    refine z_icmp_eq (pc := 33) (tgt := 59) G dX7_knot_33 (by decide) (fun hc33 => ?_) (fun hc33 => ?_)
    · have hX := z_it hc33 hX
      exact wX7_knot_B59 hO G hr hnm H10 H25 _ _ _ _ _ hX
    · have hX := z_if hc33 hX
      refine z_aload_n (pc := 36) G 0 dX7_knot_36 rfl rfl ?_
      obtain ⟨x37, hv37, hX⟩ := z_bd hX
      refine z_getI (pc := 37) G kK7 (k := 0) (by decide) kt_329 dX7_knot_37 hv37 ?_
      refine z_iload_n (pc := 40) G 2 dX7_knot_40 rfl rfl ?_
      refine z_ishr (pc := 41) G dX7_knot_41 ?_
      refine z_aload_n (pc := 42) G 0 dX7_knot_42 rfl rfl ?_
      obtain ⟨x43, hv43, hX⟩ := z_bd hX
      refine z_getI (pc := 43) G kK7 (k := 0) (by decide) kt_329 dX7_knot_43 hv43 ?_
      refine z_iload_n (pc := 46) G 3 dX7_knot_46 rfl rfl ?_
      refine z_ishr (pc := 47) G dX7_knot_47 ?_
      refine z_iand (pc := 48) G dX7_knot_48 ?_
      refine z_iconst (pc := 49) (v := 1) G dX7_knot_49 (by decide) ?_
      refine z_iand (pc := 50) G dX7_knot_50 ?_
      refine z_iconst (pc := 51) (v := 1) G dX7_knot_51 (by decide) ?_
      refine z_icmp_ne (pc := 52) (tgt := 59) G dX7_knot_52 (by decide) (fun hc52 => ?_) (fun hc52 => ?_)
      · have hX := z_if hc52 hX
        exact wX7_knot_B59 hO G hr hnm H10 H25 _ _ _ _ _ hX
      · have hX := z_it hc52 hX
        refine z_iconst (pc := 55) (v := 1) G dX7_knot_55 (by decide) ?_
        refine z_goto (pc := 56) (tgt := 60) G dX7_knot_56 (by decide) ?_
        exact wX7_knot_B60 hO G hr hnm H10 H25 _ _ _ _ _ _ hX
set_option maxHeartbeats 4000000 in
set_option maxRecDepth 100000 in
theorem wX7_knot_L25 {Γ : ZG} {p : Program} {l : Launch} {e : Env} {s : State} {m : MethodId} {args : Array Value} {below : List Frame} {meth : Method} {c : Code} (hO : z_OK Γ) (G : z_GG Γ p s m args meth c cX7_knot 5 RX7) (hr : meth.sig.returnType = none) (hnm : meth.name = "knot") {r : ZH} {r10 : Nat → Nat → Int32 → ZH → Option ZH} (H10 : ∀ (l0 : Nat) (l1 : Nat) (l2 : Int32) (h : ZH), r10 l0 l1 l2 h = some r → z_W Γ p l e rmX7_knot s m args below meth c 5 0 0 (MQ below (z_Qc Γ none r) args s rmX7_knot.cells rmX7_knot.slots (z_A Γ)) 10 [(0, .ref l0), (1, .ref l1), (2, .int l2)] [] h) : ∀ (nn : Nat) (l0 : Nat) (l1 : Nat) (l2 : Int32) (l3 : Int32) (h : ZH), xX7_knot_L25  r10 nn l0 l1 l2 l3 h = some r → z_W Γ p l e rmX7_knot s m args below meth c 5 0 0 (MQ below (z_Qc Γ none r) args s rmX7_knot.cells rmX7_knot.slots (z_A Γ)) 25 [(0, .ref l0), (1, .ref l1), (2, .int l2), (3, .int l3)] [] h := by
  intro nn
  induction nn with
  | zero => intro l0 l1 l2 l3 h hX; cases hX
  | succ nn ih => intro l0 l1 l2 l3 h hX; exact wX7_knot_B25 hO G hr hnm  H10 ih l0 l1 l2 l3 h hX
noncomputable def xX7_knot_B10 (r10 : Nat → Nat → Int32 → ZH → Option ZH) (l0 : Nat) (l1 : Nat) (l2 : Int32) (h : ZH) : Option ZH := (if (6 : Int32) ≤ l2 then some h else ((z_gR h l0 7 1).bind fun x17 => ((z_uI h x17 l2 (0 : Int32)).bind fun h22 => xX7_knot_L25 r10 zFU l0 l1 l2 (0 : Int32) h22)))
noncomputable def xX7_knot_L10 (n : Nat) : Nat → Nat → Int32 → ZH → Option ZH := Nat.rec (motive := fun _ => Nat → Nat → Int32 → ZH → Option ZH) (fun _ _ _ _ => none) (fun _ rec => xX7_knot_B10  rec) n
set_option maxHeartbeats 4000000 in
set_option maxRecDepth 100000 in
theorem wX7_knot_B10 {Γ : ZG} {p : Program} {l : Launch} {e : Env} {s : State} {m : MethodId} {args : Array Value} {below : List Frame} {meth : Method} {c : Code} (hO : z_OK Γ) (G : z_GG Γ p s m args meth c cX7_knot 5 RX7) (hr : meth.sig.returnType = none) (hnm : meth.name = "knot") {r : ZH} {r10 : Nat → Nat → Int32 → ZH → Option ZH} (H10 : ∀ (l0 : Nat) (l1 : Nat) (l2 : Int32) (h : ZH), r10 l0 l1 l2 h = some r → z_W Γ p l e rmX7_knot s m args below meth c 5 0 0 (MQ below (z_Qc Γ none r) args s rmX7_knot.cells rmX7_knot.slots (z_A Γ)) 10 [(0, .ref l0), (1, .ref l1), (2, .int l2)] [] h) : ∀ (l0 : Nat) (l1 : Nat) (l2 : Int32) (h : ZH), xX7_knot_B10  r10 l0 l1 l2 h = some r → z_W Γ p l e rmX7_knot s m args below meth c 5 0 0 (MQ below (z_Qc Γ none r) args s rmX7_knot.cells rmX7_knot.slots (z_A Γ)) 10 [(0, .ref l0), (1, .ref l1), (2, .int l2)] [] h := by
  intro l0 l1 l2 h hX
  refine z_iload_n (pc := 10) G 2 dX7_knot_10 rfl rfl ?_
  refine z_bipush (pc := 11) (v := 6) G dX7_knot_11 (by decide) ?_
  refine z_icmp_ge (pc := 13) (tgt := 100) G dX7_knot_13 (by decide) (fun hc13 => ?_) (fun hc13 => ?_)
  · have hX := z_it hc13 hX
    exact z_vretX (pc := 100) hX G hr dX7_knot_100 (by decide) (by decide)
  · have hX := z_if hc13 hX
    refine z_aload_n (pc := 16) G 0 dX7_knot_16 rfl rfl ?_
    obtain ⟨x17, hv17, hX⟩ := z_bd hX
    refine z_getR (pc := 17) G kK7 (k := 1) (by decide) kt_330 dX7_knot_17 hv17 ?_
    refine z_iload_n (pc := 20) G 2 dX7_knot_20 rfl rfl ?_
    refine z_iconst (pc := 21) (v := 0) G dX7_knot_21 (by decide) ?_
    obtain ⟨h22, hv22, hX⟩ := z_bd hX
    refine z_iast (pc := 22) G dX7_knot_22 hv22 ?_
    refine z_iconst (pc := 23) (v := 0) G dX7_knot_23 (by decide) ?_
    refine z_istore_n (pc := 24) (lv2 := [(0, .ref l0), (1, .ref l1), (2, .int l2), (3, .int (0 : Int32))]) G dX7_knot_24 rfl (by decide) rfl rfl ?_
    exact wX7_knot_L25 hO G hr hnm H10 zFU _ _ _ _ _ hX
set_option maxHeartbeats 4000000 in
set_option maxRecDepth 100000 in
theorem wX7_knot_L10 {Γ : ZG} {p : Program} {l : Launch} {e : Env} {s : State} {m : MethodId} {args : Array Value} {below : List Frame} {meth : Method} {c : Code} (hO : z_OK Γ) (G : z_GG Γ p s m args meth c cX7_knot 5 RX7) (hr : meth.sig.returnType = none) (hnm : meth.name = "knot") {r : ZH} : ∀ (nn : Nat) (l0 : Nat) (l1 : Nat) (l2 : Int32) (h : ZH), xX7_knot_L10  nn l0 l1 l2 h = some r → z_W Γ p l e rmX7_knot s m args below meth c 5 0 0 (MQ below (z_Qc Γ none r) args s rmX7_knot.cells rmX7_knot.slots (z_A Γ)) 10 [(0, .ref l0), (1, .ref l1), (2, .int l2)] [] h := by
  intro nn
  induction nn with
  | zero => intro l0 l1 l2 h hX; cases hX
  | succ nn ih => intro l0 l1 l2 h hX; exact wX7_knot_B10 hO G hr hnm  ih l0 l1 l2 h hX
noncomputable def xX7_knot (l0 : Nat) (l1 : Nat) (h : ZH) : Option ZH := (z_gu (z_is h l1 5) ((xX5_onBits l1 h).bind fun r2 => ((z_sF r2.2 l0 7 0 (.int r2.1)).bind fun h5 => xX7_knot_L10 zFU l0 l1 (0 : Int32) h5)))
set_option maxHeartbeats 4000000 in
set_option maxRecDepth 100000 in
theorem lX7_knot {Γ : ZG} {l : Launch} (hO : z_OK Γ) {l0 : Nat} {l1 : Nat} {h : ZH} {r : ZH} (hX : xX7_knot l0 l1 h = some r) : z_M Γ l yX7_knot (z_ws1 yX7_knot cX7_knot 5 none) rmX7_knot [.ref l0, .ref l1] h none r := by
  refine z_start hO (plainFor_of_name (by decide)) (Nat.le_of_ble_eq_true rfl) ?_
  intro p e s m args below meth c G hr hnm
  refine z_lvc (lv2 := [(0, .ref l0), (1, .ref l1)]) rfl ?_
  refine z_aload_n (pc := 0) G 0 dX7_knot_0 rfl rfl ?_
  refine z_aload_n (pc := 1) G 1 dX7_knot_1 rfl rfl ?_
  obtain ⟨hi2, hX⟩ := z_gu_s hX
  obtain ⟨r2, hv2, hX⟩ := z_bd hX
  refine z_cVI (pc := 2) (As := []) (c2 := 0) (s2 := 0) G kK5 (lX5_onBits hO hv2) hi2 kt_1005 kt_4 kt_1002 kt_1003 kt_1004 ydX5_onBits ⟨by decide, by decide⟩ rfl (Nat.le_of_ble_eq_true rfl) ⟨rfl, rfl⟩ ⟨by decide, by decide⟩ rfl dX7_knot_2 ?_
  obtain ⟨h5, hv5, hX⟩ := z_bd hX
  refine z_putF (pc := 5) G kK7 (k := 0) (by decide) kt_329 (Or.inl rfl) rfl rfl dX7_knot_5 hv5 ?_
  refine z_iconst (pc := 8) (v := 0) G dX7_knot_8 (by decide) ?_
  refine z_istore_n (pc := 9) (lv2 := [(0, .ref l0), (1, .ref l1), (2, .int (0 : Int32))]) G dX7_knot_9 rfl (by decide) rfl rfl ?_
  exact wX7_knot_L10 hO G hr hnm zFU _ _ _ _ hX
theorem dX7_linked_0 : decode cX7_linked 0 = .ok (.aload_n 0, 1) := by decide +kernel
theorem dX7_linked_1 : decode cX7_linked 1 = .ok (.getfield 9, 3) := by decide +kernel
theorem dX7_linked_4 : decode cX7_linked 4 = .ok (.iload_n 1, 1) := by decide +kernel
theorem dX7_linked_5 : decode cX7_linked 5 = .ok (.iaload, 1) := by decide +kernel
theorem dX7_linked_6 : decode cX7_linked 6 = .ok (.iload_n 2, 1) := by decide +kernel
theorem dX7_linked_7 : decode cX7_linked 7 = .ok (.ishr, 1) := by decide +kernel
theorem dX7_linked_8 : decode cX7_linked 8 = .ok (.iconst 1, 1) := by decide +kernel
theorem dX7_linked_9 : decode cX7_linked 9 = .ok (.iand, 1) := by decide +kernel
theorem dX7_linked_10 : decode cX7_linked 10 = .ok (.iconst 1, 1) := by decide +kernel
theorem dX7_linked_11 : decode cX7_linked 11 = .ok (.if_icmp .ne 7, 3) := by decide +kernel
theorem dX7_linked_14 : decode cX7_linked 14 = .ok (.iconst 1, 1) := by decide +kernel
theorem dX7_linked_15 : decode cX7_linked 15 = .ok (.goto 4, 3) := by decide +kernel
theorem dX7_linked_18 : decode cX7_linked 18 = .ok (.iconst 0, 1) := by decide +kernel
theorem dX7_linked_19 : decode cX7_linked 19 = .ok (.ireturn, 1) := by decide +kernel
theorem ydX7_linked : z_yd yX7_linked 2 := ⟨by decide, by decide, by decide +kernel⟩
abbrev rmX7_linked : Room := { frames := 0, cells := 0, slots := 0, locals := 0 }
noncomputable def xX7_linked (l0 : Nat) (l1 : Int32) (l2 : Int32) (h : ZH) : Option (Int32 × ZH) := ((z_gR h l0 7 1).bind fun x1 => ((z_aI h x1 l1).bind fun x5 => (if ((x5 >>> (l2 &&& 31)) &&& (1 : Int32)) = (1 : Int32) then some ((1 : Int32), h) else some ((0 : Int32), h))))
set_option maxHeartbeats 4000000 in
set_option maxRecDepth 100000 in
theorem lX7_linked {Γ : ZG} {l : Launch} (hO : z_OK Γ) {l0 : Nat} {l1 : Int32} {l2 : Int32} {h : ZH} {r : (Int32 × ZH)} (hX : xX7_linked l0 l1 l2 h = some r) : z_M Γ l yX7_linked (z_ws1 yX7_linked cX7_linked 3 (some .boolean)) rmX7_linked [.ref l0, .int l1, .int l2] h (some (.int r.1)) r.2 := by
  refine z_start hO (plainFor_of_name (by decide)) (Nat.le_of_ble_eq_true rfl) ?_
  intro p e s m args below meth c G hr hnm
  refine z_lvc (lv2 := [(0, .ref l0), (1, .int l1), (2, .int l2)]) rfl ?_
  refine z_aload_n (pc := 0) G 0 dX7_linked_0 rfl rfl ?_
  obtain ⟨x1, hv1, hX⟩ := z_bd hX
  refine z_getR (pc := 1) G kK7 (k := 1) (by decide) kt_330 dX7_linked_1 hv1 ?_
  refine z_iload_n (pc := 4) G 1 dX7_linked_4 rfl rfl ?_
  obtain ⟨x5, hv5, hX⟩ := z_bd hX
  refine z_iald (pc := 5) G dX7_linked_5 hv5 ?_
  refine z_iload_n (pc := 6) G 2 dX7_linked_6 rfl rfl ?_
  refine z_ishr (pc := 7) G dX7_linked_7 ?_
  refine z_iconst (pc := 8) (v := 1) G dX7_linked_8 (by decide) ?_
  refine z_iand (pc := 9) G dX7_linked_9 ?_
  refine z_iconst (pc := 10) (v := 1) G dX7_linked_10 (by decide) ?_
  refine z_icmp_ne (pc := 11) (tgt := 18) G dX7_linked_11 (by decide) (fun hc11 => ?_) (fun hc11 => ?_)
  · have hX := z_if hc11 hX
    refine z_iconst (pc := 18) (v := 0) G dX7_linked_18 (by decide) ?_
    exact z_zretX (pc := 19) hX G hr rfl dX7_linked_19 (by decide) (by decide)
  · have hX := z_it hc11 hX
    refine z_iconst (pc := 14) (v := 1) G dX7_linked_14 (by decide) ?_
    refine z_goto (pc := 15) (tgt := 19) G dX7_linked_15 (by decide) ?_
    exact z_zretX (pc := 19) hX G hr rfl dX7_linked_19 (by decide) (by decide)
theorem dX7_thirdOnes_0 : decode cX7_thirdOnes 0 = .ok (.iload_n 1, 1) := by decide +kernel
theorem dX7_thirdOnes_1 : decode cX7_thirdOnes 1 = .ok (.iload_n 2, 1) := by decide +kernel
theorem dX7_thirdOnes_2 : decode cX7_thirdOnes 2 = .ok (.if_icmp .eq 12, 3) := by decide +kernel
theorem dX7_thirdOnes_5 : decode cX7_thirdOnes 5 = .ok (.aload_n 0, 1) := by decide +kernel
theorem dX7_thirdOnes_6 : decode cX7_thirdOnes 6 = .ok (.iload_n 1, 1) := by decide +kernel
theorem dX7_thirdOnes_7 : decode cX7_thirdOnes 7 = .ok (.iload_n 2, 1) := by decide +kernel
theorem dX7_thirdOnes_8 : decode cX7_thirdOnes 8 = .ok (.invokevirtual 35, 3) := by decide +kernel
theorem dX7_thirdOnes_11 : decode cX7_thirdOnes 11 = .ok (.ifCond .eq 7, 3) := by decide +kernel
theorem dX7_thirdOnes_14 : decode cX7_thirdOnes 14 = .ok (.iconst 0, 1) := by decide +kernel
theorem dX7_thirdOnes_15 : decode cX7_thirdOnes 15 = .ok (.goto 16, 3) := by decide +kernel
theorem dX7_thirdOnes_18 : decode cX7_thirdOnes 18 = .ok (.aload_n 0, 1) := by decide +kernel
theorem dX7_thirdOnes_19 : decode cX7_thirdOnes 19 = .ok (.getfield 9, 3) := by decide +kernel
theorem dX7_thirdOnes_22 : decode cX7_thirdOnes 22 = .ok (.iload_n 1, 1) := by decide +kernel
theorem dX7_thirdOnes_23 : decode cX7_thirdOnes 23 = .ok (.iaload, 1) := by decide +kernel
theorem dX7_thirdOnes_24 : decode cX7_thirdOnes 24 = .ok (.aload_n 0, 1) := by decide +kernel
theorem dX7_thirdOnes_25 : decode cX7_thirdOnes 25 = .ok (.getfield 9, 3) := by decide +kernel
theorem dX7_thirdOnes_28 : decode cX7_thirdOnes 28 = .ok (.iload_n 2, 1) := by decide +kernel
theorem dX7_thirdOnes_29 : decode cX7_thirdOnes 29 = .ok (.iaload, 1) := by decide +kernel
theorem dX7_thirdOnes_30 : decode cX7_thirdOnes 30 = .ok (.iand, 1) := by decide +kernel
theorem dX7_thirdOnes_31 : decode cX7_thirdOnes 31 = .ok (.ireturn, 1) := by decide +kernel
theorem ydX7_thirdOnes : z_yd yX7_thirdOnes 2 := ⟨by decide, by decide, by decide +kernel⟩
abbrev rmX7_thirdOnes : Room := { frames := 1, cells := 0, slots := 0, locals := 22 }
noncomputable def xX7_thirdOnes (l0 : Nat) (l1 : Int32) (l2 : Int32) (h : ZH) : Option (Int32 × ZH) := (if l1 = l2 then some ((0 : Int32), h) else (z_gu (z_is h l0 7) ((xX7_linked l0 l1 l2 h).bind fun r8 => (if r8.1 = 0 then ((z_gR r8.2 l0 7 1).bind fun x19 => ((z_aI r8.2 x19 l1).bind fun x23 => ((z_gR r8.2 l0 7 1).bind fun x25 => ((z_aI r8.2 x25 l2).bind fun x29 => some ((x23 &&& x29), r8.2))))) else some ((0 : Int32), r8.2)))))
set_option maxHeartbeats 4000000 in
set_option maxRecDepth 100000 in
theorem lX7_thirdOnes {Γ : ZG} {l : Launch} (hO : z_OK Γ) {l0 : Nat} {l1 : Int32} {l2 : Int32} {h : ZH} {r : (Int32 × ZH)} (hX : xX7_thirdOnes l0 l1 l2 h = some r) : z_M Γ l yX7_thirdOnes (z_ws1 yX7_thirdOnes cX7_thirdOnes 3 (some .int)) rmX7_thirdOnes [.ref l0, .int l1, .int l2] h (some (.int r.1)) r.2 := by
  refine z_start hO (plainFor_of_name (by decide)) (Nat.le_of_ble_eq_true rfl) ?_
  intro p e s m args below meth c G hr hnm
  refine z_lvc (lv2 := [(0, .ref l0), (1, .int l1), (2, .int l2)]) rfl ?_
  refine z_iload_n (pc := 0) G 1 dX7_thirdOnes_0 rfl rfl ?_
  refine z_iload_n (pc := 1) G 2 dX7_thirdOnes_1 rfl rfl ?_
  refine z_icmp_eq (pc := 2) (tgt := 14) G dX7_thirdOnes_2 (by decide) (fun hc2 => ?_) (fun hc2 => ?_)
  · have hX := z_it hc2 hX
    refine z_iconst (pc := 14) (v := 0) G dX7_thirdOnes_14 (by decide) ?_
    refine z_goto (pc := 15) (tgt := 31) G dX7_thirdOnes_15 (by decide) ?_
    exact z_iretX (pc := 31) hX G hr dX7_thirdOnes_31 (by decide) (by decide)
  · have hX := z_if hc2 hX
    refine z_aload_n (pc := 5) G 0 dX7_thirdOnes_5 rfl rfl ?_
    refine z_iload_n (pc := 6) G 1 dX7_thirdOnes_6 rfl rfl ?_
    refine z_iload_n (pc := 7) G 2 dX7_thirdOnes_7 rfl rfl ?_
    obtain ⟨hi8, hX⟩ := z_gu_s hX
    obtain ⟨r8, hv8, hX⟩ := z_bd hX
    refine z_cVI (pc := 8) (As := [.int l1, .int l2]) (c2 := 0) (s2 := 0) G kK7 (lX7_linked hO hv8) hi8 kt_1015 kt_7 kt_1012 kt_1013 kt_1014 ydX7_linked ⟨by decide, by decide⟩ rfl (Nat.le_of_ble_eq_true rfl) ⟨rfl, rfl⟩ ⟨by decide, by decide⟩ rfl dX7_thirdOnes_8 ?_
    refine z_if_eq (pc := 11) (tgt := 18) G dX7_thirdOnes_11 (by decide) (fun hc11 => ?_) (fun hc11 => ?_)
    · have hX := z_it hc11 hX
      refine z_aload_n (pc := 18) G 0 dX7_thirdOnes_18 rfl rfl ?_
      obtain ⟨x19, hv19, hX⟩ := z_bd hX
      refine z_getR (pc := 19) G kK7 (k := 1) (by decide) kt_330 dX7_thirdOnes_19 hv19 ?_
      refine z_iload_n (pc := 22) G 1 dX7_thirdOnes_22 rfl rfl ?_
      obtain ⟨x23, hv23, hX⟩ := z_bd hX
      refine z_iald (pc := 23) G dX7_thirdOnes_23 hv23 ?_
      refine z_aload_n (pc := 24) G 0 dX7_thirdOnes_24 rfl rfl ?_
      obtain ⟨x25, hv25, hX⟩ := z_bd hX
      refine z_getR (pc := 25) G kK7 (k := 1) (by decide) kt_330 dX7_thirdOnes_25 hv25 ?_
      refine z_iload_n (pc := 28) G 2 dX7_thirdOnes_28 rfl rfl ?_
      obtain ⟨x29, hv29, hX⟩ := z_bd hX
      refine z_iald (pc := 29) G dX7_thirdOnes_29 hv29 ?_
      refine z_iand (pc := 30) G dX7_thirdOnes_30 ?_
      exact z_iretX (pc := 31) hX G hr dX7_thirdOnes_31 (by decide) (by decide)
    · have hX := z_if hc11 hX
      refine z_iconst (pc := 14) (v := 0) G dX7_thirdOnes_14 (by decide) ?_
      refine z_goto (pc := 15) (tgt := 31) G dX7_thirdOnes_15 (by decide) ?_
      exact z_iretX (pc := 31) hX G hr dX7_thirdOnes_31 (by decide) (by decide)
theorem dX7_widen_0 : decode cX7_widen 0 = .ok (.iconst 0, 1) := by decide +kernel
theorem dX7_widen_1 : decode cX7_widen 1 = .ok (.istore_n 1, 1) := by decide +kernel
theorem dX7_widen_2 : decode cX7_widen 2 = .ok (.iload_n 1, 1) := by decide +kernel
theorem dX7_widen_3 : decode cX7_widen 3 = .ok (.bipush 6, 2) := by decide +kernel
theorem dX7_widen_5 : decode cX7_widen 5 = .ok (.if_icmp .ge 56, 3) := by decide +kernel
theorem dX7_widen_8 : decode cX7_widen 8 = .ok (.aload_n 0, 1) := by decide +kernel
theorem dX7_widen_9 : decode cX7_widen 9 = .ok (.getfield 15, 3) := by decide +kernel
theorem dX7_widen_12 : decode cX7_widen 12 = .ok (.iload_n 1, 1) := by decide +kernel
theorem dX7_widen_13 : decode cX7_widen 13 = .ok (.aload_n 0, 1) := by decide +kernel
theorem dX7_widen_14 : decode cX7_widen 14 = .ok (.getfield 9, 3) := by decide +kernel
theorem dX7_widen_17 : decode cX7_widen 17 = .ok (.iload_n 1, 1) := by decide +kernel
theorem dX7_widen_18 : decode cX7_widen 18 = .ok (.iaload, 1) := by decide +kernel
theorem dX7_widen_19 : decode cX7_widen 19 = .ok (.iastore, 1) := by decide +kernel
theorem dX7_widen_20 : decode cX7_widen 20 = .ok (.iconst 0, 1) := by decide +kernel
theorem dX7_widen_21 : decode cX7_widen 21 = .ok (.istore_n 2, 1) := by decide +kernel
theorem dX7_widen_22 : decode cX7_widen 22 = .ok (.iload_n 2, 1) := by decide +kernel
theorem dX7_widen_23 : decode cX7_widen 23 = .ok (.bipush 6, 2) := by decide +kernel
theorem dX7_widen_25 : decode cX7_widen 25 = .ok (.if_icmp .ge 30, 3) := by decide +kernel
theorem dX7_widen_28 : decode cX7_widen 28 = .ok (.aload_n 0, 1) := by decide +kernel
theorem dX7_widen_29 : decode cX7_widen 29 = .ok (.iload_n 1, 1) := by decide +kernel
theorem dX7_widen_30 : decode cX7_widen 30 = .ok (.iload_n 2, 1) := by decide +kernel
theorem dX7_widen_31 : decode cX7_widen 31 = .ok (.invokevirtual 38, 3) := by decide +kernel
theorem dX7_widen_34 : decode cX7_widen 34 = .ok (.ifCond .eq 15, 3) := by decide +kernel
theorem dX7_widen_37 : decode cX7_widen 37 = .ok (.aload_n 0, 1) := by decide +kernel
theorem dX7_widen_38 : decode cX7_widen 38 = .ok (.getfield 15, 3) := by decide +kernel
theorem dX7_widen_41 : decode cX7_widen 41 = .ok (.iload_n 1, 1) := by decide +kernel
theorem dX7_widen_42 : decode cX7_widen 42 = .ok (.dup2, 1) := by decide +kernel
theorem dX7_widen_43 : decode cX7_widen 43 = .ok (.iaload, 1) := by decide +kernel
theorem dX7_widen_44 : decode cX7_widen 44 = .ok (.iconst 1, 1) := by decide +kernel
theorem dX7_widen_45 : decode cX7_widen 45 = .ok (.iload_n 2, 1) := by decide +kernel
theorem dX7_widen_46 : decode cX7_widen 46 = .ok (.ishl, 1) := by decide +kernel
theorem dX7_widen_47 : decode cX7_widen 47 = .ok (.ior, 1) := by decide +kernel
theorem dX7_widen_48 : decode cX7_widen 48 = .ok (.iastore, 1) := by decide +kernel
theorem dX7_widen_49 : decode cX7_widen 49 = .ok (.iinc 2 1, 3) := by decide +kernel
theorem dX7_widen_52 : decode cX7_widen 52 = .ok (.goto (-30), 3) := by decide +kernel
theorem dX7_widen_55 : decode cX7_widen 55 = .ok (.iinc 1 1, 3) := by decide +kernel
theorem dX7_widen_58 : decode cX7_widen 58 = .ok (.goto (-56), 3) := by decide +kernel
theorem dX7_widen_61 : decode cX7_widen 61 = .ok (.iconst 0, 1) := by decide +kernel
theorem dX7_widen_62 : decode cX7_widen 62 = .ok (.istore_n 1, 1) := by decide +kernel
theorem dX7_widen_63 : decode cX7_widen 63 = .ok (.iload_n 1, 1) := by decide +kernel
theorem dX7_widen_64 : decode cX7_widen 64 = .ok (.bipush 6, 2) := by decide +kernel
theorem dX7_widen_66 : decode cX7_widen 66 = .ok (.if_icmp .ge 21, 3) := by decide +kernel
theorem dX7_widen_69 : decode cX7_widen 69 = .ok (.aload_n 0, 1) := by decide +kernel
theorem dX7_widen_70 : decode cX7_widen 70 = .ok (.getfield 9, 3) := by decide +kernel
theorem dX7_widen_73 : decode cX7_widen 73 = .ok (.iload_n 1, 1) := by decide +kernel
theorem dX7_widen_74 : decode cX7_widen 74 = .ok (.aload_n 0, 1) := by decide +kernel
theorem dX7_widen_75 : decode cX7_widen 75 = .ok (.getfield 15, 3) := by decide +kernel
theorem dX7_widen_78 : decode cX7_widen 78 = .ok (.iload_n 1, 1) := by decide +kernel
theorem dX7_widen_79 : decode cX7_widen 79 = .ok (.iaload, 1) := by decide +kernel
theorem dX7_widen_80 : decode cX7_widen 80 = .ok (.iastore, 1) := by decide +kernel
theorem dX7_widen_81 : decode cX7_widen 81 = .ok (.iinc 1 1, 3) := by decide +kernel
theorem dX7_widen_84 : decode cX7_widen 84 = .ok (.goto (-21), 3) := by decide +kernel
theorem dX7_widen_87 : decode cX7_widen 87 = .ok (.return_, 1) := by decide +kernel
theorem ydX7_widen : z_yd yX7_widen 0 := ⟨by decide, by decide, by decide +kernel⟩
abbrev rmX7_widen : Room := { frames := 2, cells := 0, slots := 0, locals := 44 }
noncomputable def xX7_widen_B22 (r2 : Nat → Int32 → ZH → Option ZH) (r22 : Nat → Int32 → Int32 → ZH → Option ZH) (l0 : Nat) (l1 : Int32) (l2 : Int32) (h : ZH) : Option ZH := (if (6 : Int32) ≤ l2 then r2 l0 (l1 + 1) h else (z_gu (z_is h l0 7) ((xX7_thirdOnes l0 l1 l2 h).bind fun r31 => (if r31.1 = 0 then r22 l0 l1 (l2 + 1) r31.2 else ((z_gR r31.2 l0 7 2).bind fun x38 => ((z_aI r31.2 x38 l1).bind fun x43 => ((z_uI r31.2 x38 l1 (x43 ||| ((1 : Int32) <<< (l2 &&& 31)))).bind fun h48 => r22 l0 l1 (l2 + 1) h48)))))))
noncomputable def xX7_widen_L22 (r2 : Nat → Int32 → ZH → Option ZH) (n : Nat) : Nat → Int32 → Int32 → ZH → Option ZH := Nat.rec (motive := fun _ => Nat → Int32 → Int32 → ZH → Option ZH) (fun _ _ _ _ => none) (fun _ rec => xX7_widen_B22  r2 rec) n
set_option maxHeartbeats 4000000 in
set_option maxRecDepth 100000 in
theorem wX7_widen_B22 {Γ : ZG} {p : Program} {l : Launch} {e : Env} {s : State} {m : MethodId} {args : Array Value} {below : List Frame} {meth : Method} {c : Code} (hO : z_OK Γ) (G : z_GG Γ p s m args meth c cX7_widen 3 RX7) (hr : meth.sig.returnType = none) (hnm : meth.name = "widen") {r : ZH} {r2 : Nat → Int32 → ZH → Option ZH} (H2 : ∀ (l0 : Nat) (l1 : Int32) (h : ZH), r2 l0 l1 h = some r → z_W Γ p l e rmX7_widen s m args below meth c 3 0 0 (MQ below (z_Qc Γ none r) args s rmX7_widen.cells rmX7_widen.slots (z_A Γ)) 2 [(0, .ref l0), (1, .int l1)] [] h) {r22 : Nat → Int32 → Int32 → ZH → Option ZH} (H22 : ∀ (l0 : Nat) (l1 : Int32) (l2 : Int32) (h : ZH), r22 l0 l1 l2 h = some r → z_W Γ p l e rmX7_widen s m args below meth c 3 0 0 (MQ below (z_Qc Γ none r) args s rmX7_widen.cells rmX7_widen.slots (z_A Γ)) 22 [(0, .ref l0), (1, .int l1), (2, .int l2)] [] h) : ∀ (l0 : Nat) (l1 : Int32) (l2 : Int32) (h : ZH), xX7_widen_B22  r2 r22 l0 l1 l2 h = some r → z_W Γ p l e rmX7_widen s m args below meth c 3 0 0 (MQ below (z_Qc Γ none r) args s rmX7_widen.cells rmX7_widen.slots (z_A Γ)) 22 [(0, .ref l0), (1, .int l1), (2, .int l2)] [] h := by
  intro l0 l1 l2 h hX
  refine z_iload_n (pc := 22) G 2 dX7_widen_22 rfl rfl ?_
  refine z_bipush (pc := 23) (v := 6) G dX7_widen_23 (by decide) ?_
  refine z_icmp_ge (pc := 25) (tgt := 55) G dX7_widen_25 (by decide) (fun hc25 => ?_) (fun hc25 => ?_)
  · have hX := z_it hc25 hX
    refine z_iincw (pc := 55) (w := 1) (lv2 := [(0, .ref l0), (1, .int (l1 + 1)), (2, .int l2)]) G 1 dX7_widen_55 rfl (by decide) (by decide) rfl rfl ?_
    refine z_goto (pc := 58) (tgt := 2) G dX7_widen_58 (by decide) ?_
    refine z_drop (lv2 := [(0, .ref l0), (1, .int (l1 + 1))]) [0, 1] rfl ?_
    exact H2 _ _ _ hX
  · have hX := z_if hc25 hX
    refine z_aload_n (pc := 28) G 0 dX7_widen_28 rfl rfl ?_
    refine z_iload_n (pc := 29) G 1 dX7_widen_29 rfl rfl ?_
    refine z_iload_n (pc := 30) G 2 dX7_widen_30 rfl rfl ?_
    obtain ⟨hi31, hX⟩ := z_gu_s hX
    obtain ⟨r31, hv31, hX⟩ := z_bd hX
    refine z_cVI (pc := 31) (As := [.int l1, .int l2]) (c2 := 0) (s2 := 0) G kK7 (lX7_thirdOnes hO hv31) hi31 kt_1011 kt_7 kt_1024 kt_1009 kt_1010 ydX7_thirdOnes ⟨by decide, by decide⟩ rfl (Nat.le_of_ble_eq_true rfl) ⟨rfl, rfl⟩ ⟨by decide, by decide⟩ rfl dX7_widen_31 ?_
    refine z_if_eq (pc := 34) (tgt := 49) G dX7_widen_34 (by decide) (fun hc34 => ?_) (fun hc34 => ?_)
    · have hX := z_it hc34 hX
      refine z_iincw (pc := 49) (w := 1) (lv2 := [(0, .ref l0), (1, .int l1), (2, .int (l2 + 1))]) G 2 dX7_widen_49 rfl (by decide) (by decide) rfl rfl ?_
      refine z_goto (pc := 52) (tgt := 22) G dX7_widen_52 (by decide) ?_
      exact H22 _ _ _ _ hX
    · have hX := z_if hc34 hX
      refine z_aload_n (pc := 37) G 0 dX7_widen_37 rfl rfl ?_
      obtain ⟨x38, hv38, hX⟩ := z_bd hX
      refine z_getR (pc := 38) G kK7 (k := 2) (by decide) kt_331 dX7_widen_38 hv38 ?_
      refine z_iload_n (pc := 41) G 1 dX7_widen_41 rfl rfl ?_
      refine z_dup2 (pc := 42) G dX7_widen_42 rfl rfl ?_
      obtain ⟨x43, hv43, hX⟩ := z_bd hX
      refine z_iald (pc := 43) G dX7_widen_43 hv43 ?_
      refine z_iconst (pc := 44) (v := 1) G dX7_widen_44 (by decide) ?_
      refine z_iload_n (pc := 45) G 2 dX7_widen_45 rfl rfl ?_
      refine z_ishl (pc := 46) G dX7_widen_46 ?_
      refine z_ior (pc := 47) G dX7_widen_47 ?_
      obtain ⟨h48, hv48, hX⟩ := z_bd hX
      refine z_iast (pc := 48) G dX7_widen_48 hv48 ?_
      refine z_iincw (pc := 49) (w := 1) (lv2 := [(0, .ref l0), (1, .int l1), (2, .int (l2 + 1))]) G 2 dX7_widen_49 rfl (by decide) (by decide) rfl rfl ?_
      refine z_goto (pc := 52) (tgt := 22) G dX7_widen_52 (by decide) ?_
      exact H22 _ _ _ _ hX
set_option maxHeartbeats 4000000 in
set_option maxRecDepth 100000 in
theorem wX7_widen_L22 {Γ : ZG} {p : Program} {l : Launch} {e : Env} {s : State} {m : MethodId} {args : Array Value} {below : List Frame} {meth : Method} {c : Code} (hO : z_OK Γ) (G : z_GG Γ p s m args meth c cX7_widen 3 RX7) (hr : meth.sig.returnType = none) (hnm : meth.name = "widen") {r : ZH} {r2 : Nat → Int32 → ZH → Option ZH} (H2 : ∀ (l0 : Nat) (l1 : Int32) (h : ZH), r2 l0 l1 h = some r → z_W Γ p l e rmX7_widen s m args below meth c 3 0 0 (MQ below (z_Qc Γ none r) args s rmX7_widen.cells rmX7_widen.slots (z_A Γ)) 2 [(0, .ref l0), (1, .int l1)] [] h) : ∀ (nn : Nat) (l0 : Nat) (l1 : Int32) (l2 : Int32) (h : ZH), xX7_widen_L22  r2 nn l0 l1 l2 h = some r → z_W Γ p l e rmX7_widen s m args below meth c 3 0 0 (MQ below (z_Qc Γ none r) args s rmX7_widen.cells rmX7_widen.slots (z_A Γ)) 22 [(0, .ref l0), (1, .int l1), (2, .int l2)] [] h := by
  intro nn
  induction nn with
  | zero => intro l0 l1 l2 h hX; cases hX
  | succ nn ih => intro l0 l1 l2 h hX; exact wX7_widen_B22 hO G hr hnm  H2 ih l0 l1 l2 h hX
noncomputable def xX7_widen_B63 (r63 : Nat → Int32 → ZH → Option ZH) (l0 : Nat) (l1 : Int32) (h : ZH) : Option ZH := (if (6 : Int32) ≤ l1 then some h else ((z_gR h l0 7 1).bind fun x70 => ((z_gR h l0 7 2).bind fun x75 => ((z_aI h x75 l1).bind fun x79 => ((z_uI h x70 l1 x79).bind fun h80 => r63 l0 (l1 + 1) h80)))))
noncomputable def xX7_widen_L63 (n : Nat) : Nat → Int32 → ZH → Option ZH := Nat.rec (motive := fun _ => Nat → Int32 → ZH → Option ZH) (fun _ _ _ => none) (fun _ rec => xX7_widen_B63  rec) n
set_option maxHeartbeats 4000000 in
set_option maxRecDepth 100000 in
theorem wX7_widen_B63 {Γ : ZG} {p : Program} {l : Launch} {e : Env} {s : State} {m : MethodId} {args : Array Value} {below : List Frame} {meth : Method} {c : Code} (hO : z_OK Γ) (G : z_GG Γ p s m args meth c cX7_widen 3 RX7) (hr : meth.sig.returnType = none) (hnm : meth.name = "widen") {r : ZH} {r63 : Nat → Int32 → ZH → Option ZH} (H63 : ∀ (l0 : Nat) (l1 : Int32) (h : ZH), r63 l0 l1 h = some r → z_W Γ p l e rmX7_widen s m args below meth c 3 0 0 (MQ below (z_Qc Γ none r) args s rmX7_widen.cells rmX7_widen.slots (z_A Γ)) 63 [(0, .ref l0), (1, .int l1)] [] h) : ∀ (l0 : Nat) (l1 : Int32) (h : ZH), xX7_widen_B63  r63 l0 l1 h = some r → z_W Γ p l e rmX7_widen s m args below meth c 3 0 0 (MQ below (z_Qc Γ none r) args s rmX7_widen.cells rmX7_widen.slots (z_A Γ)) 63 [(0, .ref l0), (1, .int l1)] [] h := by
  intro l0 l1 h hX
  refine z_iload_n (pc := 63) G 1 dX7_widen_63 rfl rfl ?_
  refine z_bipush (pc := 64) (v := 6) G dX7_widen_64 (by decide) ?_
  refine z_icmp_ge (pc := 66) (tgt := 87) G dX7_widen_66 (by decide) (fun hc66 => ?_) (fun hc66 => ?_)
  · have hX := z_it hc66 hX
    exact z_vretX (pc := 87) hX G hr dX7_widen_87 (by decide) (by decide)
  · have hX := z_if hc66 hX
    refine z_aload_n (pc := 69) G 0 dX7_widen_69 rfl rfl ?_
    obtain ⟨x70, hv70, hX⟩ := z_bd hX
    refine z_getR (pc := 70) G kK7 (k := 1) (by decide) kt_330 dX7_widen_70 hv70 ?_
    refine z_iload_n (pc := 73) G 1 dX7_widen_73 rfl rfl ?_
    refine z_aload_n (pc := 74) G 0 dX7_widen_74 rfl rfl ?_
    obtain ⟨x75, hv75, hX⟩ := z_bd hX
    refine z_getR (pc := 75) G kK7 (k := 2) (by decide) kt_331 dX7_widen_75 hv75 ?_
    refine z_iload_n (pc := 78) G 1 dX7_widen_78 rfl rfl ?_
    obtain ⟨x79, hv79, hX⟩ := z_bd hX
    refine z_iald (pc := 79) G dX7_widen_79 hv79 ?_
    obtain ⟨h80, hv80, hX⟩ := z_bd hX
    refine z_iast (pc := 80) G dX7_widen_80 hv80 ?_
    refine z_iincw (pc := 81) (w := 1) (lv2 := [(0, .ref l0), (1, .int (l1 + 1))]) G 1 dX7_widen_81 rfl (by decide) (by decide) rfl rfl ?_
    refine z_goto (pc := 84) (tgt := 63) G dX7_widen_84 (by decide) ?_
    exact H63 _ _ _ hX
set_option maxHeartbeats 4000000 in
set_option maxRecDepth 100000 in
theorem wX7_widen_L63 {Γ : ZG} {p : Program} {l : Launch} {e : Env} {s : State} {m : MethodId} {args : Array Value} {below : List Frame} {meth : Method} {c : Code} (hO : z_OK Γ) (G : z_GG Γ p s m args meth c cX7_widen 3 RX7) (hr : meth.sig.returnType = none) (hnm : meth.name = "widen") {r : ZH} : ∀ (nn : Nat) (l0 : Nat) (l1 : Int32) (h : ZH), xX7_widen_L63  nn l0 l1 h = some r → z_W Γ p l e rmX7_widen s m args below meth c 3 0 0 (MQ below (z_Qc Γ none r) args s rmX7_widen.cells rmX7_widen.slots (z_A Γ)) 63 [(0, .ref l0), (1, .int l1)] [] h := by
  intro nn
  induction nn with
  | zero => intro l0 l1 h hX; cases hX
  | succ nn ih => intro l0 l1 h hX; exact wX7_widen_B63 hO G hr hnm  ih l0 l1 h hX
noncomputable def xX7_widen_B2 (r2 : Nat → Int32 → ZH → Option ZH) (l0 : Nat) (l1 : Int32) (h : ZH) : Option ZH := (if (6 : Int32) ≤ l1 then xX7_widen_L63 zFU l0 (0 : Int32) h else ((z_gR h l0 7 2).bind fun x9 => ((z_gR h l0 7 1).bind fun x14 => ((z_aI h x14 l1).bind fun x18 => ((z_uI h x9 l1 x18).bind fun h19 => xX7_widen_L22 r2 zFU l0 l1 (0 : Int32) h19)))))
noncomputable def xX7_widen_L2 (n : Nat) : Nat → Int32 → ZH → Option ZH := Nat.rec (motive := fun _ => Nat → Int32 → ZH → Option ZH) (fun _ _ _ => none) (fun _ rec => xX7_widen_B2  rec) n
set_option maxHeartbeats 4000000 in
set_option maxRecDepth 100000 in
theorem wX7_widen_B2 {Γ : ZG} {p : Program} {l : Launch} {e : Env} {s : State} {m : MethodId} {args : Array Value} {below : List Frame} {meth : Method} {c : Code} (hO : z_OK Γ) (G : z_GG Γ p s m args meth c cX7_widen 3 RX7) (hr : meth.sig.returnType = none) (hnm : meth.name = "widen") {r : ZH} {r2 : Nat → Int32 → ZH → Option ZH} (H2 : ∀ (l0 : Nat) (l1 : Int32) (h : ZH), r2 l0 l1 h = some r → z_W Γ p l e rmX7_widen s m args below meth c 3 0 0 (MQ below (z_Qc Γ none r) args s rmX7_widen.cells rmX7_widen.slots (z_A Γ)) 2 [(0, .ref l0), (1, .int l1)] [] h) : ∀ (l0 : Nat) (l1 : Int32) (h : ZH), xX7_widen_B2  r2 l0 l1 h = some r → z_W Γ p l e rmX7_widen s m args below meth c 3 0 0 (MQ below (z_Qc Γ none r) args s rmX7_widen.cells rmX7_widen.slots (z_A Γ)) 2 [(0, .ref l0), (1, .int l1)] [] h := by
  intro l0 l1 h hX
  refine z_iload_n (pc := 2) G 1 dX7_widen_2 rfl rfl ?_
  refine z_bipush (pc := 3) (v := 6) G dX7_widen_3 (by decide) ?_
  refine z_icmp_ge (pc := 5) (tgt := 61) G dX7_widen_5 (by decide) (fun hc5 => ?_) (fun hc5 => ?_)
  · have hX := z_it hc5 hX
    refine z_iconst (pc := 61) (v := 0) G dX7_widen_61 (by decide) ?_
    refine z_istore_n (pc := 62) (lv2 := [(0, .ref l0), (1, .int (0 : Int32))]) G dX7_widen_62 rfl (by decide) rfl rfl ?_
    exact wX7_widen_L63 hO G hr hnm zFU _ _ _ hX
  · have hX := z_if hc5 hX
    refine z_aload_n (pc := 8) G 0 dX7_widen_8 rfl rfl ?_
    obtain ⟨x9, hv9, hX⟩ := z_bd hX
    refine z_getR (pc := 9) G kK7 (k := 2) (by decide) kt_331 dX7_widen_9 hv9 ?_
    refine z_iload_n (pc := 12) G 1 dX7_widen_12 rfl rfl ?_
    refine z_aload_n (pc := 13) G 0 dX7_widen_13 rfl rfl ?_
    obtain ⟨x14, hv14, hX⟩ := z_bd hX
    refine z_getR (pc := 14) G kK7 (k := 1) (by decide) kt_330 dX7_widen_14 hv14 ?_
    refine z_iload_n (pc := 17) G 1 dX7_widen_17 rfl rfl ?_
    obtain ⟨x18, hv18, hX⟩ := z_bd hX
    refine z_iald (pc := 18) G dX7_widen_18 hv18 ?_
    obtain ⟨h19, hv19, hX⟩ := z_bd hX
    refine z_iast (pc := 19) G dX7_widen_19 hv19 ?_
    refine z_iconst (pc := 20) (v := 0) G dX7_widen_20 (by decide) ?_
    refine z_istore_n (pc := 21) (lv2 := [(0, .ref l0), (1, .int l1), (2, .int (0 : Int32))]) G dX7_widen_21 rfl (by decide) rfl rfl ?_
    exact wX7_widen_L22 hO G hr hnm H2 zFU _ _ _ _ hX
set_option maxHeartbeats 4000000 in
set_option maxRecDepth 100000 in
theorem wX7_widen_L2 {Γ : ZG} {p : Program} {l : Launch} {e : Env} {s : State} {m : MethodId} {args : Array Value} {below : List Frame} {meth : Method} {c : Code} (hO : z_OK Γ) (G : z_GG Γ p s m args meth c cX7_widen 3 RX7) (hr : meth.sig.returnType = none) (hnm : meth.name = "widen") {r : ZH} : ∀ (nn : Nat) (l0 : Nat) (l1 : Int32) (h : ZH), xX7_widen_L2  nn l0 l1 h = some r → z_W Γ p l e rmX7_widen s m args below meth c 3 0 0 (MQ below (z_Qc Γ none r) args s rmX7_widen.cells rmX7_widen.slots (z_A Γ)) 2 [(0, .ref l0), (1, .int l1)] [] h := by
  intro nn
  induction nn with
  | zero => intro l0 l1 h hX; cases hX
  | succ nn ih => intro l0 l1 h hX; exact wX7_widen_B2 hO G hr hnm  ih l0 l1 h hX
noncomputable def xX7_widen (l0 : Nat) (h : ZH) : Option ZH := xX7_widen_L2 zFU l0 (0 : Int32) h
set_option maxHeartbeats 4000000 in
set_option maxRecDepth 100000 in
theorem lX7_widen {Γ : ZG} {l : Launch} (hO : z_OK Γ) {l0 : Nat} {h : ZH} {r : ZH} (hX : xX7_widen l0 h = some r) : z_M Γ l yX7_widen (z_ws1 yX7_widen cX7_widen 3 none) rmX7_widen [.ref l0] h none r := by
  refine z_start hO (plainFor_of_name (by decide)) (Nat.le_of_ble_eq_true rfl) ?_
  intro p e s m args below meth c G hr hnm
  refine z_lvc (lv2 := [(0, .ref l0)]) rfl ?_
  refine z_iconst (pc := 0) (v := 0) G dX7_widen_0 (by decide) ?_
  refine z_istore_n (pc := 1) (lv2 := [(0, .ref l0), (1, .int (0 : Int32))]) G dX7_widen_1 rfl (by decide) rfl rfl ?_
  exact wX7_widen_L2 hO G hr hnm zFU _ _ _ hX
theorem dX7_isApart_0 : decode cX7_isApart 0 = .ok (.iconst 0, 1) := by decide +kernel
theorem dX7_isApart_1 : decode cX7_isApart 1 = .ok (.istore_n 2, 1) := by decide +kernel
theorem dX7_isApart_2 : decode cX7_isApart 2 = .ok (.iload_n 2, 1) := by decide +kernel
theorem dX7_isApart_3 : decode cX7_isApart 3 = .ok (.bipush 6, 2) := by decide +kernel
theorem dX7_isApart_5 : decode cX7_isApart 5 = .ok (.if_icmp .ge 31, 3) := by decide +kernel
theorem dX7_isApart_8 : decode cX7_isApart 8 = .ok (.iload_n 1, 1) := by decide +kernel
theorem dX7_isApart_9 : decode cX7_isApart 9 = .ok (.iload_n 2, 1) := by decide +kernel
theorem dX7_isApart_10 : decode cX7_isApart 10 = .ok (.ishr, 1) := by decide +kernel
theorem dX7_isApart_11 : decode cX7_isApart 11 = .ok (.iconst 1, 1) := by decide +kernel
theorem dX7_isApart_12 : decode cX7_isApart 12 = .ok (.iand, 1) := by decide +kernel
theorem dX7_isApart_13 : decode cX7_isApart 13 = .ok (.iconst 1, 1) := by decide +kernel
theorem dX7_isApart_14 : decode cX7_isApart 14 = .ok (.if_icmp .ne 16, 3) := by decide +kernel
theorem dX7_isApart_17 : decode cX7_isApart 17 = .ok (.aload_n 0, 1) := by decide +kernel
theorem dX7_isApart_18 : decode cX7_isApart 18 = .ok (.getfield 9, 3) := by decide +kernel
theorem dX7_isApart_21 : decode cX7_isApart 21 = .ok (.iload_n 2, 1) := by decide +kernel
theorem dX7_isApart_22 : decode cX7_isApart 22 = .ok (.iaload, 1) := by decide +kernel
theorem dX7_isApart_23 : decode cX7_isApart 23 = .ok (.iload_n 1, 1) := by decide +kernel
theorem dX7_isApart_24 : decode cX7_isApart 24 = .ok (.iand, 1) := by decide +kernel
theorem dX7_isApart_25 : decode cX7_isApart 25 = .ok (.ifCond .eq 5, 3) := by decide +kernel
theorem dX7_isApart_28 : decode cX7_isApart 28 = .ok (.iconst 0, 1) := by decide +kernel
theorem dX7_isApart_29 : decode cX7_isApart 29 = .ok (.ireturn, 1) := by decide +kernel
theorem dX7_isApart_30 : decode cX7_isApart 30 = .ok (.iinc 2 1, 3) := by decide +kernel
theorem dX7_isApart_33 : decode cX7_isApart 33 = .ok (.goto (-31), 3) := by decide +kernel
theorem dX7_isApart_36 : decode cX7_isApart 36 = .ok (.iconst 1, 1) := by decide +kernel
theorem dX7_isApart_37 : decode cX7_isApart 37 = .ok (.ireturn, 1) := by decide +kernel
theorem ydX7_isApart : z_yd yX7_isApart 1 := ⟨by decide, by decide, by decide +kernel⟩
abbrev rmX7_isApart : Room := { frames := 0, cells := 0, slots := 0, locals := 0 }
noncomputable def xX7_isApart_B2 (r2 : Nat → Int32 → Int32 → ZH → Option (Int32 × ZH)) (l0 : Nat) (l1 : Int32) (l2 : Int32) (h : ZH) : Option (Int32 × ZH) := (if (6 : Int32) ≤ l2 then some ((1 : Int32), h) else (if ((l1 >>> (l2 &&& 31)) &&& (1 : Int32)) = (1 : Int32) then ((z_gR h l0 7 1).bind fun x18 => ((z_aI h x18 l2).bind fun x22 => (if (x22 &&& l1) = 0 then r2 l0 l1 (l2 + 1) h else some ((0 : Int32), h)))) else r2 l0 l1 (l2 + 1) h))
noncomputable def xX7_isApart_L2 (n : Nat) : Nat → Int32 → Int32 → ZH → Option (Int32 × ZH) := Nat.rec (motive := fun _ => Nat → Int32 → Int32 → ZH → Option (Int32 × ZH)) (fun _ _ _ _ => none) (fun _ rec => xX7_isApart_B2  rec) n
set_option maxHeartbeats 4000000 in
set_option maxRecDepth 100000 in
theorem wX7_isApart_B2 {Γ : ZG} {p : Program} {l : Launch} {e : Env} {s : State} {m : MethodId} {args : Array Value} {below : List Frame} {meth : Method} {c : Code} (hO : z_OK Γ) (G : z_GG Γ p s m args meth c cX7_isApart 3 RX7) (hr : meth.sig.returnType = (some .boolean)) (hnm : meth.name = "isApart") {r : (Int32 × ZH)} {r2 : Nat → Int32 → Int32 → ZH → Option (Int32 × ZH)} (H2 : ∀ (l0 : Nat) (l1 : Int32) (l2 : Int32) (h : ZH), r2 l0 l1 l2 h = some r → z_W Γ p l e rmX7_isApart s m args below meth c 3 0 0 (MQ below (z_Qc Γ (some (.int r.1)) r.2) args s rmX7_isApart.cells rmX7_isApart.slots (z_A Γ)) 2 [(0, .ref l0), (1, .int l1), (2, .int l2)] [] h) : ∀ (l0 : Nat) (l1 : Int32) (l2 : Int32) (h : ZH), xX7_isApart_B2  r2 l0 l1 l2 h = some r → z_W Γ p l e rmX7_isApart s m args below meth c 3 0 0 (MQ below (z_Qc Γ (some (.int r.1)) r.2) args s rmX7_isApart.cells rmX7_isApart.slots (z_A Γ)) 2 [(0, .ref l0), (1, .int l1), (2, .int l2)] [] h := by
  intro l0 l1 l2 h hX
  refine z_iload_n (pc := 2) G 2 dX7_isApart_2 rfl rfl ?_
  refine z_bipush (pc := 3) (v := 6) G dX7_isApart_3 (by decide) ?_
  refine z_icmp_ge (pc := 5) (tgt := 36) G dX7_isApart_5 (by decide) (fun hc5 => ?_) (fun hc5 => ?_)
  · have hX := z_it hc5 hX
    refine z_iconst (pc := 36) (v := 1) G dX7_isApart_36 (by decide) ?_
    exact z_zretX (pc := 37) hX G hr rfl dX7_isApart_37 (by decide) (by decide)
  · have hX := z_if hc5 hX
    refine z_iload_n (pc := 8) G 1 dX7_isApart_8 rfl rfl ?_
    refine z_iload_n (pc := 9) G 2 dX7_isApart_9 rfl rfl ?_
    refine z_ishr (pc := 10) G dX7_isApart_10 ?_
    refine z_iconst (pc := 11) (v := 1) G dX7_isApart_11 (by decide) ?_
    refine z_iand (pc := 12) G dX7_isApart_12 ?_
    refine z_iconst (pc := 13) (v := 1) G dX7_isApart_13 (by decide) ?_
    refine z_icmp_ne (pc := 14) (tgt := 30) G dX7_isApart_14 (by decide) (fun hc14 => ?_) (fun hc14 => ?_)
    · have hX := z_if hc14 hX
      refine z_iincw (pc := 30) (w := 1) (lv2 := [(0, .ref l0), (1, .int l1), (2, .int (l2 + 1))]) G 2 dX7_isApart_30 rfl (by decide) (by decide) rfl rfl ?_
      refine z_goto (pc := 33) (tgt := 2) G dX7_isApart_33 (by decide) ?_
      exact H2 _ _ _ _ hX
    · have hX := z_it hc14 hX
      refine z_aload_n (pc := 17) G 0 dX7_isApart_17 rfl rfl ?_
      obtain ⟨x18, hv18, hX⟩ := z_bd hX
      refine z_getR (pc := 18) G kK7 (k := 1) (by decide) kt_330 dX7_isApart_18 hv18 ?_
      refine z_iload_n (pc := 21) G 2 dX7_isApart_21 rfl rfl ?_
      obtain ⟨x22, hv22, hX⟩ := z_bd hX
      refine z_iald (pc := 22) G dX7_isApart_22 hv22 ?_
      refine z_iload_n (pc := 23) G 1 dX7_isApart_23 rfl rfl ?_
      refine z_iand (pc := 24) G dX7_isApart_24 ?_
      refine z_if_eq (pc := 25) (tgt := 30) G dX7_isApart_25 (by decide) (fun hc25 => ?_) (fun hc25 => ?_)
      · have hX := z_it hc25 hX
        refine z_iincw (pc := 30) (w := 1) (lv2 := [(0, .ref l0), (1, .int l1), (2, .int (l2 + 1))]) G 2 dX7_isApart_30 rfl (by decide) (by decide) rfl rfl ?_
        refine z_goto (pc := 33) (tgt := 2) G dX7_isApart_33 (by decide) ?_
        exact H2 _ _ _ _ hX
      · have hX := z_if hc25 hX
        refine z_iconst (pc := 28) (v := 0) G dX7_isApart_28 (by decide) ?_
        exact z_zretX (pc := 29) hX G hr rfl dX7_isApart_29 (by decide) (by decide)
set_option maxHeartbeats 4000000 in
set_option maxRecDepth 100000 in
theorem wX7_isApart_L2 {Γ : ZG} {p : Program} {l : Launch} {e : Env} {s : State} {m : MethodId} {args : Array Value} {below : List Frame} {meth : Method} {c : Code} (hO : z_OK Γ) (G : z_GG Γ p s m args meth c cX7_isApart 3 RX7) (hr : meth.sig.returnType = (some .boolean)) (hnm : meth.name = "isApart") {r : (Int32 × ZH)} : ∀ (nn : Nat) (l0 : Nat) (l1 : Int32) (l2 : Int32) (h : ZH), xX7_isApart_L2  nn l0 l1 l2 h = some r → z_W Γ p l e rmX7_isApart s m args below meth c 3 0 0 (MQ below (z_Qc Γ (some (.int r.1)) r.2) args s rmX7_isApart.cells rmX7_isApart.slots (z_A Γ)) 2 [(0, .ref l0), (1, .int l1), (2, .int l2)] [] h := by
  intro nn
  induction nn with
  | zero => intro l0 l1 l2 h hX; cases hX
  | succ nn ih => intro l0 l1 l2 h hX; exact wX7_isApart_B2 hO G hr hnm  ih l0 l1 l2 h hX
noncomputable def xX7_isApart (l0 : Nat) (l1 : Int32) (h : ZH) : Option (Int32 × ZH) := xX7_isApart_L2 zFU l0 l1 (0 : Int32) h
set_option maxHeartbeats 4000000 in
set_option maxRecDepth 100000 in
theorem lX7_isApart {Γ : ZG} {l : Launch} (hO : z_OK Γ) {l0 : Nat} {l1 : Int32} {h : ZH} {r : (Int32 × ZH)} (hX : xX7_isApart l0 l1 h = some r) : z_M Γ l yX7_isApart (z_ws1 yX7_isApart cX7_isApart 3 (some .boolean)) rmX7_isApart [.ref l0, .int l1] h (some (.int r.1)) r.2 := by
  refine z_start hO (plainFor_of_name (by decide)) (Nat.le_of_ble_eq_true rfl) ?_
  intro p e s m args below meth c G hr hnm
  refine z_lvc (lv2 := [(0, .ref l0), (1, .int l1)]) rfl ?_
  refine z_iconst (pc := 0) (v := 0) G dX7_isApart_0 (by decide) ?_
  refine z_istore_n (pc := 1) (lv2 := [(0, .ref l0), (1, .int l1), (2, .int (0 : Int32))]) G dX7_isApart_1 rfl (by decide) rfl rfl ?_
  exact wX7_isApart_L2 hO G hr hnm zFU _ _ _ _ hX
theorem dX7_fewestColours_0 : decode cX7_fewestColours 0 = .ok (.aload_n 0, 1) := by decide +kernel
theorem dX7_fewestColours_1 : decode cX7_fewestColours 1 = .ok (.getfield 18, 3) := by decide +kernel
theorem dX7_fewestColours_4 : decode cX7_fewestColours 4 = .ok (.iconst 0, 1) := by decide +kernel
theorem dX7_fewestColours_5 : decode cX7_fewestColours 5 = .ok (.iconst 0, 1) := by decide +kernel
theorem dX7_fewestColours_6 : decode cX7_fewestColours 6 = .ok (.iastore, 1) := by decide +kernel
theorem dX7_fewestColours_7 : decode cX7_fewestColours 7 = .ok (.iconst 1, 1) := by decide +kernel
theorem dX7_fewestColours_8 : decode cX7_fewestColours 8 = .ok (.istore_n 1, 1) := by decide +kernel
theorem dX7_fewestColours_9 : decode cX7_fewestColours 9 = .ok (.iload_n 1, 1) := by decide +kernel
theorem dX7_fewestColours_10 : decode cX7_fewestColours 10 = .ok (.bipush 64, 2) := by decide +kernel
theorem dX7_fewestColours_12 : decode cX7_fewestColours 12 = .ok (.if_icmp .ge 68, 3) := by decide +kernel
theorem dX7_fewestColours_15 : decode cX7_fewestColours 15 = .ok (.aload_n 0, 1) := by decide +kernel
theorem dX7_fewestColours_16 : decode cX7_fewestColours 16 = .ok (.getfield 18, 3) := by decide +kernel
theorem dX7_fewestColours_19 : decode cX7_fewestColours 19 = .ok (.iload_n 1, 1) := by decide +kernel
theorem dX7_fewestColours_20 : decode cX7_fewestColours 20 = .ok (.bipush 6, 2) := by decide +kernel
theorem dX7_fewestColours_22 : decode cX7_fewestColours 22 = .ok (.iastore, 1) := by decide +kernel
theorem dX7_fewestColours_23 : decode cX7_fewestColours 23 = .ok (.iload_n 1, 1) := by decide +kernel
theorem dX7_fewestColours_24 : decode cX7_fewestColours 24 = .ok (.istore_n 2, 1) := by decide +kernel
theorem dX7_fewestColours_25 : decode cX7_fewestColours 25 = .ok (.iload_n 2, 1) := by decide +kernel
theorem dX7_fewestColours_26 : decode cX7_fewestColours 26 = .ok (.ifCond .le 48, 3) := by decide +kernel
theorem dX7_fewestColours_29 : decode cX7_fewestColours 29 = .ok (.iconst 1, 1) := by decide +kernel
theorem dX7_fewestColours_30 : decode cX7_fewestColours 30 = .ok (.aload_n 0, 1) := by decide +kernel
theorem dX7_fewestColours_31 : decode cX7_fewestColours 31 = .ok (.getfield 18, 3) := by decide +kernel
theorem dX7_fewestColours_34 : decode cX7_fewestColours 34 = .ok (.iload_n 1, 1) := by decide +kernel
theorem dX7_fewestColours_35 : decode cX7_fewestColours 35 = .ok (.iload_n 2, 1) := by decide +kernel
theorem dX7_fewestColours_36 : decode cX7_fewestColours 36 = .ok (.ixor, 1) := by decide +kernel
theorem dX7_fewestColours_37 : decode cX7_fewestColours 37 = .ok (.iaload, 1) := by decide +kernel
theorem dX7_fewestColours_38 : decode cX7_fewestColours 38 = .ok (.iadd, 1) := by decide +kernel
theorem dX7_fewestColours_39 : decode cX7_fewestColours 39 = .ok (.istore_n 3, 1) := by decide +kernel
theorem dX7_fewestColours_40 : decode cX7_fewestColours 40 = .ok (.iload_n 3, 1) := by decide +kernel
theorem dX7_fewestColours_41 : decode cX7_fewestColours 41 = .ok (.aload_n 0, 1) := by decide +kernel
theorem dX7_fewestColours_42 : decode cX7_fewestColours 42 = .ok (.getfield 18, 3) := by decide +kernel
theorem dX7_fewestColours_45 : decode cX7_fewestColours 45 = .ok (.iload_n 1, 1) := by decide +kernel
theorem dX7_fewestColours_46 : decode cX7_fewestColours 46 = .ok (.iaload, 1) := by decide +kernel
theorem dX7_fewestColours_47 : decode cX7_fewestColours 47 = .ok (.if_icmp .ge 18, 3) := by decide +kernel
theorem dX7_fewestColours_50 : decode cX7_fewestColours 50 = .ok (.aload_n 0, 1) := by decide +kernel
theorem dX7_fewestColours_51 : decode cX7_fewestColours 51 = .ok (.iload_n 2, 1) := by decide +kernel
theorem dX7_fewestColours_52 : decode cX7_fewestColours 52 = .ok (.invokevirtual 42, 3) := by decide +kernel
theorem dX7_fewestColours_55 : decode cX7_fewestColours 55 = .ok (.ifCond .eq 10, 3) := by decide +kernel
theorem dX7_fewestColours_58 : decode cX7_fewestColours 58 = .ok (.aload_n 0, 1) := by decide +kernel
theorem dX7_fewestColours_59 : decode cX7_fewestColours 59 = .ok (.getfield 18, 3) := by decide +kernel
theorem dX7_fewestColours_62 : decode cX7_fewestColours 62 = .ok (.iload_n 1, 1) := by decide +kernel
theorem dX7_fewestColours_63 : decode cX7_fewestColours 63 = .ok (.iload_n 3, 1) := by decide +kernel
theorem dX7_fewestColours_64 : decode cX7_fewestColours 64 = .ok (.iastore, 1) := by decide +kernel
theorem dX7_fewestColours_65 : decode cX7_fewestColours 65 = .ok (.iload_n 2, 1) := by decide +kernel
theorem dX7_fewestColours_66 : decode cX7_fewestColours 66 = .ok (.iconst 1, 1) := by decide +kernel
theorem dX7_fewestColours_67 : decode cX7_fewestColours 67 = .ok (.isub, 1) := by decide +kernel
theorem dX7_fewestColours_68 : decode cX7_fewestColours 68 = .ok (.iload_n 1, 1) := by decide +kernel
theorem dX7_fewestColours_69 : decode cX7_fewestColours 69 = .ok (.iand, 1) := by decide +kernel
theorem dX7_fewestColours_70 : decode cX7_fewestColours 70 = .ok (.istore_n 2, 1) := by decide +kernel
theorem dX7_fewestColours_71 : decode cX7_fewestColours 71 = .ok (.goto (-46), 3) := by decide +kernel
theorem dX7_fewestColours_74 : decode cX7_fewestColours 74 = .ok (.iinc 1 1, 3) := by decide +kernel
theorem dX7_fewestColours_77 : decode cX7_fewestColours 77 = .ok (.goto (-68), 3) := by decide +kernel
theorem dX7_fewestColours_80 : decode cX7_fewestColours 80 = .ok (.aload_n 0, 1) := by decide +kernel
theorem dX7_fewestColours_81 : decode cX7_fewestColours 81 = .ok (.getfield 18, 3) := by decide +kernel
theorem dX7_fewestColours_84 : decode cX7_fewestColours 84 = .ok (.aload_n 0, 1) := by decide +kernel
theorem dX7_fewestColours_85 : decode cX7_fewestColours 85 = .ok (.getfield 27, 3) := by decide +kernel
theorem dX7_fewestColours_88 : decode cX7_fewestColours 88 = .ok (.iaload, 1) := by decide +kernel
theorem dX7_fewestColours_89 : decode cX7_fewestColours 89 = .ok (.ireturn, 1) := by decide +kernel
theorem ydX7_fewestColours : z_yd yX7_fewestColours 0 := ⟨by decide, by decide, by decide +kernel⟩
abbrev rmX7_fewestColours : Room := { frames := 1, cells := 0, slots := 0, locals := 22 }
noncomputable def xX7_fewestColours_B25 (r9 : Nat → Int32 → ZH → Option (Int32 × ZH)) (r25 : Nat → Int32 → Int32 → ZH → Option (Int32 × ZH)) (l0 : Nat) (l1 : Int32) (l2 : Int32) (h : ZH) : Option (Int32 × ZH) := (if l2 ≤ 0 then r9 l0 (l1 + 1) h else ((z_gR h l0 7 3).bind fun x31 => ((z_aI h x31 (l1 ^^^ l2)).bind fun x37 => ((z_gR h l0 7 3).bind fun x42 => ((z_aI h x42 l1).bind fun x46 => (if x46 ≤ ((1 : Int32) + x37) then r25 l0 l1 ((l2 - (1 : Int32)) &&& l1) h else (z_gu (z_is h l0 7) ((xX7_isApart l0 l2 h).bind fun r52 => (if r52.1 = 0 then r25 l0 l1 ((l2 - (1 : Int32)) &&& l1) r52.2 else ((z_gR r52.2 l0 7 3).bind fun x59 => ((z_uI r52.2 x59 l1 ((1 : Int32) + x37)).bind fun h64 => r25 l0 l1 ((l2 - (1 : Int32)) &&& l1) h64)))))))))))
noncomputable def xX7_fewestColours_L25 (r9 : Nat → Int32 → ZH → Option (Int32 × ZH)) (n : Nat) : Nat → Int32 → Int32 → ZH → Option (Int32 × ZH) := Nat.rec (motive := fun _ => Nat → Int32 → Int32 → ZH → Option (Int32 × ZH)) (fun _ _ _ _ => none) (fun _ rec => xX7_fewestColours_B25  r9 rec) n
set_option maxHeartbeats 4000000 in
set_option maxRecDepth 100000 in
theorem wX7_fewestColours_B25 {Γ : ZG} {p : Program} {l : Launch} {e : Env} {s : State} {m : MethodId} {args : Array Value} {below : List Frame} {meth : Method} {c : Code} (hO : z_OK Γ) (G : z_GG Γ p s m args meth c cX7_fewestColours 4 RX7) (hr : meth.sig.returnType = (some .int)) (hnm : meth.name = "fewestColours") {r : (Int32 × ZH)} {r9 : Nat → Int32 → ZH → Option (Int32 × ZH)} (H9 : ∀ (l0 : Nat) (l1 : Int32) (h : ZH), r9 l0 l1 h = some r → z_W Γ p l e rmX7_fewestColours s m args below meth c 4 0 0 (MQ below (z_Qc Γ (some (.int r.1)) r.2) args s rmX7_fewestColours.cells rmX7_fewestColours.slots (z_A Γ)) 9 [(0, .ref l0), (1, .int l1)] [] h) {r25 : Nat → Int32 → Int32 → ZH → Option (Int32 × ZH)} (H25 : ∀ (l0 : Nat) (l1 : Int32) (l2 : Int32) (h : ZH), r25 l0 l1 l2 h = some r → z_W Γ p l e rmX7_fewestColours s m args below meth c 4 0 0 (MQ below (z_Qc Γ (some (.int r.1)) r.2) args s rmX7_fewestColours.cells rmX7_fewestColours.slots (z_A Γ)) 25 [(0, .ref l0), (1, .int l1), (2, .int l2)] [] h) : ∀ (l0 : Nat) (l1 : Int32) (l2 : Int32) (h : ZH), xX7_fewestColours_B25  r9 r25 l0 l1 l2 h = some r → z_W Γ p l e rmX7_fewestColours s m args below meth c 4 0 0 (MQ below (z_Qc Γ (some (.int r.1)) r.2) args s rmX7_fewestColours.cells rmX7_fewestColours.slots (z_A Γ)) 25 [(0, .ref l0), (1, .int l1), (2, .int l2)] [] h := by
  intro l0 l1 l2 h hX
  refine z_iload_n (pc := 25) G 2 dX7_fewestColours_25 rfl rfl ?_
  refine z_if_le (pc := 26) (tgt := 74) G dX7_fewestColours_26 (by decide) (fun hc26 => ?_) (fun hc26 => ?_)
  · have hX := z_it hc26 hX
    refine z_iincw (pc := 74) (w := 1) (lv2 := [(0, .ref l0), (1, .int (l1 + 1)), (2, .int l2)]) G 1 dX7_fewestColours_74 rfl (by decide) (by decide) rfl rfl ?_
    refine z_goto (pc := 77) (tgt := 9) G dX7_fewestColours_77 (by decide) ?_
    refine z_drop (lv2 := [(0, .ref l0), (1, .int (l1 + 1))]) [0, 1] rfl ?_
    exact H9 _ _ _ hX
  · have hX := z_if hc26 hX
    refine z_iconst (pc := 29) (v := 1) G dX7_fewestColours_29 (by decide) ?_
    refine z_aload_n (pc := 30) G 0 dX7_fewestColours_30 rfl rfl ?_
    obtain ⟨x31, hv31, hX⟩ := z_bd hX
    refine z_getR (pc := 31) G kK7 (k := 3) (by decide) kt_332 dX7_fewestColours_31 hv31 ?_
    refine z_iload_n (pc := 34) G 1 dX7_fewestColours_34 rfl rfl ?_
    refine z_iload_n (pc := 35) G 2 dX7_fewestColours_35 rfl rfl ?_
    refine z_ixor (pc := 36) G dX7_fewestColours_36 ?_
    obtain ⟨x37, hv37, hX⟩ := z_bd hX
    refine z_iald (pc := 37) G dX7_fewestColours_37 hv37 ?_
    refine z_iadd (pc := 38) G dX7_fewestColours_38 ?_
    refine z_istore_n (pc := 39) (lv2 := [(0, .ref l0), (1, .int l1), (2, .int l2), (3, .int ((1 : Int32) + x37))]) G dX7_fewestColours_39 rfl (by decide) rfl rfl ?_
    refine z_iload_n (pc := 40) G 3 dX7_fewestColours_40 rfl rfl ?_
    refine z_aload_n (pc := 41) G 0 dX7_fewestColours_41 rfl rfl ?_
    obtain ⟨x42, hv42, hX⟩ := z_bd hX
    refine z_getR (pc := 42) G kK7 (k := 3) (by decide) kt_332 dX7_fewestColours_42 hv42 ?_
    refine z_iload_n (pc := 45) G 1 dX7_fewestColours_45 rfl rfl ?_
    obtain ⟨x46, hv46, hX⟩ := z_bd hX
    refine z_iald (pc := 46) G dX7_fewestColours_46 hv46 ?_
    refine z_icmp_ge (pc := 47) (tgt := 65) G dX7_fewestColours_47 (by decide) (fun hc47 => ?_) (fun hc47 => ?_)
    · have hX := z_it hc47 hX
      refine z_iload_n (pc := 65) G 2 dX7_fewestColours_65 rfl rfl ?_
      refine z_iconst (pc := 66) (v := 1) G dX7_fewestColours_66 (by decide) ?_
      refine z_isub (pc := 67) G dX7_fewestColours_67 ?_
      refine z_iload_n (pc := 68) G 1 dX7_fewestColours_68 rfl rfl ?_
      refine z_iand (pc := 69) G dX7_fewestColours_69 ?_
      refine z_istore_n (pc := 70) (lv2 := [(0, .ref l0), (1, .int l1), (2, .int ((l2 - (1 : Int32)) &&& l1)), (3, .int ((1 : Int32) + x37))]) G dX7_fewestColours_70 rfl (by decide) rfl rfl ?_
      refine z_goto (pc := 71) (tgt := 25) G dX7_fewestColours_71 (by decide) ?_
      refine z_drop (lv2 := [(0, .ref l0), (1, .int l1), (2, .int ((l2 - (1 : Int32)) &&& l1))]) [0, 1, 2] rfl ?_
      exact H25 _ _ _ _ hX
    · have hX := z_if hc47 hX
      refine z_aload_n (pc := 50) G 0 dX7_fewestColours_50 rfl rfl ?_
      refine z_iload_n (pc := 51) G 2 dX7_fewestColours_51 rfl rfl ?_
      obtain ⟨hi52, hX⟩ := z_gu_s hX
      obtain ⟨r52, hv52, hX⟩ := z_bd hX
      refine z_cVI (pc := 52) (As := [.int l2]) (c2 := 0) (s2 := 0) G kK7 (lX7_isApart hO hv52) hi52 kt_1032 kt_7 kt_1029 kt_1031 ks_27 ydX7_isApart ⟨by decide, by decide⟩ rfl (Nat.le_of_ble_eq_true rfl) ⟨rfl, rfl⟩ ⟨by decide, by decide⟩ rfl dX7_fewestColours_52 ?_
      refine z_if_eq (pc := 55) (tgt := 65) G dX7_fewestColours_55 (by decide) (fun hc55 => ?_) (fun hc55 => ?_)
      · have hX := z_it hc55 hX
        refine z_iload_n (pc := 65) G 2 dX7_fewestColours_65 rfl rfl ?_
        refine z_iconst (pc := 66) (v := 1) G dX7_fewestColours_66 (by decide) ?_
        refine z_isub (pc := 67) G dX7_fewestColours_67 ?_
        refine z_iload_n (pc := 68) G 1 dX7_fewestColours_68 rfl rfl ?_
        refine z_iand (pc := 69) G dX7_fewestColours_69 ?_
        refine z_istore_n (pc := 70) (lv2 := [(0, .ref l0), (1, .int l1), (2, .int ((l2 - (1 : Int32)) &&& l1)), (3, .int ((1 : Int32) + x37))]) G dX7_fewestColours_70 rfl (by decide) rfl rfl ?_
        refine z_goto (pc := 71) (tgt := 25) G dX7_fewestColours_71 (by decide) ?_
        refine z_drop (lv2 := [(0, .ref l0), (1, .int l1), (2, .int ((l2 - (1 : Int32)) &&& l1))]) [0, 1, 2] rfl ?_
        exact H25 _ _ _ _ hX
      · have hX := z_if hc55 hX
        refine z_aload_n (pc := 58) G 0 dX7_fewestColours_58 rfl rfl ?_
        obtain ⟨x59, hv59, hX⟩ := z_bd hX
        refine z_getR (pc := 59) G kK7 (k := 3) (by decide) kt_332 dX7_fewestColours_59 hv59 ?_
        refine z_iload_n (pc := 62) G 1 dX7_fewestColours_62 rfl rfl ?_
        refine z_iload_n (pc := 63) G 3 dX7_fewestColours_63 rfl rfl ?_
        obtain ⟨h64, hv64, hX⟩ := z_bd hX
        refine z_iast (pc := 64) G dX7_fewestColours_64 hv64 ?_
        refine z_iload_n (pc := 65) G 2 dX7_fewestColours_65 rfl rfl ?_
        refine z_iconst (pc := 66) (v := 1) G dX7_fewestColours_66 (by decide) ?_
        refine z_isub (pc := 67) G dX7_fewestColours_67 ?_
        refine z_iload_n (pc := 68) G 1 dX7_fewestColours_68 rfl rfl ?_
        refine z_iand (pc := 69) G dX7_fewestColours_69 ?_
        refine z_istore_n (pc := 70) (lv2 := [(0, .ref l0), (1, .int l1), (2, .int ((l2 - (1 : Int32)) &&& l1)), (3, .int ((1 : Int32) + x37))]) G dX7_fewestColours_70 rfl (by decide) rfl rfl ?_
        refine z_goto (pc := 71) (tgt := 25) G dX7_fewestColours_71 (by decide) ?_
        refine z_drop (lv2 := [(0, .ref l0), (1, .int l1), (2, .int ((l2 - (1 : Int32)) &&& l1))]) [0, 1, 2] rfl ?_
        exact H25 _ _ _ _ hX
set_option maxHeartbeats 4000000 in
set_option maxRecDepth 100000 in
theorem wX7_fewestColours_L25 {Γ : ZG} {p : Program} {l : Launch} {e : Env} {s : State} {m : MethodId} {args : Array Value} {below : List Frame} {meth : Method} {c : Code} (hO : z_OK Γ) (G : z_GG Γ p s m args meth c cX7_fewestColours 4 RX7) (hr : meth.sig.returnType = (some .int)) (hnm : meth.name = "fewestColours") {r : (Int32 × ZH)} {r9 : Nat → Int32 → ZH → Option (Int32 × ZH)} (H9 : ∀ (l0 : Nat) (l1 : Int32) (h : ZH), r9 l0 l1 h = some r → z_W Γ p l e rmX7_fewestColours s m args below meth c 4 0 0 (MQ below (z_Qc Γ (some (.int r.1)) r.2) args s rmX7_fewestColours.cells rmX7_fewestColours.slots (z_A Γ)) 9 [(0, .ref l0), (1, .int l1)] [] h) : ∀ (nn : Nat) (l0 : Nat) (l1 : Int32) (l2 : Int32) (h : ZH), xX7_fewestColours_L25  r9 nn l0 l1 l2 h = some r → z_W Γ p l e rmX7_fewestColours s m args below meth c 4 0 0 (MQ below (z_Qc Γ (some (.int r.1)) r.2) args s rmX7_fewestColours.cells rmX7_fewestColours.slots (z_A Γ)) 25 [(0, .ref l0), (1, .int l1), (2, .int l2)] [] h := by
  intro nn
  induction nn with
  | zero => intro l0 l1 l2 h hX; cases hX
  | succ nn ih => intro l0 l1 l2 h hX; exact wX7_fewestColours_B25 hO G hr hnm  H9 ih l0 l1 l2 h hX
noncomputable def xX7_fewestColours_B9 (r9 : Nat → Int32 → ZH → Option (Int32 × ZH)) (l0 : Nat) (l1 : Int32) (h : ZH) : Option (Int32 × ZH) := (if (64 : Int32) ≤ l1 then ((z_gR h l0 7 3).bind fun x81 => ((z_gI h l0 7 0).bind fun x85 => ((z_aI h x81 x85).bind fun x88 => some (x88, h)))) else ((z_gR h l0 7 3).bind fun x16 => ((z_uI h x16 l1 (6 : Int32)).bind fun h22 => xX7_fewestColours_L25 r9 zFU l0 l1 l1 h22)))
noncomputable def xX7_fewestColours_L9 (n : Nat) : Nat → Int32 → ZH → Option (Int32 × ZH) := Nat.rec (motive := fun _ => Nat → Int32 → ZH → Option (Int32 × ZH)) (fun _ _ _ => none) (fun _ rec => xX7_fewestColours_B9  rec) n
set_option maxHeartbeats 4000000 in
set_option maxRecDepth 100000 in
theorem wX7_fewestColours_B9 {Γ : ZG} {p : Program} {l : Launch} {e : Env} {s : State} {m : MethodId} {args : Array Value} {below : List Frame} {meth : Method} {c : Code} (hO : z_OK Γ) (G : z_GG Γ p s m args meth c cX7_fewestColours 4 RX7) (hr : meth.sig.returnType = (some .int)) (hnm : meth.name = "fewestColours") {r : (Int32 × ZH)} {r9 : Nat → Int32 → ZH → Option (Int32 × ZH)} (H9 : ∀ (l0 : Nat) (l1 : Int32) (h : ZH), r9 l0 l1 h = some r → z_W Γ p l e rmX7_fewestColours s m args below meth c 4 0 0 (MQ below (z_Qc Γ (some (.int r.1)) r.2) args s rmX7_fewestColours.cells rmX7_fewestColours.slots (z_A Γ)) 9 [(0, .ref l0), (1, .int l1)] [] h) : ∀ (l0 : Nat) (l1 : Int32) (h : ZH), xX7_fewestColours_B9  r9 l0 l1 h = some r → z_W Γ p l e rmX7_fewestColours s m args below meth c 4 0 0 (MQ below (z_Qc Γ (some (.int r.1)) r.2) args s rmX7_fewestColours.cells rmX7_fewestColours.slots (z_A Γ)) 9 [(0, .ref l0), (1, .int l1)] [] h := by
  intro l0 l1 h hX
  refine z_iload_n (pc := 9) G 1 dX7_fewestColours_9 rfl rfl ?_
  refine z_bipush (pc := 10) (v := 64) G dX7_fewestColours_10 (by decide) ?_
  refine z_icmp_ge (pc := 12) (tgt := 80) G dX7_fewestColours_12 (by decide) (fun hc12 => ?_) (fun hc12 => ?_)
  · have hX := z_it hc12 hX
    refine z_aload_n (pc := 80) G 0 dX7_fewestColours_80 rfl rfl ?_
    obtain ⟨x81, hv81, hX⟩ := z_bd hX
    refine z_getR (pc := 81) G kK7 (k := 3) (by decide) kt_332 dX7_fewestColours_81 hv81 ?_
    refine z_aload_n (pc := 84) G 0 dX7_fewestColours_84 rfl rfl ?_
    obtain ⟨x85, hv85, hX⟩ := z_bd hX
    refine z_getI (pc := 85) G kK7 (k := 0) (by decide) kt_329 dX7_fewestColours_85 hv85 ?_
    obtain ⟨x88, hv88, hX⟩ := z_bd hX
    refine z_iald (pc := 88) G dX7_fewestColours_88 hv88 ?_
    exact z_iretX (pc := 89) hX G hr dX7_fewestColours_89 (by decide) (by decide)
  · have hX := z_if hc12 hX
    refine z_aload_n (pc := 15) G 0 dX7_fewestColours_15 rfl rfl ?_
    obtain ⟨x16, hv16, hX⟩ := z_bd hX
    refine z_getR (pc := 16) G kK7 (k := 3) (by decide) kt_332 dX7_fewestColours_16 hv16 ?_
    refine z_iload_n (pc := 19) G 1 dX7_fewestColours_19 rfl rfl ?_
    refine z_bipush (pc := 20) (v := 6) G dX7_fewestColours_20 (by decide) ?_
    obtain ⟨h22, hv22, hX⟩ := z_bd hX
    refine z_iast (pc := 22) G dX7_fewestColours_22 hv22 ?_
    refine z_iload_n (pc := 23) G 1 dX7_fewestColours_23 rfl rfl ?_
    refine z_istore_n (pc := 24) (lv2 := [(0, .ref l0), (1, .int l1), (2, .int l1)]) G dX7_fewestColours_24 rfl (by decide) rfl rfl ?_
    exact wX7_fewestColours_L25 hO G hr hnm H9 zFU _ _ _ _ hX
set_option maxHeartbeats 4000000 in
set_option maxRecDepth 100000 in
theorem wX7_fewestColours_L9 {Γ : ZG} {p : Program} {l : Launch} {e : Env} {s : State} {m : MethodId} {args : Array Value} {below : List Frame} {meth : Method} {c : Code} (hO : z_OK Γ) (G : z_GG Γ p s m args meth c cX7_fewestColours 4 RX7) (hr : meth.sig.returnType = (some .int)) (hnm : meth.name = "fewestColours") {r : (Int32 × ZH)} : ∀ (nn : Nat) (l0 : Nat) (l1 : Int32) (h : ZH), xX7_fewestColours_L9  nn l0 l1 h = some r → z_W Γ p l e rmX7_fewestColours s m args below meth c 4 0 0 (MQ below (z_Qc Γ (some (.int r.1)) r.2) args s rmX7_fewestColours.cells rmX7_fewestColours.slots (z_A Γ)) 9 [(0, .ref l0), (1, .int l1)] [] h := by
  intro nn
  induction nn with
  | zero => intro l0 l1 h hX; cases hX
  | succ nn ih => intro l0 l1 h hX; exact wX7_fewestColours_B9 hO G hr hnm  ih l0 l1 h hX
noncomputable def xX7_fewestColours (l0 : Nat) (h : ZH) : Option (Int32 × ZH) := ((z_gR h l0 7 3).bind fun x1 => ((z_uI h x1 (0 : Int32) (0 : Int32)).bind fun h6 => xX7_fewestColours_L9 zFU l0 (1 : Int32) h6))
set_option maxHeartbeats 4000000 in
set_option maxRecDepth 100000 in
theorem lX7_fewestColours {Γ : ZG} {l : Launch} (hO : z_OK Γ) {l0 : Nat} {h : ZH} {r : (Int32 × ZH)} (hX : xX7_fewestColours l0 h = some r) : z_M Γ l yX7_fewestColours (z_ws1 yX7_fewestColours cX7_fewestColours 4 (some .int)) rmX7_fewestColours [.ref l0] h (some (.int r.1)) r.2 := by
  refine z_start hO (plainFor_of_name (by decide)) (Nat.le_of_ble_eq_true rfl) ?_
  intro p e s m args below meth c G hr hnm
  refine z_lvc (lv2 := [(0, .ref l0)]) rfl ?_
  refine z_aload_n (pc := 0) G 0 dX7_fewestColours_0 rfl rfl ?_
  obtain ⟨x1, hv1, hX⟩ := z_bd hX
  refine z_getR (pc := 1) G kK7 (k := 3) (by decide) kt_332 dX7_fewestColours_1 hv1 ?_
  refine z_iconst (pc := 4) (v := 0) G dX7_fewestColours_4 (by decide) ?_
  refine z_iconst (pc := 5) (v := 0) G dX7_fewestColours_5 (by decide) ?_
  obtain ⟨h6, hv6, hX⟩ := z_bd hX
  refine z_iast (pc := 6) G dX7_fewestColours_6 hv6 ?_
  refine z_iconst (pc := 7) (v := 1) G dX7_fewestColours_7 (by decide) ?_
  refine z_istore_n (pc := 8) (lv2 := [(0, .ref l0), (1, .int (1 : Int32))]) G dX7_fewestColours_8 rfl (by decide) rfl rfl ?_
  exact wX7_fewestColours_L9 hO G hr hnm zFU _ _ _ hX
theorem dX7_isCrowd_0 : decode cX7_isCrowd 0 = .ok (.iconst 0, 1) := by decide +kernel
theorem dX7_isCrowd_1 : decode cX7_isCrowd 1 = .ok (.istore_n 2, 1) := by decide +kernel
theorem dX7_isCrowd_2 : decode cX7_isCrowd 2 = .ok (.iload_n 2, 1) := by decide +kernel
theorem dX7_isCrowd_3 : decode cX7_isCrowd 3 = .ok (.bipush 6, 2) := by decide +kernel
theorem dX7_isCrowd_5 : decode cX7_isCrowd 5 = .ok (.if_icmp .ge 40, 3) := by decide +kernel
theorem dX7_isCrowd_8 : decode cX7_isCrowd 8 = .ok (.iload_n 1, 1) := by decide +kernel
theorem dX7_isCrowd_9 : decode cX7_isCrowd 9 = .ok (.iconst 1, 1) := by decide +kernel
theorem dX7_isCrowd_10 : decode cX7_isCrowd 10 = .ok (.iload_n 2, 1) := by decide +kernel
theorem dX7_isCrowd_11 : decode cX7_isCrowd 11 = .ok (.ishl, 1) := by decide +kernel
theorem dX7_isCrowd_12 : decode cX7_isCrowd 12 = .ok (.iconst (-1), 1) := by decide +kernel
theorem dX7_isCrowd_13 : decode cX7_isCrowd 13 = .ok (.ixor, 1) := by decide +kernel
theorem dX7_isCrowd_14 : decode cX7_isCrowd 14 = .ok (.iand, 1) := by decide +kernel
theorem dX7_isCrowd_15 : decode cX7_isCrowd 15 = .ok (.istore_n 3, 1) := by decide +kernel
theorem dX7_isCrowd_16 : decode cX7_isCrowd 16 = .ok (.iload_n 1, 1) := by decide +kernel
theorem dX7_isCrowd_17 : decode cX7_isCrowd 17 = .ok (.iload_n 2, 1) := by decide +kernel
theorem dX7_isCrowd_18 : decode cX7_isCrowd 18 = .ok (.ishr, 1) := by decide +kernel
theorem dX7_isCrowd_19 : decode cX7_isCrowd 19 = .ok (.iconst 1, 1) := by decide +kernel
theorem dX7_isCrowd_20 : decode cX7_isCrowd 20 = .ok (.iand, 1) := by decide +kernel
theorem dX7_isCrowd_21 : decode cX7_isCrowd 21 = .ok (.iconst 1, 1) := by decide +kernel
theorem dX7_isCrowd_22 : decode cX7_isCrowd 22 = .ok (.if_icmp .ne 17, 3) := by decide +kernel
theorem dX7_isCrowd_25 : decode cX7_isCrowd 25 = .ok (.aload_n 0, 1) := by decide +kernel
theorem dX7_isCrowd_26 : decode cX7_isCrowd 26 = .ok (.getfield 9, 3) := by decide +kernel
theorem dX7_isCrowd_29 : decode cX7_isCrowd 29 = .ok (.iload_n 2, 1) := by decide +kernel
theorem dX7_isCrowd_30 : decode cX7_isCrowd 30 = .ok (.iaload, 1) := by decide +kernel
theorem dX7_isCrowd_31 : decode cX7_isCrowd 31 = .ok (.iload_n 3, 1) := by decide +kernel
theorem dX7_isCrowd_32 : decode cX7_isCrowd 32 = .ok (.iand, 1) := by decide +kernel
theorem dX7_isCrowd_33 : decode cX7_isCrowd 33 = .ok (.iload_n 3, 1) := by decide +kernel
theorem dX7_isCrowd_34 : decode cX7_isCrowd 34 = .ok (.if_icmp .eq 5, 3) := by decide +kernel
theorem dX7_isCrowd_37 : decode cX7_isCrowd 37 = .ok (.iconst 0, 1) := by decide +kernel
theorem dX7_isCrowd_38 : decode cX7_isCrowd 38 = .ok (.ireturn, 1) := by decide +kernel
theorem dX7_isCrowd_39 : decode cX7_isCrowd 39 = .ok (.iinc 2 1, 3) := by decide +kernel
theorem dX7_isCrowd_42 : decode cX7_isCrowd 42 = .ok (.goto (-40), 3) := by decide +kernel
theorem dX7_isCrowd_45 : decode cX7_isCrowd 45 = .ok (.iconst 1, 1) := by decide +kernel
theorem dX7_isCrowd_46 : decode cX7_isCrowd 46 = .ok (.ireturn, 1) := by decide +kernel
theorem ydX7_isCrowd : z_yd yX7_isCrowd 1 := ⟨by decide, by decide, by decide +kernel⟩
abbrev rmX7_isCrowd : Room := { frames := 0, cells := 0, slots := 0, locals := 0 }
noncomputable def xX7_isCrowd_B2 (r2 : Nat → Int32 → Int32 → ZH → Option (Int32 × ZH)) (l0 : Nat) (l1 : Int32) (l2 : Int32) (h : ZH) : Option (Int32 × ZH) := (if (6 : Int32) ≤ l2 then some ((1 : Int32), h) else (if ((l1 >>> (l2 &&& 31)) &&& (1 : Int32)) = (1 : Int32) then ((z_gR h l0 7 1).bind fun x26 => ((z_aI h x26 l2).bind fun x30 => (if (x30 &&& (l1 &&& (((1 : Int32) <<< (l2 &&& 31)) ^^^ (-1 : Int32)))) = (l1 &&& (((1 : Int32) <<< (l2 &&& 31)) ^^^ (-1 : Int32))) then r2 l0 l1 (l2 + 1) h else some ((0 : Int32), h)))) else r2 l0 l1 (l2 + 1) h))
noncomputable def xX7_isCrowd_L2 (n : Nat) : Nat → Int32 → Int32 → ZH → Option (Int32 × ZH) := Nat.rec (motive := fun _ => Nat → Int32 → Int32 → ZH → Option (Int32 × ZH)) (fun _ _ _ _ => none) (fun _ rec => xX7_isCrowd_B2  rec) n
set_option maxHeartbeats 4000000 in
set_option maxRecDepth 100000 in
theorem wX7_isCrowd_B2 {Γ : ZG} {p : Program} {l : Launch} {e : Env} {s : State} {m : MethodId} {args : Array Value} {below : List Frame} {meth : Method} {c : Code} (hO : z_OK Γ) (G : z_GG Γ p s m args meth c cX7_isCrowd 4 RX7) (hr : meth.sig.returnType = (some .boolean)) (hnm : meth.name = "isCrowd") {r : (Int32 × ZH)} {r2 : Nat → Int32 → Int32 → ZH → Option (Int32 × ZH)} (H2 : ∀ (l0 : Nat) (l1 : Int32) (l2 : Int32) (h : ZH), r2 l0 l1 l2 h = some r → z_W Γ p l e rmX7_isCrowd s m args below meth c 4 0 0 (MQ below (z_Qc Γ (some (.int r.1)) r.2) args s rmX7_isCrowd.cells rmX7_isCrowd.slots (z_A Γ)) 2 [(0, .ref l0), (1, .int l1), (2, .int l2)] [] h) : ∀ (l0 : Nat) (l1 : Int32) (l2 : Int32) (h : ZH), xX7_isCrowd_B2  r2 l0 l1 l2 h = some r → z_W Γ p l e rmX7_isCrowd s m args below meth c 4 0 0 (MQ below (z_Qc Γ (some (.int r.1)) r.2) args s rmX7_isCrowd.cells rmX7_isCrowd.slots (z_A Γ)) 2 [(0, .ref l0), (1, .int l1), (2, .int l2)] [] h := by
  intro l0 l1 l2 h hX
  refine z_iload_n (pc := 2) G 2 dX7_isCrowd_2 rfl rfl ?_
  refine z_bipush (pc := 3) (v := 6) G dX7_isCrowd_3 (by decide) ?_
  refine z_icmp_ge (pc := 5) (tgt := 45) G dX7_isCrowd_5 (by decide) (fun hc5 => ?_) (fun hc5 => ?_)
  · have hX := z_it hc5 hX
    refine z_iconst (pc := 45) (v := 1) G dX7_isCrowd_45 (by decide) ?_
    exact z_zretX (pc := 46) hX G hr rfl dX7_isCrowd_46 (by decide) (by decide)
  · have hX := z_if hc5 hX
    refine z_iload_n (pc := 8) G 1 dX7_isCrowd_8 rfl rfl ?_
    refine z_iconst (pc := 9) (v := 1) G dX7_isCrowd_9 (by decide) ?_
    refine z_iload_n (pc := 10) G 2 dX7_isCrowd_10 rfl rfl ?_
    refine z_ishl (pc := 11) G dX7_isCrowd_11 ?_
    refine z_iconst (pc := 12) (v := (-1)) G dX7_isCrowd_12 (by decide) ?_
    refine z_ixor (pc := 13) G dX7_isCrowd_13 ?_
    refine z_iand (pc := 14) G dX7_isCrowd_14 ?_
    refine z_istore_n (pc := 15) (lv2 := [(0, .ref l0), (1, .int l1), (2, .int l2), (3, .int (l1 &&& (((1 : Int32) <<< (l2 &&& 31)) ^^^ (-1 : Int32))))]) G dX7_isCrowd_15 rfl (by decide) rfl rfl ?_
    refine z_iload_n (pc := 16) G 1 dX7_isCrowd_16 rfl rfl ?_
    refine z_iload_n (pc := 17) G 2 dX7_isCrowd_17 rfl rfl ?_
    refine z_ishr (pc := 18) G dX7_isCrowd_18 ?_
    refine z_iconst (pc := 19) (v := 1) G dX7_isCrowd_19 (by decide) ?_
    refine z_iand (pc := 20) G dX7_isCrowd_20 ?_
    refine z_iconst (pc := 21) (v := 1) G dX7_isCrowd_21 (by decide) ?_
    refine z_icmp_ne (pc := 22) (tgt := 39) G dX7_isCrowd_22 (by decide) (fun hc22 => ?_) (fun hc22 => ?_)
    · have hX := z_if hc22 hX
      refine z_iincw (pc := 39) (w := 1) (lv2 := [(0, .ref l0), (1, .int l1), (2, .int (l2 + 1)), (3, .int (l1 &&& (((1 : Int32) <<< (l2 &&& 31)) ^^^ (-1 : Int32))))]) G 2 dX7_isCrowd_39 rfl (by decide) (by decide) rfl rfl ?_
      refine z_goto (pc := 42) (tgt := 2) G dX7_isCrowd_42 (by decide) ?_
      refine z_drop (lv2 := [(0, .ref l0), (1, .int l1), (2, .int (l2 + 1))]) [0, 1, 2] rfl ?_
      exact H2 _ _ _ _ hX
    · have hX := z_it hc22 hX
      refine z_aload_n (pc := 25) G 0 dX7_isCrowd_25 rfl rfl ?_
      obtain ⟨x26, hv26, hX⟩ := z_bd hX
      refine z_getR (pc := 26) G kK7 (k := 1) (by decide) kt_330 dX7_isCrowd_26 hv26 ?_
      refine z_iload_n (pc := 29) G 2 dX7_isCrowd_29 rfl rfl ?_
      obtain ⟨x30, hv30, hX⟩ := z_bd hX
      refine z_iald (pc := 30) G dX7_isCrowd_30 hv30 ?_
      refine z_iload_n (pc := 31) G 3 dX7_isCrowd_31 rfl rfl ?_
      refine z_iand (pc := 32) G dX7_isCrowd_32 ?_
      refine z_iload_n (pc := 33) G 3 dX7_isCrowd_33 rfl rfl ?_
      refine z_icmp_eq (pc := 34) (tgt := 39) G dX7_isCrowd_34 (by decide) (fun hc34 => ?_) (fun hc34 => ?_)
      · have hX := z_it hc34 hX
        refine z_iincw (pc := 39) (w := 1) (lv2 := [(0, .ref l0), (1, .int l1), (2, .int (l2 + 1)), (3, .int (l1 &&& (((1 : Int32) <<< (l2 &&& 31)) ^^^ (-1 : Int32))))]) G 2 dX7_isCrowd_39 rfl (by decide) (by decide) rfl rfl ?_
        refine z_goto (pc := 42) (tgt := 2) G dX7_isCrowd_42 (by decide) ?_
        refine z_drop (lv2 := [(0, .ref l0), (1, .int l1), (2, .int (l2 + 1))]) [0, 1, 2] rfl ?_
        exact H2 _ _ _ _ hX
      · have hX := z_if hc34 hX
        refine z_iconst (pc := 37) (v := 0) G dX7_isCrowd_37 (by decide) ?_
        exact z_zretX (pc := 38) hX G hr rfl dX7_isCrowd_38 (by decide) (by decide)
set_option maxHeartbeats 4000000 in
set_option maxRecDepth 100000 in
theorem wX7_isCrowd_L2 {Γ : ZG} {p : Program} {l : Launch} {e : Env} {s : State} {m : MethodId} {args : Array Value} {below : List Frame} {meth : Method} {c : Code} (hO : z_OK Γ) (G : z_GG Γ p s m args meth c cX7_isCrowd 4 RX7) (hr : meth.sig.returnType = (some .boolean)) (hnm : meth.name = "isCrowd") {r : (Int32 × ZH)} : ∀ (nn : Nat) (l0 : Nat) (l1 : Int32) (l2 : Int32) (h : ZH), xX7_isCrowd_L2  nn l0 l1 l2 h = some r → z_W Γ p l e rmX7_isCrowd s m args below meth c 4 0 0 (MQ below (z_Qc Γ (some (.int r.1)) r.2) args s rmX7_isCrowd.cells rmX7_isCrowd.slots (z_A Γ)) 2 [(0, .ref l0), (1, .int l1), (2, .int l2)] [] h := by
  intro nn
  induction nn with
  | zero => intro l0 l1 l2 h hX; cases hX
  | succ nn ih => intro l0 l1 l2 h hX; exact wX7_isCrowd_B2 hO G hr hnm  ih l0 l1 l2 h hX
noncomputable def xX7_isCrowd (l0 : Nat) (l1 : Int32) (h : ZH) : Option (Int32 × ZH) := xX7_isCrowd_L2 zFU l0 l1 (0 : Int32) h
set_option maxHeartbeats 4000000 in
set_option maxRecDepth 100000 in
theorem lX7_isCrowd {Γ : ZG} {l : Launch} (hO : z_OK Γ) {l0 : Nat} {l1 : Int32} {h : ZH} {r : (Int32 × ZH)} (hX : xX7_isCrowd l0 l1 h = some r) : z_M Γ l yX7_isCrowd (z_ws1 yX7_isCrowd cX7_isCrowd 4 (some .boolean)) rmX7_isCrowd [.ref l0, .int l1] h (some (.int r.1)) r.2 := by
  refine z_start hO (plainFor_of_name (by decide)) (Nat.le_of_ble_eq_true rfl) ?_
  intro p e s m args below meth c G hr hnm
  refine z_lvc (lv2 := [(0, .ref l0), (1, .int l1)]) rfl ?_
  refine z_iconst (pc := 0) (v := 0) G dX7_isCrowd_0 (by decide) ?_
  refine z_istore_n (pc := 1) (lv2 := [(0, .ref l0), (1, .int l1), (2, .int (0 : Int32))]) G dX7_isCrowd_1 rfl (by decide) rfl rfl ?_
  exact wX7_isCrowd_L2 hO G hr hnm zFU _ _ _ _ hX
theorem dX7_largestCrowd_0 : decode cX7_largestCrowd 0 = .ok (.iconst 0, 1) := by decide +kernel
theorem dX7_largestCrowd_1 : decode cX7_largestCrowd 1 = .ok (.istore_n 1, 1) := by decide +kernel
theorem dX7_largestCrowd_2 : decode cX7_largestCrowd 2 = .ok (.iconst 1, 1) := by decide +kernel
theorem dX7_largestCrowd_3 : decode cX7_largestCrowd 3 = .ok (.istore_n 2, 1) := by decide +kernel
theorem dX7_largestCrowd_4 : decode cX7_largestCrowd 4 = .ok (.iload_n 2, 1) := by decide +kernel
theorem dX7_largestCrowd_5 : decode cX7_largestCrowd 5 = .ok (.bipush 64, 2) := by decide +kernel
theorem dX7_largestCrowd_7 : decode cX7_largestCrowd 7 = .ok (.if_icmp .ge 50, 3) := by decide +kernel
theorem dX7_largestCrowd_10 : decode cX7_largestCrowd 10 = .ok (.iload_n 2, 1) := by decide +kernel
theorem dX7_largestCrowd_11 : decode cX7_largestCrowd 11 = .ok (.aload_n 0, 1) := by decide +kernel
theorem dX7_largestCrowd_12 : decode cX7_largestCrowd 12 = .ok (.getfield 27, 3) := by decide +kernel
theorem dX7_largestCrowd_15 : decode cX7_largestCrowd 15 = .ok (.iand, 1) := by decide +kernel
theorem dX7_largestCrowd_16 : decode cX7_largestCrowd 16 = .ok (.iload_n 2, 1) := by decide +kernel
theorem dX7_largestCrowd_17 : decode cX7_largestCrowd 17 = .ok (.if_icmp .ne 7, 3) := by decide +kernel
theorem dX7_largestCrowd_20 : decode cX7_largestCrowd 20 = .ok (.iconst 1, 1) := by decide +kernel
theorem dX7_largestCrowd_21 : decode cX7_largestCrowd 21 = .ok (.goto 4, 3) := by decide +kernel
theorem dX7_largestCrowd_24 : decode cX7_largestCrowd 24 = .ok (.iconst 0, 1) := by decide +kernel
theorem dX7_largestCrowd_25 : decode cX7_largestCrowd 25 = .ok (.istore_n 3, 1) := by decide +kernel
theorem dX7_largestCrowd_26 : decode cX7_largestCrowd 26 = .ok (.iload_n 3, 1) := by decide +kernel
theorem dX7_largestCrowd_27 : decode cX7_largestCrowd 27 = .ok (.ifCond .eq 24, 3) := by decide +kernel
theorem dX7_largestCrowd_30 : decode cX7_largestCrowd 30 = .ok (.iload_n 2, 1) := by decide +kernel
theorem dX7_largestCrowd_31 : decode cX7_largestCrowd 31 = .ok (.invokestatic 46, 3) := by decide +kernel
theorem dX7_largestCrowd_34 : decode cX7_largestCrowd 34 = .ok (.iload_n 1, 1) := by decide +kernel
theorem dX7_largestCrowd_35 : decode cX7_largestCrowd 35 = .ok (.invokestatic 46, 3) := by decide +kernel
theorem dX7_largestCrowd_38 : decode cX7_largestCrowd 38 = .ok (.if_icmp .le 13, 3) := by decide +kernel
theorem dX7_largestCrowd_41 : decode cX7_largestCrowd 41 = .ok (.aload_n 0, 1) := by decide +kernel
theorem dX7_largestCrowd_42 : decode cX7_largestCrowd 42 = .ok (.iload_n 2, 1) := by decide +kernel
theorem dX7_largestCrowd_43 : decode cX7_largestCrowd 43 = .ok (.invokevirtual 52, 3) := by decide +kernel
theorem dX7_largestCrowd_46 : decode cX7_largestCrowd 46 = .ok (.ifCond .eq 5, 3) := by decide +kernel
theorem dX7_largestCrowd_49 : decode cX7_largestCrowd 49 = .ok (.iload_n 2, 1) := by decide +kernel
theorem dX7_largestCrowd_50 : decode cX7_largestCrowd 50 = .ok (.istore_n 1, 1) := by decide +kernel
theorem dX7_largestCrowd_51 : decode cX7_largestCrowd 51 = .ok (.iinc 2 1, 3) := by decide +kernel
theorem dX7_largestCrowd_54 : decode cX7_largestCrowd 54 = .ok (.goto (-50), 3) := by decide +kernel
theorem dX7_largestCrowd_57 : decode cX7_largestCrowd 57 = .ok (.iload_n 1, 1) := by decide +kernel
theorem dX7_largestCrowd_58 : decode cX7_largestCrowd 58 = .ok (.ireturn, 1) := by decide +kernel
theorem ydX7_largestCrowd : z_yd yX7_largestCrowd 0 := ⟨by decide, by decide, by decide +kernel⟩
abbrev rmX7_largestCrowd : Room := { frames := 1, cells := 0, slots := 0, locals := 23 }
noncomputable def xX7_largestCrowd_B25 (r4 : Nat → Int32 → Int32 → ZH → Option (Int32 × ZH)) (l0 : Nat) (l1 : Int32) (l2 : Int32) (s0 : Int32) (h : ZH) : Option (Int32 × ZH) := (if s0 = 0 then r4 l0 l1 (l2 + 1) h else ((xJ6_bitCount_0f7a4 l2 h).bind fun r31 => ((xJ6_bitCount_0f7a4 l1 r31.2).bind fun r35 => (if r31.1 ≤ r35.1 then r4 l0 l1 (l2 + 1) r35.2 else (z_gu (z_is r35.2 l0 7) ((xX7_isCrowd l0 l2 r35.2).bind fun r43 => (if r43.1 = 0 then r4 l0 l1 (l2 + 1) r43.2 else r4 l0 l2 (l2 + 1) r43.2)))))))
set_option maxHeartbeats 4000000 in
set_option maxRecDepth 100000 in
theorem wX7_largestCrowd_B25 {Γ : ZG} {p : Program} {l : Launch} {e : Env} {s : State} {m : MethodId} {args : Array Value} {below : List Frame} {meth : Method} {c : Code} (hO : z_OK Γ) (G : z_GG Γ p s m args meth c cX7_largestCrowd 4 RX7) (hr : meth.sig.returnType = (some .int)) (hnm : meth.name = "largestCrowd") {r : (Int32 × ZH)} {r4 : Nat → Int32 → Int32 → ZH → Option (Int32 × ZH)} (H4 : ∀ (l0 : Nat) (l1 : Int32) (l2 : Int32) (h : ZH), r4 l0 l1 l2 h = some r → z_W Γ p l e rmX7_largestCrowd s m args below meth c 4 0 0 (MQ below (z_Qc Γ (some (.int r.1)) r.2) args s rmX7_largestCrowd.cells rmX7_largestCrowd.slots (z_A Γ)) 4 [(0, .ref l0), (1, .int l1), (2, .int l2)] [] h) : ∀ (l0 : Nat) (l1 : Int32) (l2 : Int32) (s0 : Int32) (h : ZH), xX7_largestCrowd_B25  r4 l0 l1 l2 s0 h = some r → z_W Γ p l e rmX7_largestCrowd s m args below meth c 4 0 0 (MQ below (z_Qc Γ (some (.int r.1)) r.2) args s rmX7_largestCrowd.cells rmX7_largestCrowd.slots (z_A Γ)) 25 [(0, .ref l0), (1, .int l1), (2, .int l2)] [.int s0] h := by
  intro l0 l1 l2 s0 h hX
  refine z_istore_n (pc := 25) (lv2 := [(0, .ref l0), (1, .int l1), (2, .int l2), (3, .int s0)]) G dX7_largestCrowd_25 rfl (by decide) rfl rfl ?_
  refine z_iload_n (pc := 26) G 3 dX7_largestCrowd_26 rfl rfl ?_
  refine z_if_eq (pc := 27) (tgt := 51) G dX7_largestCrowd_27 (by decide) (fun hc27 => ?_) (fun hc27 => ?_)
  · have hX := z_it hc27 hX
    refine z_iincw (pc := 51) (w := 1) (lv2 := [(0, .ref l0), (1, .int l1), (2, .int (l2 + 1)), (3, .int s0)]) G 2 dX7_largestCrowd_51 rfl (by decide) (by decide) rfl rfl ?_
    refine z_goto (pc := 54) (tgt := 4) G dX7_largestCrowd_54 (by decide) ?_
    refine z_drop (lv2 := [(0, .ref l0), (1, .int l1), (2, .int (l2 + 1))]) [0, 1, 2] rfl ?_
    exact H4 _ _ _ _ hX
  · have hX := z_if hc27 hX
    refine z_iload_n (pc := 30) G 2 dX7_largestCrowd_30 rfl rfl ?_
    obtain ⟨r31, hv31, hX⟩ := z_bd hX
    refine z_cSI (pc := 31) (As := [.int l2]) (c2 := 0) (s2 := 0) G (lJ6_bitCount_0f7a4 hO hv31) kt_751 kt_18 kt_1041 kt_750 ydJ6_bitCount_0f7a4 ⟨by decide, by decide⟩ rfl (Nat.le_of_ble_eq_true rfl) ⟨rfl, rfl⟩ ⟨by decide, by decide⟩ rfl dX7_largestCrowd_31 ?_
    refine z_iload_n (pc := 34) G 1 dX7_largestCrowd_34 rfl rfl ?_
    obtain ⟨r35, hv35, hX⟩ := z_bd hX
    refine z_cSI (pc := 35) (As := [.int l1]) (c2 := 0) (s2 := 0) G (lJ6_bitCount_0f7a4 hO hv35) kt_751 kt_18 kt_1041 kt_750 ydJ6_bitCount_0f7a4 ⟨by decide, by decide⟩ rfl (Nat.le_of_ble_eq_true rfl) ⟨rfl, rfl⟩ ⟨by decide, by decide⟩ rfl dX7_largestCrowd_35 ?_
    refine z_icmp_le (pc := 38) (tgt := 51) G dX7_largestCrowd_38 (by decide) (fun hc38 => ?_) (fun hc38 => ?_)
    · have hX := z_it hc38 hX
      refine z_iincw (pc := 51) (w := 1) (lv2 := [(0, .ref l0), (1, .int l1), (2, .int (l2 + 1)), (3, .int s0)]) G 2 dX7_largestCrowd_51 rfl (by decide) (by decide) rfl rfl ?_
      refine z_goto (pc := 54) (tgt := 4) G dX7_largestCrowd_54 (by decide) ?_
      refine z_drop (lv2 := [(0, .ref l0), (1, .int l1), (2, .int (l2 + 1))]) [0, 1, 2] rfl ?_
      exact H4 _ _ _ _ hX
    · have hX := z_if hc38 hX
      refine z_aload_n (pc := 41) G 0 dX7_largestCrowd_41 rfl rfl ?_
      refine z_iload_n (pc := 42) G 2 dX7_largestCrowd_42 rfl rfl ?_
      obtain ⟨hi43, hX⟩ := z_gu_s hX
      obtain ⟨r43, hv43, hX⟩ := z_bd hX
      refine z_cVI (pc := 43) (As := [.int l2]) (c2 := 0) (s2 := 0) G kK7 (lX7_isCrowd hO hv43) hi43 kt_1045 kt_7 kt_1042 kt_1044 ks_28 ydX7_isCrowd ⟨by decide, by decide⟩ rfl (Nat.le_of_ble_eq_true rfl) ⟨rfl, rfl⟩ ⟨by decide, by decide⟩ rfl dX7_largestCrowd_43 ?_
      refine z_if_eq (pc := 46) (tgt := 51) G dX7_largestCrowd_46 (by decide) (fun hc46 => ?_) (fun hc46 => ?_)
      · have hX := z_it hc46 hX
        refine z_iincw (pc := 51) (w := 1) (lv2 := [(0, .ref l0), (1, .int l1), (2, .int (l2 + 1)), (3, .int s0)]) G 2 dX7_largestCrowd_51 rfl (by decide) (by decide) rfl rfl ?_
        refine z_goto (pc := 54) (tgt := 4) G dX7_largestCrowd_54 (by decide) ?_
        refine z_drop (lv2 := [(0, .ref l0), (1, .int l1), (2, .int (l2 + 1))]) [0, 1, 2] rfl ?_
        exact H4 _ _ _ _ hX
      · have hX := z_if hc46 hX
        refine z_iload_n (pc := 49) G 2 dX7_largestCrowd_49 rfl rfl ?_
        refine z_istore_n (pc := 50) (lv2 := [(0, .ref l0), (1, .int l2), (2, .int l2), (3, .int s0)]) G dX7_largestCrowd_50 rfl (by decide) rfl rfl ?_
        refine z_iincw (pc := 51) (w := 1) (lv2 := [(0, .ref l0), (1, .int l2), (2, .int (l2 + 1)), (3, .int s0)]) G 2 dX7_largestCrowd_51 rfl (by decide) (by decide) rfl rfl ?_
        refine z_goto (pc := 54) (tgt := 4) G dX7_largestCrowd_54 (by decide) ?_
        refine z_drop (lv2 := [(0, .ref l0), (1, .int l2), (2, .int (l2 + 1))]) [0, 1, 2] rfl ?_
        exact H4 _ _ _ _ hX
noncomputable def xX7_largestCrowd_B4 (r4 : Nat → Int32 → Int32 → ZH → Option (Int32 × ZH)) (l0 : Nat) (l1 : Int32) (l2 : Int32) (h : ZH) : Option (Int32 × ZH) := (if (64 : Int32) ≤ l2 then some (l1, h) else ((z_gI h l0 7 0).bind fun x12 => (if (l2 &&& x12) = l2 then xX7_largestCrowd_B25 r4 l0 l1 l2 (1 : Int32) h else xX7_largestCrowd_B25 r4 l0 l1 l2 (0 : Int32) h)))
noncomputable def xX7_largestCrowd_L4 (n : Nat) : Nat → Int32 → Int32 → ZH → Option (Int32 × ZH) := Nat.rec (motive := fun _ => Nat → Int32 → Int32 → ZH → Option (Int32 × ZH)) (fun _ _ _ _ => none) (fun _ rec => xX7_largestCrowd_B4  rec) n
set_option maxHeartbeats 4000000 in
set_option maxRecDepth 100000 in
theorem wX7_largestCrowd_B4 {Γ : ZG} {p : Program} {l : Launch} {e : Env} {s : State} {m : MethodId} {args : Array Value} {below : List Frame} {meth : Method} {c : Code} (hO : z_OK Γ) (G : z_GG Γ p s m args meth c cX7_largestCrowd 4 RX7) (hr : meth.sig.returnType = (some .int)) (hnm : meth.name = "largestCrowd") {r : (Int32 × ZH)} {r4 : Nat → Int32 → Int32 → ZH → Option (Int32 × ZH)} (H4 : ∀ (l0 : Nat) (l1 : Int32) (l2 : Int32) (h : ZH), r4 l0 l1 l2 h = some r → z_W Γ p l e rmX7_largestCrowd s m args below meth c 4 0 0 (MQ below (z_Qc Γ (some (.int r.1)) r.2) args s rmX7_largestCrowd.cells rmX7_largestCrowd.slots (z_A Γ)) 4 [(0, .ref l0), (1, .int l1), (2, .int l2)] [] h) : ∀ (l0 : Nat) (l1 : Int32) (l2 : Int32) (h : ZH), xX7_largestCrowd_B4  r4 l0 l1 l2 h = some r → z_W Γ p l e rmX7_largestCrowd s m args below meth c 4 0 0 (MQ below (z_Qc Γ (some (.int r.1)) r.2) args s rmX7_largestCrowd.cells rmX7_largestCrowd.slots (z_A Γ)) 4 [(0, .ref l0), (1, .int l1), (2, .int l2)] [] h := by
  intro l0 l1 l2 h hX
  refine z_iload_n (pc := 4) G 2 dX7_largestCrowd_4 rfl rfl ?_
  refine z_bipush (pc := 5) (v := 64) G dX7_largestCrowd_5 (by decide) ?_
  refine z_icmp_ge (pc := 7) (tgt := 57) G dX7_largestCrowd_7 (by decide) (fun hc7 => ?_) (fun hc7 => ?_)
  · have hX := z_it hc7 hX
    refine z_iload_n (pc := 57) G 1 dX7_largestCrowd_57 rfl rfl ?_
    exact z_iretX (pc := 58) hX G hr dX7_largestCrowd_58 (by decide) (by decide)
  · have hX := z_if hc7 hX
    refine z_iload_n (pc := 10) G 2 dX7_largestCrowd_10 rfl rfl ?_
    refine z_aload_n (pc := 11) G 0 dX7_largestCrowd_11 rfl rfl ?_
    obtain ⟨x12, hv12, hX⟩ := z_bd hX
    refine z_getI (pc := 12) G kK7 (k := 0) (by decide) kt_329 dX7_largestCrowd_12 hv12 ?_
    refine z_iand (pc := 15) G dX7_largestCrowd_15 ?_
    refine z_iload_n (pc := 16) G 2 dX7_largestCrowd_16 rfl rfl ?_
    refine z_icmp_ne (pc := 17) (tgt := 24) G dX7_largestCrowd_17 (by decide) (fun hc17 => ?_) (fun hc17 => ?_)
    · have hX := z_if hc17 hX
      refine z_iconst (pc := 24) (v := 0) G dX7_largestCrowd_24 (by decide) ?_
      exact wX7_largestCrowd_B25 hO G hr hnm H4 _ _ _ _ _ hX
    · have hX := z_it hc17 hX
      refine z_iconst (pc := 20) (v := 1) G dX7_largestCrowd_20 (by decide) ?_
      refine z_goto (pc := 21) (tgt := 25) G dX7_largestCrowd_21 (by decide) ?_
      exact wX7_largestCrowd_B25 hO G hr hnm H4 _ _ _ _ _ hX
set_option maxHeartbeats 4000000 in
set_option maxRecDepth 100000 in
theorem wX7_largestCrowd_L4 {Γ : ZG} {p : Program} {l : Launch} {e : Env} {s : State} {m : MethodId} {args : Array Value} {below : List Frame} {meth : Method} {c : Code} (hO : z_OK Γ) (G : z_GG Γ p s m args meth c cX7_largestCrowd 4 RX7) (hr : meth.sig.returnType = (some .int)) (hnm : meth.name = "largestCrowd") {r : (Int32 × ZH)} : ∀ (nn : Nat) (l0 : Nat) (l1 : Int32) (l2 : Int32) (h : ZH), xX7_largestCrowd_L4  nn l0 l1 l2 h = some r → z_W Γ p l e rmX7_largestCrowd s m args below meth c 4 0 0 (MQ below (z_Qc Γ (some (.int r.1)) r.2) args s rmX7_largestCrowd.cells rmX7_largestCrowd.slots (z_A Γ)) 4 [(0, .ref l0), (1, .int l1), (2, .int l2)] [] h := by
  intro nn
  induction nn with
  | zero => intro l0 l1 l2 h hX; cases hX
  | succ nn ih => intro l0 l1 l2 h hX; exact wX7_largestCrowd_B4 hO G hr hnm  ih l0 l1 l2 h hX
noncomputable def xX7_largestCrowd (l0 : Nat) (h : ZH) : Option (Int32 × ZH) := xX7_largestCrowd_L4 zFU l0 (0 : Int32) (1 : Int32) h
set_option maxHeartbeats 4000000 in
set_option maxRecDepth 100000 in
theorem lX7_largestCrowd {Γ : ZG} {l : Launch} (hO : z_OK Γ) {l0 : Nat} {h : ZH} {r : (Int32 × ZH)} (hX : xX7_largestCrowd l0 h = some r) : z_M Γ l yX7_largestCrowd (z_ws1 yX7_largestCrowd cX7_largestCrowd 4 (some .int)) rmX7_largestCrowd [.ref l0] h (some (.int r.1)) r.2 := by
  refine z_start hO (plainFor_of_name (by decide)) (Nat.le_of_ble_eq_true rfl) ?_
  intro p e s m args below meth c G hr hnm
  refine z_lvc (lv2 := [(0, .ref l0)]) rfl ?_
  refine z_iconst (pc := 0) (v := 0) G dX7_largestCrowd_0 (by decide) ?_
  refine z_istore_n (pc := 1) (lv2 := [(0, .ref l0), (1, .int (0 : Int32))]) G dX7_largestCrowd_1 rfl (by decide) rfl rfl ?_
  refine z_iconst (pc := 2) (v := 1) G dX7_largestCrowd_2 (by decide) ?_
  refine z_istore_n (pc := 3) (lv2 := [(0, .ref l0), (1, .int (0 : Int32)), (2, .int (1 : Int32))]) G dX7_largestCrowd_3 rfl (by decide) rfl rfl ?_
  exact wX7_largestCrowd_L4 hO G hr hnm zFU _ _ _ _ hX
theorem dX7_allHangingOn_0 : decode cX7_allHangingOn 0 = .ok (.iconst 1, 1) := by decide +kernel
theorem dX7_allHangingOn_1 : decode cX7_allHangingOn 1 = .ok (.iload_n 1, 1) := by decide +kernel
theorem dX7_allHangingOn_2 : decode cX7_allHangingOn 2 = .ok (.ishl, 1) := by decide +kernel
theorem dX7_allHangingOn_3 : decode cX7_allHangingOn 3 = .ok (.istore_n 2, 1) := by decide +kernel
theorem dX7_allHangingOn_4 : decode cX7_allHangingOn 4 = .ok (.iconst 0, 1) := by decide +kernel
theorem dX7_allHangingOn_5 : decode cX7_allHangingOn 5 = .ok (.istore_n 3, 1) := by decide +kernel
theorem dX7_allHangingOn_6 : decode cX7_allHangingOn 6 = .ok (.iload_n 3, 1) := by decide +kernel
theorem dX7_allHangingOn_7 : decode cX7_allHangingOn 7 = .ok (.bipush 6, 2) := by decide +kernel
theorem dX7_allHangingOn_9 : decode cX7_allHangingOn 9 = .ok (.if_icmp .ge 45, 3) := by decide +kernel
theorem dX7_allHangingOn_12 : decode cX7_allHangingOn 12 = .ok (.iconst 0, 1) := by decide +kernel
theorem dX7_allHangingOn_13 : decode cX7_allHangingOn 13 = .ok (.istore 4, 2) := by decide +kernel
theorem dX7_allHangingOn_15 : decode cX7_allHangingOn 15 = .ok (.iload 4, 2) := by decide +kernel
theorem dX7_allHangingOn_17 : decode cX7_allHangingOn 17 = .ok (.bipush 6, 2) := by decide +kernel
theorem dX7_allHangingOn_19 : decode cX7_allHangingOn 19 = .ok (.if_icmp .ge 29, 3) := by decide +kernel
theorem dX7_allHangingOn_22 : decode cX7_allHangingOn 22 = .ok (.iload_n 2, 1) := by decide +kernel
theorem dX7_allHangingOn_23 : decode cX7_allHangingOn 23 = .ok (.iload 4, 2) := by decide +kernel
theorem dX7_allHangingOn_25 : decode cX7_allHangingOn 25 = .ok (.ishr, 1) := by decide +kernel
theorem dX7_allHangingOn_26 : decode cX7_allHangingOn 26 = .ok (.iconst 1, 1) := by decide +kernel
theorem dX7_allHangingOn_27 : decode cX7_allHangingOn 27 = .ok (.iand, 1) := by decide +kernel
theorem dX7_allHangingOn_28 : decode cX7_allHangingOn 28 = .ok (.iconst 1, 1) := by decide +kernel
theorem dX7_allHangingOn_29 : decode cX7_allHangingOn 29 = .ok (.if_icmp .ne 13, 3) := by decide +kernel
theorem dX7_allHangingOn_32 : decode cX7_allHangingOn 32 = .ok (.iload_n 2, 1) := by decide +kernel
theorem dX7_allHangingOn_33 : decode cX7_allHangingOn 33 = .ok (.aload_n 0, 1) := by decide +kernel
theorem dX7_allHangingOn_34 : decode cX7_allHangingOn 34 = .ok (.getfield 9, 3) := by decide +kernel
theorem dX7_allHangingOn_37 : decode cX7_allHangingOn 37 = .ok (.iload 4, 2) := by decide +kernel
theorem dX7_allHangingOn_39 : decode cX7_allHangingOn 39 = .ok (.iaload, 1) := by decide +kernel
theorem dX7_allHangingOn_40 : decode cX7_allHangingOn 40 = .ok (.ior, 1) := by decide +kernel
theorem dX7_allHangingOn_41 : decode cX7_allHangingOn 41 = .ok (.istore_n 2, 1) := by decide +kernel
theorem dX7_allHangingOn_42 : decode cX7_allHangingOn 42 = .ok (.iinc 4 1, 3) := by decide +kernel
theorem dX7_allHangingOn_45 : decode cX7_allHangingOn 45 = .ok (.goto (-30), 3) := by decide +kernel
theorem dX7_allHangingOn_48 : decode cX7_allHangingOn 48 = .ok (.iinc 3 1, 3) := by decide +kernel
theorem dX7_allHangingOn_51 : decode cX7_allHangingOn 51 = .ok (.goto (-45), 3) := by decide +kernel
theorem dX7_allHangingOn_54 : decode cX7_allHangingOn 54 = .ok (.iload_n 2, 1) := by decide +kernel
theorem dX7_allHangingOn_55 : decode cX7_allHangingOn 55 = .ok (.ireturn, 1) := by decide +kernel
theorem ydX7_allHangingOn : z_yd yX7_allHangingOn 1 := ⟨by decide, by decide, by decide +kernel⟩
abbrev rmX7_allHangingOn : Room := { frames := 0, cells := 0, slots := 0, locals := 0 }
noncomputable def xX7_allHangingOn_B15 (r6 : Nat → Int32 → Int32 → ZH → Option (Int32 × ZH)) (r15 : Nat → Int32 → Int32 → Int32 → ZH → Option (Int32 × ZH)) (l0 : Nat) (l2 : Int32) (l3 : Int32) (l4 : Int32) (h : ZH) : Option (Int32 × ZH) := (if (6 : Int32) ≤ l4 then r6 l0 l2 (l3 + 1) h else (if ((l2 >>> (l4 &&& 31)) &&& (1 : Int32)) = (1 : Int32) then ((z_gR h l0 7 1).bind fun x34 => ((z_aI h x34 l4).bind fun x39 => r15 l0 (l2 ||| x39) l3 (l4 + 1) h)) else r15 l0 l2 l3 (l4 + 1) h))
noncomputable def xX7_allHangingOn_L15 (r6 : Nat → Int32 → Int32 → ZH → Option (Int32 × ZH)) (n : Nat) : Nat → Int32 → Int32 → Int32 → ZH → Option (Int32 × ZH) := Nat.rec (motive := fun _ => Nat → Int32 → Int32 → Int32 → ZH → Option (Int32 × ZH)) (fun _ _ _ _ _ => none) (fun _ rec => xX7_allHangingOn_B15  r6 rec) n
set_option maxHeartbeats 4000000 in
set_option maxRecDepth 100000 in
theorem wX7_allHangingOn_B15 {Γ : ZG} {p : Program} {l : Launch} {e : Env} {s : State} {m : MethodId} {args : Array Value} {below : List Frame} {meth : Method} {c : Code} (hO : z_OK Γ) (G : z_GG Γ p s m args meth c cX7_allHangingOn 5 RX7) (hr : meth.sig.returnType = (some .int)) (hnm : meth.name = "allHangingOn") {r : (Int32 × ZH)} {r6 : Nat → Int32 → Int32 → ZH → Option (Int32 × ZH)} (H6 : ∀ (l0 : Nat) (l2 : Int32) (l3 : Int32) (h : ZH), r6 l0 l2 l3 h = some r → z_W Γ p l e rmX7_allHangingOn s m args below meth c 5 0 0 (MQ below (z_Qc Γ (some (.int r.1)) r.2) args s rmX7_allHangingOn.cells rmX7_allHangingOn.slots (z_A Γ)) 6 [(0, .ref l0), (2, .int l2), (3, .int l3)] [] h) {r15 : Nat → Int32 → Int32 → Int32 → ZH → Option (Int32 × ZH)} (H15 : ∀ (l0 : Nat) (l2 : Int32) (l3 : Int32) (l4 : Int32) (h : ZH), r15 l0 l2 l3 l4 h = some r → z_W Γ p l e rmX7_allHangingOn s m args below meth c 5 0 0 (MQ below (z_Qc Γ (some (.int r.1)) r.2) args s rmX7_allHangingOn.cells rmX7_allHangingOn.slots (z_A Γ)) 15 [(0, .ref l0), (2, .int l2), (3, .int l3), (4, .int l4)] [] h) : ∀ (l0 : Nat) (l2 : Int32) (l3 : Int32) (l4 : Int32) (h : ZH), xX7_allHangingOn_B15  r6 r15 l0 l2 l3 l4 h = some r → z_W Γ p l e rmX7_allHangingOn s m args below meth c 5 0 0 (MQ below (z_Qc Γ (some (.int r.1)) r.2) args s rmX7_allHangingOn.cells rmX7_allHangingOn.slots (z_A Γ)) 15 [(0, .ref l0), (2, .int l2), (3, .int l3), (4, .int l4)] [] h := by
  intro l0 l2 l3 l4 h hX
  refine z_iload (pc := 15) G 3 dX7_allHangingOn_15 rfl ?_
  refine z_bipush (pc := 17) (v := 6) G dX7_allHangingOn_17 (by decide) ?_
  refine z_icmp_ge (pc := 19) (tgt := 48) G dX7_allHangingOn_19 (by decide) (fun hc19 => ?_) (fun hc19 => ?_)
  · have hX := z_it hc19 hX
    refine z_iincw (pc := 48) (w := 1) (lv2 := [(0, .ref l0), (2, .int l2), (3, .int (l3 + 1)), (4, .int l4)]) G 2 dX7_allHangingOn_48 rfl (by decide) (by decide) rfl rfl ?_
    refine z_goto (pc := 51) (tgt := 6) G dX7_allHangingOn_51 (by decide) ?_
    refine z_drop (lv2 := [(0, .ref l0), (2, .int l2), (3, .int (l3 + 1))]) [0, 1, 2] rfl ?_
    exact H6 _ _ _ _ hX
  · have hX := z_if hc19 hX
    refine z_iload_n (pc := 22) G 1 dX7_allHangingOn_22 rfl rfl ?_
    refine z_iload (pc := 23) G 3 dX7_allHangingOn_23 rfl ?_
    refine z_ishr (pc := 25) G dX7_allHangingOn_25 ?_
    refine z_iconst (pc := 26) (v := 1) G dX7_allHangingOn_26 (by decide) ?_
    refine z_iand (pc := 27) G dX7_allHangingOn_27 ?_
    refine z_iconst (pc := 28) (v := 1) G dX7_allHangingOn_28 (by decide) ?_
    refine z_icmp_ne (pc := 29) (tgt := 42) G dX7_allHangingOn_29 (by decide) (fun hc29 => ?_) (fun hc29 => ?_)
    · have hX := z_if hc29 hX
      refine z_iincw (pc := 42) (w := 1) (lv2 := [(0, .ref l0), (2, .int l2), (3, .int l3), (4, .int (l4 + 1))]) G 3 dX7_allHangingOn_42 rfl (by decide) (by decide) rfl rfl ?_
      refine z_goto (pc := 45) (tgt := 15) G dX7_allHangingOn_45 (by decide) ?_
      exact H15 _ _ _ _ _ hX
    · have hX := z_it hc29 hX
      refine z_iload_n (pc := 32) G 1 dX7_allHangingOn_32 rfl rfl ?_
      refine z_aload_n (pc := 33) G 0 dX7_allHangingOn_33 rfl rfl ?_
      obtain ⟨x34, hv34, hX⟩ := z_bd hX
      refine z_getR (pc := 34) G kK7 (k := 1) (by decide) kt_330 dX7_allHangingOn_34 hv34 ?_
      refine z_iload (pc := 37) G 3 dX7_allHangingOn_37 rfl ?_
      obtain ⟨x39, hv39, hX⟩ := z_bd hX
      refine z_iald (pc := 39) G dX7_allHangingOn_39 hv39 ?_
      refine z_ior (pc := 40) G dX7_allHangingOn_40 ?_
      refine z_istore_n (pc := 41) (lv2 := [(0, .ref l0), (2, .int (l2 ||| x39)), (3, .int l3), (4, .int l4)]) G dX7_allHangingOn_41 rfl (by decide) rfl rfl ?_
      refine z_iincw (pc := 42) (w := 1) (lv2 := [(0, .ref l0), (2, .int (l2 ||| x39)), (3, .int l3), (4, .int (l4 + 1))]) G 3 dX7_allHangingOn_42 rfl (by decide) (by decide) rfl rfl ?_
      refine z_goto (pc := 45) (tgt := 15) G dX7_allHangingOn_45 (by decide) ?_
      exact H15 _ _ _ _ _ hX
set_option maxHeartbeats 4000000 in
set_option maxRecDepth 100000 in
theorem wX7_allHangingOn_L15 {Γ : ZG} {p : Program} {l : Launch} {e : Env} {s : State} {m : MethodId} {args : Array Value} {below : List Frame} {meth : Method} {c : Code} (hO : z_OK Γ) (G : z_GG Γ p s m args meth c cX7_allHangingOn 5 RX7) (hr : meth.sig.returnType = (some .int)) (hnm : meth.name = "allHangingOn") {r : (Int32 × ZH)} {r6 : Nat → Int32 → Int32 → ZH → Option (Int32 × ZH)} (H6 : ∀ (l0 : Nat) (l2 : Int32) (l3 : Int32) (h : ZH), r6 l0 l2 l3 h = some r → z_W Γ p l e rmX7_allHangingOn s m args below meth c 5 0 0 (MQ below (z_Qc Γ (some (.int r.1)) r.2) args s rmX7_allHangingOn.cells rmX7_allHangingOn.slots (z_A Γ)) 6 [(0, .ref l0), (2, .int l2), (3, .int l3)] [] h) : ∀ (nn : Nat) (l0 : Nat) (l2 : Int32) (l3 : Int32) (l4 : Int32) (h : ZH), xX7_allHangingOn_L15  r6 nn l0 l2 l3 l4 h = some r → z_W Γ p l e rmX7_allHangingOn s m args below meth c 5 0 0 (MQ below (z_Qc Γ (some (.int r.1)) r.2) args s rmX7_allHangingOn.cells rmX7_allHangingOn.slots (z_A Γ)) 15 [(0, .ref l0), (2, .int l2), (3, .int l3), (4, .int l4)] [] h := by
  intro nn
  induction nn with
  | zero => intro l0 l2 l3 l4 h hX; cases hX
  | succ nn ih => intro l0 l2 l3 l4 h hX; exact wX7_allHangingOn_B15 hO G hr hnm  H6 ih l0 l2 l3 l4 h hX
noncomputable def xX7_allHangingOn_B6 (r6 : Nat → Int32 → Int32 → ZH → Option (Int32 × ZH)) (l0 : Nat) (l2 : Int32) (l3 : Int32) (h : ZH) : Option (Int32 × ZH) := (if (6 : Int32) ≤ l3 then some (l2, h) else xX7_allHangingOn_L15 r6 zFU l0 l2 l3 (0 : Int32) h)
noncomputable def xX7_allHangingOn_L6 (n : Nat) : Nat → Int32 → Int32 → ZH → Option (Int32 × ZH) := Nat.rec (motive := fun _ => Nat → Int32 → Int32 → ZH → Option (Int32 × ZH)) (fun _ _ _ _ => none) (fun _ rec => xX7_allHangingOn_B6  rec) n
set_option maxHeartbeats 4000000 in
set_option maxRecDepth 100000 in
theorem wX7_allHangingOn_B6 {Γ : ZG} {p : Program} {l : Launch} {e : Env} {s : State} {m : MethodId} {args : Array Value} {below : List Frame} {meth : Method} {c : Code} (hO : z_OK Γ) (G : z_GG Γ p s m args meth c cX7_allHangingOn 5 RX7) (hr : meth.sig.returnType = (some .int)) (hnm : meth.name = "allHangingOn") {r : (Int32 × ZH)} {r6 : Nat → Int32 → Int32 → ZH → Option (Int32 × ZH)} (H6 : ∀ (l0 : Nat) (l2 : Int32) (l3 : Int32) (h : ZH), r6 l0 l2 l3 h = some r → z_W Γ p l e rmX7_allHangingOn s m args below meth c 5 0 0 (MQ below (z_Qc Γ (some (.int r.1)) r.2) args s rmX7_allHangingOn.cells rmX7_allHangingOn.slots (z_A Γ)) 6 [(0, .ref l0), (2, .int l2), (3, .int l3)] [] h) : ∀ (l0 : Nat) (l2 : Int32) (l3 : Int32) (h : ZH), xX7_allHangingOn_B6  r6 l0 l2 l3 h = some r → z_W Γ p l e rmX7_allHangingOn s m args below meth c 5 0 0 (MQ below (z_Qc Γ (some (.int r.1)) r.2) args s rmX7_allHangingOn.cells rmX7_allHangingOn.slots (z_A Γ)) 6 [(0, .ref l0), (2, .int l2), (3, .int l3)] [] h := by
  intro l0 l2 l3 h hX
  refine z_iload_n (pc := 6) G 2 dX7_allHangingOn_6 rfl rfl ?_
  refine z_bipush (pc := 7) (v := 6) G dX7_allHangingOn_7 (by decide) ?_
  refine z_icmp_ge (pc := 9) (tgt := 54) G dX7_allHangingOn_9 (by decide) (fun hc9 => ?_) (fun hc9 => ?_)
  · have hX := z_it hc9 hX
    refine z_iload_n (pc := 54) G 1 dX7_allHangingOn_54 rfl rfl ?_
    exact z_iretX (pc := 55) hX G hr dX7_allHangingOn_55 (by decide) (by decide)
  · have hX := z_if hc9 hX
    refine z_iconst (pc := 12) (v := 0) G dX7_allHangingOn_12 (by decide) ?_
    refine z_istore (pc := 13) (lv2 := [(0, .ref l0), (2, .int l2), (3, .int l3), (4, .int (0 : Int32))]) G dX7_allHangingOn_13 (by decide) rfl rfl ?_
    exact wX7_allHangingOn_L15 hO G hr hnm H6 zFU _ _ _ _ _ hX
set_option maxHeartbeats 4000000 in
set_option maxRecDepth 100000 in
theorem wX7_allHangingOn_L6 {Γ : ZG} {p : Program} {l : Launch} {e : Env} {s : State} {m : MethodId} {args : Array Value} {below : List Frame} {meth : Method} {c : Code} (hO : z_OK Γ) (G : z_GG Γ p s m args meth c cX7_allHangingOn 5 RX7) (hr : meth.sig.returnType = (some .int)) (hnm : meth.name = "allHangingOn") {r : (Int32 × ZH)} : ∀ (nn : Nat) (l0 : Nat) (l2 : Int32) (l3 : Int32) (h : ZH), xX7_allHangingOn_L6  nn l0 l2 l3 h = some r → z_W Γ p l e rmX7_allHangingOn s m args below meth c 5 0 0 (MQ below (z_Qc Γ (some (.int r.1)) r.2) args s rmX7_allHangingOn.cells rmX7_allHangingOn.slots (z_A Γ)) 6 [(0, .ref l0), (2, .int l2), (3, .int l3)] [] h := by
  intro nn
  induction nn with
  | zero => intro l0 l2 l3 h hX; cases hX
  | succ nn ih => intro l0 l2 l3 h hX; exact wX7_allHangingOn_B6 hO G hr hnm  ih l0 l2 l3 h hX
noncomputable def xX7_allHangingOn (l0 : Nat) (l1 : Int32) (h : ZH) : Option (Int32 × ZH) := xX7_allHangingOn_L6 zFU l0 ((1 : Int32) <<< (l1 &&& 31)) (0 : Int32) h
set_option maxHeartbeats 4000000 in
set_option maxRecDepth 100000 in
theorem lX7_allHangingOn {Γ : ZG} {l : Launch} (hO : z_OK Γ) {l0 : Nat} {l1 : Int32} {h : ZH} {r : (Int32 × ZH)} (hX : xX7_allHangingOn l0 l1 h = some r) : z_M Γ l yX7_allHangingOn (z_ws1 yX7_allHangingOn cX7_allHangingOn 5 (some .int)) rmX7_allHangingOn [.ref l0, .int l1] h (some (.int r.1)) r.2 := by
  refine z_start hO (plainFor_of_name (by decide)) (Nat.le_of_ble_eq_true rfl) ?_
  intro p e s m args below meth c G hr hnm
  refine z_lvc (lv2 := [(0, .ref l0), (1, .int l1)]) rfl ?_
  refine z_iconst (pc := 0) (v := 1) G dX7_allHangingOn_0 (by decide) ?_
  refine z_iload_n (pc := 1) G 1 dX7_allHangingOn_1 rfl rfl ?_
  refine z_ishl (pc := 2) G dX7_allHangingOn_2 ?_
  refine z_istore_n (pc := 3) (lv2 := [(0, .ref l0), (1, .int l1), (2, .int ((1 : Int32) <<< (l1 &&& 31)))]) G dX7_allHangingOn_3 rfl (by decide) rfl rfl ?_
  refine z_iconst (pc := 4) (v := 0) G dX7_allHangingOn_4 (by decide) ?_
  refine z_istore_n (pc := 5) (lv2 := [(0, .ref l0), (1, .int l1), (2, .int ((1 : Int32) <<< (l1 &&& 31))), (3, .int (0 : Int32))]) G dX7_allHangingOn_5 rfl (by decide) rfl rfl ?_
  refine z_drop (lv2 := [(0, .ref l0), (2, .int ((1 : Int32) <<< (l1 &&& 31))), (3, .int (0 : Int32))]) [0, 2, 3] rfl ?_
  exact wX7_allHangingOn_L6 hO G hr hnm zFU _ _ _ _ hX
theorem dX7_countParts_0 : decode cX7_countParts 0 = .ok (.iconst 0, 1) := by decide +kernel
theorem dX7_countParts_1 : decode cX7_countParts 1 = .ok (.istore_n 1, 1) := by decide +kernel
theorem dX7_countParts_2 : decode cX7_countParts 2 = .ok (.aload_n 0, 1) := by decide +kernel
theorem dX7_countParts_3 : decode cX7_countParts 3 = .ok (.getfield 27, 3) := by decide +kernel
theorem dX7_countParts_6 : decode cX7_countParts 6 = .ok (.istore_n 2, 1) := by decide +kernel
theorem dX7_countParts_7 : decode cX7_countParts 7 = .ok (.iconst 0, 1) := by decide +kernel
theorem dX7_countParts_8 : decode cX7_countParts 8 = .ok (.istore_n 3, 1) := by decide +kernel
theorem dX7_countParts_9 : decode cX7_countParts 9 = .ok (.iload_n 3, 1) := by decide +kernel
theorem dX7_countParts_10 : decode cX7_countParts 10 = .ok (.bipush 6, 2) := by decide +kernel
theorem dX7_countParts_12 : decode cX7_countParts 12 = .ok (.if_icmp .ge 31, 3) := by decide +kernel
theorem dX7_countParts_15 : decode cX7_countParts 15 = .ok (.iload_n 2, 1) := by decide +kernel
theorem dX7_countParts_16 : decode cX7_countParts 16 = .ok (.iload_n 3, 1) := by decide +kernel
theorem dX7_countParts_17 : decode cX7_countParts 17 = .ok (.ishr, 1) := by decide +kernel
theorem dX7_countParts_18 : decode cX7_countParts 18 = .ok (.iconst 1, 1) := by decide +kernel
theorem dX7_countParts_19 : decode cX7_countParts 19 = .ok (.iand, 1) := by decide +kernel
theorem dX7_countParts_20 : decode cX7_countParts 20 = .ok (.iconst 1, 1) := by decide +kernel
theorem dX7_countParts_21 : decode cX7_countParts 21 = .ok (.if_icmp .ne 16, 3) := by decide +kernel
theorem dX7_countParts_24 : decode cX7_countParts 24 = .ok (.iinc 1 1, 3) := by decide +kernel
theorem dX7_countParts_27 : decode cX7_countParts 27 = .ok (.iload_n 2, 1) := by decide +kernel
theorem dX7_countParts_28 : decode cX7_countParts 28 = .ok (.aload_n 0, 1) := by decide +kernel
theorem dX7_countParts_29 : decode cX7_countParts 29 = .ok (.iload_n 3, 1) := by decide +kernel
theorem dX7_countParts_30 : decode cX7_countParts 30 = .ok (.invokevirtual 55, 3) := by decide +kernel
theorem dX7_countParts_33 : decode cX7_countParts 33 = .ok (.iconst (-1), 1) := by decide +kernel
theorem dX7_countParts_34 : decode cX7_countParts 34 = .ok (.ixor, 1) := by decide +kernel
theorem dX7_countParts_35 : decode cX7_countParts 35 = .ok (.iand, 1) := by decide +kernel
theorem dX7_countParts_36 : decode cX7_countParts 36 = .ok (.istore_n 2, 1) := by decide +kernel
theorem dX7_countParts_37 : decode cX7_countParts 37 = .ok (.iinc 3 1, 3) := by decide +kernel
theorem dX7_countParts_40 : decode cX7_countParts 40 = .ok (.goto (-31), 3) := by decide +kernel
theorem dX7_countParts_43 : decode cX7_countParts 43 = .ok (.iload_n 1, 1) := by decide +kernel
theorem dX7_countParts_44 : decode cX7_countParts 44 = .ok (.ireturn, 1) := by decide +kernel
theorem ydX7_countParts : z_yd yX7_countParts 0 := ⟨by decide, by decide, by decide +kernel⟩
abbrev rmX7_countParts : Room := { frames := 1, cells := 0, slots := 0, locals := 24 }
noncomputable def xX7_countParts_B9 (r9 : Nat → Int32 → Int32 → Int32 → ZH → Option (Int32 × ZH)) (l0 : Nat) (l1 : Int32) (l2 : Int32) (l3 : Int32) (h : ZH) : Option (Int32 × ZH) := (if (6 : Int32) ≤ l3 then some (l1, h) else (if ((l2 >>> (l3 &&& 31)) &&& (1 : Int32)) = (1 : Int32) then (z_gu (z_is h l0 7) ((xX7_allHangingOn l0 l3 h).bind fun r30 => r9 l0 (l1 + 1) (l2 &&& (r30.1 ^^^ (-1 : Int32))) (l3 + 1) r30.2)) else r9 l0 l1 l2 (l3 + 1) h))
noncomputable def xX7_countParts_L9 (n : Nat) : Nat → Int32 → Int32 → Int32 → ZH → Option (Int32 × ZH) := Nat.rec (motive := fun _ => Nat → Int32 → Int32 → Int32 → ZH → Option (Int32 × ZH)) (fun _ _ _ _ _ => none) (fun _ rec => xX7_countParts_B9  rec) n
set_option maxHeartbeats 4000000 in
set_option maxRecDepth 100000 in
theorem wX7_countParts_B9 {Γ : ZG} {p : Program} {l : Launch} {e : Env} {s : State} {m : MethodId} {args : Array Value} {below : List Frame} {meth : Method} {c : Code} (hO : z_OK Γ) (G : z_GG Γ p s m args meth c cX7_countParts 4 RX7) (hr : meth.sig.returnType = (some .int)) (hnm : meth.name = "countParts") {r : (Int32 × ZH)} {r9 : Nat → Int32 → Int32 → Int32 → ZH → Option (Int32 × ZH)} (H9 : ∀ (l0 : Nat) (l1 : Int32) (l2 : Int32) (l3 : Int32) (h : ZH), r9 l0 l1 l2 l3 h = some r → z_W Γ p l e rmX7_countParts s m args below meth c 4 0 0 (MQ below (z_Qc Γ (some (.int r.1)) r.2) args s rmX7_countParts.cells rmX7_countParts.slots (z_A Γ)) 9 [(0, .ref l0), (1, .int l1), (2, .int l2), (3, .int l3)] [] h) : ∀ (l0 : Nat) (l1 : Int32) (l2 : Int32) (l3 : Int32) (h : ZH), xX7_countParts_B9  r9 l0 l1 l2 l3 h = some r → z_W Γ p l e rmX7_countParts s m args below meth c 4 0 0 (MQ below (z_Qc Γ (some (.int r.1)) r.2) args s rmX7_countParts.cells rmX7_countParts.slots (z_A Γ)) 9 [(0, .ref l0), (1, .int l1), (2, .int l2), (3, .int l3)] [] h := by
  intro l0 l1 l2 l3 h hX
  refine z_iload_n (pc := 9) G 3 dX7_countParts_9 rfl rfl ?_
  refine z_bipush (pc := 10) (v := 6) G dX7_countParts_10 (by decide) ?_
  refine z_icmp_ge (pc := 12) (tgt := 43) G dX7_countParts_12 (by decide) (fun hc12 => ?_) (fun hc12 => ?_)
  · have hX := z_it hc12 hX
    refine z_iload_n (pc := 43) G 1 dX7_countParts_43 rfl rfl ?_
    exact z_iretX (pc := 44) hX G hr dX7_countParts_44 (by decide) (by decide)
  · have hX := z_if hc12 hX
    refine z_iload_n (pc := 15) G 2 dX7_countParts_15 rfl rfl ?_
    refine z_iload_n (pc := 16) G 3 dX7_countParts_16 rfl rfl ?_
    refine z_ishr (pc := 17) G dX7_countParts_17 ?_
    refine z_iconst (pc := 18) (v := 1) G dX7_countParts_18 (by decide) ?_
    refine z_iand (pc := 19) G dX7_countParts_19 ?_
    refine z_iconst (pc := 20) (v := 1) G dX7_countParts_20 (by decide) ?_
    refine z_icmp_ne (pc := 21) (tgt := 37) G dX7_countParts_21 (by decide) (fun hc21 => ?_) (fun hc21 => ?_)
    · have hX := z_if hc21 hX
      refine z_iincw (pc := 37) (w := 1) (lv2 := [(0, .ref l0), (1, .int l1), (2, .int l2), (3, .int (l3 + 1))]) G 3 dX7_countParts_37 rfl (by decide) (by decide) rfl rfl ?_
      refine z_goto (pc := 40) (tgt := 9) G dX7_countParts_40 (by decide) ?_
      exact H9 _ _ _ _ _ hX
    · have hX := z_it hc21 hX
      refine z_iincw (pc := 24) (w := 1) (lv2 := [(0, .ref l0), (1, .int (l1 + 1)), (2, .int l2), (3, .int l3)]) G 1 dX7_countParts_24 rfl (by decide) (by decide) rfl rfl ?_
      refine z_iload_n (pc := 27) G 2 dX7_countParts_27 rfl rfl ?_
      refine z_aload_n (pc := 28) G 0 dX7_countParts_28 rfl rfl ?_
      refine z_iload_n (pc := 29) G 3 dX7_countParts_29 rfl rfl ?_
      obtain ⟨hi30, hX⟩ := z_gu_s hX
      obtain ⟨r30, hv30, hX⟩ := z_bd hX
      refine z_cVI (pc := 30) (As := [.int l3]) (c2 := 0) (s2 := 0) G kK7 (lX7_allHangingOn hO hv30) hi30 kt_1058 kt_7 kt_1055 kt_1057 ks_29 ydX7_allHangingOn ⟨by decide, by decide⟩ rfl (Nat.le_of_ble_eq_true rfl) ⟨rfl, rfl⟩ ⟨by decide, by decide⟩ rfl dX7_countParts_30 ?_
      refine z_iconst (pc := 33) (v := (-1)) G dX7_countParts_33 (by decide) ?_
      refine z_ixor (pc := 34) G dX7_countParts_34 ?_
      refine z_iand (pc := 35) G dX7_countParts_35 ?_
      refine z_istore_n (pc := 36) (lv2 := [(0, .ref l0), (1, .int (l1 + 1)), (2, .int (l2 &&& (r30.1 ^^^ (-1 : Int32)))), (3, .int l3)]) G dX7_countParts_36 rfl (by decide) rfl rfl ?_
      refine z_iincw (pc := 37) (w := 1) (lv2 := [(0, .ref l0), (1, .int (l1 + 1)), (2, .int (l2 &&& (r30.1 ^^^ (-1 : Int32)))), (3, .int (l3 + 1))]) G 3 dX7_countParts_37 rfl (by decide) (by decide) rfl rfl ?_
      refine z_goto (pc := 40) (tgt := 9) G dX7_countParts_40 (by decide) ?_
      exact H9 _ _ _ _ _ hX
set_option maxHeartbeats 4000000 in
set_option maxRecDepth 100000 in
theorem wX7_countParts_L9 {Γ : ZG} {p : Program} {l : Launch} {e : Env} {s : State} {m : MethodId} {args : Array Value} {below : List Frame} {meth : Method} {c : Code} (hO : z_OK Γ) (G : z_GG Γ p s m args meth c cX7_countParts 4 RX7) (hr : meth.sig.returnType = (some .int)) (hnm : meth.name = "countParts") {r : (Int32 × ZH)} : ∀ (nn : Nat) (l0 : Nat) (l1 : Int32) (l2 : Int32) (l3 : Int32) (h : ZH), xX7_countParts_L9  nn l0 l1 l2 l3 h = some r → z_W Γ p l e rmX7_countParts s m args below meth c 4 0 0 (MQ below (z_Qc Γ (some (.int r.1)) r.2) args s rmX7_countParts.cells rmX7_countParts.slots (z_A Γ)) 9 [(0, .ref l0), (1, .int l1), (2, .int l2), (3, .int l3)] [] h := by
  intro nn
  induction nn with
  | zero => intro l0 l1 l2 l3 h hX; cases hX
  | succ nn ih => intro l0 l1 l2 l3 h hX; exact wX7_countParts_B9 hO G hr hnm  ih l0 l1 l2 l3 h hX
noncomputable def xX7_countParts (l0 : Nat) (h : ZH) : Option (Int32 × ZH) := ((z_gI h l0 7 0).bind fun x3 => xX7_countParts_L9 zFU l0 (0 : Int32) x3 (0 : Int32) h)
set_option maxHeartbeats 4000000 in
set_option maxRecDepth 100000 in
theorem lX7_countParts {Γ : ZG} {l : Launch} (hO : z_OK Γ) {l0 : Nat} {h : ZH} {r : (Int32 × ZH)} (hX : xX7_countParts l0 h = some r) : z_M Γ l yX7_countParts (z_ws1 yX7_countParts cX7_countParts 4 (some .int)) rmX7_countParts [.ref l0] h (some (.int r.1)) r.2 := by
  refine z_start hO (plainFor_of_name (by decide)) (Nat.le_of_ble_eq_true rfl) ?_
  intro p e s m args below meth c G hr hnm
  refine z_lvc (lv2 := [(0, .ref l0)]) rfl ?_
  refine z_iconst (pc := 0) (v := 0) G dX7_countParts_0 (by decide) ?_
  refine z_istore_n (pc := 1) (lv2 := [(0, .ref l0), (1, .int (0 : Int32))]) G dX7_countParts_1 rfl (by decide) rfl rfl ?_
  refine z_aload_n (pc := 2) G 0 dX7_countParts_2 rfl rfl ?_
  obtain ⟨x3, hv3, hX⟩ := z_bd hX
  refine z_getI (pc := 3) G kK7 (k := 0) (by decide) kt_329 dX7_countParts_3 hv3 ?_
  refine z_istore_n (pc := 6) (lv2 := [(0, .ref l0), (1, .int (0 : Int32)), (2, .int x3)]) G dX7_countParts_6 rfl (by decide) rfl rfl ?_
  refine z_iconst (pc := 7) (v := 0) G dX7_countParts_7 (by decide) ?_
  refine z_istore_n (pc := 8) (lv2 := [(0, .ref l0), (1, .int (0 : Int32)), (2, .int x3), (3, .int (0 : Int32))]) G dX7_countParts_8 rfl (by decide) rfl rfl ?_
  exact wX7_countParts_L9 hO G hr hnm zFU _ _ _ _ _ hX
theorem dX8_init_0 : decode cX8_init 0 = .ok (.aload_n 0, 1) := by decide +kernel
theorem dX8_init_1 : decode cX8_init 1 = .ok (.invokespecial 1, 3) := by decide +kernel
theorem dX8_init_4 : decode cX8_init 4 = .ok (.aload_n 0, 1) := by decide +kernel
theorem dX8_init_5 : decode cX8_init 5 = .ok (.sipush 1600, 3) := by decide +kernel
theorem dX8_init_8 : decode cX8_init 8 = .ok (.newarray .byte, 2) := by decide +kernel
theorem dX8_init_10 : decode cX8_init 10 = .ok (.putfield 9, 3) := by decide +kernel
theorem dX8_init_13 : decode cX8_init 13 = .ok (.aload_n 0, 1) := by decide +kernel
theorem dX8_init_14 : decode cX8_init 14 = .ok (.iconst (-1), 1) := by decide +kernel
theorem dX8_init_15 : decode cX8_init 15 = .ok (.putfield 13, 3) := by decide +kernel
theorem dX8_init_18 : decode cX8_init 18 = .ok (.aload_n 0, 1) := by decide +kernel
theorem dX8_init_19 : decode cX8_init 19 = .ok (.new 17, 3) := by decide +kernel
theorem dX8_init_22 : decode cX8_init 22 = .ok (.dup, 1) := by decide +kernel
theorem dX8_init_23 : decode cX8_init 23 = .ok (.invokespecial 19, 3) := by decide +kernel
theorem dX8_init_26 : decode cX8_init 26 = .ok (.putfield 20, 3) := by decide +kernel
theorem dX8_init_29 : decode cX8_init 29 = .ok (.aload_n 0, 1) := by decide +kernel
theorem dX8_init_30 : decode cX8_init 30 = .ok (.new 24, 3) := by decide +kernel
theorem dX8_init_33 : decode cX8_init 33 = .ok (.dup, 1) := by decide +kernel
theorem dX8_init_34 : decode cX8_init 34 = .ok (.invokespecial 26, 3) := by decide +kernel
theorem dX8_init_37 : decode cX8_init 37 = .ok (.putfield 27, 3) := by decide +kernel
theorem dX8_init_40 : decode cX8_init 40 = .ok (.aload_n 0, 1) := by decide +kernel
theorem dX8_init_41 : decode cX8_init 41 = .ok (.new 31, 3) := by decide +kernel
theorem dX8_init_44 : decode cX8_init 44 = .ok (.dup, 1) := by decide +kernel
theorem dX8_init_45 : decode cX8_init 45 = .ok (.aload_n 0, 1) := by decide +kernel
theorem dX8_init_46 : decode cX8_init 46 = .ok (.getfield 27, 3) := by decide +kernel
theorem dX8_init_49 : decode cX8_init 49 = .ok (.invokespecial 33, 3) := by decide +kernel
theorem dX8_init_52 : decode cX8_init 52 = .ok (.putfield 36, 3) := by decide +kernel
theorem dX8_init_55 : decode cX8_init 55 = .ok (.aload_n 0, 1) := by decide +kernel
theorem dX8_init_56 : decode cX8_init 56 = .ok (.new 31, 3) := by decide +kernel
theorem dX8_init_59 : decode cX8_init 59 = .ok (.dup, 1) := by decide +kernel
theorem dX8_init_60 : decode cX8_init 60 = .ok (.aload_n 0, 1) := by decide +kernel
theorem dX8_init_61 : decode cX8_init 61 = .ok (.getfield 27, 3) := by decide +kernel
theorem dX8_init_64 : decode cX8_init 64 = .ok (.invokespecial 33, 3) := by decide +kernel
theorem dX8_init_67 : decode cX8_init 67 = .ok (.putfield 40, 3) := by decide +kernel
theorem dX8_init_70 : decode cX8_init 70 = .ok (.aload_n 0, 1) := by decide +kernel
theorem dX8_init_71 : decode cX8_init 71 = .ok (.new 43, 3) := by decide +kernel
theorem dX8_init_74 : decode cX8_init 74 = .ok (.dup, 1) := by decide +kernel
theorem dX8_init_75 : decode cX8_init 75 = .ok (.invokespecial 45, 3) := by decide +kernel
theorem dX8_init_78 : decode cX8_init 78 = .ok (.putfield 46, 3) := by decide +kernel
theorem dX8_init_81 : decode cX8_init 81 = .ok (.aload_n 0, 1) := by decide +kernel
theorem dX8_init_82 : decode cX8_init 82 = .ok (.new 50, 3) := by decide +kernel
theorem dX8_init_85 : decode cX8_init 85 = .ok (.dup, 1) := by decide +kernel
theorem dX8_init_86 : decode cX8_init 86 = .ok (.invokespecial 52, 3) := by decide +kernel
theorem dX8_init_89 : decode cX8_init 89 = .ok (.putfield 53, 3) := by decide +kernel
theorem dX8_init_92 : decode cX8_init 92 = .ok (.aload_n 0, 1) := by decide +kernel
theorem dX8_init_93 : decode cX8_init 93 = .ok (.new 57, 3) := by decide +kernel
theorem dX8_init_96 : decode cX8_init 96 = .ok (.dup, 1) := by decide +kernel
theorem dX8_init_97 : decode cX8_init 97 = .ok (.invokespecial 59, 3) := by decide +kernel
theorem dX8_init_100 : decode cX8_init 100 = .ok (.putfield 60, 3) := by decide +kernel
theorem dX8_init_103 : decode cX8_init 103 = .ok (.aload_n 0, 1) := by decide +kernel
theorem dX8_init_104 : decode cX8_init 104 = .ok (.new 64, 3) := by decide +kernel
theorem dX8_init_107 : decode cX8_init 107 = .ok (.dup, 1) := by decide +kernel
theorem dX8_init_108 : decode cX8_init 108 = .ok (.aload_n 0, 1) := by decide +kernel
theorem dX8_init_109 : decode cX8_init 109 = .ok (.getfield 27, 3) := by decide +kernel
theorem dX8_init_112 : decode cX8_init 112 = .ok (.invokespecial 66, 3) := by decide +kernel
theorem dX8_init_115 : decode cX8_init 115 = .ok (.putfield 67, 3) := by decide +kernel
theorem dX8_init_118 : decode cX8_init 118 = .ok (.aload_n 0, 1) := by decide +kernel
theorem dX8_init_119 : decode cX8_init 119 = .ok (.new 71, 3) := by decide +kernel
theorem dX8_init_122 : decode cX8_init 122 = .ok (.dup, 1) := by decide +kernel
theorem dX8_init_123 : decode cX8_init 123 = .ok (.aload_n 0, 1) := by decide +kernel
theorem dX8_init_124 : decode cX8_init 124 = .ok (.getfield 27, 3) := by decide +kernel
theorem dX8_init_127 : decode cX8_init 127 = .ok (.invokespecial 73, 3) := by decide +kernel
theorem dX8_init_130 : decode cX8_init 130 = .ok (.putfield 74, 3) := by decide +kernel
theorem dX8_init_133 : decode cX8_init 133 = .ok (.aload_n 0, 1) := by decide +kernel
theorem dX8_init_134 : decode cX8_init 134 = .ok (.iconst 3, 1) := by decide +kernel
theorem dX8_init_135 : decode cX8_init 135 = .ok (.anewarray 31, 3) := by decide +kernel
theorem dX8_init_138 : decode cX8_init 138 = .ok (.putfield 78, 3) := by decide +kernel
theorem dX8_init_141 : decode cX8_init 141 = .ok (.aload_n 0, 1) := by decide +kernel
theorem dX8_init_142 : decode cX8_init 142 = .ok (.iconst 3, 1) := by decide +kernel
theorem dX8_init_143 : decode cX8_init 143 = .ok (.newarray .boolean, 2) := by decide +kernel
theorem dX8_init_145 : decode cX8_init 145 = .ok (.putfield 82, 3) := by decide +kernel
theorem dX8_init_148 : decode cX8_init 148 = .ok (.aload_n 0, 1) := by decide +kernel
theorem dX8_init_149 : decode cX8_init 149 = .ok (.bipush 6, 2) := by decide +kernel
theorem dX8_init_151 : decode cX8_init 151 = .ok (.newarray .int, 2) := by decide +kernel
theorem dX8_init_153 : decode cX8_init 153 = .ok (.putfield 86, 3) := by decide +kernel
theorem dX8_init_156 : decode cX8_init 156 = .ok (.aload_n 0, 1) := by decide +kernel
theorem dX8_init_157 : decode cX8_init 157 = .ok (.getfield 36, 3) := by decide +kernel
theorem dX8_init_160 : decode cX8_init 160 = .ok (.invokevirtual 90, 3) := by decide +kernel
theorem dX8_init_163 : decode cX8_init 163 = .ok (.return_, 1) := by decide +kernel
theorem ydX8_init : z_yd yX8_init 0 := ⟨by decide, by decide, by decide +kernel⟩
abbrev rmX8_init : Room := { frames := 3, cells := 69, slots := 3894, locals := 81 }
noncomputable def xX8_init (l0 : Nat) (h : ZH) : Option ZH := ((z_nw h (.inr (.inl (1, List.replicate 1600 0)))).bind fun q8 => ((z_sF q8.2 l0 8 0 (.ref q8.1)).bind fun h10 => ((z_sF h10 l0 8 3 (.int (-1 : Int32))).bind fun h15 => ((z_nw h15 (.inl (3, [.null, .int 0, .int 0, .null, .int 0, .int 0, .int 0, .int 0, .int 0, .int 0, .int 0, .null, .null]))).bind fun q19 => ((xX3_init q19.1 q19.2).bind fun h23 => ((z_sF h23 l0 8 4 (.ref q19.1)).bind fun h26 => ((z_nw h26 (.inl (2, [.int 0, .int 0, .int 0, .int 0, .int 0, .int 0, .int 0, .int 0, .int 0, .null, .null, .null, .null, .null, .null, .int 0, .null]))).bind fun q30 => ((xX2_init q30.1 q30.2).bind fun h34 => ((z_sF h34 l0 8 5 (.ref q30.1)).bind fun h37 => ((z_nw h37 (.inl (5, [.null, .null, .null, .null, .null, .null, .null, .null, .null, .null, .null, .null, .null, .int 0, .int 0, .int 0, .int 0, .int 0]))).bind fun q41 => ((z_gR q41.2 l0 8 5).bind fun x46 => ((xX5_init q41.1 x46 q41.2).bind fun h49 => ((z_sF h49 l0 8 6 (.ref q41.1)).bind fun h52 => ((z_nw h52 (.inl (5, [.null, .null, .null, .null, .null, .null, .null, .null, .null, .null, .null, .null, .null, .int 0, .int 0, .int 0, .int 0, .int 0]))).bind fun q56 => ((z_gR q56.2 l0 8 5).bind fun x61 => ((xX5_init q56.1 x61 q56.2).bind fun h64 => ((z_sF h64 l0 8 7 (.ref q56.1)).bind fun h67 => ((z_nw h67 (.inl (0, [.int 0, .int 0, .int 0, .null, .int 0]))).bind fun q71 => ((xX0_init q71.1 q71.2).bind fun h75 => ((z_sF h75 l0 8 8 (.ref q71.1)).bind fun h78 => ((z_nw h78 (.inl (6, [.null, .null, .null, .int 0]))).bind fun q82 => ((xX6_init q82.1 q82.2).bind fun h86 => ((z_sF h86 l0 8 9 (.ref q82.1)).bind fun h89 => ((z_nw h89 (.inl (7, [.int 0, .null, .null, .null]))).bind fun q93 => ((xX7_init q93.1 q93.2).bind fun h97 => ((z_sF h97 l0 8 10 (.ref q93.1)).bind fun h100 => ((z_nw h100 (.inl (1, [.null, .null, .int 0, .int 0]))).bind fun q104 => ((z_gR q104.2 l0 8 5).bind fun x109 => ((xX1_init q104.1 x109 q104.2).bind fun h112 => ((z_sF h112 l0 8 11 (.ref q104.1)).bind fun h115 => ((z_nw h115 (.inl (4, [.null, .null, .null, .null, .null, .null, .null, .int 0, .int 0, .int 0, .int 0]))).bind fun q119 => ((z_gR q119.2 l0 8 5).bind fun x124 => ((xX4_init q119.1 x124 q119.2).bind fun h127 => ((z_sF h127 l0 8 12 (.ref q119.1)).bind fun h130 => ((z_nw h130 (.inr (.inr (.inr (List.replicate 3 none))))).bind fun q135 => ((z_sF q135.2 l0 8 13 (.ref q135.1)).bind fun h138 => ((z_nw h138 (.inr (.inl (2, List.replicate 3 0)))).bind fun q143 => ((z_sF q143.2 l0 8 14 (.ref q143.1)).bind fun h145 => ((z_nw h145 (.inr (.inl (0, List.replicate 6 0)))).bind fun q151 => ((z_sF q151.2 l0 8 15 (.ref q151.1)).bind fun h153 => ((z_gR h153 l0 8 6).bind fun x157 => (z_gu (z_is h153 x157 5) ((xX5_start x157 h153).bind fun h160 => some h160)))))))))))))))))))))))))))))))))))))))))))
set_option maxHeartbeats 4000000 in
set_option maxRecDepth 100000 in
theorem lX8_init {Γ : ZG} {l : Launch} (hO : z_OK Γ) {l0 : Nat} {h : ZH} {r : ZH} (hX : xX8_init l0 h = some r) : z_M Γ l yX8_init (z_ws1 yX8_init cX8_init 1 none) rmX8_init [.ref l0] h none r := by
  refine z_start hO (plainFor_of_name (by decide)) (Nat.le_of_ble_eq_true rfl) ?_
  intro p e s m args below meth c G hr hnm
  refine z_lvc (lv2 := [(0, .ref l0)]) rfl ?_
  refine z_aload_n (pc := 0) G 0 dX8_init_0 rfl rfl ?_
  refine z_obj (pc := 1) G kt_24 kt_25 kt_26 (by decide) (Nat.le_of_ble_eq_true rfl) dX8_init_1 ?_
  refine z_aload_n (pc := 4) G 0 dX8_init_4 rfl rfl ?_
  refine z_sipush (pc := 5) (v := 1600) G dX8_init_5 (by decide) ?_
  obtain ⟨q8, hv8, hX⟩ := z_bd hX
  refine z_nI (pc := 8) (atype := .byte) (t := 1) (N := 1600) (c2 := 1) (s2 := 1600) G kt_135 rfl (by decide) rfl (fun _ z => by cases z) (by decide) (by decide) (by decide) ⟨rfl, rfl⟩ ⟨by decide, by decide⟩ dX8_init_8 hv8 ?_
  obtain ⟨h10, hv10, hX⟩ := z_bd hX
  refine z_putF (pc := 10) G kK8 (k := 0) (by decide) kt_424 (Or.inr ⟨rfl, hnm, rfl⟩) rfl rfl dX8_init_10 hv10 ?_
  refine z_aload_n (pc := 13) G 0 dX8_init_13 rfl rfl ?_
  refine z_iconst (pc := 14) (v := (-1)) G dX8_init_14 (by decide) ?_
  obtain ⟨h15, hv15, hX⟩ := z_bd hX
  refine z_putF (pc := 15) G kK8 (k := 3) (by decide) kt_427 (Or.inl rfl) rfl rfl dX8_init_15 hv15 ?_
  refine z_aload_n (pc := 18) G 0 dX8_init_18 rfl rfl ?_
  obtain ⟨q19, hv19, hX⟩ := z_bd hX
  refine z_nO (pc := 19) (c2 := 2) (s2 := 1613) G kK3 kt_27 kt_28 kt_2 (fun j hj => by rcases (show j = 0 ∨ j = 1 ∨ j = 2 ∨ j = 3 ∨ j = 4 ∨ j = 5 ∨ j = 6 ∨ j = 7 ∨ j = 8 ∨ j = 9 ∨ j = 10 ∨ j = 11 ∨ j = 12 by omega) with rfl | rfl | rfl | rfl | rfl | rfl | rfl | rfl | rfl | rfl | rfl | rfl | rfl <;> rfl) ⟨rfl, rfl⟩ ⟨by decide, by decide⟩ dX8_init_19 hv19 ?_
  refine z_dup (pc := 22) G dX8_init_22 rfl ?_
  obtain ⟨h23, hv23, hX⟩ := z_bd hX
  refine z_cIN (pc := 23) (As := []) (c2 := 12) (s2 := 1984) G (lX3_init hO hv23) kt_31 kt_2 kt_29 kt_30 rfl ydX3_init ⟨by decide, by decide⟩ rfl (Nat.le_of_ble_eq_true rfl) ⟨rfl, rfl⟩ ⟨by decide, by decide⟩ rfl dX8_init_23 ?_
  obtain ⟨h26, hv26, hX⟩ := z_bd hX
  refine z_putF (pc := 26) G kK8 (k := 4) (by decide) kt_428 (Or.inr ⟨rfl, hnm, rfl⟩) rfl rfl dX8_init_26 hv26 ?_
  refine z_aload_n (pc := 29) G 0 dX8_init_29 rfl rfl ?_
  obtain ⟨q30, hv30, hX⟩ := z_bd hX
  refine z_nO (pc := 30) (c2 := 13) (s2 := 2001) G kK2 kt_180 kt_34 kt_3 (fun j hj => by rcases (show j = 0 ∨ j = 1 ∨ j = 2 ∨ j = 3 ∨ j = 4 ∨ j = 5 ∨ j = 6 ∨ j = 7 ∨ j = 8 ∨ j = 9 ∨ j = 10 ∨ j = 11 ∨ j = 12 ∨ j = 13 ∨ j = 14 ∨ j = 15 ∨ j = 16 by omega) with rfl | rfl | rfl | rfl | rfl | rfl | rfl | rfl | rfl | rfl | rfl | rfl | rfl | rfl | rfl | rfl | rfl <;> rfl) ⟨rfl, rfl⟩ ⟨by decide, by decide⟩ dX8_init_30 hv30 ?_
  refine z_dup (pc := 33) G dX8_init_33 rfl ?_
  obtain ⟨h34, hv34, hX⟩ := z_bd hX
  refine z_cIN (pc := 34) (As := []) (c2 := 20) (s2 := 2343) G (lX2_init hO hv34) kt_37 kt_3 kt_181 kt_36 rfl ydX2_init ⟨by decide, by decide⟩ rfl (Nat.le_of_ble_eq_true rfl) ⟨rfl, rfl⟩ ⟨by decide, by decide⟩ rfl dX8_init_34 ?_
  obtain ⟨h37, hv37, hX⟩ := z_bd hX
  refine z_putF (pc := 37) G kK8 (k := 5) (by decide) kt_429 (Or.inr ⟨rfl, hnm, rfl⟩) rfl rfl dX8_init_37 hv37 ?_
  refine z_aload_n (pc := 40) G 0 dX8_init_40 rfl rfl ?_
  obtain ⟨q41, hv41, hX⟩ := z_bd hX
  refine z_nO (pc := 41) (c2 := 21) (s2 := 2361) G kK5 kt_182 kt_183 kt_4 (fun j hj => by rcases (show j = 0 ∨ j = 1 ∨ j = 2 ∨ j = 3 ∨ j = 4 ∨ j = 5 ∨ j = 6 ∨ j = 7 ∨ j = 8 ∨ j = 9 ∨ j = 10 ∨ j = 11 ∨ j = 12 ∨ j = 13 ∨ j = 14 ∨ j = 15 ∨ j = 16 ∨ j = 17 by omega) with rfl | rfl | rfl | rfl | rfl | rfl | rfl | rfl | rfl | rfl | rfl | rfl | rfl | rfl | rfl | rfl | rfl | rfl <;> rfl) ⟨rfl, rfl⟩ ⟨by decide, by decide⟩ dX8_init_41 hv41 ?_
  refine z_dup (pc := 44) G dX8_init_44 rfl ?_
  refine z_aload_n (pc := 45) G 0 dX8_init_45 rfl rfl ?_
  obtain ⟨x46, hv46, hX⟩ := z_bd hX
  refine z_getR (pc := 46) G kK8 (k := 5) (by decide) kt_429 dX8_init_46 hv46 ?_
  obtain ⟨h49, hv49, hX⟩ := z_bd hX
  refine z_cI (pc := 49) (As := [.ref x46]) (c2 := 33) (s2 := 2877) G (lX5_init hO hv49) kt_186 kt_4 kt_184 kt_185 rfl ydX5_init ⟨by decide, by decide⟩ rfl (Nat.le_of_ble_eq_true rfl) ⟨rfl, rfl⟩ ⟨by decide, by decide⟩ rfl dX8_init_49 ?_
  obtain ⟨h52, hv52, hX⟩ := z_bd hX
  refine z_putF (pc := 52) G kK8 (k := 6) (by decide) kt_430 (Or.inl rfl) rfl rfl dX8_init_52 hv52 ?_
  refine z_aload_n (pc := 55) G 0 dX8_init_55 rfl rfl ?_
  obtain ⟨q56, hv56, hX⟩ := z_bd hX
  refine z_nO (pc := 56) (c2 := 34) (s2 := 2895) G kK5 kt_182 kt_183 kt_4 (fun j hj => by rcases (show j = 0 ∨ j = 1 ∨ j = 2 ∨ j = 3 ∨ j = 4 ∨ j = 5 ∨ j = 6 ∨ j = 7 ∨ j = 8 ∨ j = 9 ∨ j = 10 ∨ j = 11 ∨ j = 12 ∨ j = 13 ∨ j = 14 ∨ j = 15 ∨ j = 16 ∨ j = 17 by omega) with rfl | rfl | rfl | rfl | rfl | rfl | rfl | rfl | rfl | rfl | rfl | rfl | rfl | rfl | rfl | rfl | rfl | rfl <;> rfl) ⟨rfl, rfl⟩ ⟨by decide, by decide⟩ dX8_init_56 hv56 ?_
  refine z_dup (pc := 59) G dX8_init_59 rfl ?_
  refine z_aload_n (pc := 60) G 0 dX8_init_60 rfl rfl ?_
  obtain ⟨x61, hv61, hX⟩ := z_bd hX
  refine z_getR (pc := 61) G kK8 (k := 5) (by decide) kt_429 dX8_init_61 hv61 ?_
  obtain ⟨h64, hv64, hX⟩ := z_bd hX
  refine z_cI (pc := 64) (As := [.ref x61]) (c2 := 46) (s2 := 3411) G (lX5_init hO hv64) kt_186 kt_4 kt_184 kt_185 rfl ydX5_init ⟨by decide, by decide⟩ rfl (Nat.le_of_ble_eq_true rfl) ⟨rfl, rfl⟩ ⟨by decide, by decide⟩ rfl dX8_init_64 ?_
  obtain ⟨h67, hv67, hX⟩ := z_bd hX
  refine z_putF (pc := 67) G kK8 (k := 7) (by decide) kt_431 (Or.inr ⟨rfl, hnm, rfl⟩) rfl rfl dX8_init_67 hv67 ?_
  refine z_aload_n (pc := 70) G 0 dX8_init_70 rfl rfl ?_
  obtain ⟨q71, hv71, hX⟩ := z_bd hX
  refine z_nO (pc := 71) (c2 := 47) (s2 := 3416) G kK0 kt_277 kt_278 kt_5 (fun j hj => by rcases (show j = 0 ∨ j = 1 ∨ j = 2 ∨ j = 3 ∨ j = 4 by omega) with rfl | rfl | rfl | rfl | rfl <;> rfl) ⟨rfl, rfl⟩ ⟨by decide, by decide⟩ dX8_init_71 hv71 ?_
  refine z_dup (pc := 74) G dX8_init_74 rfl ?_
  obtain ⟨h75, hv75, hX⟩ := z_bd hX
  refine z_cIN (pc := 75) (As := []) (c2 := 48) (s2 := 3446) G (lX0_init hO hv75) kt_281 kt_5 kt_279 kt_280 rfl ydX0_init ⟨by decide, by decide⟩ rfl (Nat.le_of_ble_eq_true rfl) ⟨rfl, rfl⟩ ⟨by decide, by decide⟩ rfl dX8_init_75 ?_
  obtain ⟨h78, hv78, hX⟩ := z_bd hX
  refine z_putF (pc := 78) G kK8 (k := 8) (by decide) kt_432 (Or.inr ⟨rfl, hnm, rfl⟩) rfl rfl dX8_init_78 hv78 ?_
  refine z_aload_n (pc := 81) G 0 dX8_init_81 rfl rfl ?_
  obtain ⟨q82, hv82, hX⟩ := z_bd hX
  refine z_nO (pc := 82) (c2 := 49) (s2 := 3450) G kK6 kt_302 kt_303 kt_6 (fun j hj => by rcases (show j = 0 ∨ j = 1 ∨ j = 2 ∨ j = 3 by omega) with rfl | rfl | rfl | rfl <;> rfl) ⟨rfl, rfl⟩ ⟨by decide, by decide⟩ dX8_init_82 hv82 ?_
  refine z_dup (pc := 85) G dX8_init_85 rfl ?_
  obtain ⟨h86, hv86, hX⟩ := z_bd hX
  refine z_cIN (pc := 86) (As := []) (c2 := 53) (s2 := 3497) G (lX6_init hO hv86) kt_306 kt_6 kt_304 kt_305 rfl ydX6_init ⟨by decide, by decide⟩ rfl (Nat.le_of_ble_eq_true rfl) ⟨rfl, rfl⟩ ⟨by decide, by decide⟩ rfl dX8_init_86 ?_
  obtain ⟨h89, hv89, hX⟩ := z_bd hX
  refine z_putF (pc := 89) G kK8 (k := 9) (by decide) kt_433 (Or.inr ⟨rfl, hnm, rfl⟩) rfl rfl dX8_init_89 hv89 ?_
  refine z_aload_n (pc := 92) G 0 dX8_init_92 rfl rfl ?_
  obtain ⟨q93, hv93, hX⟩ := z_bd hX
  refine z_nO (pc := 93) (c2 := 54) (s2 := 3501) G kK7 kt_323 kt_324 kt_7 (fun j hj => by rcases (show j = 0 ∨ j = 1 ∨ j = 2 ∨ j = 3 by omega) with rfl | rfl | rfl | rfl <;> rfl) ⟨rfl, rfl⟩ ⟨by decide, by decide⟩ dX8_init_93 hv93 ?_
  refine z_dup (pc := 96) G dX8_init_96 rfl ?_
  obtain ⟨h97, hv97, hX⟩ := z_bd hX
  refine z_cIN (pc := 97) (As := []) (c2 := 57) (s2 := 3577) G (lX7_init hO hv97) kt_327 kt_7 kt_325 kt_326 rfl ydX7_init ⟨by decide, by decide⟩ rfl (Nat.le_of_ble_eq_true rfl) ⟨rfl, rfl⟩ ⟨by decide, by decide⟩ rfl dX8_init_97 ?_
  obtain ⟨h100, hv100, hX⟩ := z_bd hX
  refine z_putF (pc := 100) G kK8 (k := 10) (by decide) kt_434 (Or.inr ⟨rfl, hnm, rfl⟩) rfl rfl dX8_init_100 hv100 ?_
  refine z_aload_n (pc := 103) G 0 dX8_init_103 rfl rfl ?_
  obtain ⟨q104, hv104, hX⟩ := z_bd hX
  refine z_nO (pc := 104) (c2 := 58) (s2 := 3581) G kK1 kt_342 kt_343 kt_8 (fun j hj => by rcases (show j = 0 ∨ j = 1 ∨ j = 2 ∨ j = 3 by omega) with rfl | rfl | rfl | rfl <;> rfl) ⟨rfl, rfl⟩ ⟨by decide, by decide⟩ dX8_init_104 hv104 ?_
  refine z_dup (pc := 107) G dX8_init_107 rfl ?_
  refine z_aload_n (pc := 108) G 0 dX8_init_108 rfl rfl ?_
  obtain ⟨x109, hv109, hX⟩ := z_bd hX
  refine z_getR (pc := 109) G kK8 (k := 5) (by decide) kt_429 dX8_init_109 hv109 ?_
  obtain ⟨h112, hv112, hX⟩ := z_bd hX
  refine z_cI (pc := 112) (As := [.ref x109]) (c2 := 59) (s2 := 3621) G (lX1_init hO hv112) kt_346 kt_8 kt_344 kt_345 rfl ydX1_init ⟨by decide, by decide⟩ rfl (Nat.le_of_ble_eq_true rfl) ⟨rfl, rfl⟩ ⟨by decide, by decide⟩ rfl dX8_init_112 ?_
  obtain ⟨h115, hv115, hX⟩ := z_bd hX
  refine z_putF (pc := 115) G kK8 (k := 11) (by decide) kt_435 (Or.inr ⟨rfl, hnm, rfl⟩) rfl rfl dX8_init_115 hv115 ?_
  refine z_aload_n (pc := 118) G 0 dX8_init_118 rfl rfl ?_
  obtain ⟨q119, hv119, hX⟩ := z_bd hX
  refine z_nO (pc := 119) (c2 := 60) (s2 := 3632) G kK4 kt_365 kt_366 kt_9 (fun j hj => by rcases (show j = 0 ∨ j = 1 ∨ j = 2 ∨ j = 3 ∨ j = 4 ∨ j = 5 ∨ j = 6 ∨ j = 7 ∨ j = 8 ∨ j = 9 ∨ j = 10 by omega) with rfl | rfl | rfl | rfl | rfl | rfl | rfl | rfl | rfl | rfl | rfl <;> rfl) ⟨rfl, rfl⟩ ⟨by decide, by decide⟩ dX8_init_119 hv119 ?_
  refine z_dup (pc := 122) G dX8_init_122 rfl ?_
  refine z_aload_n (pc := 123) G 0 dX8_init_123 rfl rfl ?_
  obtain ⟨x124, hv124, hX⟩ := z_bd hX
  refine z_getR (pc := 124) G kK8 (k := 5) (by decide) kt_429 dX8_init_124 hv124 ?_
  obtain ⟨h127, hv127, hX⟩ := z_bd hX
  refine z_cI (pc := 127) (As := [.ref x124]) (c2 := 66) (s2 := 3882) G (lX4_init hO hv127) kt_369 kt_9 kt_367 kt_368 rfl ydX4_init ⟨by decide, by decide⟩ rfl (Nat.le_of_ble_eq_true rfl) ⟨rfl, rfl⟩ ⟨by decide, by decide⟩ rfl dX8_init_127 ?_
  obtain ⟨h130, hv130, hX⟩ := z_bd hX
  refine z_putF (pc := 130) G kK8 (k := 12) (by decide) kt_436 (Or.inr ⟨rfl, hnm, rfl⟩) rfl rfl dX8_init_130 hv130 ?_
  refine z_aload_n (pc := 133) G 0 dX8_init_133 rfl rfl ?_
  refine z_iconst (pc := 134) (v := 3) G dX8_init_134 (by decide) ?_
  obtain ⟨q135, hv135, hX⟩ := z_bd hX
  refine z_nQ (pc := 135) (N := 3) (c2 := 67) (s2 := 3885) G kt_182 (by decide) (by decide) (by decide) ⟨rfl, rfl⟩ ⟨by decide, by decide⟩ dX8_init_135 hv135 ?_
  obtain ⟨h138, hv138, hX⟩ := z_bd hX
  refine z_putF (pc := 138) G kK8 (k := 13) (by decide) kt_437 (Or.inr ⟨rfl, hnm, rfl⟩) rfl rfl dX8_init_138 hv138 ?_
  refine z_aload_n (pc := 141) G 0 dX8_init_141 rfl rfl ?_
  refine z_iconst (pc := 142) (v := 3) G dX8_init_142 (by decide) ?_
  obtain ⟨q143, hv143, hX⟩ := z_bd hX
  refine z_nI (pc := 143) (atype := .boolean) (t := 2) (N := 3) (c2 := 68) (s2 := 3888) G kt_408 rfl (by decide) rfl (fun _ z => by cases z) (by decide) (by decide) (by decide) ⟨rfl, rfl⟩ ⟨by decide, by decide⟩ dX8_init_143 hv143 ?_
  obtain ⟨h145, hv145, hX⟩ := z_bd hX
  refine z_putF (pc := 145) G kK8 (k := 14) (by decide) kt_438 (Or.inr ⟨rfl, hnm, rfl⟩) rfl rfl dX8_init_145 hv145 ?_
  refine z_aload_n (pc := 148) G 0 dX8_init_148 rfl rfl ?_
  refine z_bipush (pc := 149) (v := 6) G dX8_init_149 (by decide) ?_
  obtain ⟨q151, hv151, hX⟩ := z_bd hX
  refine z_nI (pc := 151) (atype := .int) (t := 0) (N := 6) (c2 := 69) (s2 := 3894) G kt_136 rfl (by decide) rfl (fun _ z => by cases z) (by decide) (by decide) (by decide) ⟨rfl, rfl⟩ ⟨by decide, by decide⟩ dX8_init_151 hv151 ?_
  obtain ⟨h153, hv153, hX⟩ := z_bd hX
  refine z_putF (pc := 153) G kK8 (k := 15) (by decide) kt_439 (Or.inr ⟨rfl, hnm, rfl⟩) rfl rfl dX8_init_153 hv153 ?_
  refine z_aload_n (pc := 156) G 0 dX8_init_156 rfl rfl ?_
  obtain ⟨x157, hv157, hX⟩ := z_bd hX
  refine z_getR (pc := 157) G kK8 (k := 6) (by decide) kt_430 dX8_init_157 hv157 ?_
  obtain ⟨hi160, hX⟩ := z_gu_s hX
  obtain ⟨h160, hv160, hX⟩ := z_bd hX
  refine z_cVV (pc := 160) (As := []) (c2 := 69) (s2 := 3894) G kK5 (lX5_start hO hv160) hi160 kt_412 kt_4 kt_409 kt_410 kt_411 ydX5_start ⟨by decide, by decide⟩ rfl (Nat.le_of_ble_eq_true rfl) ⟨rfl, rfl⟩ ⟨by decide, by decide⟩ rfl dX8_init_160 ?_
  exact z_vretX (pc := 163) hX G hr dX8_init_163 (by decide) (by decide)
theorem dX8_putOnTape_0 : decode cX8_putOnTape 0 = .ok (.bipush 24, 2) := by decide +kernel
theorem dX8_putOnTape_2 : decode cX8_putOnTape 2 = .ok (.istore_n 2, 1) := by decide +kernel
theorem dX8_putOnTape_3 : decode cX8_putOnTape 3 = .ok (.iload_n 2, 1) := by decide +kernel
theorem dX8_putOnTape_4 : decode cX8_putOnTape 4 = .ok (.ifCond .lt 32, 3) := by decide +kernel
theorem dX8_putOnTape_7 : decode cX8_putOnTape 7 = .ok (.aload_n 0, 1) := by decide +kernel
theorem dX8_putOnTape_8 : decode cX8_putOnTape 8 = .ok (.getfield 9, 3) := by decide +kernel
theorem dX8_putOnTape_11 : decode cX8_putOnTape 11 = .ok (.aload_n 0, 1) := by decide +kernel
theorem dX8_putOnTape_12 : decode cX8_putOnTape 12 = .ok (.getfield 93, 3) := by decide +kernel
theorem dX8_putOnTape_15 : decode cX8_putOnTape 15 = .ok (.iload_n 1, 1) := by decide +kernel
theorem dX8_putOnTape_16 : decode cX8_putOnTape 16 = .ok (.iload_n 2, 1) := by decide +kernel
theorem dX8_putOnTape_17 : decode cX8_putOnTape 17 = .ok (.ishr, 1) := by decide +kernel
theorem dX8_putOnTape_18 : decode cX8_putOnTape 18 = .ok (.i2b, 1) := by decide +kernel
theorem dX8_putOnTape_19 : decode cX8_putOnTape 19 = .ok (.bastore, 1) := by decide +kernel
theorem dX8_putOnTape_20 : decode cX8_putOnTape 20 = .ok (.aload_n 0, 1) := by decide +kernel
theorem dX8_putOnTape_21 : decode cX8_putOnTape 21 = .ok (.dup, 1) := by decide +kernel
theorem dX8_putOnTape_22 : decode cX8_putOnTape 22 = .ok (.getfield 93, 3) := by decide +kernel
theorem dX8_putOnTape_25 : decode cX8_putOnTape 25 = .ok (.iconst 1, 1) := by decide +kernel
theorem dX8_putOnTape_26 : decode cX8_putOnTape 26 = .ok (.iadd, 1) := by decide +kernel
theorem dX8_putOnTape_27 : decode cX8_putOnTape 27 = .ok (.putfield 93, 3) := by decide +kernel
theorem dX8_putOnTape_30 : decode cX8_putOnTape 30 = .ok (.iinc 2 (-8), 3) := by decide +kernel
theorem dX8_putOnTape_33 : decode cX8_putOnTape 33 = .ok (.goto (-30), 3) := by decide +kernel
theorem dX8_putOnTape_36 : decode cX8_putOnTape 36 = .ok (.return_, 1) := by decide +kernel
theorem ydX8_putOnTape : z_yd yX8_putOnTape 1 := ⟨by decide, by decide, by decide +kernel⟩
abbrev rmX8_putOnTape : Room := { frames := 0, cells := 0, slots := 0, locals := 0 }
noncomputable def xX8_putOnTape_B3 (r3 : Nat → Int32 → Int32 → ZH → Option ZH) (l0 : Nat) (l1 : Int32) (l2 : Int32) (h : ZH) : Option ZH := (if l2 < 0 then some h else ((z_gR h l0 8 0).bind fun x8 => ((z_gI h l0 8 1).bind fun x12 => ((z_uB h x8 x12 ((l1 >>> (l2 &&& 31)).toInt8.toInt32)).bind fun h19 => ((z_gI h19 l0 8 1).bind fun x22 => ((z_sF h19 l0 8 1 (.int (x22 + (1 : Int32)))).bind fun h27 => r3 l0 l1 (l2 + (-8)) h27))))))
noncomputable def xX8_putOnTape_L3 (n : Nat) : Nat → Int32 → Int32 → ZH → Option ZH := Nat.rec (motive := fun _ => Nat → Int32 → Int32 → ZH → Option ZH) (fun _ _ _ _ => none) (fun _ rec => xX8_putOnTape_B3  rec) n
set_option maxHeartbeats 4000000 in
set_option maxRecDepth 100000 in
theorem wX8_putOnTape_B3 {Γ : ZG} {p : Program} {l : Launch} {e : Env} {s : State} {m : MethodId} {args : Array Value} {below : List Frame} {meth : Method} {c : Code} (hO : z_OK Γ) (G : z_GG Γ p s m args meth c cX8_putOnTape 3 RX8) (hr : meth.sig.returnType = none) (hnm : meth.name = "putOnTape") {r : ZH} {r3 : Nat → Int32 → Int32 → ZH → Option ZH} (H3 : ∀ (l0 : Nat) (l1 : Int32) (l2 : Int32) (h : ZH), r3 l0 l1 l2 h = some r → z_W Γ p l e rmX8_putOnTape s m args below meth c 3 0 0 (MQ below (z_Qc Γ none r) args s rmX8_putOnTape.cells rmX8_putOnTape.slots (z_A Γ)) 3 [(0, .ref l0), (1, .int l1), (2, .int l2)] [] h) : ∀ (l0 : Nat) (l1 : Int32) (l2 : Int32) (h : ZH), xX8_putOnTape_B3  r3 l0 l1 l2 h = some r → z_W Γ p l e rmX8_putOnTape s m args below meth c 3 0 0 (MQ below (z_Qc Γ none r) args s rmX8_putOnTape.cells rmX8_putOnTape.slots (z_A Γ)) 3 [(0, .ref l0), (1, .int l1), (2, .int l2)] [] h := by
  intro l0 l1 l2 h hX
  refine z_iload_n (pc := 3) G 2 dX8_putOnTape_3 rfl rfl ?_
  refine z_if_lt (pc := 4) (tgt := 36) G dX8_putOnTape_4 (by decide) (fun hc4 => ?_) (fun hc4 => ?_)
  · have hX := z_it hc4 hX
    exact z_vretX (pc := 36) hX G hr dX8_putOnTape_36 (by decide) (by decide)
  · have hX := z_if hc4 hX
    refine z_aload_n (pc := 7) G 0 dX8_putOnTape_7 rfl rfl ?_
    obtain ⟨x8, hv8, hX⟩ := z_bd hX
    refine z_getR (pc := 8) G kK8 (k := 0) (by decide) kt_424 dX8_putOnTape_8 hv8 ?_
    refine z_aload_n (pc := 11) G 0 dX8_putOnTape_11 rfl rfl ?_
    obtain ⟨x12, hv12, hX⟩ := z_bd hX
    refine z_getI (pc := 12) G kK8 (k := 1) (by decide) kt_425 dX8_putOnTape_12 hv12 ?_
    refine z_iload_n (pc := 15) G 1 dX8_putOnTape_15 rfl rfl ?_
    refine z_iload_n (pc := 16) G 2 dX8_putOnTape_16 rfl rfl ?_
    refine z_ishr (pc := 17) G dX8_putOnTape_17 ?_
    refine z_i2b (pc := 18) (v := (l1 >>> (l2 &&& 31)).toInt8.toInt32) G dX8_putOnTape_18 rfl ?_
    obtain ⟨h19, hv19, hX⟩ := z_bd hX
    refine z_bast (pc := 19) G dX8_putOnTape_19 hv19 ?_
    refine z_aload_n (pc := 20) G 0 dX8_putOnTape_20 rfl rfl ?_
    refine z_dup (pc := 21) G dX8_putOnTape_21 rfl ?_
    obtain ⟨x22, hv22, hX⟩ := z_bd hX
    refine z_getI (pc := 22) G kK8 (k := 1) (by decide) kt_425 dX8_putOnTape_22 hv22 ?_
    refine z_iconst (pc := 25) (v := 1) G dX8_putOnTape_25 (by decide) ?_
    refine z_iadd (pc := 26) G dX8_putOnTape_26 ?_
    obtain ⟨h27, hv27, hX⟩ := z_bd hX
    refine z_putF (pc := 27) G kK8 (k := 1) (by decide) kt_425 (Or.inl rfl) rfl rfl dX8_putOnTape_27 hv27 ?_
    refine z_iincw (pc := 30) (w := (-8)) (lv2 := [(0, .ref l0), (1, .int l1), (2, .int (l2 + (-8)))]) G 2 dX8_putOnTape_30 rfl (by decide) (by decide) rfl rfl ?_
    refine z_goto (pc := 33) (tgt := 3) G dX8_putOnTape_33 (by decide) ?_
    exact H3 _ _ _ _ hX
set_option maxHeartbeats 4000000 in
set_option maxRecDepth 100000 in
theorem wX8_putOnTape_L3 {Γ : ZG} {p : Program} {l : Launch} {e : Env} {s : State} {m : MethodId} {args : Array Value} {below : List Frame} {meth : Method} {c : Code} (hO : z_OK Γ) (G : z_GG Γ p s m args meth c cX8_putOnTape 3 RX8) (hr : meth.sig.returnType = none) (hnm : meth.name = "putOnTape") {r : ZH} : ∀ (nn : Nat) (l0 : Nat) (l1 : Int32) (l2 : Int32) (h : ZH), xX8_putOnTape_L3  nn l0 l1 l2 h = some r → z_W Γ p l e rmX8_putOnTape s m args below meth c 3 0 0 (MQ below (z_Qc Γ none r) args s rmX8_putOnTape.cells rmX8_putOnTape.slots (z_A Γ)) 3 [(0, .ref l0), (1, .int l1), (2, .int l2)] [] h := by
  intro nn
  induction nn with
  | zero => intro l0 l1 l2 h hX; cases hX
  | succ nn ih => intro l0 l1 l2 h hX; exact wX8_putOnTape_B3 hO G hr hnm  ih l0 l1 l2 h hX
noncomputable def xX8_putOnTape (l0 : Nat) (l1 : Int32) (h : ZH) : Option ZH := xX8_putOnTape_L3 zFU l0 l1 (24 : Int32) h
set_option maxHeartbeats 4000000 in
set_option maxRecDepth 100000 in
theorem lX8_putOnTape {Γ : ZG} {l : Launch} (hO : z_OK Γ) {l0 : Nat} {l1 : Int32} {h : ZH} {r : ZH} (hX : xX8_putOnTape l0 l1 h = some r) : z_M Γ l yX8_putOnTape (z_ws1 yX8_putOnTape cX8_putOnTape 3 none) rmX8_putOnTape [.ref l0, .int l1] h none r := by
  refine z_start hO (plainFor_of_name (by decide)) (Nat.le_of_ble_eq_true rfl) ?_
  intro p e s m args below meth c G hr hnm
  refine z_lvc (lv2 := [(0, .ref l0), (1, .int l1)]) rfl ?_
  refine z_bipush (pc := 0) (v := 24) G dX8_putOnTape_0 (by decide) ?_
  refine z_istore_n (pc := 2) (lv2 := [(0, .ref l0), (1, .int l1), (2, .int (24 : Int32))]) G dX8_putOnTape_2 rfl (by decide) rfl rfl ?_
  exact wX8_putOnTape_L3 hO G hr hnm zFU _ _ _ _ hX
theorem dX8_feed_0 : decode cX8_feed 0 = .ok (.aload_n 0, 1) := by decide +kernel
theorem dX8_feed_1 : decode cX8_feed 1 = .ok (.getfield 93, 3) := by decide +kernel
theorem dX8_feed_4 : decode cX8_feed 4 = .ok (.bipush 20, 2) := by decide +kernel
theorem dX8_feed_6 : decode cX8_feed 6 = .ok (.iadd, 1) := by decide +kernel
theorem dX8_feed_7 : decode cX8_feed 7 = .ok (.sipush 1600, 3) := by decide +kernel
theorem dX8_feed_10 : decode cX8_feed 10 = .ok (.if_icmp .le 5, 3) := by decide +kernel
theorem dX8_feed_13 : decode cX8_feed 13 = .ok (.iconst (-1), 1) := by decide +kernel
theorem dX8_feed_14 : decode cX8_feed 14 = .ok (.ireturn, 1) := by decide +kernel
theorem dX8_feed_15 : decode cX8_feed 15 = .ok (.aload_n 0, 1) := by decide +kernel
theorem dX8_feed_16 : decode cX8_feed 16 = .ok (.iload_n 1, 1) := by decide +kernel
theorem dX8_feed_17 : decode cX8_feed 17 = .ok (.invokevirtual 96, 3) := by decide +kernel
theorem dX8_feed_20 : decode cX8_feed 20 = .ok (.aload_n 0, 1) := by decide +kernel
theorem dX8_feed_21 : decode cX8_feed 21 = .ok (.iload_n 2, 1) := by decide +kernel
theorem dX8_feed_22 : decode cX8_feed 22 = .ok (.invokevirtual 96, 3) := by decide +kernel
theorem dX8_feed_25 : decode cX8_feed 25 = .ok (.aload_n 0, 1) := by decide +kernel
theorem dX8_feed_26 : decode cX8_feed 26 = .ok (.iload_n 3, 1) := by decide +kernel
theorem dX8_feed_27 : decode cX8_feed 27 = .ok (.invokevirtual 96, 3) := by decide +kernel
theorem dX8_feed_30 : decode cX8_feed 30 = .ok (.aload_n 0, 1) := by decide +kernel
theorem dX8_feed_31 : decode cX8_feed 31 = .ok (.iload 4, 2) := by decide +kernel
theorem dX8_feed_33 : decode cX8_feed 33 = .ok (.invokevirtual 96, 3) := by decide +kernel
theorem dX8_feed_36 : decode cX8_feed 36 = .ok (.aload_n 0, 1) := by decide +kernel
theorem dX8_feed_37 : decode cX8_feed 37 = .ok (.iload 5, 2) := by decide +kernel
theorem dX8_feed_39 : decode cX8_feed 39 = .ok (.invokevirtual 96, 3) := by decide +kernel
theorem dX8_feed_42 : decode cX8_feed 42 = .ok (.aload_n 0, 1) := by decide +kernel
theorem dX8_feed_43 : decode cX8_feed 43 = .ok (.getfield 93, 3) := by decide +kernel
theorem dX8_feed_46 : decode cX8_feed 46 = .ok (.ireturn, 1) := by decide +kernel
theorem ydX8_feed : z_yd yX8_feed 5 := ⟨by decide, by decide, by decide +kernel⟩
abbrev rmX8_feed : Room := { frames := 1, cells := 0, slots := 0, locals := 22 }
noncomputable def xX8_feed (l0 : Nat) (l1 : Int32) (l2 : Int32) (l3 : Int32) (l4 : Int32) (l5 : Int32) (h : ZH) : Option (Int32 × ZH) := ((z_gI h l0 8 1).bind fun x1 => (if (x1 + (20 : Int32)) ≤ (1600 : Int32) then (z_gu (z_is h l0 8) ((xX8_putOnTape l0 l1 h).bind fun h17 => (z_gu (z_is h17 l0 8) ((xX8_putOnTape l0 l2 h17).bind fun h22 => (z_gu (z_is h22 l0 8) ((xX8_putOnTape l0 l3 h22).bind fun h27 => (z_gu (z_is h27 l0 8) ((xX8_putOnTape l0 l4 h27).bind fun h33 => (z_gu (z_is h33 l0 8) ((xX8_putOnTape l0 l5 h33).bind fun h39 => ((z_gI h39 l0 8 1).bind fun x43 => some (x43, h39)))))))))))) else some ((-1 : Int32), h)))
set_option maxHeartbeats 4000000 in
set_option maxRecDepth 100000 in
theorem lX8_feed {Γ : ZG} {l : Launch} (hO : z_OK Γ) {l0 : Nat} {l1 : Int32} {l2 : Int32} {l3 : Int32} {l4 : Int32} {l5 : Int32} {h : ZH} {r : (Int32 × ZH)} (hX : xX8_feed l0 l1 l2 l3 l4 l5 h = some r) : z_M Γ l yX8_feed (z_ws1 yX8_feed cX8_feed 6 (some .int)) rmX8_feed [.ref l0, .int l1, .int l2, .int l3, .int l4, .int l5] h (some (.int r.1)) r.2 := by
  refine z_start hO (plainFor_of_name (by decide)) (Nat.le_of_ble_eq_true rfl) ?_
  intro p e s m args below meth c G hr hnm
  refine z_lvc (lv2 := [(0, .ref l0), (1, .int l1), (2, .int l2), (3, .int l3), (4, .int l4), (5, .int l5)]) rfl ?_
  refine z_aload_n (pc := 0) G 0 dX8_feed_0 rfl rfl ?_
  obtain ⟨x1, hv1, hX⟩ := z_bd hX
  refine z_getI (pc := 1) G kK8 (k := 1) (by decide) kt_425 dX8_feed_1 hv1 ?_
  refine z_bipush (pc := 4) (v := 20) G dX8_feed_4 (by decide) ?_
  refine z_iadd (pc := 6) G dX8_feed_6 ?_
  refine z_sipush (pc := 7) (v := 1600) G dX8_feed_7 (by decide) ?_
  refine z_icmp_le (pc := 10) (tgt := 15) G dX8_feed_10 (by decide) (fun hc10 => ?_) (fun hc10 => ?_)
  · have hX := z_it hc10 hX
    refine z_aload_n (pc := 15) G 0 dX8_feed_15 rfl rfl ?_
    refine z_iload_n (pc := 16) G 1 dX8_feed_16 rfl rfl ?_
    obtain ⟨hi17, hX⟩ := z_gu_s hX
    obtain ⟨h17, hv17, hX⟩ := z_bd hX
    refine z_cVV (pc := 17) (As := [.int l1]) (c2 := 0) (s2 := 0) G kK8 (lX8_putOnTape hO hv17) hi17 kt_486 kt_1 kt_483 kt_485 ks_0 ydX8_putOnTape ⟨by decide, by decide⟩ rfl (Nat.le_of_ble_eq_true rfl) ⟨rfl, rfl⟩ ⟨by decide, by decide⟩ rfl dX8_feed_17 ?_
    refine z_aload_n (pc := 20) G 0 dX8_feed_20 rfl rfl ?_
    refine z_iload_n (pc := 21) G 2 dX8_feed_21 rfl rfl ?_
    obtain ⟨hi22, hX⟩ := z_gu_s hX
    obtain ⟨h22, hv22, hX⟩ := z_bd hX
    refine z_cVV (pc := 22) (As := [.int l2]) (c2 := 0) (s2 := 0) G kK8 (lX8_putOnTape hO hv22) hi22 kt_486 kt_1 kt_483 kt_485 ks_0 ydX8_putOnTape ⟨by decide, by decide⟩ rfl (Nat.le_of_ble_eq_true rfl) ⟨rfl, rfl⟩ ⟨by decide, by decide⟩ rfl dX8_feed_22 ?_
    refine z_aload_n (pc := 25) G 0 dX8_feed_25 rfl rfl ?_
    refine z_iload_n (pc := 26) G 3 dX8_feed_26 rfl rfl ?_
    obtain ⟨hi27, hX⟩ := z_gu_s hX
    obtain ⟨h27, hv27, hX⟩ := z_bd hX
    refine z_cVV (pc := 27) (As := [.int l3]) (c2 := 0) (s2 := 0) G kK8 (lX8_putOnTape hO hv27) hi27 kt_486 kt_1 kt_483 kt_485 ks_0 ydX8_putOnTape ⟨by decide, by decide⟩ rfl (Nat.le_of_ble_eq_true rfl) ⟨rfl, rfl⟩ ⟨by decide, by decide⟩ rfl dX8_feed_27 ?_
    refine z_aload_n (pc := 30) G 0 dX8_feed_30 rfl rfl ?_
    refine z_iload (pc := 31) G 4 dX8_feed_31 rfl ?_
    obtain ⟨hi33, hX⟩ := z_gu_s hX
    obtain ⟨h33, hv33, hX⟩ := z_bd hX
    refine z_cVV (pc := 33) (As := [.int l4]) (c2 := 0) (s2 := 0) G kK8 (lX8_putOnTape hO hv33) hi33 kt_486 kt_1 kt_483 kt_485 ks_0 ydX8_putOnTape ⟨by decide, by decide⟩ rfl (Nat.le_of_ble_eq_true rfl) ⟨rfl, rfl⟩ ⟨by decide, by decide⟩ rfl dX8_feed_33 ?_
    refine z_aload_n (pc := 36) G 0 dX8_feed_36 rfl rfl ?_
    refine z_iload (pc := 37) G 5 dX8_feed_37 rfl ?_
    obtain ⟨hi39, hX⟩ := z_gu_s hX
    obtain ⟨h39, hv39, hX⟩ := z_bd hX
    refine z_cVV (pc := 39) (As := [.int l5]) (c2 := 0) (s2 := 0) G kK8 (lX8_putOnTape hO hv39) hi39 kt_486 kt_1 kt_483 kt_485 ks_0 ydX8_putOnTape ⟨by decide, by decide⟩ rfl (Nat.le_of_ble_eq_true rfl) ⟨rfl, rfl⟩ ⟨by decide, by decide⟩ rfl dX8_feed_39 ?_
    refine z_aload_n (pc := 42) G 0 dX8_feed_42 rfl rfl ?_
    obtain ⟨x43, hv43, hX⟩ := z_bd hX
    refine z_getI (pc := 43) G kK8 (k := 1) (by decide) kt_425 dX8_feed_43 hv43 ?_
    exact z_iretX (pc := 46) hX G hr dX8_feed_46 (by decide) (by decide)
  · have hX := z_if hc10 hX
    refine z_iconst (pc := 13) (v := (-1)) G dX8_feed_13 (by decide) ?_
    exact z_iretX (pc := 14) hX G hr dX8_feed_14 (by decide) (by decide)
theorem dX8_end_0 : decode cX8_end 0 = .ok (.iload_n 1, 1) := by decide +kernel
theorem dX8_end_1 : decode cX8_end 1 = .ok (.ifCond .lt 11, 3) := by decide +kernel
theorem dX8_end_4 : decode cX8_end 4 = .ok (.iload_n 1, 1) := by decide +kernel
theorem dX8_end_5 : decode cX8_end 5 = .ok (.aload_n 0, 1) := by decide +kernel
theorem dX8_end_6 : decode cX8_end 6 = .ok (.getfield 93, 3) := by decide +kernel
theorem dX8_end_9 : decode cX8_end 9 = .ok (.if_icmp .le 5, 3) := by decide +kernel
theorem dX8_end_12 : decode cX8_end 12 = .ok (.iconst (-1), 1) := by decide +kernel
theorem dX8_end_13 : decode cX8_end 13 = .ok (.ireturn, 1) := by decide +kernel
theorem dX8_end_14 : decode cX8_end 14 = .ok (.aload_n 0, 1) := by decide +kernel
theorem dX8_end_15 : decode cX8_end 15 = .ok (.iload_n 1, 1) := by decide +kernel
theorem dX8_end_16 : decode cX8_end 16 = .ok (.putfield 93, 3) := by decide +kernel
theorem dX8_end_19 : decode cX8_end 19 = .ok (.iload_n 1, 1) := by decide +kernel
theorem dX8_end_20 : decode cX8_end 20 = .ok (.ireturn, 1) := by decide +kernel
theorem ydX8_end : z_yd yX8_end 1 := ⟨by decide, by decide, by decide +kernel⟩
abbrev rmX8_end : Room := { frames := 0, cells := 0, slots := 0, locals := 0 }
noncomputable def xX8_end (l0 : Nat) (l1 : Int32) (h : ZH) : Option (Int32 × ZH) := (if l1 < 0 then some ((-1 : Int32), h) else ((z_gI h l0 8 1).bind fun x6 => (if l1 ≤ x6 then ((z_sF h l0 8 1 (.int l1)).bind fun h16 => some (l1, h16)) else some ((-1 : Int32), h))))
set_option maxHeartbeats 4000000 in
set_option maxRecDepth 100000 in
theorem lX8_end {Γ : ZG} {l : Launch} (hO : z_OK Γ) {l0 : Nat} {l1 : Int32} {h : ZH} {r : (Int32 × ZH)} (hX : xX8_end l0 l1 h = some r) : z_M Γ l yX8_end (z_ws1 yX8_end cX8_end 2 (some .int)) rmX8_end [.ref l0, .int l1] h (some (.int r.1)) r.2 := by
  refine z_start hO (plainFor_of_name (by decide)) (Nat.le_of_ble_eq_true rfl) ?_
  intro p e s m args below meth c G hr hnm
  refine z_lvc (lv2 := [(0, .ref l0), (1, .int l1)]) rfl ?_
  refine z_iload_n (pc := 0) G 1 dX8_end_0 rfl rfl ?_
  refine z_if_lt (pc := 1) (tgt := 12) G dX8_end_1 (by decide) (fun hc1 => ?_) (fun hc1 => ?_)
  · have hX := z_it hc1 hX
    refine z_iconst (pc := 12) (v := (-1)) G dX8_end_12 (by decide) ?_
    exact z_iretX (pc := 13) hX G hr dX8_end_13 (by decide) (by decide)
  · have hX := z_if hc1 hX
    refine z_iload_n (pc := 4) G 1 dX8_end_4 rfl rfl ?_
    refine z_aload_n (pc := 5) G 0 dX8_end_5 rfl rfl ?_
    obtain ⟨x6, hv6, hX⟩ := z_bd hX
    refine z_getI (pc := 6) G kK8 (k := 1) (by decide) kt_425 dX8_end_6 hv6 ?_
    refine z_icmp_le (pc := 9) (tgt := 14) G dX8_end_9 (by decide) (fun hc9 => ?_) (fun hc9 => ?_)
    · have hX := z_it hc9 hX
      refine z_aload_n (pc := 14) G 0 dX8_end_14 rfl rfl ?_
      refine z_iload_n (pc := 15) G 1 dX8_end_15 rfl rfl ?_
      obtain ⟨h16, hv16, hX⟩ := z_bd hX
      refine z_putF (pc := 16) G kK8 (k := 1) (by decide) kt_425 (Or.inl rfl) rfl rfl dX8_end_16 hv16 ?_
      refine z_iload_n (pc := 19) G 1 dX8_end_19 rfl rfl ?_
      exact z_iretX (pc := 20) hX G hr dX8_end_20 (by decide) (by decide)
    · have hX := z_if hc9 hX
      refine z_iconst (pc := 12) (v := (-1)) G dX8_end_12 (by decide) ?_
      exact z_iretX (pc := 13) hX G hr dX8_end_13 (by decide) (by decide)
