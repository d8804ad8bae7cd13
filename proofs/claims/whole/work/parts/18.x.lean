theorem dX9_lots_0 : decode cX9_lots 0 = .ok (.aload_n 0, 1) := by decide +kernel
theorem dX9_lots_1 : decode cX9_lots 1 = .ok (.getfield 20, 3) := by decide +kernel
theorem dX9_lots_4 : decode cX9_lots 4 = .ok (.aload_n 0, 1) := by decide +kernel
theorem dX9_lots_5 : decode cX9_lots 5 = .ok (.getfield 255, 3) := by decide +kernel
theorem dX9_lots_8 : decode cX9_lots 8 = .ok (.iaload, 1) := by decide +kernel
theorem dX9_lots_9 : decode cX9_lots 9 = .ok (.ireturn, 1) := by decide +kernel
theorem ydX9_lots : z_yd yX9_lots 0 := ⟨by decide, by decide, by decide +kernel⟩
abbrev rmX9_lots : Room := { frames := 0, cells := 0, slots := 0, locals := 0 }
noncomputable def xX9_lots (l0 : Nat) (h : ZH) : Option (Int32 × ZH) := ((z_gR h l0 9 11).bind fun x1 => ((z_gI h l0 9 34).bind fun x5 => ((z_aI h x1 x5).bind fun x8 => some (x8, h))))
set_option maxHeartbeats 4000000 in
set_option maxRecDepth 100000 in
theorem lX9_lots {Γ : ZG} {l : Launch} (hO : z_OK Γ) {l0 : Nat} {h : ZH} {r : (Int32 × ZH)} (hX : xX9_lots l0 h = some r) : z_M Γ l yX9_lots (z_ws1 yX9_lots cX9_lots 1 (some .int)) rmX9_lots [.ref l0] h (some (.int r.1)) r.2 := by
  refine z_start hO (plainFor_of_name (by decide)) (Nat.le_of_ble_eq_true rfl) ?_
  intro p e s m args below meth c G hr hnm
  refine z_lvc (lv2 := [(0, .ref l0)]) rfl ?_
  refine z_aload_n (pc := 0) G 0 dX9_lots_0 rfl rfl ?_
  obtain ⟨x1, hv1, hX⟩ := z_bd hX
  refine z_getR (pc := 1) G kK9 (k := 11) (by decide) kt_1237 dX9_lots_1 hv1 ?_
  refine z_aload_n (pc := 4) G 0 dX9_lots_4 rfl rfl ?_
  obtain ⟨x5, hv5, hX⟩ := z_bd hX
  refine z_getI (pc := 5) G kK9 (k := 34) (by decide) kt_1260 dX9_lots_5 hv5 ?_
  obtain ⟨x8, hv8, hX⟩ := z_bd hX
  refine z_iald (pc := 8) G dX9_lots_8 hv8 ?_
  exact z_iretX (pc := 9) hX G hr dX9_lots_9 (by decide) (by decide)
theorem dX9_layTold_0 : decode cX9_layTold 0 = .ok (.iconst 0, 1) := by decide +kernel
theorem dX9_layTold_1 : decode cX9_layTold 1 = .ok (.istore_n 1, 1) := by decide +kernel
theorem dX9_layTold_2 : decode cX9_layTold 2 = .ok (.iload_n 1, 1) := by decide +kernel
theorem dX9_layTold_3 : decode cX9_layTold 3 = .ok (.sipush 521, 3) := by decide +kernel
theorem dX9_layTold_6 : decode cX9_layTold 6 = .ok (.if_icmp .ge 16, 3) := by decide +kernel
theorem dX9_layTold_9 : decode cX9_layTold 9 = .ok (.aload_n 0, 1) := by decide +kernel
theorem dX9_layTold_10 : decode cX9_layTold 10 = .ok (.getfield 91, 3) := by decide +kernel
theorem dX9_layTold_13 : decode cX9_layTold 13 = .ok (.iload_n 1, 1) := by decide +kernel
theorem dX9_layTold_14 : decode cX9_layTold 14 = .ok (.iconst 0, 1) := by decide +kernel
theorem dX9_layTold_15 : decode cX9_layTold 15 = .ok (.iastore, 1) := by decide +kernel
theorem dX9_layTold_16 : decode cX9_layTold 16 = .ok (.iinc 1 1, 3) := by decide +kernel
theorem dX9_layTold_19 : decode cX9_layTold 19 = .ok (.goto (-17), 3) := by decide +kernel
theorem dX9_layTold_22 : decode cX9_layTold 22 = .ok (.iconst 0, 1) := by decide +kernel
theorem dX9_layTold_23 : decode cX9_layTold 23 = .ok (.istore_n 1, 1) := by decide +kernel
theorem dX9_layTold_24 : decode cX9_layTold 24 = .ok (.iload_n 1, 1) := by decide +kernel
theorem dX9_layTold_25 : decode cX9_layTold 25 = .ok (.bipush 6, 2) := by decide +kernel
theorem dX9_layTold_27 : decode cX9_layTold 27 = .ok (.if_icmp .ge 113, 3) := by decide +kernel
theorem dX9_layTold_30 : decode cX9_layTold 30 = .ok (.iload_n 1, 1) := by decide +kernel
theorem dX9_layTold_31 : decode cX9_layTold 31 = .ok (.aload_n 0, 1) := by decide +kernel
theorem dX9_layTold_32 : decode cX9_layTold 32 = .ok (.invokevirtual 337, 3) := by decide +kernel
theorem dX9_layTold_35 : decode cX9_layTold 35 = .ok (.if_icmp .ge 94, 3) := by decide +kernel
theorem dX9_layTold_38 : decode cX9_layTold 38 = .ok (.aload_n 0, 1) := by decide +kernel
theorem dX9_layTold_39 : decode cX9_layTold 39 = .ok (.getfield 91, 3) := by decide +kernel
theorem dX9_layTold_42 : decode cX9_layTold 42 = .ok (.iconst 0, 1) := by decide +kernel
theorem dX9_layTold_43 : decode cX9_layTold 43 = .ok (.iload_n 1, 1) := by decide +kernel
theorem dX9_layTold_44 : decode cX9_layTold 44 = .ok (.iadd, 1) := by decide +kernel
theorem dX9_layTold_45 : decode cX9_layTold 45 = .ok (.aload_n 0, 1) := by decide +kernel
theorem dX9_layTold_46 : decode cX9_layTold 46 = .ok (.getfield 51, 3) := by decide +kernel
theorem dX9_layTold_49 : decode cX9_layTold 49 = .ok (.bipush 6, 2) := by decide +kernel
theorem dX9_layTold_51 : decode cX9_layTold 51 = .ok (.aload_n 0, 1) := by decide +kernel
theorem dX9_layTold_52 : decode cX9_layTold 52 = .ok (.getfield 255, 3) := by decide +kernel
theorem dX9_layTold_55 : decode cX9_layTold 55 = .ok (.imul, 1) := by decide +kernel
theorem dX9_layTold_56 : decode cX9_layTold 56 = .ok (.iload_n 1, 1) := by decide +kernel
theorem dX9_layTold_57 : decode cX9_layTold 57 = .ok (.iadd, 1) := by decide +kernel
theorem dX9_layTold_58 : decode cX9_layTold 58 = .ok (.iaload, 1) := by decide +kernel
theorem dX9_layTold_59 : decode cX9_layTold 59 = .ok (.iastore, 1) := by decide +kernel
theorem dX9_layTold_60 : decode cX9_layTold 60 = .ok (.aload_n 0, 1) := by decide +kernel
theorem dX9_layTold_61 : decode cX9_layTold 61 = .ok (.getfield 91, 3) := by decide +kernel
theorem dX9_layTold_64 : decode cX9_layTold 64 = .ok (.bipush 6, 2) := by decide +kernel
theorem dX9_layTold_66 : decode cX9_layTold 66 = .ok (.iload_n 1, 1) := by decide +kernel
theorem dX9_layTold_67 : decode cX9_layTold 67 = .ok (.iadd, 1) := by decide +kernel
theorem dX9_layTold_68 : decode cX9_layTold 68 = .ok (.aload_n 0, 1) := by decide +kernel
theorem dX9_layTold_69 : decode cX9_layTold 69 = .ok (.getfield 54, 3) := by decide +kernel
theorem dX9_layTold_72 : decode cX9_layTold 72 = .ok (.bipush 6, 2) := by decide +kernel
theorem dX9_layTold_74 : decode cX9_layTold 74 = .ok (.aload_n 0, 1) := by decide +kernel
theorem dX9_layTold_75 : decode cX9_layTold 75 = .ok (.getfield 255, 3) := by decide +kernel
theorem dX9_layTold_78 : decode cX9_layTold 78 = .ok (.imul, 1) := by decide +kernel
theorem dX9_layTold_79 : decode cX9_layTold 79 = .ok (.iload_n 1, 1) := by decide +kernel
theorem dX9_layTold_80 : decode cX9_layTold 80 = .ok (.iadd, 1) := by decide +kernel
theorem dX9_layTold_81 : decode cX9_layTold 81 = .ok (.iaload, 1) := by decide +kernel
theorem dX9_layTold_82 : decode cX9_layTold 82 = .ok (.iastore, 1) := by decide +kernel
theorem dX9_layTold_83 : decode cX9_layTold 83 = .ok (.aload_n 0, 1) := by decide +kernel
theorem dX9_layTold_84 : decode cX9_layTold 84 = .ok (.getfield 91, 3) := by decide +kernel
theorem dX9_layTold_87 : decode cX9_layTold 87 = .ok (.bipush 12, 2) := by decide +kernel
theorem dX9_layTold_89 : decode cX9_layTold 89 = .ok (.iload_n 1, 1) := by decide +kernel
theorem dX9_layTold_90 : decode cX9_layTold 90 = .ok (.iadd, 1) := by decide +kernel
theorem dX9_layTold_91 : decode cX9_layTold 91 = .ok (.aload_n 0, 1) := by decide +kernel
theorem dX9_layTold_92 : decode cX9_layTold 92 = .ok (.getfield 57, 3) := by decide +kernel
theorem dX9_layTold_95 : decode cX9_layTold 95 = .ok (.bipush 6, 2) := by decide +kernel
theorem dX9_layTold_97 : decode cX9_layTold 97 = .ok (.aload_n 0, 1) := by decide +kernel
theorem dX9_layTold_98 : decode cX9_layTold 98 = .ok (.getfield 255, 3) := by decide +kernel
theorem dX9_layTold_101 : decode cX9_layTold 101 = .ok (.imul, 1) := by decide +kernel
theorem dX9_layTold_102 : decode cX9_layTold 102 = .ok (.iload_n 1, 1) := by decide +kernel
theorem dX9_layTold_103 : decode cX9_layTold 103 = .ok (.iadd, 1) := by decide +kernel
theorem dX9_layTold_104 : decode cX9_layTold 104 = .ok (.iaload, 1) := by decide +kernel
theorem dX9_layTold_105 : decode cX9_layTold 105 = .ok (.iastore, 1) := by decide +kernel
theorem dX9_layTold_106 : decode cX9_layTold 106 = .ok (.aload_n 0, 1) := by decide +kernel
theorem dX9_layTold_107 : decode cX9_layTold 107 = .ok (.getfield 91, 3) := by decide +kernel
theorem dX9_layTold_110 : decode cX9_layTold 110 = .ok (.bipush 18, 2) := by decide +kernel
theorem dX9_layTold_112 : decode cX9_layTold 112 = .ok (.iload_n 1, 1) := by decide +kernel
theorem dX9_layTold_113 : decode cX9_layTold 113 = .ok (.iadd, 1) := by decide +kernel
theorem dX9_layTold_114 : decode cX9_layTold 114 = .ok (.aload_n 0, 1) := by decide +kernel
theorem dX9_layTold_115 : decode cX9_layTold 115 = .ok (.getfield 60, 3) := by decide +kernel
theorem dX9_layTold_118 : decode cX9_layTold 118 = .ok (.bipush 6, 2) := by decide +kernel
theorem dX9_layTold_120 : decode cX9_layTold 120 = .ok (.aload_n 0, 1) := by decide +kernel
theorem dX9_layTold_121 : decode cX9_layTold 121 = .ok (.getfield 255, 3) := by decide +kernel
theorem dX9_layTold_124 : decode cX9_layTold 124 = .ok (.imul, 1) := by decide +kernel
theorem dX9_layTold_125 : decode cX9_layTold 125 = .ok (.iload_n 1, 1) := by decide +kernel
theorem dX9_layTold_126 : decode cX9_layTold 126 = .ok (.iadd, 1) := by decide +kernel
theorem dX9_layTold_127 : decode cX9_layTold 127 = .ok (.iaload, 1) := by decide +kernel
theorem dX9_layTold_128 : decode cX9_layTold 128 = .ok (.iastore, 1) := by decide +kernel
theorem dX9_layTold_129 : decode cX9_layTold 129 = .ok (.aload_n 0, 1) := by decide +kernel
theorem dX9_layTold_130 : decode cX9_layTold 130 = .ok (.iload_n 1, 1) := by decide +kernel
theorem dX9_layTold_131 : decode cX9_layTold 131 = .ok (.invokevirtual 383, 3) := by decide +kernel
theorem dX9_layTold_134 : decode cX9_layTold 134 = .ok (.iinc 1 1, 3) := by decide +kernel
theorem dX9_layTold_137 : decode cX9_layTold 137 = .ok (.goto (-113), 3) := by decide +kernel
theorem dX9_layTold_140 : decode cX9_layTold 140 = .ok (.aload_n 0, 1) := by decide +kernel
theorem dX9_layTold_141 : decode cX9_layTold 141 = .ok (.getfield 91, 3) := by decide +kernel
theorem dX9_layTold_144 : decode cX9_layTold 144 = .ok (.sipush 519, 3) := by decide +kernel
theorem dX9_layTold_147 : decode cX9_layTold 147 = .ok (.aload_n 0, 1) := by decide +kernel
theorem dX9_layTold_148 : decode cX9_layTold 148 = .ok (.getfield 45, 3) := by decide +kernel
theorem dX9_layTold_151 : decode cX9_layTold 151 = .ok (.aload_n 0, 1) := by decide +kernel
theorem dX9_layTold_152 : decode cX9_layTold 152 = .ok (.getfield 255, 3) := by decide +kernel
theorem dX9_layTold_155 : decode cX9_layTold 155 = .ok (.iaload, 1) := by decide +kernel
theorem dX9_layTold_156 : decode cX9_layTold 156 = .ok (.iastore, 1) := by decide +kernel
theorem dX9_layTold_157 : decode cX9_layTold 157 = .ok (.return_, 1) := by decide +kernel
theorem ydX9_layTold : z_yd yX9_layTold 0 := ⟨by decide, by decide, by decide +kernel⟩
abbrev rmX9_layTold : Room := { frames := 1, cells := 0, slots := 0, locals := 22 }
noncomputable def xX9_layTold_B140 (l0 : Nat) (h : ZH) : Option ZH := ((z_gR h l0 9 41).bind fun x141 => ((z_gR h l0 9 19).bind fun x148 => ((z_gI h l0 9 34).bind fun x152 => ((z_aI h x148 x152).bind fun x155 => ((z_uI h x141 (519 : Int32) x155).bind fun h156 => some h156)))))
set_option maxHeartbeats 4000000 in
set_option maxRecDepth 100000 in
theorem wX9_layTold_B140 {Γ : ZG} {p : Program} {l : Launch} {e : Env} {s : State} {m : MethodId} {args : Array Value} {below : List Frame} {meth : Method} {c : Code} (hO : z_OK Γ) (G : z_GG Γ p s m args meth c cX9_layTold 2 RX9) (hr : meth.sig.returnType = none) (hnm : meth.name = "layTold") {r : ZH} : ∀ (l0 : Nat) (h : ZH), xX9_layTold_B140  l0 h = some r → z_W Γ p l e rmX9_layTold s m args below meth c 2 0 0 (MQ below (z_Qc Γ none r) args s rmX9_layTold.cells rmX9_layTold.slots (z_A Γ)) 140 [(0, .ref l0)] [] h := by
  intro l0 h hX
  refine z_aload_n (pc := 140) G 0 dX9_layTold_140 rfl rfl ?_
  obtain ⟨x141, hv141, hX⟩ := z_bd hX
  refine z_getR (pc := 141) G kK9 (k := 41) (by decide) kt_1267 dX9_layTold_141 hv141 ?_
  refine z_sipush (pc := 144) (v := 519) G dX9_layTold_144 (by decide) ?_
  refine z_aload_n (pc := 147) G 0 dX9_layTold_147 rfl rfl ?_
  obtain ⟨x148, hv148, hX⟩ := z_bd hX
  refine z_getR (pc := 148) G kK9 (k := 19) (by decide) kt_1245 dX9_layTold_148 hv148 ?_
  refine z_aload_n (pc := 151) G 0 dX9_layTold_151 rfl rfl ?_
  obtain ⟨x152, hv152, hX⟩ := z_bd hX
  refine z_getI (pc := 152) G kK9 (k := 34) (by decide) kt_1260 dX9_layTold_152 hv152 ?_
  obtain ⟨x155, hv155, hX⟩ := z_bd hX
  refine z_iald (pc := 155) G dX9_layTold_155 hv155 ?_
  obtain ⟨h156, hv156, hX⟩ := z_bd hX
  refine z_iast (pc := 156) G dX9_layTold_156 hv156 ?_
  exact z_vretX (pc := 157) hX G hr dX9_layTold_157 (by decide) (by decide)
noncomputable def xX9_layTold_B24 (r24 : Nat → Int32 → ZH → Option ZH) (l0 : Nat) (l1 : Int32) (h : ZH) : Option ZH := (if (6 : Int32) ≤ l1 then xX9_layTold_B140 l0 h else (z_gu (z_is h l0 9) ((xX9_lots l0 h).bind fun r32 => (if r32.1 ≤ l1 then (z_gu (z_is r32.2 l0 9) ((xX9_forget l0 l1 r32.2).bind fun h131 => r24 l0 (l1 + 1) h131)) else ((z_gR r32.2 l0 9 41).bind fun x39 => ((z_gR r32.2 l0 9 21).bind fun x46 => ((z_gI r32.2 l0 9 34).bind fun x52 => ((z_aI r32.2 x46 (((6 : Int32) * x52) + l1)).bind fun x58 => ((z_uI r32.2 x39 ((0 : Int32) + l1) x58).bind fun h59 => ((z_gR h59 l0 9 41).bind fun x61 => ((z_gR h59 l0 9 22).bind fun x69 => ((z_gI h59 l0 9 34).bind fun x75 => ((z_aI h59 x69 (((6 : Int32) * x75) + l1)).bind fun x81 => ((z_uI h59 x61 ((6 : Int32) + l1) x81).bind fun h82 => ((z_gR h82 l0 9 41).bind fun x84 => ((z_gR h82 l0 9 23).bind fun x92 => ((z_gI h82 l0 9 34).bind fun x98 => ((z_aI h82 x92 (((6 : Int32) * x98) + l1)).bind fun x104 => ((z_uI h82 x84 ((12 : Int32) + l1) x104).bind fun h105 => ((z_gR h105 l0 9 41).bind fun x107 => ((z_gR h105 l0 9 24).bind fun x115 => ((z_gI h105 l0 9 34).bind fun x121 => ((z_aI h105 x115 (((6 : Int32) * x121) + l1)).bind fun x127 => ((z_uI h105 x107 ((18 : Int32) + l1) x127).bind fun h128 => (z_gu (z_is h128 l0 9) ((xX9_forget l0 l1 h128).bind fun h131 => r24 l0 (l1 + 1) h131))))))))))))))))))))))))))
noncomputable def xX9_layTold_L24 (n : Nat) : Nat → Int32 → ZH → Option ZH := Nat.rec (motive := fun _ => Nat → Int32 → ZH → Option ZH) (fun _ _ _ => none) (fun _ rec => xX9_layTold_B24  rec) n
set_option maxHeartbeats 4000000 in
set_option maxRecDepth 100000 in
theorem wX9_layTold_B24 {Γ : ZG} {p : Program} {l : Launch} {e : Env} {s : State} {m : MethodId} {args : Array Value} {below : List Frame} {meth : Method} {c : Code} (hO : z_OK Γ) (G : z_GG Γ p s m args meth c cX9_layTold 2 RX9) (hr : meth.sig.returnType = none) (hnm : meth.name = "layTold") {r : ZH} {r24 : Nat → Int32 → ZH → Option ZH} (H24 : ∀ (l0 : Nat) (l1 : Int32) (h : ZH), r24 l0 l1 h = some r → z_W Γ p l e rmX9_layTold s m args below meth c 2 0 0 (MQ below (z_Qc Γ none r) args s rmX9_layTold.cells rmX9_layTold.slots (z_A Γ)) 24 [(0, .ref l0), (1, .int l1)] [] h) : ∀ (l0 : Nat) (l1 : Int32) (h : ZH), xX9_layTold_B24  r24 l0 l1 h = some r → z_W Γ p l e rmX9_layTold s m args below meth c 2 0 0 (MQ below (z_Qc Γ none r) args s rmX9_layTold.cells rmX9_layTold.slots (z_A Γ)) 24 [(0, .ref l0), (1, .int l1)] [] h := by
  intro l0 l1 h hX
  refine z_iload_n (pc := 24) G 1 dX9_layTold_24 rfl rfl ?_
  refine z_bipush (pc := 25) (v := 6) G dX9_layTold_25 (by decide) ?_
  refine z_icmp_ge (pc := 27) (tgt := 140) G dX9_layTold_27 (by decide) (fun hc27 => ?_) (fun hc27 => ?_)
  · have hX := z_it hc27 hX
    refine z_drop (lv2 := [(0, .ref l0)]) [0] rfl ?_
    exact wX9_layTold_B140 hO G hr hnm _ _ hX
  · have hX := z_if hc27 hX
    refine z_iload_n (pc := 30) G 1 dX9_layTold_30 rfl rfl ?_
    refine z_aload_n (pc := 31) G 0 dX9_layTold_31 rfl rfl ?_
    obtain ⟨hi32, hX⟩ := z_gu_s hX
    obtain ⟨r32, hv32, hX⟩ := z_bd hX
    refine z_cVI (pc := 32) (As := []) (c2 := 0) (s2 := 0) G kK9 (lX9_lots hO hv32) hi32 kt_1221 kt_11 kt_1218 kt_1220 ks_36 ydX9_lots ⟨by decide, by decide⟩ rfl (Nat.le_of_ble_eq_true rfl) ⟨rfl, rfl⟩ ⟨by decide, by decide⟩ rfl dX9_layTold_32 ?_
    refine z_icmp_ge (pc := 35) (tgt := 129) G dX9_layTold_35 (by decide) (fun hc35 => ?_) (fun hc35 => ?_)
    · have hX := z_it hc35 hX
      refine z_aload_n (pc := 129) G 0 dX9_layTold_129 rfl rfl ?_
      refine z_iload_n (pc := 130) G 1 dX9_layTold_130 rfl rfl ?_
      obtain ⟨hi131, hX⟩ := z_gu_s hX
      obtain ⟨h131, hv131, hX⟩ := z_bd hX
      refine z_cVV (pc := 131) (As := [.int l1]) (c2 := 0) (s2 := 0) G kK9 (lX9_forget hO hv131) hi131 kt_1225 kt_11 kt_1222 kt_1224 ks_37 ydX9_forget ⟨by decide, by decide⟩ rfl (Nat.le_of_ble_eq_true rfl) ⟨rfl, rfl⟩ ⟨by decide, by decide⟩ rfl dX9_layTold_131 ?_
      refine z_iincw (pc := 134) (w := 1) (lv2 := [(0, .ref l0), (1, .int (l1 + 1))]) G 1 dX9_layTold_134 rfl (by decide) (by decide) rfl rfl ?_
      refine z_goto (pc := 137) (tgt := 24) G dX9_layTold_137 (by decide) ?_
      exact H24 _ _ _ hX
    · have hX := z_if hc35 hX
      refine z_aload_n (pc := 38) G 0 dX9_layTold_38 rfl rfl ?_
      obtain ⟨x39, hv39, hX⟩ := z_bd hX
      refine z_getR (pc := 39) G kK9 (k := 41) (by decide) kt_1267 dX9_layTold_39 hv39 ?_
      refine z_iconst (pc := 42) (v := 0) G dX9_layTold_42 (by decide) ?_
      refine z_iload_n (pc := 43) G 1 dX9_layTold_43 rfl rfl ?_
      refine z_iadd (pc := 44) G dX9_layTold_44 ?_
      refine z_aload_n (pc := 45) G 0 dX9_layTold_45 rfl rfl ?_
      obtain ⟨x46, hv46, hX⟩ := z_bd hX
      refine z_getR (pc := 46) G kK9 (k := 21) (by decide) kt_1247 dX9_layTold_46 hv46 ?_
      refine z_bipush (pc := 49) (v := 6) G dX9_layTold_49 (by decide) ?_
      refine z_aload_n (pc := 51) G 0 dX9_layTold_51 rfl rfl ?_
      obtain ⟨x52, hv52, hX⟩ := z_bd hX
      refine z_getI (pc := 52) G kK9 (k := 34) (by decide) kt_1260 dX9_layTold_52 hv52 ?_
      refine z_imul (pc := 55) G dX9_layTold_55 ?_
      refine z_iload_n (pc := 56) G 1 dX9_layTold_56 rfl rfl ?_
      refine z_iadd (pc := 57) G dX9_layTold_57 ?_
      obtain ⟨x58, hv58, hX⟩ := z_bd hX
      refine z_iald (pc := 58) G dX9_layTold_58 hv58 ?_
      obtain ⟨h59, hv59, hX⟩ := z_bd hX
      refine z_iast (pc := 59) G dX9_layTold_59 hv59 ?_
      refine z_aload_n (pc := 60) G 0 dX9_layTold_60 rfl rfl ?_
      obtain ⟨x61, hv61, hX⟩ := z_bd hX
      refine z_getR (pc := 61) G kK9 (k := 41) (by decide) kt_1267 dX9_layTold_61 hv61 ?_
      refine z_bipush (pc := 64) (v := 6) G dX9_layTold_64 (by decide) ?_
      refine z_iload_n (pc := 66) G 1 dX9_layTold_66 rfl rfl ?_
      refine z_iadd (pc := 67) G dX9_layTold_67 ?_
      refine z_aload_n (pc := 68) G 0 dX9_layTold_68 rfl rfl ?_
      obtain ⟨x69, hv69, hX⟩ := z_bd hX
      refine z_getR (pc := 69) G kK9 (k := 22) (by decide) kt_1248 dX9_layTold_69 hv69 ?_
      refine z_bipush (pc := 72) (v := 6) G dX9_layTold_72 (by decide) ?_
      refine z_aload_n (pc := 74) G 0 dX9_layTold_74 rfl rfl ?_
      obtain ⟨x75, hv75, hX⟩ := z_bd hX
      refine z_getI (pc := 75) G kK9 (k := 34) (by decide) kt_1260 dX9_layTold_75 hv75 ?_
      refine z_imul (pc := 78) G dX9_layTold_78 ?_
      refine z_iload_n (pc := 79) G 1 dX9_layTold_79 rfl rfl ?_
      refine z_iadd (pc := 80) G dX9_layTold_80 ?_
      obtain ⟨x81, hv81, hX⟩ := z_bd hX
      refine z_iald (pc := 81) G dX9_layTold_81 hv81 ?_
      obtain ⟨h82, hv82, hX⟩ := z_bd hX
      refine z_iast (pc := 82) G dX9_layTold_82 hv82 ?_
      refine z_aload_n (pc := 83) G 0 dX9_layTold_83 rfl rfl ?_
      obtain ⟨x84, hv84, hX⟩ := z_bd hX
      refine z_getR (pc := 84) G kK9 (k := 41) (by decide) kt_1267 dX9_layTold_84 hv84 ?_
      refine z_bipush (pc := 87) (v := 12) G dX9_layTold_87 (by decide) ?_
      refine z_iload_n (pc := 89) G 1 dX9_layTold_89 rfl rfl ?_
      refine z_iadd (pc := 90) G dX9_layTold_90 ?_
      refine z_aload_n (pc := 91) G 0 dX9_layTold_91 rfl rfl ?_
      obtain ⟨x92, hv92, hX⟩ := z_bd hX
      refine z_getR (pc := 92) G kK9 (k := 23) (by decide) kt_1249 dX9_layTold_92 hv92 ?_
      refine z_bipush (pc := 95) (v := 6) G dX9_layTold_95 (by decide) ?_
      refine z_aload_n (pc := 97) G 0 dX9_layTold_97 rfl rfl ?_
      obtain ⟨x98, hv98, hX⟩ := z_bd hX
      refine z_getI (pc := 98) G kK9 (k := 34) (by decide) kt_1260 dX9_layTold_98 hv98 ?_
      refine z_imul (pc := 101) G dX9_layTold_101 ?_
      refine z_iload_n (pc := 102) G 1 dX9_layTold_102 rfl rfl ?_
      refine z_iadd (pc := 103) G dX9_layTold_103 ?_
      obtain ⟨x104, hv104, hX⟩ := z_bd hX
      refine z_iald (pc := 104) G dX9_layTold_104 hv104 ?_
      obtain ⟨h105, hv105, hX⟩ := z_bd hX
      refine z_iast (pc := 105) G dX9_layTold_105 hv105 ?_
      refine z_aload_n (pc := 106) G 0 dX9_layTold_106 rfl rfl ?_
      obtain ⟨x107, hv107, hX⟩ := z_bd hX
      refine z_getR (pc := 107) G kK9 (k := 41) (by decide) kt_1267 dX9_layTold_107 hv107 ?_
      refine z_bipush (pc := 110) (v := 18) G dX9_layTold_110 (by decide) ?_
      refine z_iload_n (pc := 112) G 1 dX9_layTold_112 rfl rfl ?_
      refine z_iadd (pc := 113) G dX9_layTold_113 ?_
      refine z_aload_n (pc := 114) G 0 dX9_layTold_114 rfl rfl ?_
      obtain ⟨x115, hv115, hX⟩ := z_bd hX
      refine z_getR (pc := 115) G kK9 (k := 24) (by decide) kt_1250 dX9_layTold_115 hv115 ?_
      refine z_bipush (pc := 118) (v := 6) G dX9_layTold_118 (by decide) ?_
      refine z_aload_n (pc := 120) G 0 dX9_layTold_120 rfl rfl ?_
      obtain ⟨x121, hv121, hX⟩ := z_bd hX
      refine z_getI (pc := 121) G kK9 (k := 34) (by decide) kt_1260 dX9_layTold_121 hv121 ?_
      refine z_imul (pc := 124) G dX9_layTold_124 ?_
      refine z_iload_n (pc := 125) G 1 dX9_layTold_125 rfl rfl ?_
      refine z_iadd (pc := 126) G dX9_layTold_126 ?_
      obtain ⟨x127, hv127, hX⟩ := z_bd hX
      refine z_iald (pc := 127) G dX9_layTold_127 hv127 ?_
      obtain ⟨h128, hv128, hX⟩ := z_bd hX
      refine z_iast (pc := 128) G dX9_layTold_128 hv128 ?_
      refine z_aload_n (pc := 129) G 0 dX9_layTold_129 rfl rfl ?_
      refine z_iload_n (pc := 130) G 1 dX9_layTold_130 rfl rfl ?_
      obtain ⟨hi131, hX⟩ := z_gu_s hX
      obtain ⟨h131, hv131, hX⟩ := z_bd hX
      refine z_cVV (pc := 131) (As := [.int l1]) (c2 := 0) (s2 := 0) G kK9 (lX9_forget hO hv131) hi131 kt_1225 kt_11 kt_1222 kt_1224 ks_37 ydX9_forget ⟨by decide, by decide⟩ rfl (Nat.le_of_ble_eq_true rfl) ⟨rfl, rfl⟩ ⟨by decide, by decide⟩ rfl dX9_layTold_131 ?_
      refine z_iincw (pc := 134) (w := 1) (lv2 := [(0, .ref l0), (1, .int (l1 + 1))]) G 1 dX9_layTold_134 rfl (by decide) (by decide) rfl rfl ?_
      refine z_goto (pc := 137) (tgt := 24) G dX9_layTold_137 (by decide) ?_
      exact H24 _ _ _ hX
set_option maxHeartbeats 4000000 in
set_option maxRecDepth 100000 in
theorem wX9_layTold_L24 {Γ : ZG} {p : Program} {l : Launch} {e : Env} {s : State} {m : MethodId} {args : Array Value} {below : List Frame} {meth : Method} {c : Code} (hO : z_OK Γ) (G : z_GG Γ p s m args meth c cX9_layTold 2 RX9) (hr : meth.sig.returnType = none) (hnm : meth.name = "layTold") {r : ZH} : ∀ (nn : Nat) (l0 : Nat) (l1 : Int32) (h : ZH), xX9_layTold_L24  nn l0 l1 h = some r → z_W Γ p l e rmX9_layTold s m args below meth c 2 0 0 (MQ below (z_Qc Γ none r) args s rmX9_layTold.cells rmX9_layTold.slots (z_A Γ)) 24 [(0, .ref l0), (1, .int l1)] [] h := by
  intro nn
  induction nn with
  | zero => intro l0 l1 h hX; cases hX
  | succ nn ih => intro l0 l1 h hX; exact wX9_layTold_B24 hO G hr hnm  ih l0 l1 h hX
noncomputable def xX9_layTold_B2 (r2 : Nat → Int32 → ZH → Option ZH) (l0 : Nat) (l1 : Int32) (h : ZH) : Option ZH := (if (521 : Int32) ≤ l1 then xX9_layTold_L24 zFU l0 (0 : Int32) h else ((z_gR h l0 9 41).bind fun x10 => ((z_uI h x10 l1 (0 : Int32)).bind fun h15 => r2 l0 (l1 + 1) h15)))
noncomputable def xX9_layTold_L2 (n : Nat) : Nat → Int32 → ZH → Option ZH := Nat.rec (motive := fun _ => Nat → Int32 → ZH → Option ZH) (fun _ _ _ => none) (fun _ rec => xX9_layTold_B2  rec) n
set_option maxHeartbeats 4000000 in
set_option maxRecDepth 100000 in
theorem wX9_layTold_B2 {Γ : ZG} {p : Program} {l : Launch} {e : Env} {s : State} {m : MethodId} {args : Array Value} {below : List Frame} {meth : Method} {c : Code} (hO : z_OK Γ) (G : z_GG Γ p s m args meth c cX9_layTold 2 RX9) (hr : meth.sig.returnType = none) (hnm : meth.name = "layTold") {r : ZH} {r2 : Nat → Int32 → ZH → Option ZH} (H2 : ∀ (l0 : Nat) (l1 : Int32) (h : ZH), r2 l0 l1 h = some r → z_W Γ p l e rmX9_layTold s m args below meth c 2 0 0 (MQ below (z_Qc Γ none r) args s rmX9_layTold.cells rmX9_layTold.slots (z_A Γ)) 2 [(0, .ref l0), (1, .int l1)] [] h) : ∀ (l0 : Nat) (l1 : Int32) (h : ZH), xX9_layTold_B2  r2 l0 l1 h = some r → z_W Γ p l e rmX9_layTold s m args below meth c 2 0 0 (MQ below (z_Qc Γ none r) args s rmX9_layTold.cells rmX9_layTold.slots (z_A Γ)) 2 [(0, .ref l0), (1, .int l1)] [] h := by
  intro l0 l1 h hX
  refine z_iload_n (pc := 2) G 1 dX9_layTold_2 rfl rfl ?_
  refine z_sipush (pc := 3) (v := 521) G dX9_layTold_3 (by decide) ?_
  refine z_icmp_ge (pc := 6) (tgt := 22) G dX9_layTold_6 (by decide) (fun hc6 => ?_) (fun hc6 => ?_)
  · have hX := z_it hc6 hX
    refine z_iconst (pc := 22) (v := 0) G dX9_layTold_22 (by decide) ?_
    refine z_istore_n (pc := 23) (lv2 := [(0, .ref l0), (1, .int (0 : Int32))]) G dX9_layTold_23 rfl (by decide) rfl rfl ?_
    exact wX9_layTold_L24 hO G hr hnm zFU _ _ _ hX
  · have hX := z_if hc6 hX
    refine z_aload_n (pc := 9) G 0 dX9_layTold_9 rfl rfl ?_
    obtain ⟨x10, hv10, hX⟩ := z_bd hX
    refine z_getR (pc := 10) G kK9 (k := 41) (by decide) kt_1267 dX9_layTold_10 hv10 ?_
    refine z_iload_n (pc := 13) G 1 dX9_layTold_13 rfl rfl ?_
    refine z_iconst (pc := 14) (v := 0) G dX9_layTold_14 (by decide) ?_
    obtain ⟨h15, hv15, hX⟩ := z_bd hX
    refine z_iast (pc := 15) G dX9_layTold_15 hv15 ?_
    refine z_iincw (pc := 16) (w := 1) (lv2 := [(0, .ref l0), (1, .int (l1 + 1))]) G 1 dX9_layTold_16 rfl (by decide) (by decide) rfl rfl ?_
    refine z_goto (pc := 19) (tgt := 2) G dX9_layTold_19 (by decide) ?_
    exact H2 _ _ _ hX
set_option maxHeartbeats 4000000 in
set_option maxRecDepth 100000 in
theorem wX9_layTold_L2 {Γ : ZG} {p : Program} {l : Launch} {e : Env} {s : State} {m : MethodId} {args : Array Value} {below : List Frame} {meth : Method} {c : Code} (hO : z_OK Γ) (G : z_GG Γ p s m args meth c cX9_layTold 2 RX9) (hr : meth.sig.returnType = none) (hnm : meth.name = "layTold") {r : ZH} : ∀ (nn : Nat) (l0 : Nat) (l1 : Int32) (h : ZH), xX9_layTold_L2  nn l0 l1 h = some r → z_W Γ p l e rmX9_layTold s m args below meth c 2 0 0 (MQ below (z_Qc Γ none r) args s rmX9_layTold.cells rmX9_layTold.slots (z_A Γ)) 2 [(0, .ref l0), (1, .int l1)] [] h := by
  intro nn
  induction nn with
  | zero => intro l0 l1 h hX; cases hX
  | succ nn ih => intro l0 l1 h hX; exact wX9_layTold_B2 hO G hr hnm  ih l0 l1 h hX
noncomputable def xX9_layTold (l0 : Nat) (h : ZH) : Option ZH := xX9_layTold_L2 zFU l0 (0 : Int32) h
set_option maxHeartbeats 4000000 in
set_option maxRecDepth 100000 in
theorem lX9_layTold {Γ : ZG} {l : Launch} (hO : z_OK Γ) {l0 : Nat} {h : ZH} {r : ZH} (hX : xX9_layTold l0 h = some r) : z_M Γ l yX9_layTold (z_ws1 yX9_layTold cX9_layTold 2 none) rmX9_layTold [.ref l0] h none r := by
  refine z_start hO (plainFor_of_name (by decide)) (Nat.le_of_ble_eq_true rfl) ?_
  intro p e s m args below meth c G hr hnm
  refine z_lvc (lv2 := [(0, .ref l0)]) rfl ?_
  refine z_iconst (pc := 0) (v := 0) G dX9_layTold_0 (by decide) ?_
  refine z_istore_n (pc := 1) (lv2 := [(0, .ref l0), (1, .int (0 : Int32))]) G dX9_layTold_1 rfl (by decide) rfl rfl ?_
  exact wX9_layTold_L2 hO G hr hnm zFU _ _ _ hX
theorem dX9_startAnew_0 : decode cX9_startAnew 0 = .ok (.aload_n 0, 1) := by decide +kernel
theorem dX9_startAnew_1 : decode cX9_startAnew 1 = .ok (.invokevirtual 368, 3) := by decide +kernel
theorem dX9_startAnew_4 : decode cX9_startAnew 4 = .ok (.aload_n 0, 1) := by decide +kernel
theorem dX9_startAnew_5 : decode cX9_startAnew 5 = .ok (.iconst 0, 1) := by decide +kernel
theorem dX9_startAnew_6 : decode cX9_startAnew 6 = .ok (.putfield 371, 3) := by decide +kernel
theorem dX9_startAnew_9 : decode cX9_startAnew 9 = .ok (.aload_n 0, 1) := by decide +kernel
theorem dX9_startAnew_10 : decode cX9_startAnew 10 = .ok (.iconst 0, 1) := by decide +kernel
theorem dX9_startAnew_11 : decode cX9_startAnew 11 = .ok (.putfield 374, 3) := by decide +kernel
theorem dX9_startAnew_14 : decode cX9_startAnew 14 = .ok (.aload_n 0, 1) := by decide +kernel
theorem dX9_startAnew_15 : decode cX9_startAnew 15 = .ok (.iconst 0, 1) := by decide +kernel
theorem dX9_startAnew_16 : decode cX9_startAnew 16 = .ok (.putfield 377, 3) := by decide +kernel
theorem dX9_startAnew_19 : decode cX9_startAnew 19 = .ok (.aload_n 0, 1) := by decide +kernel
theorem dX9_startAnew_20 : decode cX9_startAnew 20 = .ok (.iconst 0, 1) := by decide +kernel
theorem dX9_startAnew_21 : decode cX9_startAnew 21 = .ok (.putfield 380, 3) := by decide +kernel
theorem dX9_startAnew_24 : decode cX9_startAnew 24 = .ok (.iconst 0, 1) := by decide +kernel
theorem dX9_startAnew_25 : decode cX9_startAnew 25 = .ok (.istore_n 1, 1) := by decide +kernel
theorem dX9_startAnew_26 : decode cX9_startAnew 26 = .ok (.iload_n 1, 1) := by decide +kernel
theorem dX9_startAnew_27 : decode cX9_startAnew 27 = .ok (.iconst 3, 1) := by decide +kernel
theorem dX9_startAnew_28 : decode cX9_startAnew 28 = .ok (.if_icmp .ge 16, 3) := by decide +kernel
theorem dX9_startAnew_31 : decode cX9_startAnew 31 = .ok (.aload_n 0, 1) := by decide +kernel
theorem dX9_startAnew_32 : decode cX9_startAnew 32 = .ok (.getfield 133, 3) := by decide +kernel
theorem dX9_startAnew_35 : decode cX9_startAnew 35 = .ok (.iload_n 1, 1) := by decide +kernel
theorem dX9_startAnew_36 : decode cX9_startAnew 36 = .ok (.iconst 0, 1) := by decide +kernel
theorem dX9_startAnew_37 : decode cX9_startAnew 37 = .ok (.bastore, 1) := by decide +kernel
theorem dX9_startAnew_38 : decode cX9_startAnew 38 = .ok (.iinc 1 1, 3) := by decide +kernel
theorem dX9_startAnew_41 : decode cX9_startAnew 41 = .ok (.goto (-15), 3) := by decide +kernel
theorem dX9_startAnew_44 : decode cX9_startAnew 44 = .ok (.return_, 1) := by decide +kernel
theorem ydX9_startAnew : z_yd yX9_startAnew 0 := ⟨by decide, by decide, by decide +kernel⟩
abbrev rmX9_startAnew : Room := { frames := 2, cells := 0, slots := 0, locals := 43 }
noncomputable def xX9_startAnew_B26 (r26 : Nat → Int32 → ZH → Option ZH) (l0 : Nat) (l1 : Int32) (h : ZH) : Option ZH := (if (3 : Int32) ≤ l1 then some h else ((z_gR h l0 9 60).bind fun x32 => ((z_uB h x32 l1 (0 : Int32)).bind fun h37 => r26 l0 (l1 + 1) h37)))
noncomputable def xX9_startAnew_L26 (n : Nat) : Nat → Int32 → ZH → Option ZH := Nat.rec (motive := fun _ => Nat → Int32 → ZH → Option ZH) (fun _ _ _ => none) (fun _ rec => xX9_startAnew_B26  rec) n
set_option maxHeartbeats 4000000 in
set_option maxRecDepth 100000 in
theorem wX9_startAnew_B26 {Γ : ZG} {p : Program} {l : Launch} {e : Env} {s : State} {m : MethodId} {args : Array Value} {below : List Frame} {meth : Method} {c : Code} (hO : z_OK Γ) (G : z_GG Γ p s m args meth c cX9_startAnew 2 RX9) (hr : meth.sig.returnType = none) (hnm : meth.name = "startAnew") {r : ZH} {r26 : Nat → Int32 → ZH → Option ZH} (H26 : ∀ (l0 : Nat) (l1 : Int32) (h : ZH), r26 l0 l1 h = some r → z_W Γ p l e rmX9_startAnew s m args below meth c 2 0 0 (MQ below (z_Qc Γ none r) args s rmX9_startAnew.cells rmX9_startAnew.slots (z_A Γ)) 26 [(0, .ref l0), (1, .int l1)] [] h) : ∀ (l0 : Nat) (l1 : Int32) (h : ZH), xX9_startAnew_B26  r26 l0 l1 h = some r → z_W Γ p l e rmX9_startAnew s m args below meth c 2 0 0 (MQ below (z_Qc Γ none r) args s rmX9_startAnew.cells rmX9_startAnew.slots (z_A Γ)) 26 [(0, .ref l0), (1, .int l1)] [] h := by
  intro l0 l1 h hX
  refine z_iload_n (pc := 26) G 1 dX9_startAnew_26 rfl rfl ?_
  refine z_iconst (pc := 27) (v := 3) G dX9_startAnew_27 (by decide) ?_
  refine z_icmp_ge (pc := 28) (tgt := 44) G dX9_startAnew_28 (by decide) (fun hc28 => ?_) (fun hc28 => ?_)
  · have hX := z_it hc28 hX
    exact z_vretX (pc := 44) hX G hr dX9_startAnew_44 (by decide) (by decide)
  · have hX := z_if hc28 hX
    refine z_aload_n (pc := 31) G 0 dX9_startAnew_31 rfl rfl ?_
    obtain ⟨x32, hv32, hX⟩ := z_bd hX
    refine z_getR (pc := 32) G kK9 (k := 60) (by decide) kt_1286 dX9_startAnew_32 hv32 ?_
    refine z_iload_n (pc := 35) G 1 dX9_startAnew_35 rfl rfl ?_
    refine z_iconst (pc := 36) (v := 0) G dX9_startAnew_36 (by decide) ?_
    obtain ⟨h37, hv37, hX⟩ := z_bd hX
    refine z_bast (pc := 37) G dX9_startAnew_37 hv37 ?_
    refine z_iincw (pc := 38) (w := 1) (lv2 := [(0, .ref l0), (1, .int (l1 + 1))]) G 1 dX9_startAnew_38 rfl (by decide) (by decide) rfl rfl ?_
    refine z_goto (pc := 41) (tgt := 26) G dX9_startAnew_41 (by decide) ?_
    exact H26 _ _ _ hX
set_option maxHeartbeats 4000000 in
set_option maxRecDepth 100000 in
theorem wX9_startAnew_L26 {Γ : ZG} {p : Program} {l : Launch} {e : Env} {s : State} {m : MethodId} {args : Array Value} {below : List Frame} {meth : Method} {c : Code} (hO : z_OK Γ) (G : z_GG Γ p s m args meth c cX9_startAnew 2 RX9) (hr : meth.sig.returnType = none) (hnm : meth.name = "startAnew") {r : ZH} : ∀ (nn : Nat) (l0 : Nat) (l1 : Int32) (h : ZH), xX9_startAnew_L26  nn l0 l1 h = some r → z_W Γ p l e rmX9_startAnew s m args below meth c 2 0 0 (MQ below (z_Qc Γ none r) args s rmX9_startAnew.cells rmX9_startAnew.slots (z_A Γ)) 26 [(0, .ref l0), (1, .int l1)] [] h := by
  intro nn
  induction nn with
  | zero => intro l0 l1 h hX; cases hX
  | succ nn ih => intro l0 l1 h hX; exact wX9_startAnew_B26 hO G hr hnm  ih l0 l1 h hX
noncomputable def xX9_startAnew (l0 : Nat) (h : ZH) : Option ZH := (z_gu (z_is h l0 9) ((xX9_layTold l0 h).bind fun h1 => ((z_sF h1 l0 9 48 (.int (0 : Int32))).bind fun h6 => ((z_sF h6 l0 9 49 (.int (0 : Int32))).bind fun h11 => ((z_sF h11 l0 9 57 (.int (0 : Int32))).bind fun h16 => ((z_sF h16 l0 9 51 (.int (0 : Int32))).bind fun h21 => xX9_startAnew_L26 zFU l0 (0 : Int32) h21))))))
set_option maxHeartbeats 4000000 in
set_option maxRecDepth 100000 in
theorem lX9_startAnew {Γ : ZG} {l : Launch} (hO : z_OK Γ) {l0 : Nat} {h : ZH} {r : ZH} (hX : xX9_startAnew l0 h = some r) : z_M Γ l yX9_startAnew (z_ws1 yX9_startAnew cX9_startAnew 2 none) rmX9_startAnew [.ref l0] h none r := by
  refine z_start hO (plainFor_of_name (by decide)) (Nat.le_of_ble_eq_true rfl) ?_
  intro p e s m args below meth c G hr hnm
  refine z_lvc (lv2 := [(0, .ref l0)]) rfl ?_
  refine z_aload_n (pc := 0) G 0 dX9_startAnew_0 rfl rfl ?_
  obtain ⟨hi1, hX⟩ := z_gu_s hX
  obtain ⟨h1, hv1, hX⟩ := z_bd hX
  refine z_cVV (pc := 1) (As := []) (c2 := 0) (s2 := 0) G kK9 (lX9_layTold hO hv1) hi1 kt_1217 kt_11 kt_1214 kt_1216 ks_35 ydX9_layTold ⟨by decide, by decide⟩ rfl (Nat.le_of_ble_eq_true rfl) ⟨rfl, rfl⟩ ⟨by decide, by decide⟩ rfl dX9_startAnew_1 ?_
  refine z_aload_n (pc := 4) G 0 dX9_startAnew_4 rfl rfl ?_
  refine z_iconst (pc := 5) (v := 0) G dX9_startAnew_5 (by decide) ?_
  obtain ⟨h6, hv6, hX⟩ := z_bd hX
  refine z_putF (pc := 6) G kK9 (k := 48) (by decide) kt_1274 (Or.inl rfl) rfl rfl dX9_startAnew_6 hv6 ?_
  refine z_aload_n (pc := 9) G 0 dX9_startAnew_9 rfl rfl ?_
  refine z_iconst (pc := 10) (v := 0) G dX9_startAnew_10 (by decide) ?_
  obtain ⟨h11, hv11, hX⟩ := z_bd hX
  refine z_putF (pc := 11) G kK9 (k := 49) (by decide) kt_1275 (Or.inl rfl) rfl rfl dX9_startAnew_11 hv11 ?_
  refine z_aload_n (pc := 14) G 0 dX9_startAnew_14 rfl rfl ?_
  refine z_iconst (pc := 15) (v := 0) G dX9_startAnew_15 (by decide) ?_
  obtain ⟨h16, hv16, hX⟩ := z_bd hX
  refine z_putF (pc := 16) G kK9 (k := 57) (by decide) kt_1283 (Or.inl rfl) rfl rfl dX9_startAnew_16 hv16 ?_
  refine z_aload_n (pc := 19) G 0 dX9_startAnew_19 rfl rfl ?_
  refine z_iconst (pc := 20) (v := 0) G dX9_startAnew_20 (by decide) ?_
  obtain ⟨h21, hv21, hX⟩ := z_bd hX
  refine z_putF (pc := 21) G kK9 (k := 51) (by decide) kt_1277 (Or.inl rfl) rfl rfl dX9_startAnew_21 hv21 ?_
  refine z_iconst (pc := 24) (v := 0) G dX9_startAnew_24 (by decide) ?_
  refine z_istore_n (pc := 25) (lv2 := [(0, .ref l0), (1, .int (0 : Int32))]) G dX9_startAnew_25 rfl (by decide) rfl rfl ?_
  exact wX9_startAnew_L26 hO G hr hnm zFU _ _ _ hX
theorem dX9_init_0 : decode cX9_init 0 = .ok (.aload_n 0, 1) := by decide +kernel
theorem dX9_init_1 : decode cX9_init 1 = .ok (.invokespecial 1, 3) := by decide +kernel
theorem dX9_init_4 : decode cX9_init 4 = .ok (.aload_n 0, 1) := by decide +kernel
theorem dX9_init_5 : decode cX9_init 5 = .ok (.sipush 1620, 3) := by decide +kernel
theorem dX9_init_8 : decode cX9_init 8 = .ok (.newarray .byte, 2) := by decide +kernel
theorem dX9_init_10 : decode cX9_init 10 = .ok (.putfield 7, 3) := by decide +kernel
theorem dX9_init_13 : decode cX9_init 13 = .ok (.aload_n 0, 1) := by decide +kernel
theorem dX9_init_14 : decode cX9_init 14 = .ok (.sipush 1600, 3) := by decide +kernel
theorem dX9_init_17 : decode cX9_init 17 = .ok (.newarray .byte, 2) := by decide +kernel
theorem dX9_init_19 : decode cX9_init 19 = .ok (.putfield 13, 3) := by decide +kernel
theorem dX9_init_22 : decode cX9_init 22 = .ok (.aload_n 0, 1) := by decide +kernel
theorem dX9_init_23 : decode cX9_init 23 = .ok (.iconst (-1), 1) := by decide +kernel
theorem dX9_init_24 : decode cX9_init 24 = .ok (.putfield 16, 3) := by decide +kernel
theorem dX9_init_27 : decode cX9_init 27 = .ok (.aload_n 0, 1) := by decide +kernel
theorem dX9_init_28 : decode cX9_init 28 = .ok (.iconst 2, 1) := by decide +kernel
theorem dX9_init_29 : decode cX9_init 29 = .ok (.newarray .int, 2) := by decide +kernel
theorem dX9_init_31 : decode cX9_init 31 = .ok (.putfield 20, 3) := by decide +kernel
theorem dX9_init_34 : decode cX9_init 34 = .ok (.aload_n 0, 1) := by decide +kernel
theorem dX9_init_35 : decode cX9_init 35 = .ok (.iconst 2, 1) := by decide +kernel
theorem dX9_init_36 : decode cX9_init 36 = .ok (.newarray .int, 2) := by decide +kernel
theorem dX9_init_38 : decode cX9_init 38 = .ok (.putfield 24, 3) := by decide +kernel
theorem dX9_init_41 : decode cX9_init 41 = .ok (.aload_n 0, 1) := by decide +kernel
theorem dX9_init_42 : decode cX9_init 42 = .ok (.iconst 2, 1) := by decide +kernel
theorem dX9_init_43 : decode cX9_init 43 = .ok (.newarray .int, 2) := by decide +kernel
theorem dX9_init_45 : decode cX9_init 45 = .ok (.putfield 27, 3) := by decide +kernel
theorem dX9_init_48 : decode cX9_init 48 = .ok (.aload_n 0, 1) := by decide +kernel
theorem dX9_init_49 : decode cX9_init 49 = .ok (.iconst 2, 1) := by decide +kernel
theorem dX9_init_50 : decode cX9_init 50 = .ok (.newarray .int, 2) := by decide +kernel
theorem dX9_init_52 : decode cX9_init 52 = .ok (.putfield 30, 3) := by decide +kernel
theorem dX9_init_55 : decode cX9_init 55 = .ok (.aload_n 0, 1) := by decide +kernel
theorem dX9_init_56 : decode cX9_init 56 = .ok (.iconst 2, 1) := by decide +kernel
theorem dX9_init_57 : decode cX9_init 57 = .ok (.newarray .int, 2) := by decide +kernel
theorem dX9_init_59 : decode cX9_init 59 = .ok (.putfield 33, 3) := by decide +kernel
theorem dX9_init_62 : decode cX9_init 62 = .ok (.aload_n 0, 1) := by decide +kernel
theorem dX9_init_63 : decode cX9_init 63 = .ok (.iconst 2, 1) := by decide +kernel
theorem dX9_init_64 : decode cX9_init 64 = .ok (.newarray .int, 2) := by decide +kernel
theorem dX9_init_66 : decode cX9_init 66 = .ok (.putfield 36, 3) := by decide +kernel
theorem dX9_init_69 : decode cX9_init 69 = .ok (.aload_n 0, 1) := by decide +kernel
theorem dX9_init_70 : decode cX9_init 70 = .ok (.iconst 2, 1) := by decide +kernel
theorem dX9_init_71 : decode cX9_init 71 = .ok (.newarray .int, 2) := by decide +kernel
theorem dX9_init_73 : decode cX9_init 73 = .ok (.putfield 39, 3) := by decide +kernel
theorem dX9_init_76 : decode cX9_init 76 = .ok (.aload_n 0, 1) := by decide +kernel
theorem dX9_init_77 : decode cX9_init 77 = .ok (.iconst 2, 1) := by decide +kernel
theorem dX9_init_78 : decode cX9_init 78 = .ok (.newarray .int, 2) := by decide +kernel
theorem dX9_init_80 : decode cX9_init 80 = .ok (.putfield 42, 3) := by decide +kernel
theorem dX9_init_83 : decode cX9_init 83 = .ok (.aload_n 0, 1) := by decide +kernel
theorem dX9_init_84 : decode cX9_init 84 = .ok (.iconst 2, 1) := by decide +kernel
theorem dX9_init_85 : decode cX9_init 85 = .ok (.newarray .int, 2) := by decide +kernel
theorem dX9_init_87 : decode cX9_init 87 = .ok (.putfield 45, 3) := by decide +kernel
theorem dX9_init_90 : decode cX9_init 90 = .ok (.aload_n 0, 1) := by decide +kernel
theorem dX9_init_91 : decode cX9_init 91 = .ok (.iconst 2, 1) := by decide +kernel
theorem dX9_init_92 : decode cX9_init 92 = .ok (.newarray .int, 2) := by decide +kernel
theorem dX9_init_94 : decode cX9_init 94 = .ok (.putfield 48, 3) := by decide +kernel
theorem dX9_init_97 : decode cX9_init 97 = .ok (.aload_n 0, 1) := by decide +kernel
theorem dX9_init_98 : decode cX9_init 98 = .ok (.bipush 12, 2) := by decide +kernel
theorem dX9_init_100 : decode cX9_init 100 = .ok (.newarray .int, 2) := by decide +kernel
theorem dX9_init_102 : decode cX9_init 102 = .ok (.putfield 51, 3) := by decide +kernel
theorem dX9_init_105 : decode cX9_init 105 = .ok (.aload_n 0, 1) := by decide +kernel
theorem dX9_init_106 : decode cX9_init 106 = .ok (.bipush 12, 2) := by decide +kernel
theorem dX9_init_108 : decode cX9_init 108 = .ok (.newarray .int, 2) := by decide +kernel
theorem dX9_init_110 : decode cX9_init 110 = .ok (.putfield 54, 3) := by decide +kernel
theorem dX9_init_113 : decode cX9_init 113 = .ok (.aload_n 0, 1) := by decide +kernel
theorem dX9_init_114 : decode cX9_init 114 = .ok (.bipush 12, 2) := by decide +kernel
theorem dX9_init_116 : decode cX9_init 116 = .ok (.newarray .int, 2) := by decide +kernel
theorem dX9_init_118 : decode cX9_init 118 = .ok (.putfield 57, 3) := by decide +kernel
theorem dX9_init_121 : decode cX9_init 121 = .ok (.aload_n 0, 1) := by decide +kernel
theorem dX9_init_122 : decode cX9_init 122 = .ok (.bipush 12, 2) := by decide +kernel
theorem dX9_init_124 : decode cX9_init 124 = .ok (.newarray .int, 2) := by decide +kernel
theorem dX9_init_126 : decode cX9_init 126 = .ok (.putfield 60, 3) := by decide +kernel
theorem dX9_init_129 : decode cX9_init 129 = .ok (.aload_n 0, 1) := by decide +kernel
theorem dX9_init_130 : decode cX9_init 130 = .ok (.bipush 12, 2) := by decide +kernel
theorem dX9_init_132 : decode cX9_init 132 = .ok (.newarray .int, 2) := by decide +kernel
theorem dX9_init_134 : decode cX9_init 134 = .ok (.putfield 63, 3) := by decide +kernel
theorem dX9_init_137 : decode cX9_init 137 = .ok (.aload_n 0, 1) := by decide +kernel
theorem dX9_init_138 : decode cX9_init 138 = .ok (.iconst 2, 1) := by decide +kernel
theorem dX9_init_139 : decode cX9_init 139 = .ok (.newarray .int, 2) := by decide +kernel
theorem dX9_init_141 : decode cX9_init 141 = .ok (.putfield 66, 3) := by decide +kernel
theorem dX9_init_144 : decode cX9_init 144 = .ok (.aload_n 0, 1) := by decide +kernel
theorem dX9_init_145 : decode cX9_init 145 = .ok (.iconst 2, 1) := by decide +kernel
theorem dX9_init_146 : decode cX9_init 146 = .ok (.newarray .int, 2) := by decide +kernel
theorem dX9_init_148 : decode cX9_init 148 = .ok (.putfield 69, 3) := by decide +kernel
theorem dX9_init_151 : decode cX9_init 151 = .ok (.aload_n 0, 1) := by decide +kernel
theorem dX9_init_152 : decode cX9_init 152 = .ok (.bipush 12, 2) := by decide +kernel
theorem dX9_init_154 : decode cX9_init 154 = .ok (.newarray .long, 2) := by decide +kernel
theorem dX9_init_156 : decode cX9_init 156 = .ok (.putfield 72, 3) := by decide +kernel
theorem dX9_init_159 : decode cX9_init 159 = .ok (.aload_n 0, 1) := by decide +kernel
theorem dX9_init_160 : decode cX9_init 160 = .ok (.sipush 1120, 3) := by decide +kernel
theorem dX9_init_163 : decode cX9_init 163 = .ok (.newarray .int, 2) := by decide +kernel
theorem dX9_init_165 : decode cX9_init 165 = .ok (.putfield 76, 3) := by decide +kernel
theorem dX9_init_168 : decode cX9_init 168 = .ok (.aload_n 0, 1) := by decide +kernel
theorem dX9_init_169 : decode cX9_init 169 = .ok (.sipush 1120, 3) := by decide +kernel
theorem dX9_init_172 : decode cX9_init 172 = .ok (.newarray .int, 2) := by decide +kernel
theorem dX9_init_174 : decode cX9_init 174 = .ok (.putfield 79, 3) := by decide +kernel
theorem dX9_init_177 : decode cX9_init 177 = .ok (.aload_n 0, 1) := by decide +kernel
theorem dX9_init_178 : decode cX9_init 178 = .ok (.bipush 90, 2) := by decide +kernel
theorem dX9_init_180 : decode cX9_init 180 = .ok (.newarray .int, 2) := by decide +kernel
theorem dX9_init_182 : decode cX9_init 182 = .ok (.putfield 82, 3) := by decide +kernel
theorem dX9_init_185 : decode cX9_init 185 = .ok (.aload_n 0, 1) := by decide +kernel
theorem dX9_init_186 : decode cX9_init 186 = .ok (.bipush 90, 2) := by decide +kernel
theorem dX9_init_188 : decode cX9_init 188 = .ok (.newarray .int, 2) := by decide +kernel
theorem dX9_init_190 : decode cX9_init 190 = .ok (.putfield 85, 3) := by decide +kernel
theorem dX9_init_193 : decode cX9_init 193 = .ok (.aload_n 0, 1) := by decide +kernel
theorem dX9_init_194 : decode cX9_init 194 = .ok (.bipush 60, 2) := by decide +kernel
theorem dX9_init_196 : decode cX9_init 196 = .ok (.newarray .int, 2) := by decide +kernel
theorem dX9_init_198 : decode cX9_init 198 = .ok (.putfield 88, 3) := by decide +kernel
theorem dX9_init_201 : decode cX9_init 201 = .ok (.aload_n 0, 1) := by decide +kernel
theorem dX9_init_202 : decode cX9_init 202 = .ok (.sipush 521, 3) := by decide +kernel
theorem dX9_init_205 : decode cX9_init 205 = .ok (.newarray .int, 2) := by decide +kernel
theorem dX9_init_207 : decode cX9_init 207 = .ok (.putfield 91, 3) := by decide +kernel
theorem dX9_init_210 : decode cX9_init 210 = .ok (.aload_n 0, 1) := by decide +kernel
theorem dX9_init_211 : decode cX9_init 211 = .ok (.sipush 521, 3) := by decide +kernel
theorem dX9_init_214 : decode cX9_init 214 = .ok (.newarray .int, 2) := by decide +kernel
theorem dX9_init_216 : decode cX9_init 216 = .ok (.putfield 94, 3) := by decide +kernel
theorem dX9_init_219 : decode cX9_init 219 = .ok (.aload_n 0, 1) := by decide +kernel
theorem dX9_init_220 : decode cX9_init 220 = .ok (.iconst (-1), 1) := by decide +kernel
theorem dX9_init_221 : decode cX9_init 221 = .ok (.putfield 97, 3) := by decide +kernel
theorem dX9_init_224 : decode cX9_init 224 = .ok (.aload_n 0, 1) := by decide +kernel
theorem dX9_init_225 : decode cX9_init 225 = .ok (.bipush 30, 2) := by decide +kernel
theorem dX9_init_227 : decode cX9_init 227 = .ok (.newarray .int, 2) := by decide +kernel
theorem dX9_init_229 : decode cX9_init 229 = .ok (.putfield 100, 3) := by decide +kernel
theorem dX9_init_232 : decode cX9_init 232 = .ok (.aload_n 0, 1) := by decide +kernel
theorem dX9_init_233 : decode cX9_init 233 = .ok (.bipush 6, 2) := by decide +kernel
theorem dX9_init_235 : decode cX9_init 235 = .ok (.newarray .int, 2) := by decide +kernel
theorem dX9_init_237 : decode cX9_init 237 = .ok (.putfield 103, 3) := by decide +kernel
theorem dX9_init_240 : decode cX9_init 240 = .ok (.aload_n 0, 1) := by decide +kernel
theorem dX9_init_241 : decode cX9_init 241 = .ok (.bipush 6, 2) := by decide +kernel
theorem dX9_init_243 : decode cX9_init 243 = .ok (.newarray .int, 2) := by decide +kernel
theorem dX9_init_245 : decode cX9_init 245 = .ok (.putfield 106, 3) := by decide +kernel
theorem dX9_init_248 : decode cX9_init 248 = .ok (.aload_n 0, 1) := by decide +kernel
theorem dX9_init_249 : decode cX9_init 249 = .ok (.sipush 21361, 3) := by decide +kernel
theorem dX9_init_252 : decode cX9_init 252 = .ok (.newarray .int, 2) := by decide +kernel
theorem dX9_init_254 : decode cX9_init 254 = .ok (.putfield 109, 3) := by decide +kernel
theorem dX9_init_257 : decode cX9_init 257 = .ok (.aload_n 0, 1) := by decide +kernel
theorem dX9_init_258 : decode cX9_init 258 = .ok (.bipush 6, 2) := by decide +kernel
theorem dX9_init_260 : decode cX9_init 260 = .ok (.newarray .int, 2) := by decide +kernel
theorem dX9_init_262 : decode cX9_init 262 = .ok (.putfield 112, 3) := by decide +kernel
theorem dX9_init_265 : decode cX9_init 265 = .ok (.aload_n 0, 1) := by decide +kernel
theorem dX9_init_266 : decode cX9_init 266 = .ok (.bipush 30, 2) := by decide +kernel
theorem dX9_init_268 : decode cX9_init 268 = .ok (.newarray .int, 2) := by decide +kernel
theorem dX9_init_270 : decode cX9_init 270 = .ok (.putfield 115, 3) := by decide +kernel
theorem dX9_init_273 : decode cX9_init 273 = .ok (.aload_n 0, 1) := by decide +kernel
theorem dX9_init_274 : decode cX9_init 274 = .ok (.bipush 30, 2) := by decide +kernel
theorem dX9_init_276 : decode cX9_init 276 = .ok (.newarray .int, 2) := by decide +kernel
theorem dX9_init_278 : decode cX9_init 278 = .ok (.putfield 118, 3) := by decide +kernel
theorem dX9_init_281 : decode cX9_init 281 = .ok (.aload_n 0, 1) := by decide +kernel
theorem dX9_init_282 : decode cX9_init 282 = .ok (.bipush 30, 2) := by decide +kernel
theorem dX9_init_284 : decode cX9_init 284 = .ok (.newarray .int, 2) := by decide +kernel
theorem dX9_init_286 : decode cX9_init 286 = .ok (.putfield 121, 3) := by decide +kernel
theorem dX9_init_289 : decode cX9_init 289 = .ok (.aload_n 0, 1) := by decide +kernel
theorem dX9_init_290 : decode cX9_init 290 = .ok (.bipush 30, 2) := by decide +kernel
theorem dX9_init_292 : decode cX9_init 292 = .ok (.newarray .int, 2) := by decide +kernel
theorem dX9_init_294 : decode cX9_init 294 = .ok (.putfield 124, 3) := by decide +kernel
theorem dX9_init_297 : decode cX9_init 297 = .ok (.aload_n 0, 1) := by decide +kernel
theorem dX9_init_298 : decode cX9_init 298 = .ok (.bipush 30, 2) := by decide +kernel
theorem dX9_init_300 : decode cX9_init 300 = .ok (.newarray .int, 2) := by decide +kernel
theorem dX9_init_302 : decode cX9_init 302 = .ok (.putfield 127, 3) := by decide +kernel
theorem dX9_init_305 : decode cX9_init 305 = .ok (.aload_n 0, 1) := by decide +kernel
theorem dX9_init_306 : decode cX9_init 306 = .ok (.sipush 1563, 3) := by decide +kernel
theorem dX9_init_309 : decode cX9_init 309 = .ok (.newarray .int, 2) := by decide +kernel
theorem dX9_init_311 : decode cX9_init 311 = .ok (.putfield 130, 3) := by decide +kernel
theorem dX9_init_314 : decode cX9_init 314 = .ok (.aload_n 0, 1) := by decide +kernel
theorem dX9_init_315 : decode cX9_init 315 = .ok (.iconst 3, 1) := by decide +kernel
theorem dX9_init_316 : decode cX9_init 316 = .ok (.newarray .boolean, 2) := by decide +kernel
theorem dX9_init_318 : decode cX9_init 318 = .ok (.putfield 133, 3) := by decide +kernel
theorem dX9_init_321 : decode cX9_init 321 = .ok (.aload_n 0, 1) := by decide +kernel
theorem dX9_init_322 : decode cX9_init 322 = .ok (.invokevirtual 137, 3) := by decide +kernel
theorem dX9_init_325 : decode cX9_init 325 = .ok (.aload_n 0, 1) := by decide +kernel
theorem dX9_init_326 : decode cX9_init 326 = .ok (.invokevirtual 140, 3) := by decide +kernel
theorem dX9_init_329 : decode cX9_init 329 = .ok (.return_, 1) := by decide +kernel
theorem ydX9_init : z_yd yX9_init 0 := ⟨by decide, by decide, by decide +kernel⟩
abbrev rmX9_init : Room := { frames := 3, cells := 39, slots := 29963, locals := 64 }
noncomputable def xX9_init (l0 : Nat) (h : ZH) : Option ZH := ((z_nw h (.inr (.inl (1, List.replicate 1620 0)))).bind fun q8 => ((z_sF q8.2 l0 9 0 (.ref q8.1)).bind fun h10 => ((z_nw h10 (.inr (.inl (1, List.replicate 1600 0)))).bind fun q17 => ((z_sF q17.2 l0 9 1 (.ref q17.1)).bind fun h19 => ((z_sF h19 l0 9 5 (.int (-1 : Int32))).bind fun h24 => ((z_nw h24 (.inr (.inl (0, List.replicate 2 0)))).bind fun q29 => ((z_sF q29.2 l0 9 11 (.ref q29.1)).bind fun h31 => ((z_nw h31 (.inr (.inl (0, List.replicate 2 0)))).bind fun q36 => ((z_sF q36.2 l0 9 12 (.ref q36.1)).bind fun h38 => ((z_nw h38 (.inr (.inl (0, List.replicate 2 0)))).bind fun q43 => ((z_sF q43.2 l0 9 13 (.ref q43.1)).bind fun h45 => ((z_nw h45 (.inr (.inl (0, List.replicate 2 0)))).bind fun q50 => ((z_sF q50.2 l0 9 14 (.ref q50.1)).bind fun h52 => ((z_nw h52 (.inr (.inl (0, List.replicate 2 0)))).bind fun q57 => ((z_sF q57.2 l0 9 15 (.ref q57.1)).bind fun h59 => ((z_nw h59 (.inr (.inl (0, List.replicate 2 0)))).bind fun q64 => ((z_sF q64.2 l0 9 16 (.ref q64.1)).bind fun h66 => ((z_nw h66 (.inr (.inl (0, List.replicate 2 0)))).bind fun q71 => ((z_sF q71.2 l0 9 17 (.ref q71.1)).bind fun h73 => ((z_nw h73 (.inr (.inl (0, List.replicate 2 0)))).bind fun q78 => ((z_sF q78.2 l0 9 18 (.ref q78.1)).bind fun h80 => ((z_nw h80 (.inr (.inl (0, List.replicate 2 0)))).bind fun q85 => ((z_sF q85.2 l0 9 19 (.ref q85.1)).bind fun h87 => ((z_nw h87 (.inr (.inl (0, List.replicate 2 0)))).bind fun q92 => ((z_sF q92.2 l0 9 20 (.ref q92.1)).bind fun h94 => ((z_nw h94 (.inr (.inl (0, List.replicate 12 0)))).bind fun q100 => ((z_sF q100.2 l0 9 21 (.ref q100.1)).bind fun h102 => ((z_nw h102 (.inr (.inl (0, List.replicate 12 0)))).bind fun q108 => ((z_sF q108.2 l0 9 22 (.ref q108.1)).bind fun h110 => ((z_nw h110 (.inr (.inl (0, List.replicate 12 0)))).bind fun q116 => ((z_sF q116.2 l0 9 23 (.ref q116.1)).bind fun h118 => ((z_nw h118 (.inr (.inl (0, List.replicate 12 0)))).bind fun q124 => ((z_sF q124.2 l0 9 24 (.ref q124.1)).bind fun h126 => ((z_nw h126 (.inr (.inl (0, List.replicate 12 0)))).bind fun q132 => ((z_sF q132.2 l0 9 25 (.ref q132.1)).bind fun h134 => ((z_nw h134 (.inr (.inl (0, List.replicate 2 0)))).bind fun q139 => ((z_sF q139.2 l0 9 26 (.ref q139.1)).bind fun h141 => ((z_nw h141 (.inr (.inl (0, List.replicate 2 0)))).bind fun q146 => ((z_sF q146.2 l0 9 27 (.ref q146.1)).bind fun h148 => ((z_nw h148 (.inr (.inr (.inl (List.replicate 12 0))))).bind fun q154 => ((z_sF q154.2 l0 9 28 (.ref q154.1)).bind fun h156 => ((z_nw h156 (.inr (.inl (0, List.replicate 1120 0)))).bind fun q163 => ((z_sF q163.2 l0 9 29 (.ref q163.1)).bind fun h165 => ((z_nw h165 (.inr (.inl (0, List.replicate 1120 0)))).bind fun q172 => ((z_sF q172.2 l0 9 30 (.ref q172.1)).bind fun h174 => ((z_nw h174 (.inr (.inl (0, List.replicate 90 0)))).bind fun q180 => ((z_sF q180.2 l0 9 31 (.ref q180.1)).bind fun h182 => ((z_nw h182 (.inr (.inl (0, List.replicate 90 0)))).bind fun q188 => ((z_sF q188.2 l0 9 32 (.ref q188.1)).bind fun h190 => ((z_nw h190 (.inr (.inl (0, List.replicate 60 0)))).bind fun q196 => ((z_sF q196.2 l0 9 33 (.ref q196.1)).bind fun h198 => ((z_nw h198 (.inr (.inl (0, List.replicate 521 0)))).bind fun q205 => ((z_sF q205.2 l0 9 41 (.ref q205.1)).bind fun h207 => ((z_nw h207 (.inr (.inl (0, List.replicate 521 0)))).bind fun q214 => ((z_sF q214.2 l0 9 42 (.ref q214.1)).bind fun h216 => ((z_sF h216 l0 9 43 (.int (-1 : Int32))).bind fun h221 => ((z_nw h221 (.inr (.inl (0, List.replicate 30 0)))).bind fun q227 => ((z_sF q227.2 l0 9 44 (.ref q227.1)).bind fun h229 => ((z_nw h229 (.inr (.inl (0, List.replicate 6 0)))).bind fun q235 => ((z_sF q235.2 l0 9 45 (.ref q235.1)).bind fun h237 => ((z_nw h237 (.inr (.inl (0, List.replicate 6 0)))).bind fun q243 => ((z_sF q243.2 l0 9 46 (.ref q243.1)).bind fun h245 => ((z_nw h245 (.inr (.inl (0, List.replicate 21361 0)))).bind fun q252 => ((z_sF q252.2 l0 9 47 (.ref q252.1)).bind fun h254 => ((z_nw h254 (.inr (.inl (0, List.replicate 6 0)))).bind fun q260 => ((z_sF q260.2 l0 9 50 (.ref q260.1)).bind fun h262 => ((z_nw h262 (.inr (.inl (0, List.replicate 30 0)))).bind fun q268 => ((z_sF q268.2 l0 9 52 (.ref q268.1)).bind fun h270 => ((z_nw h270 (.inr (.inl (0, List.replicate 30 0)))).bind fun q276 => ((z_sF q276.2 l0 9 53 (.ref q276.1)).bind fun h278 => ((z_nw h278 (.inr (.inl (0, List.replicate 30 0)))).bind fun q284 => ((z_sF q284.2 l0 9 54 (.ref q284.1)).bind fun h286 => ((z_nw h286 (.inr (.inl (0, List.replicate 30 0)))).bind fun q292 => ((z_sF q292.2 l0 9 55 (.ref q292.1)).bind fun h294 => ((z_nw h294 (.inr (.inl (0, List.replicate 30 0)))).bind fun q300 => ((z_sF q300.2 l0 9 56 (.ref q300.1)).bind fun h302 => ((z_nw h302 (.inr (.inl (0, List.replicate 1563 0)))).bind fun q309 => ((z_sF q309.2 l0 9 59 (.ref q309.1)).bind fun h311 => ((z_nw h311 (.inr (.inl (2, List.replicate 3 0)))).bind fun q316 => ((z_sF q316.2 l0 9 60 (.ref q316.1)).bind fun h318 => (z_gu (z_is h318 l0 9) ((xX9_clearBank l0 h318).bind fun h322 => (z_gu (z_is h322 l0 9) ((xX9_startAnew l0 h322).bind fun h326 => some h326))))))))))))))))))))))))))))))))))))))))))))))))))))))))))))))))))))))))))))))))))))
set_option maxHeartbeats 4000000 in
set_option maxRecDepth 100000 in
theorem lX9_init {Γ : ZG} {l : Launch} (hO : z_OK Γ) {l0 : Nat} {h : ZH} {r : ZH} (hX : xX9_init l0 h = some r) : z_M Γ l yX9_init (z_ws1 yX9_init cX9_init 1 none) rmX9_init [.ref l0] h none r := by
  refine z_start hO (plainFor_of_name (by decide)) (Nat.le_of_ble_eq_true rfl) ?_
  intro p e s m args below meth c G hr hnm
  refine z_lvc (lv2 := [(0, .ref l0)]) rfl ?_
  refine z_aload_n (pc := 0) G 0 dX9_init_0 rfl rfl ?_
  refine z_obj (pc := 1) G kt_1205 kt_25 kt_26 (by decide) (Nat.le_of_ble_eq_true rfl) dX9_init_1 ?_
  refine z_aload_n (pc := 4) G 0 dX9_init_4 rfl rfl ?_
  refine z_sipush (pc := 5) (v := 1620) G dX9_init_5 (by decide) ?_
  obtain ⟨q8, hv8, hX⟩ := z_bd hX
  refine z_nI (pc := 8) (atype := .byte) (t := 1) (N := 1620) (c2 := 1) (s2 := 1620) G kt_135 rfl (by decide) rfl (fun _ z => by cases z) (by decide) (by decide) (by decide) ⟨rfl, rfl⟩ ⟨by decide, by decide⟩ dX9_init_8 hv8 ?_
  obtain ⟨h10, hv10, hX⟩ := z_bd hX
  refine z_putF (pc := 10) G kK9 (k := 0) (by decide) kt_1226 (Or.inr ⟨rfl, hnm, rfl⟩) rfl rfl dX9_init_10 hv10 ?_
  refine z_aload_n (pc := 13) G 0 dX9_init_13 rfl rfl ?_
  refine z_sipush (pc := 14) (v := 1600) G dX9_init_14 (by decide) ?_
  obtain ⟨q17, hv17, hX⟩ := z_bd hX
  refine z_nI (pc := 17) (atype := .byte) (t := 1) (N := 1600) (c2 := 2) (s2 := 3220) G kt_135 rfl (by decide) rfl (fun _ z => by cases z) (by decide) (by decide) (by decide) ⟨rfl, rfl⟩ ⟨by decide, by decide⟩ dX9_init_17 hv17 ?_
  obtain ⟨h19, hv19, hX⟩ := z_bd hX
  refine z_putF (pc := 19) G kK9 (k := 1) (by decide) kt_1227 (Or.inr ⟨rfl, hnm, rfl⟩) rfl rfl dX9_init_19 hv19 ?_
  refine z_aload_n (pc := 22) G 0 dX9_init_22 rfl rfl ?_
  refine z_iconst (pc := 23) (v := (-1)) G dX9_init_23 (by decide) ?_
  obtain ⟨h24, hv24, hX⟩ := z_bd hX
  refine z_putF (pc := 24) G kK9 (k := 5) (by decide) kt_1231 (Or.inl rfl) rfl rfl dX9_init_24 hv24 ?_
  refine z_aload_n (pc := 27) G 0 dX9_init_27 rfl rfl ?_
  refine z_iconst (pc := 28) (v := 2) G dX9_init_28 (by decide) ?_
  obtain ⟨q29, hv29, hX⟩ := z_bd hX
  refine z_nI (pc := 29) (atype := .int) (t := 0) (N := 2) (c2 := 3) (s2 := 3222) G kt_136 rfl (by decide) rfl (fun _ z => by cases z) (by decide) (by decide) (by decide) ⟨rfl, rfl⟩ ⟨by decide, by decide⟩ dX9_init_29 hv29 ?_
  obtain ⟨h31, hv31, hX⟩ := z_bd hX
  refine z_putF (pc := 31) G kK9 (k := 11) (by decide) kt_1237 (Or.inr ⟨rfl, hnm, rfl⟩) rfl rfl dX9_init_31 hv31 ?_
  refine z_aload_n (pc := 34) G 0 dX9_init_34 rfl rfl ?_
  refine z_iconst (pc := 35) (v := 2) G dX9_init_35 (by decide) ?_
  obtain ⟨q36, hv36, hX⟩ := z_bd hX
  refine z_nI (pc := 36) (atype := .int) (t := 0) (N := 2) (c2 := 4) (s2 := 3224) G kt_136 rfl (by decide) rfl (fun _ z => by cases z) (by decide) (by decide) (by decide) ⟨rfl, rfl⟩ ⟨by decide, by decide⟩ dX9_init_36 hv36 ?_
  obtain ⟨h38, hv38, hX⟩ := z_bd hX
  refine z_putF (pc := 38) G kK9 (k := 12) (by decide) kt_1238 (Or.inr ⟨rfl, hnm, rfl⟩) rfl rfl dX9_init_38 hv38 ?_
  refine z_aload_n (pc := 41) G 0 dX9_init_41 rfl rfl ?_
  refine z_iconst (pc := 42) (v := 2) G dX9_init_42 (by decide) ?_
  obtain ⟨q43, hv43, hX⟩ := z_bd hX
  refine z_nI (pc := 43) (atype := .int) (t := 0) (N := 2) (c2 := 5) (s2 := 3226) G kt_136 rfl (by decide) rfl (fun _ z => by cases z) (by decide) (by decide) (by decide) ⟨rfl, rfl⟩ ⟨by decide, by decide⟩ dX9_init_43 hv43 ?_
  obtain ⟨h45, hv45, hX⟩ := z_bd hX
  refine z_putF (pc := 45) G kK9 (k := 13) (by decide) kt_1239 (Or.inr ⟨rfl, hnm, rfl⟩) rfl rfl dX9_init_45 hv45 ?_
  refine z_aload_n (pc := 48) G 0 dX9_init_48 rfl rfl ?_
  refine z_iconst (pc := 49) (v := 2) G dX9_init_49 (by decide) ?_
  obtain ⟨q50, hv50, hX⟩ := z_bd hX
  refine z_nI (pc := 50) (atype := .int) (t := 0) (N := 2) (c2 := 6) (s2 := 3228) G kt_136 rfl (by decide) rfl (fun _ z => by cases z) (by decide) (by decide) (by decide) ⟨rfl, rfl⟩ ⟨by decide, by decide⟩ dX9_init_50 hv50 ?_
  obtain ⟨h52, hv52, hX⟩ := z_bd hX
  refine z_putF (pc := 52) G kK9 (k := 14) (by decide) kt_1240 (Or.inr ⟨rfl, hnm, rfl⟩) rfl rfl dX9_init_52 hv52 ?_
  refine z_aload_n (pc := 55) G 0 dX9_init_55 rfl rfl ?_
  refine z_iconst (pc := 56) (v := 2) G dX9_init_56 (by decide) ?_
  obtain ⟨q57, hv57, hX⟩ := z_bd hX
  refine z_nI (pc := 57) (atype := .int) (t := 0) (N := 2) (c2 := 7) (s2 := 3230) G kt_136 rfl (by decide) rfl (fun _ z => by cases z) (by decide) (by decide) (by decide) ⟨rfl, rfl⟩ ⟨by decide, by decide⟩ dX9_init_57 hv57 ?_
  obtain ⟨h59, hv59, hX⟩ := z_bd hX
  refine z_putF (pc := 59) G kK9 (k := 15) (by decide) kt_1241 (Or.inr ⟨rfl, hnm, rfl⟩) rfl rfl dX9_init_59 hv59 ?_
  refine z_aload_n (pc := 62) G 0 dX9_init_62 rfl rfl ?_
  refine z_iconst (pc := 63) (v := 2) G dX9_init_63 (by decide) ?_
  obtain ⟨q64, hv64, hX⟩ := z_bd hX
  refine z_nI (pc := 64) (atype := .int) (t := 0) (N := 2) (c2 := 8) (s2 := 3232) G kt_136 rfl (by decide) rfl (fun _ z => by cases z) (by decide) (by decide) (by decide) ⟨rfl, rfl⟩ ⟨by decide, by decide⟩ dX9_init_64 hv64 ?_
  obtain ⟨h66, hv66, hX⟩ := z_bd hX
  refine z_putF (pc := 66) G kK9 (k := 16) (by decide) kt_1242 (Or.inr ⟨rfl, hnm, rfl⟩) rfl rfl dX9_init_66 hv66 ?_
  refine z_aload_n (pc := 69) G 0 dX9_init_69 rfl rfl ?_
  refine z_iconst (pc := 70) (v := 2) G dX9_init_70 (by decide) ?_
  obtain ⟨q71, hv71, hX⟩ := z_bd hX
  refine z_nI (pc := 71) (atype := .int) (t := 0) (N := 2) (c2 := 9) (s2 := 3234) G kt_136 rfl (by decide) rfl (fun _ z => by cases z) (by decide) (by decide) (by decide) ⟨rfl, rfl⟩ ⟨by decide, by decide⟩ dX9_init_71 hv71 ?_
  obtain ⟨h73, hv73, hX⟩ := z_bd hX
  refine z_putF (pc := 73) G kK9 (k := 17) (by decide) kt_1243 (Or.inr ⟨rfl, hnm, rfl⟩) rfl rfl dX9_init_73 hv73 ?_
  refine z_aload_n (pc := 76) G 0 dX9_init_76 rfl rfl ?_
  refine z_iconst (pc := 77) (v := 2) G dX9_init_77 (by decide) ?_
  obtain ⟨q78, hv78, hX⟩ := z_bd hX
  refine z_nI (pc := 78) (atype := .int) (t := 0) (N := 2) (c2 := 10) (s2 := 3236) G kt_136 rfl (by decide) rfl (fun _ z => by cases z) (by decide) (by decide) (by decide) ⟨rfl, rfl⟩ ⟨by decide, by decide⟩ dX9_init_78 hv78 ?_
  obtain ⟨h80, hv80, hX⟩ := z_bd hX
  refine z_putF (pc := 80) G kK9 (k := 18) (by decide) kt_1244 (Or.inr ⟨rfl, hnm, rfl⟩) rfl rfl dX9_init_80 hv80 ?_
  refine z_aload_n (pc := 83) G 0 dX9_init_83 rfl rfl ?_
  refine z_iconst (pc := 84) (v := 2) G dX9_init_84 (by decide) ?_
  obtain ⟨q85, hv85, hX⟩ := z_bd hX
  refine z_nI (pc := 85) (atype := .int) (t := 0) (N := 2) (c2 := 11) (s2 := 3238) G kt_136 rfl (by decide) rfl (fun _ z => by cases z) (by decide) (by decide) (by decide) ⟨rfl, rfl⟩ ⟨by decide, by decide⟩ dX9_init_85 hv85 ?_
  obtain ⟨h87, hv87, hX⟩ := z_bd hX
  refine z_putF (pc := 87) G kK9 (k := 19) (by decide) kt_1245 (Or.inr ⟨rfl, hnm, rfl⟩) rfl rfl dX9_init_87 hv87 ?_
  refine z_aload_n (pc := 90) G 0 dX9_init_90 rfl rfl ?_
  refine z_iconst (pc := 91) (v := 2) G dX9_init_91 (by decide) ?_
  obtain ⟨q92, hv92, hX⟩ := z_bd hX
  refine z_nI (pc := 92) (atype := .int) (t := 0) (N := 2) (c2 := 12) (s2 := 3240) G kt_136 rfl (by decide) rfl (fun _ z => by cases z) (by decide) (by decide) (by decide) ⟨rfl, rfl⟩ ⟨by decide, by decide⟩ dX9_init_92 hv92 ?_
  obtain ⟨h94, hv94, hX⟩ := z_bd hX
  refine z_putF (pc := 94) G kK9 (k := 20) (by decide) kt_1246 (Or.inr ⟨rfl, hnm, rfl⟩) rfl rfl dX9_init_94 hv94 ?_
  refine z_aload_n (pc := 97) G 0 dX9_init_97 rfl rfl ?_
  refine z_bipush (pc := 98) (v := 12) G dX9_init_98 (by decide) ?_
  obtain ⟨q100, hv100, hX⟩ := z_bd hX
  refine z_nI (pc := 100) (atype := .int) (t := 0) (N := 12) (c2 := 13) (s2 := 3252) G kt_136 rfl (by decide) rfl (fun _ z => by cases z) (by decide) (by decide) (by decide) ⟨rfl, rfl⟩ ⟨by decide, by decide⟩ dX9_init_100 hv100 ?_
  obtain ⟨h102, hv102, hX⟩ := z_bd hX
  refine z_putF (pc := 102) G kK9 (k := 21) (by decide) kt_1247 (Or.inr ⟨rfl, hnm, rfl⟩) rfl rfl dX9_init_102 hv102 ?_
  refine z_aload_n (pc := 105) G 0 dX9_init_105 rfl rfl ?_
  refine z_bipush (pc := 106) (v := 12) G dX9_init_106 (by decide) ?_
  obtain ⟨q108, hv108, hX⟩ := z_bd hX
  refine z_nI (pc := 108) (atype := .int) (t := 0) (N := 12) (c2 := 14) (s2 := 3264) G kt_136 rfl (by decide) rfl (fun _ z => by cases z) (by decide) (by decide) (by decide) ⟨rfl, rfl⟩ ⟨by decide, by decide⟩ dX9_init_108 hv108 ?_
  obtain ⟨h110, hv110, hX⟩ := z_bd hX
  refine z_putF (pc := 110) G kK9 (k := 22) (by decide) kt_1248 (Or.inr ⟨rfl, hnm, rfl⟩) rfl rfl dX9_init_110 hv110 ?_
  refine z_aload_n (pc := 113) G 0 dX9_init_113 rfl rfl ?_
  refine z_bipush (pc := 114) (v := 12) G dX9_init_114 (by decide) ?_
  obtain ⟨q116, hv116, hX⟩ := z_bd hX
  refine z_nI (pc := 116) (atype := .int) (t := 0) (N := 12) (c2 := 15) (s2 := 3276) G kt_136 rfl (by decide) rfl (fun _ z => by cases z) (by decide) (by decide) (by decide) ⟨rfl, rfl⟩ ⟨by decide, by decide⟩ dX9_init_116 hv116 ?_
  obtain ⟨h118, hv118, hX⟩ := z_bd hX
  refine z_putF (pc := 118) G kK9 (k := 23) (by decide) kt_1249 (Or.inr ⟨rfl, hnm, rfl⟩) rfl rfl dX9_init_118 hv118 ?_
  refine z_aload_n (pc := 121) G 0 dX9_init_121 rfl rfl ?_
  refine z_bipush (pc := 122) (v := 12) G dX9_init_122 (by decide) ?_
  obtain ⟨q124, hv124, hX⟩ := z_bd hX
  refine z_nI (pc := 124) (atype := .int) (t := 0) (N := 12) (c2 := 16) (s2 := 3288) G kt_136 rfl (by decide) rfl (fun _ z => by cases z) (by decide) (by decide) (by decide) ⟨rfl, rfl⟩ ⟨by decide, by decide⟩ dX9_init_124 hv124 ?_
  obtain ⟨h126, hv126, hX⟩ := z_bd hX
  refine z_putF (pc := 126) G kK9 (k := 24) (by decide) kt_1250 (Or.inr ⟨rfl, hnm, rfl⟩) rfl rfl dX9_init_126 hv126 ?_
  refine z_aload_n (pc := 129) G 0 dX9_init_129 rfl rfl ?_
  refine z_bipush (pc := 130) (v := 12) G dX9_init_130 (by decide) ?_
  obtain ⟨q132, hv132, hX⟩ := z_bd hX
  refine z_nI (pc := 132) (atype := .int) (t := 0) (N := 12) (c2 := 17) (s2 := 3300) G kt_136 rfl (by decide) rfl (fun _ z => by cases z) (by decide) (by decide) (by decide) ⟨rfl, rfl⟩ ⟨by decide, by decide⟩ dX9_init_132 hv132 ?_
  obtain ⟨h134, hv134, hX⟩ := z_bd hX
  refine z_putF (pc := 134) G kK9 (k := 25) (by decide) kt_1251 (Or.inr ⟨rfl, hnm, rfl⟩) rfl rfl dX9_init_134 hv134 ?_
  refine z_aload_n (pc := 137) G 0 dX9_init_137 rfl rfl ?_
  refine z_iconst (pc := 138) (v := 2) G dX9_init_138 (by decide) ?_
  obtain ⟨q139, hv139, hX⟩ := z_bd hX
  refine z_nI (pc := 139) (atype := .int) (t := 0) (N := 2) (c2 := 18) (s2 := 3302) G kt_136 rfl (by decide) rfl (fun _ z => by cases z) (by decide) (by decide) (by decide) ⟨rfl, rfl⟩ ⟨by decide, by decide⟩ dX9_init_139 hv139 ?_
  obtain ⟨h141, hv141, hX⟩ := z_bd hX
  refine z_putF (pc := 141) G kK9 (k := 26) (by decide) kt_1252 (Or.inr ⟨rfl, hnm, rfl⟩) rfl rfl dX9_init_141 hv141 ?_
  refine z_aload_n (pc := 144) G 0 dX9_init_144 rfl rfl ?_
  refine z_iconst (pc := 145) (v := 2) G dX9_init_145 (by decide) ?_
  obtain ⟨q146, hv146, hX⟩ := z_bd hX
  refine z_nI (pc := 146) (atype := .int) (t := 0) (N := 2) (c2 := 19) (s2 := 3304) G kt_136 rfl (by decide) rfl (fun _ z => by cases z) (by decide) (by decide) (by decide) ⟨rfl, rfl⟩ ⟨by decide, by decide⟩ dX9_init_146 hv146 ?_
  obtain ⟨h148, hv148, hX⟩ := z_bd hX
  refine z_putF (pc := 148) G kK9 (k := 27) (by decide) kt_1253 (Or.inr ⟨rfl, hnm, rfl⟩) rfl rfl dX9_init_148 hv148 ?_
  refine z_aload_n (pc := 151) G 0 dX9_init_151 rfl rfl ?_
  refine z_bipush (pc := 152) (v := 12) G dX9_init_152 (by decide) ?_
  obtain ⟨q154, hv154, hX⟩ := z_bd hX
  refine z_nJ (pc := 154) (N := 12) (c2 := 20) (s2 := 3316) G kt_1410 (by decide) (by decide) (by decide) ⟨rfl, rfl⟩ ⟨by decide, by decide⟩ dX9_init_154 hv154 ?_
  obtain ⟨h156, hv156, hX⟩ := z_bd hX
  refine z_putF (pc := 156) G kK9 (k := 28) (by decide) kt_1254 (Or.inr ⟨rfl, hnm, rfl⟩) rfl rfl dX9_init_156 hv156 ?_
  refine z_aload_n (pc := 159) G 0 dX9_init_159 rfl rfl ?_
  refine z_sipush (pc := 160) (v := 1120) G dX9_init_160 (by decide) ?_
  obtain ⟨q163, hv163, hX⟩ := z_bd hX
  refine z_nI (pc := 163) (atype := .int) (t := 0) (N := 1120) (c2 := 21) (s2 := 4436) G kt_136 rfl (by decide) rfl (fun _ z => by cases z) (by decide) (by decide) (by decide) ⟨rfl, rfl⟩ ⟨by decide, by decide⟩ dX9_init_163 hv163 ?_
  obtain ⟨h165, hv165, hX⟩ := z_bd hX
  refine z_putF (pc := 165) G kK9 (k := 29) (by decide) kt_1255 (Or.inr ⟨rfl, hnm, rfl⟩) rfl rfl dX9_init_165 hv165 ?_
  refine z_aload_n (pc := 168) G 0 dX9_init_168 rfl rfl ?_
  refine z_sipush (pc := 169) (v := 1120) G dX9_init_169 (by decide) ?_
  obtain ⟨q172, hv172, hX⟩ := z_bd hX
  refine z_nI (pc := 172) (atype := .int) (t := 0) (N := 1120) (c2 := 22) (s2 := 5556) G kt_136 rfl (by decide) rfl (fun _ z => by cases z) (by decide) (by decide) (by decide) ⟨rfl, rfl⟩ ⟨by decide, by decide⟩ dX9_init_172 hv172 ?_
  obtain ⟨h174, hv174, hX⟩ := z_bd hX
  refine z_putF (pc := 174) G kK9 (k := 30) (by decide) kt_1256 (Or.inr ⟨rfl, hnm, rfl⟩) rfl rfl dX9_init_174 hv174 ?_
  refine z_aload_n (pc := 177) G 0 dX9_init_177 rfl rfl ?_
  refine z_bipush (pc := 178) (v := 90) G dX9_init_178 (by decide) ?_
  obtain ⟨q180, hv180, hX⟩ := z_bd hX
  refine z_nI (pc := 180) (atype := .int) (t := 0) (N := 90) (c2 := 23) (s2 := 5646) G kt_136 rfl (by decide) rfl (fun _ z => by cases z) (by decide) (by decide) (by decide) ⟨rfl, rfl⟩ ⟨by decide, by decide⟩ dX9_init_180 hv180 ?_
  obtain ⟨h182, hv182, hX⟩ := z_bd hX
  refine z_putF (pc := 182) G kK9 (k := 31) (by decide) kt_1257 (Or.inr ⟨rfl, hnm, rfl⟩) rfl rfl dX9_init_182 hv182 ?_
  refine z_aload_n (pc := 185) G 0 dX9_init_185 rfl rfl ?_
  refine z_bipush (pc := 186) (v := 90) G dX9_init_186 (by decide) ?_
  obtain ⟨q188, hv188, hX⟩ := z_bd hX
  refine z_nI (pc := 188) (atype := .int) (t := 0) (N := 90) (c2 := 24) (s2 := 5736) G kt_136 rfl (by decide) rfl (fun _ z => by cases z) (by decide) (by decide) (by decide) ⟨rfl, rfl⟩ ⟨by decide, by decide⟩ dX9_init_188 hv188 ?_
  obtain ⟨h190, hv190, hX⟩ := z_bd hX
  refine z_putF (pc := 190) G kK9 (k := 32) (by decide) kt_1258 (Or.inr ⟨rfl, hnm, rfl⟩) rfl rfl dX9_init_190 hv190 ?_
  refine z_aload_n (pc := 193) G 0 dX9_init_193 rfl rfl ?_
  refine z_bipush (pc := 194) (v := 60) G dX9_init_194 (by decide) ?_
  obtain ⟨q196, hv196, hX⟩ := z_bd hX
  refine z_nI (pc := 196) (atype := .int) (t := 0) (N := 60) (c2 := 25) (s2 := 5796) G kt_136 rfl (by decide) rfl (fun _ z => by cases z) (by decide) (by decide) (by decide) ⟨rfl, rfl⟩ ⟨by decide, by decide⟩ dX9_init_196 hv196 ?_
  obtain ⟨h198, hv198, hX⟩ := z_bd hX
  refine z_putF (pc := 198) G kK9 (k := 33) (by decide) kt_1259 (Or.inr ⟨rfl, hnm, rfl⟩) rfl rfl dX9_init_198 hv198 ?_
  refine z_aload_n (pc := 201) G 0 dX9_init_201 rfl rfl ?_
  refine z_sipush (pc := 202) (v := 521) G dX9_init_202 (by decide) ?_
  obtain ⟨q205, hv205, hX⟩ := z_bd hX
  refine z_nI (pc := 205) (atype := .int) (t := 0) (N := 521) (c2 := 26) (s2 := 6317) G kt_136 rfl (by decide) rfl (fun _ z => by cases z) (by decide) (by decide) (by decide) ⟨rfl, rfl⟩ ⟨by decide, by decide⟩ dX9_init_205 hv205 ?_
  obtain ⟨h207, hv207, hX⟩ := z_bd hX
  refine z_putF (pc := 207) G kK9 (k := 41) (by decide) kt_1267 (Or.inr ⟨rfl, hnm, rfl⟩) rfl rfl dX9_init_207 hv207 ?_
  refine z_aload_n (pc := 210) G 0 dX9_init_210 rfl rfl ?_
  refine z_sipush (pc := 211) (v := 521) G dX9_init_211 (by decide) ?_
  obtain ⟨q214, hv214, hX⟩ := z_bd hX
  refine z_nI (pc := 214) (atype := .int) (t := 0) (N := 521) (c2 := 27) (s2 := 6838) G kt_136 rfl (by decide) rfl (fun _ z => by cases z) (by decide) (by decide) (by decide) ⟨rfl, rfl⟩ ⟨by decide, by decide⟩ dX9_init_214 hv214 ?_
  obtain ⟨h216, hv216, hX⟩ := z_bd hX
  refine z_putF (pc := 216) G kK9 (k := 42) (by decide) kt_1268 (Or.inr ⟨rfl, hnm, rfl⟩) rfl rfl dX9_init_216 hv216 ?_
  refine z_aload_n (pc := 219) G 0 dX9_init_219 rfl rfl ?_
  refine z_iconst (pc := 220) (v := (-1)) G dX9_init_220 (by decide) ?_
  obtain ⟨h221, hv221, hX⟩ := z_bd hX
  refine z_putF (pc := 221) G kK9 (k := 43) (by decide) kt_1269 (Or.inl rfl) rfl rfl dX9_init_221 hv221 ?_
  refine z_aload_n (pc := 224) G 0 dX9_init_224 rfl rfl ?_
  refine z_bipush (pc := 225) (v := 30) G dX9_init_225 (by decide) ?_
  obtain ⟨q227, hv227, hX⟩ := z_bd hX
  refine z_nI (pc := 227) (atype := .int) (t := 0) (N := 30) (c2 := 28) (s2 := 6868) G kt_136 rfl (by decide) rfl (fun _ z => by cases z) (by decide) (by decide) (by decide) ⟨rfl, rfl⟩ ⟨by decide, by decide⟩ dX9_init_227 hv227 ?_
  obtain ⟨h229, hv229, hX⟩ := z_bd hX
  refine z_putF (pc := 229) G kK9 (k := 44) (by decide) kt_1270 (Or.inr ⟨rfl, hnm, rfl⟩) rfl rfl dX9_init_229 hv229 ?_
  refine z_aload_n (pc := 232) G 0 dX9_init_232 rfl rfl ?_
  refine z_bipush (pc := 233) (v := 6) G dX9_init_233 (by decide) ?_
  obtain ⟨q235, hv235, hX⟩ := z_bd hX
  refine z_nI (pc := 235) (atype := .int) (t := 0) (N := 6) (c2 := 29) (s2 := 6874) G kt_136 rfl (by decide) rfl (fun _ z => by cases z) (by decide) (by decide) (by decide) ⟨rfl, rfl⟩ ⟨by decide, by decide⟩ dX9_init_235 hv235 ?_
  obtain ⟨h237, hv237, hX⟩ := z_bd hX
  refine z_putF (pc := 237) G kK9 (k := 45) (by decide) kt_1271 (Or.inr ⟨rfl, hnm, rfl⟩) rfl rfl dX9_init_237 hv237 ?_
  refine z_aload_n (pc := 240) G 0 dX9_init_240 rfl rfl ?_
  refine z_bipush (pc := 241) (v := 6) G dX9_init_241 (by decide) ?_
  obtain ⟨q243, hv243, hX⟩ := z_bd hX
  refine z_nI (pc := 243) (atype := .int) (t := 0) (N := 6) (c2 := 30) (s2 := 6880) G kt_136 rfl (by decide) rfl (fun _ z => by cases z) (by decide) (by decide) (by decide) ⟨rfl, rfl⟩ ⟨by decide, by decide⟩ dX9_init_243 hv243 ?_
  obtain ⟨h245, hv245, hX⟩ := z_bd hX
  refine z_putF (pc := 245) G kK9 (k := 46) (by decide) kt_1272 (Or.inr ⟨rfl, hnm, rfl⟩) rfl rfl dX9_init_245 hv245 ?_
  refine z_aload_n (pc := 248) G 0 dX9_init_248 rfl rfl ?_
  refine z_sipush (pc := 249) (v := 21361) G dX9_init_249 (by decide) ?_
  obtain ⟨q252, hv252, hX⟩ := z_bd hX
  refine z_nI (pc := 252) (atype := .int) (t := 0) (N := 21361) (c2 := 31) (s2 := 28241) G kt_136 rfl (by decide) rfl (fun _ z => by cases z) (by decide) (by decide) (by decide) ⟨rfl, rfl⟩ ⟨by decide, by decide⟩ dX9_init_252 hv252 ?_
  obtain ⟨h254, hv254, hX⟩ := z_bd hX
  refine z_putF (pc := 254) G kK9 (k := 47) (by decide) kt_1273 (Or.inr ⟨rfl, hnm, rfl⟩) rfl rfl dX9_init_254 hv254 ?_
  refine z_aload_n (pc := 257) G 0 dX9_init_257 rfl rfl ?_
  refine z_bipush (pc := 258) (v := 6) G dX9_init_258 (by decide) ?_
  obtain ⟨q260, hv260, hX⟩ := z_bd hX
  refine z_nI (pc := 260) (atype := .int) (t := 0) (N := 6) (c2 := 32) (s2 := 28247) G kt_136 rfl (by decide) rfl (fun _ z => by cases z) (by decide) (by decide) (by decide) ⟨rfl, rfl⟩ ⟨by decide, by decide⟩ dX9_init_260 hv260 ?_
  obtain ⟨h262, hv262, hX⟩ := z_bd hX
  refine z_putF (pc := 262) G kK9 (k := 50) (by decide) kt_1276 (Or.inr ⟨rfl, hnm, rfl⟩) rfl rfl dX9_init_262 hv262 ?_
  refine z_aload_n (pc := 265) G 0 dX9_init_265 rfl rfl ?_
  refine z_bipush (pc := 266) (v := 30) G dX9_init_266 (by decide) ?_
  obtain ⟨q268, hv268, hX⟩ := z_bd hX
  refine z_nI (pc := 268) (atype := .int) (t := 0) (N := 30) (c2 := 33) (s2 := 28277) G kt_136 rfl (by decide) rfl (fun _ z => by cases z) (by decide) (by decide) (by decide) ⟨rfl, rfl⟩ ⟨by decide, by decide⟩ dX9_init_268 hv268 ?_
  obtain ⟨h270, hv270, hX⟩ := z_bd hX
  refine z_putF (pc := 270) G kK9 (k := 52) (by decide) kt_1278 (Or.inr ⟨rfl, hnm, rfl⟩) rfl rfl dX9_init_270 hv270 ?_
  refine z_aload_n (pc := 273) G 0 dX9_init_273 rfl rfl ?_
  refine z_bipush (pc := 274) (v := 30) G dX9_init_274 (by decide) ?_
  obtain ⟨q276, hv276, hX⟩ := z_bd hX
  refine z_nI (pc := 276) (atype := .int) (t := 0) (N := 30) (c2 := 34) (s2 := 28307) G kt_136 rfl (by decide) rfl (fun _ z => by cases z) (by decide) (by decide) (by decide) ⟨rfl, rfl⟩ ⟨by decide, by decide⟩ dX9_init_276 hv276 ?_
  obtain ⟨h278, hv278, hX⟩ := z_bd hX
  refine z_putF (pc := 278) G kK9 (k := 53) (by decide) kt_1279 (Or.inr ⟨rfl, hnm, rfl⟩) rfl rfl dX9_init_278 hv278 ?_
  refine z_aload_n (pc := 281) G 0 dX9_init_281 rfl rfl ?_
  refine z_bipush (pc := 282) (v := 30) G dX9_init_282 (by decide) ?_
  obtain ⟨q284, hv284, hX⟩ := z_bd hX
  refine z_nI (pc := 284) (atype := .int) (t := 0) (N := 30) (c2 := 35) (s2 := 28337) G kt_136 rfl (by decide) rfl (fun _ z => by cases z) (by decide) (by decide) (by decide) ⟨rfl, rfl⟩ ⟨by decide, by decide⟩ dX9_init_284 hv284 ?_
  obtain ⟨h286, hv286, hX⟩ := z_bd hX
  refine z_putF (pc := 286) G kK9 (k := 54) (by decide) kt_1280 (Or.inr ⟨rfl, hnm, rfl⟩) rfl rfl dX9_init_286 hv286 ?_
  refine z_aload_n (pc := 289) G 0 dX9_init_289 rfl rfl ?_
  refine z_bipush (pc := 290) (v := 30) G dX9_init_290 (by decide) ?_
  obtain ⟨q292, hv292, hX⟩ := z_bd hX
  refine z_nI (pc := 292) (atype := .int) (t := 0) (N := 30) (c2 := 36) (s2 := 28367) G kt_136 rfl (by decide) rfl (fun _ z => by cases z) (by decide) (by decide) (by decide) ⟨rfl, rfl⟩ ⟨by decide, by decide⟩ dX9_init_292 hv292 ?_
  obtain ⟨h294, hv294, hX⟩ := z_bd hX
  refine z_putF (pc := 294) G kK9 (k := 55) (by decide) kt_1281 (Or.inr ⟨rfl, hnm, rfl⟩) rfl rfl dX9_init_294 hv294 ?_
  refine z_aload_n (pc := 297) G 0 dX9_init_297 rfl rfl ?_
  refine z_bipush (pc := 298) (v := 30) G dX9_init_298 (by decide) ?_
  obtain ⟨q300, hv300, hX⟩ := z_bd hX
  refine z_nI (pc := 300) (atype := .int) (t := 0) (N := 30) (c2 := 37) (s2 := 28397) G kt_136 rfl (by decide) rfl (fun _ z => by cases z) (by decide) (by decide) (by decide) ⟨rfl, rfl⟩ ⟨by decide, by decide⟩ dX9_init_300 hv300 ?_
  obtain ⟨h302, hv302, hX⟩ := z_bd hX
  refine z_putF (pc := 302) G kK9 (k := 56) (by decide) kt_1282 (Or.inr ⟨rfl, hnm, rfl⟩) rfl rfl dX9_init_302 hv302 ?_
  refine z_aload_n (pc := 305) G 0 dX9_init_305 rfl rfl ?_
  refine z_sipush (pc := 306) (v := 1563) G dX9_init_306 (by decide) ?_
  obtain ⟨q309, hv309, hX⟩ := z_bd hX
  refine z_nI (pc := 309) (atype := .int) (t := 0) (N := 1563) (c2 := 38) (s2 := 29960) G kt_136 rfl (by decide) rfl (fun _ z => by cases z) (by decide) (by decide) (by decide) ⟨rfl, rfl⟩ ⟨by decide, by decide⟩ dX9_init_309 hv309 ?_
  obtain ⟨h311, hv311, hX⟩ := z_bd hX
  refine z_putF (pc := 311) G kK9 (k := 59) (by decide) kt_1285 (Or.inr ⟨rfl, hnm, rfl⟩) rfl rfl dX9_init_311 hv311 ?_
  refine z_aload_n (pc := 314) G 0 dX9_init_314 rfl rfl ?_
  refine z_iconst (pc := 315) (v := 3) G dX9_init_315 (by decide) ?_
  obtain ⟨q316, hv316, hX⟩ := z_bd hX
  refine z_nI (pc := 316) (atype := .boolean) (t := 2) (N := 3) (c2 := 39) (s2 := 29963) G kt_408 rfl (by decide) rfl (fun _ z => by cases z) (by decide) (by decide) (by decide) ⟨rfl, rfl⟩ ⟨by decide, by decide⟩ dX9_init_316 hv316 ?_
  obtain ⟨h318, hv318, hX⟩ := z_bd hX
  refine z_putF (pc := 318) G kK9 (k := 60) (by decide) kt_1286 (Or.inr ⟨rfl, hnm, rfl⟩) rfl rfl dX9_init_318 hv318 ?_
  refine z_aload_n (pc := 321) G 0 dX9_init_321 rfl rfl ?_
  obtain ⟨hi322, hX⟩ := z_gu_s hX
  obtain ⟨h322, hv322, hX⟩ := z_bd hX
  refine z_cVV (pc := 322) (As := []) (c2 := 39) (s2 := 29963) G kK9 (lX9_clearBank hO hv322) hi322 kt_1209 kt_11 kt_1206 kt_1208 ks_33 ydX9_clearBank ⟨by decide, by decide⟩ rfl (Nat.le_of_ble_eq_true rfl) ⟨rfl, rfl⟩ ⟨by decide, by decide⟩ rfl dX9_init_322 ?_
  refine z_aload_n (pc := 325) G 0 dX9_init_325 rfl rfl ?_
  obtain ⟨hi326, hX⟩ := z_gu_s hX
  obtain ⟨h326, hv326, hX⟩ := z_bd hX
  refine z_cVV (pc := 326) (As := []) (c2 := 39) (s2 := 29963) G kK9 (lX9_startAnew hO hv326) hi326 kt_1213 kt_11 kt_1210 kt_1212 ks_34 ydX9_startAnew ⟨by decide, by decide⟩ rfl (Nat.le_of_ble_eq_true rfl) ⟨rfl, rfl⟩ ⟨by decide, by decide⟩ rfl dX9_init_326 ?_
  exact z_vretX (pc := 329) hX G hr dX9_init_329 (by decide) (by decide)
theorem dX9_sign_0 : decode cX9_sign 0 = .ok (.iload_n 1, 1) := by decide +kernel
theorem dX9_sign_1 : decode cX9_sign 1 = .ok (.aload_n 0, 1) := by decide +kernel
theorem dX9_sign_2 : decode cX9_sign 2 = .ok (.getfield 143, 3) := by decide +kernel
theorem dX9_sign_5 : decode cX9_sign 5 = .ok (.if_icmp .ge 16, 3) := by decide +kernel
theorem dX9_sign_8 : decode cX9_sign 8 = .ok (.aload_n 0, 1) := by decide +kernel
theorem dX9_sign_9 : decode cX9_sign 9 = .ok (.getfield 13, 3) := by decide +kernel
theorem dX9_sign_12 : decode cX9_sign 12 = .ok (.iload_n 1, 1) := by decide +kernel
theorem dX9_sign_13 : decode cX9_sign 13 = .ok (.baload, 1) := by decide +kernel
theorem dX9_sign_14 : decode cX9_sign 14 = .ok (.sipush 255, 3) := by decide +kernel
theorem dX9_sign_17 : decode cX9_sign 17 = .ok (.iand, 1) := by decide +kernel
theorem dX9_sign_18 : decode cX9_sign 18 = .ok (.goto 4, 3) := by decide +kernel
theorem dX9_sign_21 : decode cX9_sign 21 = .ok (.iconst 0, 1) := by decide +kernel
theorem dX9_sign_22 : decode cX9_sign 22 = .ok (.ireturn, 1) := by decide +kernel
theorem ydX9_sign : z_yd yX9_sign 1 := ⟨by decide, by decide, by decide +kernel⟩
abbrev rmX9_sign : Room := { frames := 0, cells := 0, slots := 0, locals := 0 }
noncomputable def xX9_sign (l0 : Nat) (l1 : Int32) (h : ZH) : Option (Int32 × ZH) := ((z_gI h l0 9 3).bind fun x2 => (if x2 ≤ l1 then some ((0 : Int32), h) else ((z_gR h l0 9 1).bind fun x9 => ((z_aB h x9 l1).bind fun x13 => some ((x13 &&& (255 : Int32)), h)))))
set_option maxHeartbeats 4000000 in
set_option maxRecDepth 100000 in
theorem lX9_sign {Γ : ZG} {l : Launch} (hO : z_OK Γ) {l0 : Nat} {l1 : Int32} {h : ZH} {r : (Int32 × ZH)} (hX : xX9_sign l0 l1 h = some r) : z_M Γ l yX9_sign (z_ws1 yX9_sign cX9_sign 2 (some .int)) rmX9_sign [.ref l0, .int l1] h (some (.int r.1)) r.2 := by
  refine z_start hO (plainFor_of_name (by decide)) (Nat.le_of_ble_eq_true rfl) ?_
  intro p e s m args below meth c G hr hnm
  refine z_lvc (lv2 := [(0, .ref l0), (1, .int l1)]) rfl ?_
  refine z_iload_n (pc := 0) G 1 dX9_sign_0 rfl rfl ?_
  refine z_aload_n (pc := 1) G 0 dX9_sign_1 rfl rfl ?_
  obtain ⟨x2, hv2, hX⟩ := z_bd hX
  refine z_getI (pc := 2) G kK9 (k := 3) (by decide) kt_1229 dX9_sign_2 hv2 ?_
  refine z_icmp_ge (pc := 5) (tgt := 21) G dX9_sign_5 (by decide) (fun hc5 => ?_) (fun hc5 => ?_)
  · have hX := z_it hc5 hX
    refine z_iconst (pc := 21) (v := 0) G dX9_sign_21 (by decide) ?_
    exact z_iretX (pc := 22) hX G hr dX9_sign_22 (by decide) (by decide)
  · have hX := z_if hc5 hX
    refine z_aload_n (pc := 8) G 0 dX9_sign_8 rfl rfl ?_
    obtain ⟨x9, hv9, hX⟩ := z_bd hX
    refine z_getR (pc := 9) G kK9 (k := 1) (by decide) kt_1227 dX9_sign_9 hv9 ?_
    refine z_iload_n (pc := 12) G 1 dX9_sign_12 rfl rfl ?_
    obtain ⟨x13, hv13, hX⟩ := z_bd hX
    refine z_bald (pc := 13) G dX9_sign_13 hv13 ?_
    refine z_sipush (pc := 14) (v := 255) G dX9_sign_14 (by decide) ?_
    refine z_iand (pc := 17) G dX9_sign_17 ?_
    refine z_goto (pc := 18) (tgt := 22) G dX9_sign_18 (by decide) ?_
    exact z_iretX (pc := 22) hX G hr dX9_sign_22 (by decide) (by decide)
theorem dX9_isLetter_0 : decode cX9_isLetter 0 = .ok (.iload_n 0, 1) := by decide +kernel
theorem dX9_isLetter_1 : decode cX9_isLetter 1 = .ok (.bipush 97, 2) := by decide +kernel
theorem dX9_isLetter_3 : decode cX9_isLetter 3 = .ok (.if_icmp .lt 13, 3) := by decide +kernel
theorem dX9_isLetter_6 : decode cX9_isLetter 6 = .ok (.iload_n 0, 1) := by decide +kernel
theorem dX9_isLetter_7 : decode cX9_isLetter 7 = .ok (.bipush 122, 2) := by decide +kernel
theorem dX9_isLetter_9 : decode cX9_isLetter 9 = .ok (.if_icmp .gt 7, 3) := by decide +kernel
theorem dX9_isLetter_12 : decode cX9_isLetter 12 = .ok (.iconst 1, 1) := by decide +kernel
theorem dX9_isLetter_13 : decode cX9_isLetter 13 = .ok (.goto 4, 3) := by decide +kernel
theorem dX9_isLetter_16 : decode cX9_isLetter 16 = .ok (.iconst 0, 1) := by decide +kernel
theorem dX9_isLetter_17 : decode cX9_isLetter 17 = .ok (.ireturn, 1) := by decide +kernel
theorem ydX9_isLetter : z_yd yX9_isLetter 1 := ⟨by decide, by decide, by decide +kernel⟩
abbrev rmX9_isLetter : Room := { frames := 0, cells := 0, slots := 0, locals := 0 }
noncomputable def xX9_isLetter (l0 : Int32) (h : ZH) : Option (Int32 × ZH) := (if l0 < (97 : Int32) then some ((0 : Int32), h) else (if (122 : Int32) < l0 then some ((0 : Int32), h) else some ((1 : Int32), h)))
set_option maxHeartbeats 4000000 in
set_option maxRecDepth 100000 in
theorem lX9_isLetter {Γ : ZG} {l : Launch} (hO : z_OK Γ) {l0 : Int32} {h : ZH} {r : (Int32 × ZH)} (hX : xX9_isLetter l0 h = some r) : z_M Γ l yX9_isLetter (z_ws1 yX9_isLetter cX9_isLetter 1 (some .boolean)) rmX9_isLetter [.int l0] h (some (.int r.1)) r.2 := by
  refine z_start hO (plainFor_of_name (by decide)) (Nat.le_of_ble_eq_true rfl) ?_
  intro p e s m args below meth c G hr hnm
  refine z_lvc (lv2 := [(0, .int l0)]) rfl ?_
  refine z_iload_n (pc := 0) G 0 dX9_isLetter_0 rfl rfl ?_
  refine z_bipush (pc := 1) (v := 97) G dX9_isLetter_1 (by decide) ?_
  refine z_icmp_lt (pc := 3) (tgt := 16) G dX9_isLetter_3 (by decide) (fun hc3 => ?_) (fun hc3 => ?_)
  · have hX := z_it hc3 hX
    refine z_iconst (pc := 16) (v := 0) G dX9_isLetter_16 (by decide) ?_
    exact z_zretX (pc := 17) hX G hr rfl dX9_isLetter_17 (by decide) (by decide)
  · have hX := z_if hc3 hX
    refine z_iload_n (pc := 6) G 0 dX9_isLetter_6 rfl rfl ?_
    refine z_bipush (pc := 7) (v := 122) G dX9_isLetter_7 (by decide) ?_
    refine z_icmp_gt (pc := 9) (tgt := 16) G dX9_isLetter_9 (by decide) (fun hc9 => ?_) (fun hc9 => ?_)
    · have hX := z_it hc9 hX
      refine z_iconst (pc := 16) (v := 0) G dX9_isLetter_16 (by decide) ?_
      exact z_zretX (pc := 17) hX G hr rfl dX9_isLetter_17 (by decide) (by decide)
    · have hX := z_if hc9 hX
      refine z_iconst (pc := 12) (v := 1) G dX9_isLetter_12 (by decide) ?_
      refine z_goto (pc := 13) (tgt := 17) G dX9_isLetter_13 (by decide) ?_
      exact z_zretX (pc := 17) hX G hr rfl dX9_isLetter_17 (by decide) (by decide)
theorem dX9_isDigit_0 : decode cX9_isDigit 0 = .ok (.iload_n 0, 1) := by decide +kernel
theorem dX9_isDigit_1 : decode cX9_isDigit 1 = .ok (.bipush 48, 2) := by decide +kernel
theorem dX9_isDigit_3 : decode cX9_isDigit 3 = .ok (.if_icmp .lt 13, 3) := by decide +kernel
theorem dX9_isDigit_6 : decode cX9_isDigit 6 = .ok (.iload_n 0, 1) := by decide +kernel
theorem dX9_isDigit_7 : decode cX9_isDigit 7 = .ok (.bipush 57, 2) := by decide +kernel
theorem dX9_isDigit_9 : decode cX9_isDigit 9 = .ok (.if_icmp .gt 7, 3) := by decide +kernel
theorem dX9_isDigit_12 : decode cX9_isDigit 12 = .ok (.iconst 1, 1) := by decide +kernel
theorem dX9_isDigit_13 : decode cX9_isDigit 13 = .ok (.goto 4, 3) := by decide +kernel
theorem dX9_isDigit_16 : decode cX9_isDigit 16 = .ok (.iconst 0, 1) := by decide +kernel
theorem dX9_isDigit_17 : decode cX9_isDigit 17 = .ok (.ireturn, 1) := by decide +kernel
theorem ydX9_isDigit : z_yd yX9_isDigit 1 := ⟨by decide, by decide, by decide +kernel⟩
abbrev rmX9_isDigit : Room := { frames := 0, cells := 0, slots := 0, locals := 0 }
noncomputable def xX9_isDigit (l0 : Int32) (h : ZH) : Option (Int32 × ZH) := (if l0 < (48 : Int32) then some ((0 : Int32), h) else (if (57 : Int32) < l0 then some ((0 : Int32), h) else some ((1 : Int32), h)))
set_option maxHeartbeats 4000000 in
set_option maxRecDepth 100000 in
theorem lX9_isDigit {Γ : ZG} {l : Launch} (hO : z_OK Γ) {l0 : Int32} {h : ZH} {r : (Int32 × ZH)} (hX : xX9_isDigit l0 h = some r) : z_M Γ l yX9_isDigit (z_ws1 yX9_isDigit cX9_isDigit 1 (some .boolean)) rmX9_isDigit [.int l0] h (some (.int r.1)) r.2 := by
  refine z_start hO (plainFor_of_name (by decide)) (Nat.le_of_ble_eq_true rfl) ?_
  intro p e s m args below meth c G hr hnm
  refine z_lvc (lv2 := [(0, .int l0)]) rfl ?_
  refine z_iload_n (pc := 0) G 0 dX9_isDigit_0 rfl rfl ?_
  refine z_bipush (pc := 1) (v := 48) G dX9_isDigit_1 (by decide) ?_
  refine z_icmp_lt (pc := 3) (tgt := 16) G dX9_isDigit_3 (by decide) (fun hc3 => ?_) (fun hc3 => ?_)
  · have hX := z_it hc3 hX
    refine z_iconst (pc := 16) (v := 0) G dX9_isDigit_16 (by decide) ?_
    exact z_zretX (pc := 17) hX G hr rfl dX9_isDigit_17 (by decide) (by decide)
  · have hX := z_if hc3 hX
    refine z_iload_n (pc := 6) G 0 dX9_isDigit_6 rfl rfl ?_
    refine z_bipush (pc := 7) (v := 57) G dX9_isDigit_7 (by decide) ?_
    refine z_icmp_gt (pc := 9) (tgt := 16) G dX9_isDigit_9 (by decide) (fun hc9 => ?_) (fun hc9 => ?_)
    · have hX := z_it hc9 hX
      refine z_iconst (pc := 16) (v := 0) G dX9_isDigit_16 (by decide) ?_
      exact z_zretX (pc := 17) hX G hr rfl dX9_isDigit_17 (by decide) (by decide)
    · have hX := z_if hc9 hX
      refine z_iconst (pc := 12) (v := 1) G dX9_isDigit_12 (by decide) ?_
      refine z_goto (pc := 13) (tgt := 17) G dX9_isDigit_13 (by decide) ?_
      exact z_zretX (pc := 17) hX G hr rfl dX9_isDigit_17 (by decide) (by decide)
theorem dX9_fails_0 : decode cX9_fails 0 = .ok (.aload_n 0, 1) := by decide +kernel
theorem dX9_fails_1 : decode cX9_fails 1 = .ok (.getfield 146, 3) := by decide +kernel
theorem dX9_fails_4 : decode cX9_fails 4 = .ok (.ifCond .le 4, 3) := by decide +kernel
theorem dX9_fails_7 : decode cX9_fails 7 = .ok (.return_, 1) := by decide +kernel
theorem dX9_fails_8 : decode cX9_fails 8 = .ok (.aload_n 0, 1) := by decide +kernel
theorem dX9_fails_9 : decode cX9_fails 9 = .ok (.iload_n 1, 1) := by decide +kernel
theorem dX9_fails_10 : decode cX9_fails 10 = .ok (.putfield 146, 3) := by decide +kernel
theorem dX9_fails_13 : decode cX9_fails 13 = .ok (.aload_n 0, 1) := by decide +kernel
theorem dX9_fails_14 : decode cX9_fails 14 = .ok (.iload_n 2, 1) := by decide +kernel
theorem dX9_fails_15 : decode cX9_fails 15 = .ok (.putfield 16, 3) := by decide +kernel
theorem dX9_fails_18 : decode cX9_fails 18 = .ok (.return_, 1) := by decide +kernel
theorem ydX9_fails : z_yd yX9_fails 2 := ⟨by decide, by decide, by decide +kernel⟩
abbrev rmX9_fails : Room := { frames := 0, cells := 0, slots := 0, locals := 0 }
noncomputable def xX9_fails (l0 : Nat) (l1 : Int32) (l2 : Int32) (h : ZH) : Option ZH := ((z_gI h l0 9 4).bind fun x1 => (if x1 ≤ 0 then ((z_sF h l0 9 4 (.int l1)).bind fun h10 => ((z_sF h10 l0 9 5 (.int l2)).bind fun h15 => some h15)) else some h))
set_option maxHeartbeats 4000000 in
set_option maxRecDepth 100000 in
theorem lX9_fails {Γ : ZG} {l : Launch} (hO : z_OK Γ) {l0 : Nat} {l1 : Int32} {l2 : Int32} {h : ZH} {r : ZH} (hX : xX9_fails l0 l1 l2 h = some r) : z_M Γ l yX9_fails (z_ws1 yX9_fails cX9_fails 3 none) rmX9_fails [.ref l0, .int l1, .int l2] h none r := by
  refine z_start hO (plainFor_of_name (by decide)) (Nat.le_of_ble_eq_true rfl) ?_
  intro p e s m args below meth c G hr hnm
  refine z_lvc (lv2 := [(0, .ref l0), (1, .int l1), (2, .int l2)]) rfl ?_
  refine z_aload_n (pc := 0) G 0 dX9_fails_0 rfl rfl ?_
  obtain ⟨x1, hv1, hX⟩ := z_bd hX
  refine z_getI (pc := 1) G kK9 (k := 4) (by decide) kt_1230 dX9_fails_1 hv1 ?_
  refine z_if_le (pc := 4) (tgt := 8) G dX9_fails_4 (by decide) (fun hc4 => ?_) (fun hc4 => ?_)
  · have hX := z_it hc4 hX
    refine z_aload_n (pc := 8) G 0 dX9_fails_8 rfl rfl ?_
    refine z_iload_n (pc := 9) G 1 dX9_fails_9 rfl rfl ?_
    obtain ⟨h10, hv10, hX⟩ := z_bd hX
    refine z_putF (pc := 10) G kK9 (k := 4) (by decide) kt_1230 (Or.inl rfl) rfl rfl dX9_fails_10 hv10 ?_
    refine z_aload_n (pc := 13) G 0 dX9_fails_13 rfl rfl ?_
    refine z_iload_n (pc := 14) G 2 dX9_fails_14 rfl rfl ?_
    obtain ⟨h15, hv15, hX⟩ := z_bd hX
    refine z_putF (pc := 15) G kK9 (k := 5) (by decide) kt_1231 (Or.inl rfl) rfl rfl dX9_fails_15 hv15 ?_
    exact z_vretX (pc := 18) hX G hr dX9_fails_18 (by decide) (by decide)
  · have hX := z_if hc4 hX
    exact z_vretX (pc := 7) hX G hr dX9_fails_7 (by decide) (by decide)
theorem dX9_isGood_0 : decode cX9_isGood 0 = .ok (.aload_n 0, 1) := by decide +kernel
theorem dX9_isGood_1 : decode cX9_isGood 1 = .ok (.getfield 146, 3) := by decide +kernel
theorem dX9_isGood_4 : decode cX9_isGood 4 = .ok (.ifCond .ne 7, 3) := by decide +kernel
theorem dX9_isGood_7 : decode cX9_isGood 7 = .ok (.iconst 1, 1) := by decide +kernel
theorem dX9_isGood_8 : decode cX9_isGood 8 = .ok (.goto 4, 3) := by decide +kernel
theorem dX9_isGood_11 : decode cX9_isGood 11 = .ok (.iconst 0, 1) := by decide +kernel
theorem dX9_isGood_12 : decode cX9_isGood 12 = .ok (.ireturn, 1) := by decide +kernel
theorem ydX9_isGood : z_yd yX9_isGood 0 := ⟨by decide, by decide, by decide +kernel⟩
abbrev rmX9_isGood : Room := { frames := 0, cells := 0, slots := 0, locals := 0 }
noncomputable def xX9_isGood (l0 : Nat) (h : ZH) : Option (Int32 × ZH) := ((z_gI h l0 9 4).bind fun x1 => (if x1 = 0 then some ((1 : Int32), h) else some ((0 : Int32), h)))
set_option maxHeartbeats 4000000 in
set_option maxRecDepth 100000 in
theorem lX9_isGood {Γ : ZG} {l : Launch} (hO : z_OK Γ) {l0 : Nat} {h : ZH} {r : (Int32 × ZH)} (hX : xX9_isGood l0 h = some r) : z_M Γ l yX9_isGood (z_ws1 yX9_isGood cX9_isGood 1 (some .boolean)) rmX9_isGood [.ref l0] h (some (.int r.1)) r.2 := by
  refine z_start hO (plainFor_of_name (by decide)) (Nat.le_of_ble_eq_true rfl) ?_
  intro p e s m args below meth c G hr hnm
  refine z_lvc (lv2 := [(0, .ref l0)]) rfl ?_
  refine z_aload_n (pc := 0) G 0 dX9_isGood_0 rfl rfl ?_
  obtain ⟨x1, hv1, hX⟩ := z_bd hX
  refine z_getI (pc := 1) G kK9 (k := 4) (by decide) kt_1230 dX9_isGood_1 hv1 ?_
  refine z_if_ne (pc := 4) (tgt := 11) G dX9_isGood_4 (by decide) (fun hc4 => ?_) (fun hc4 => ?_)
  · have hX := z_if hc4 hX
    refine z_iconst (pc := 11) (v := 0) G dX9_isGood_11 (by decide) ?_
    exact z_zretX (pc := 12) hX G hr rfl dX9_isGood_12 (by decide) (by decide)
  · have hX := z_it hc4 hX
    refine z_iconst (pc := 7) (v := 1) G dX9_isGood_7 (by decide) ?_
    refine z_goto (pc := 8) (tgt := 12) G dX9_isGood_8 (by decide) ?_
    exact z_zretX (pc := 12) hX G hr rfl dX9_isGood_12 (by decide) (by decide)
theorem dX9_isKept_0 : decode cX9_isKept 0 = .ok (.lload_n 0, 1) := by decide +kernel
theorem dX9_isKept_1 : decode cX9_isKept 1 = .ok (.ldc2_w 149, 3) := by decide +kernel
theorem dX9_isKept_4 : decode cX9_isKept 4 = .ok (.lcmp, 1) := by decide +kernel
theorem dX9_isKept_5 : decode cX9_isKept 5 = .ok (.ifCond .eq 75, 3) := by decide +kernel
theorem dX9_isKept_8 : decode cX9_isKept 8 = .ok (.lload_n 0, 1) := by decide +kernel
theorem dX9_isKept_9 : decode cX9_isKept 9 = .ok (.ldc2_w 151, 3) := by decide +kernel
theorem dX9_isKept_12 : decode cX9_isKept 12 = .ok (.lcmp, 1) := by decide +kernel
theorem dX9_isKept_13 : decode cX9_isKept 13 = .ok (.ifCond .eq 67, 3) := by decide +kernel
theorem dX9_isKept_16 : decode cX9_isKept 16 = .ok (.lload_n 0, 1) := by decide +kernel
theorem dX9_isKept_17 : decode cX9_isKept 17 = .ok (.ldc2_w 153, 3) := by decide +kernel
theorem dX9_isKept_20 : decode cX9_isKept 20 = .ok (.lcmp, 1) := by decide +kernel
theorem dX9_isKept_21 : decode cX9_isKept 21 = .ok (.ifCond .eq 59, 3) := by decide +kernel
theorem dX9_isKept_24 : decode cX9_isKept 24 = .ok (.lload_n 0, 1) := by decide +kernel
theorem dX9_isKept_25 : decode cX9_isKept 25 = .ok (.ldc2_w 155, 3) := by decide +kernel
theorem dX9_isKept_28 : decode cX9_isKept 28 = .ok (.lcmp, 1) := by decide +kernel
theorem dX9_isKept_29 : decode cX9_isKept 29 = .ok (.ifCond .eq 51, 3) := by decide +kernel
theorem dX9_isKept_32 : decode cX9_isKept 32 = .ok (.lload_n 0, 1) := by decide +kernel
theorem dX9_isKept_33 : decode cX9_isKept 33 = .ok (.ldc2_w 157, 3) := by decide +kernel
theorem dX9_isKept_36 : decode cX9_isKept 36 = .ok (.lcmp, 1) := by decide +kernel
theorem dX9_isKept_37 : decode cX9_isKept 37 = .ok (.ifCond .eq 43, 3) := by decide +kernel
theorem dX9_isKept_40 : decode cX9_isKept 40 = .ok (.lload_n 0, 1) := by decide +kernel
theorem dX9_isKept_41 : decode cX9_isKept 41 = .ok (.ldc2_w 159, 3) := by decide +kernel
theorem dX9_isKept_44 : decode cX9_isKept 44 = .ok (.lcmp, 1) := by decide +kernel
theorem dX9_isKept_45 : decode cX9_isKept 45 = .ok (.ifCond .eq 35, 3) := by decide +kernel
theorem dX9_isKept_48 : decode cX9_isKept 48 = .ok (.lload_n 0, 1) := by decide +kernel
theorem dX9_isKept_49 : decode cX9_isKept 49 = .ok (.ldc2_w 161, 3) := by decide +kernel
theorem dX9_isKept_52 : decode cX9_isKept 52 = .ok (.lcmp, 1) := by decide +kernel
theorem dX9_isKept_53 : decode cX9_isKept 53 = .ok (.ifCond .eq 27, 3) := by decide +kernel
theorem dX9_isKept_56 : decode cX9_isKept 56 = .ok (.lload_n 0, 1) := by decide +kernel
theorem dX9_isKept_57 : decode cX9_isKept 57 = .ok (.ldc2_w 163, 3) := by decide +kernel
theorem dX9_isKept_60 : decode cX9_isKept 60 = .ok (.lcmp, 1) := by decide +kernel
theorem dX9_isKept_61 : decode cX9_isKept 61 = .ok (.ifCond .eq 19, 3) := by decide +kernel
theorem dX9_isKept_64 : decode cX9_isKept 64 = .ok (.lload_n 0, 1) := by decide +kernel
theorem dX9_isKept_65 : decode cX9_isKept 65 = .ok (.ldc2_w 165, 3) := by decide +kernel
theorem dX9_isKept_68 : decode cX9_isKept 68 = .ok (.lcmp, 1) := by decide +kernel
theorem dX9_isKept_69 : decode cX9_isKept 69 = .ok (.ifCond .eq 11, 3) := by decide +kernel
theorem dX9_isKept_72 : decode cX9_isKept 72 = .ok (.lload_n 0, 1) := by decide +kernel
theorem dX9_isKept_73 : decode cX9_isKept 73 = .ok (.ldc2_w 167, 3) := by decide +kernel
theorem dX9_isKept_76 : decode cX9_isKept 76 = .ok (.lcmp, 1) := by decide +kernel
theorem dX9_isKept_77 : decode cX9_isKept 77 = .ok (.ifCond .ne 7, 3) := by decide +kernel
theorem dX9_isKept_80 : decode cX9_isKept 80 = .ok (.iconst 1, 1) := by decide +kernel
theorem dX9_isKept_81 : decode cX9_isKept 81 = .ok (.goto 4, 3) := by decide +kernel
theorem dX9_isKept_84 : decode cX9_isKept 84 = .ok (.iconst 0, 1) := by decide +kernel
theorem dX9_isKept_85 : decode cX9_isKept 85 = .ok (.istore_n 2, 1) := by decide +kernel
theorem dX9_isKept_86 : decode cX9_isKept 86 = .ok (.iload_n 2, 1) := by decide +kernel
theorem dX9_isKept_87 : decode cX9_isKept 87 = .ok (.ifCond .ne 75, 3) := by decide +kernel
theorem dX9_isKept_90 : decode cX9_isKept 90 = .ok (.lload_n 0, 1) := by decide +kernel
theorem dX9_isKept_91 : decode cX9_isKept 91 = .ok (.ldc2_w 169, 3) := by decide +kernel
theorem dX9_isKept_94 : decode cX9_isKept 94 = .ok (.lcmp, 1) := by decide +kernel
theorem dX9_isKept_95 : decode cX9_isKept 95 = .ok (.ifCond .eq 67, 3) := by decide +kernel
theorem dX9_isKept_98 : decode cX9_isKept 98 = .ok (.lload_n 0, 1) := by decide +kernel
theorem dX9_isKept_99 : decode cX9_isKept 99 = .ok (.ldc2_w 171, 3) := by decide +kernel
theorem dX9_isKept_102 : decode cX9_isKept 102 = .ok (.lcmp, 1) := by decide +kernel
theorem dX9_isKept_103 : decode cX9_isKept 103 = .ok (.ifCond .eq 59, 3) := by decide +kernel
theorem dX9_isKept_106 : decode cX9_isKept 106 = .ok (.lload_n 0, 1) := by decide +kernel
theorem dX9_isKept_107 : decode cX9_isKept 107 = .ok (.ldc2_w 173, 3) := by decide +kernel
theorem dX9_isKept_110 : decode cX9_isKept 110 = .ok (.lcmp, 1) := by decide +kernel
theorem dX9_isKept_111 : decode cX9_isKept 111 = .ok (.ifCond .eq 51, 3) := by decide +kernel
theorem dX9_isKept_114 : decode cX9_isKept 114 = .ok (.lload_n 0, 1) := by decide +kernel
theorem dX9_isKept_115 : decode cX9_isKept 115 = .ok (.ldc2_w 175, 3) := by decide +kernel
theorem dX9_isKept_118 : decode cX9_isKept 118 = .ok (.lcmp, 1) := by decide +kernel
theorem dX9_isKept_119 : decode cX9_isKept 119 = .ok (.ifCond .eq 43, 3) := by decide +kernel
theorem dX9_isKept_122 : decode cX9_isKept 122 = .ok (.lload_n 0, 1) := by decide +kernel
theorem dX9_isKept_123 : decode cX9_isKept 123 = .ok (.ldc2_w 177, 3) := by decide +kernel
theorem dX9_isKept_126 : decode cX9_isKept 126 = .ok (.lcmp, 1) := by decide +kernel
theorem dX9_isKept_127 : decode cX9_isKept 127 = .ok (.ifCond .eq 35, 3) := by decide +kernel
theorem dX9_isKept_130 : decode cX9_isKept 130 = .ok (.lload_n 0, 1) := by decide +kernel
theorem dX9_isKept_131 : decode cX9_isKept 131 = .ok (.ldc2_w 179, 3) := by decide +kernel
theorem dX9_isKept_134 : decode cX9_isKept 134 = .ok (.lcmp, 1) := by decide +kernel
theorem dX9_isKept_135 : decode cX9_isKept 135 = .ok (.ifCond .eq 27, 3) := by decide +kernel
theorem dX9_isKept_138 : decode cX9_isKept 138 = .ok (.lload_n 0, 1) := by decide +kernel
theorem dX9_isKept_139 : decode cX9_isKept 139 = .ok (.ldc2_w 181, 3) := by decide +kernel
theorem dX9_isKept_142 : decode cX9_isKept 142 = .ok (.lcmp, 1) := by decide +kernel
theorem dX9_isKept_143 : decode cX9_isKept 143 = .ok (.ifCond .eq 19, 3) := by decide +kernel
theorem dX9_isKept_146 : decode cX9_isKept 146 = .ok (.lload_n 0, 1) := by decide +kernel
theorem dX9_isKept_147 : decode cX9_isKept 147 = .ok (.ldc2_w 183, 3) := by decide +kernel
theorem dX9_isKept_150 : decode cX9_isKept 150 = .ok (.lcmp, 1) := by decide +kernel
theorem dX9_isKept_151 : decode cX9_isKept 151 = .ok (.ifCond .eq 11, 3) := by decide +kernel
theorem dX9_isKept_154 : decode cX9_isKept 154 = .ok (.lload_n 0, 1) := by decide +kernel
theorem dX9_isKept_155 : decode cX9_isKept 155 = .ok (.ldc2_w 185, 3) := by decide +kernel
theorem dX9_isKept_158 : decode cX9_isKept 158 = .ok (.lcmp, 1) := by decide +kernel
theorem dX9_isKept_159 : decode cX9_isKept 159 = .ok (.ifCond .ne 7, 3) := by decide +kernel
theorem dX9_isKept_162 : decode cX9_isKept 162 = .ok (.iconst 1, 1) := by decide +kernel
theorem dX9_isKept_163 : decode cX9_isKept 163 = .ok (.goto 4, 3) := by decide +kernel
theorem dX9_isKept_166 : decode cX9_isKept 166 = .ok (.iconst 0, 1) := by decide +kernel
theorem dX9_isKept_167 : decode cX9_isKept 167 = .ok (.ireturn, 1) := by decide +kernel
theorem ydX9_isKept : z_yd yX9_isKept 1 := ⟨by decide, by decide, by decide +kernel⟩
abbrev rmX9_isKept : Room := { frames := 0, cells := 0, slots := 0, locals := 0 }
noncomputable def xX9_isKept_B85 (l0 : Int64) (s0 : Int32) (h : ZH) : Option (Int32 × ZH) := (if s0 = 0 then (if (lg_cmp l0 (439720633715 : Int64)) = 0 then some ((1 : Int32), h) else (if (lg_cmp l0 (1685217655 : Int64)) = 0 then some ((1 : Int32), h) else (if (lg_cmp l0 (495806932324 : Int64)) = 0 then some ((1 : Int32), h) else (if (lg_cmp l0 (448377483876 : Int64)) = 0 then some ((1 : Int32), h) else (if (lg_cmp l0 (121450625394034 : Int64)) = 0 then some ((1 : Int32), h) else (if (lg_cmp l0 (440005651813 : Int64)) = 0 then some ((1 : Int32), h) else (if (lg_cmp l0 (28530 : Int64)) = 0 then some ((1 : Int32), h) else (if (lg_cmp l0 (6385252 : Int64)) = 0 then some ((1 : Int32), h) else (if (lg_cmp l0 (7237492 : Int64)) = 0 then some ((1 : Int32), h) else some ((0 : Int32), h)))))))))) else some ((1 : Int32), h))
set_option maxHeartbeats 4000000 in
set_option maxRecDepth 100000 in
theorem wX9_isKept_B85 {Γ : ZG} {p : Program} {l : Launch} {e : Env} {s : State} {m : MethodId} {args : Array Value} {below : List Frame} {meth : Method} {c : Code} (hO : z_OK Γ) (G : z_GG Γ p s m args meth c cX9_isKept 3 RX9) (hr : meth.sig.returnType = (some .boolean)) (hnm : meth.name = "isKept") {r : (Int32 × ZH)} : ∀ (l0 : Int64) (s0 : Int32) (h : ZH), xX9_isKept_B85  l0 s0 h = some r → z_W Γ p l e rmX9_isKept s m args below meth c 3 0 0 (MQ below (z_Qc Γ (some (.int r.1)) r.2) args s rmX9_isKept.cells rmX9_isKept.slots (z_A Γ)) 85 [(0, .long l0)] [.int s0] h := by
  intro l0 s0 h hX
  refine z_istore_n (pc := 85) (lv2 := [(0, .long l0), (2, .int s0)]) G dX9_isKept_85 rfl (by decide) rfl rfl ?_
  refine z_iload_n (pc := 86) G 1 dX9_isKept_86 rfl rfl ?_
  refine z_if_ne (pc := 87) (tgt := 162) G dX9_isKept_87 (by decide) (fun hc87 => ?_) (fun hc87 => ?_)
  · have hX := z_if hc87 hX
    refine z_iconst (pc := 162) (v := 1) G dX9_isKept_162 (by decide) ?_
    refine z_goto (pc := 163) (tgt := 167) G dX9_isKept_163 (by decide) ?_
    exact z_zretX (pc := 167) hX G hr rfl dX9_isKept_167 (by decide) (by decide)
  · have hX := z_it hc87 hX
    refine z_lload_n (pc := 90) G 0 dX9_isKept_90 rfl rfl ?_
    refine z_ldc2 (pc := 91) G kt_1439 dX9_isKept_91 ?_
    refine z_lcmp (pc := 94) G dX9_isKept_94 ?_
    refine z_if_eq (pc := 95) (tgt := 162) G dX9_isKept_95 (by decide) (fun hc95 => ?_) (fun hc95 => ?_)
    · have hX := z_it hc95 hX
      refine z_iconst (pc := 162) (v := 1) G dX9_isKept_162 (by decide) ?_
      refine z_goto (pc := 163) (tgt := 167) G dX9_isKept_163 (by decide) ?_
      exact z_zretX (pc := 167) hX G hr rfl dX9_isKept_167 (by decide) (by decide)
    · have hX := z_if hc95 hX
      refine z_lload_n (pc := 98) G 0 dX9_isKept_98 rfl rfl ?_
      refine z_ldc2 (pc := 99) G kt_1440 dX9_isKept_99 ?_
      refine z_lcmp (pc := 102) G dX9_isKept_102 ?_
      refine z_if_eq (pc := 103) (tgt := 162) G dX9_isKept_103 (by decide) (fun hc103 => ?_) (fun hc103 => ?_)
      · have hX := z_it hc103 hX
        refine z_iconst (pc := 162) (v := 1) G dX9_isKept_162 (by decide) ?_
        refine z_goto (pc := 163) (tgt := 167) G dX9_isKept_163 (by decide) ?_
        exact z_zretX (pc := 167) hX G hr rfl dX9_isKept_167 (by decide) (by decide)
      · have hX := z_if hc103 hX
        refine z_lload_n (pc := 106) G 0 dX9_isKept_106 rfl rfl ?_
        refine z_ldc2 (pc := 107) G kt_1441 dX9_isKept_107 ?_
        refine z_lcmp (pc := 110) G dX9_isKept_110 ?_
        refine z_if_eq (pc := 111) (tgt := 162) G dX9_isKept_111 (by decide) (fun hc111 => ?_) (fun hc111 => ?_)
        · have hX := z_it hc111 hX
          refine z_iconst (pc := 162) (v := 1) G dX9_isKept_162 (by decide) ?_
          refine z_goto (pc := 163) (tgt := 167) G dX9_isKept_163 (by decide) ?_
          exact z_zretX (pc := 167) hX G hr rfl dX9_isKept_167 (by decide) (by decide)
        · have hX := z_if hc111 hX
          refine z_lload_n (pc := 114) G 0 dX9_isKept_114 rfl rfl ?_
          refine z_ldc2 (pc := 115) G kt_1442 dX9_isKept_115 ?_
          refine z_lcmp (pc := 118) G dX9_isKept_118 ?_
          refine z_if_eq (pc := 119) (tgt := 162) G dX9_isKept_119 (by decide) (fun hc119 => ?_) (fun hc119 => ?_)
          · have hX := z_it hc119 hX
            refine z_iconst (pc := 162) (v := 1) G dX9_isKept_162 (by decide) ?_
            refine z_goto (pc := 163) (tgt := 167) G dX9_isKept_163 (by decide) ?_
            exact z_zretX (pc := 167) hX G hr rfl dX9_isKept_167 (by decide) (by decide)
          · have hX := z_if hc119 hX
            refine z_lload_n (pc := 122) G 0 dX9_isKept_122 rfl rfl ?_
            refine z_ldc2 (pc := 123) G kt_1443 dX9_isKept_123 ?_
            refine z_lcmp (pc := 126) G dX9_isKept_126 ?_
            refine z_if_eq (pc := 127) (tgt := 162) G dX9_isKept_127 (by decide) (fun hc127 => ?_) (fun hc127 => ?_)
            · have hX := z_it hc127 hX
              refine z_iconst (pc := 162) (v := 1) G dX9_isKept_162 (by decide) ?_
              refine z_goto (pc := 163) (tgt := 167) G dX9_isKept_163 (by decide) ?_
              exact z_zretX (pc := 167) hX G hr rfl dX9_isKept_167 (by decide) (by decide)
            · have hX := z_if hc127 hX
              refine z_lload_n (pc := 130) G 0 dX9_isKept_130 rfl rfl ?_
              refine z_ldc2 (pc := 131) G kt_1444 dX9_isKept_131 ?_
              refine z_lcmp (pc := 134) G dX9_isKept_134 ?_
              refine z_if_eq (pc := 135) (tgt := 162) G dX9_isKept_135 (by decide) (fun hc135 => ?_) (fun hc135 => ?_)
              · have hX := z_it hc135 hX
                refine z_iconst (pc := 162) (v := 1) G dX9_isKept_162 (by decide) ?_
                refine z_goto (pc := 163) (tgt := 167) G dX9_isKept_163 (by decide) ?_
                exact z_zretX (pc := 167) hX G hr rfl dX9_isKept_167 (by decide) (by decide)
              · have hX := z_if hc135 hX
                refine z_lload_n (pc := 138) G 0 dX9_isKept_138 rfl rfl ?_
                refine z_ldc2 (pc := 139) G kt_1445 dX9_isKept_139 ?_
                refine z_lcmp (pc := 142) G dX9_isKept_142 ?_
                refine z_if_eq (pc := 143) (tgt := 162) G dX9_isKept_143 (by decide) (fun hc143 => ?_) (fun hc143 => ?_)
                · have hX := z_it hc143 hX
                  refine z_iconst (pc := 162) (v := 1) G dX9_isKept_162 (by decide) ?_
                  refine z_goto (pc := 163) (tgt := 167) G dX9_isKept_163 (by decide) ?_
                  exact z_zretX (pc := 167) hX G hr rfl dX9_isKept_167 (by decide) (by decide)
                · have hX := z_if hc143 hX
                  refine z_lload_n (pc := 146) G 0 dX9_isKept_146 rfl rfl ?_
                  refine z_ldc2 (pc := 147) G kt_1446 dX9_isKept_147 ?_
                  refine z_lcmp (pc := 150) G dX9_isKept_150 ?_
                  refine z_if_eq (pc := 151) (tgt := 162) G dX9_isKept_151 (by decide) (fun hc151 => ?_) (fun hc151 => ?_)
                  · have hX := z_it hc151 hX
                    refine z_iconst (pc := 162) (v := 1) G dX9_isKept_162 (by decide) ?_
                    refine z_goto (pc := 163) (tgt := 167) G dX9_isKept_163 (by decide) ?_
                    exact z_zretX (pc := 167) hX G hr rfl dX9_isKept_167 (by decide) (by decide)
                  · have hX := z_if hc151 hX
                    refine z_lload_n (pc := 154) G 0 dX9_isKept_154 rfl rfl ?_
                    refine z_ldc2 (pc := 155) G kt_1447 dX9_isKept_155 ?_
                    refine z_lcmp (pc := 158) G dX9_isKept_158 ?_
                    refine z_if_ne (pc := 159) (tgt := 166) G dX9_isKept_159 (by decide) (fun hc159 => ?_) (fun hc159 => ?_)
                    · have hX := z_if hc159 hX
                      refine z_iconst (pc := 166) (v := 0) G dX9_isKept_166 (by decide) ?_
                      exact z_zretX (pc := 167) hX G hr rfl dX9_isKept_167 (by decide) (by decide)
                    · have hX := z_it hc159 hX
                      refine z_iconst (pc := 162) (v := 1) G dX9_isKept_162 (by decide) ?_
                      refine z_goto (pc := 163) (tgt := 167) G dX9_isKept_163 (by decide) ?_
                      exact z_zretX (pc := 167) hX G hr rfl dX9_isKept_167 (by decide) (by decide)
noncomputable def xX9_isKept_B80 (l0 : Int64) (h : ZH) : Option (Int32 × ZH) := xX9_isKept_B85 l0 (1 : Int32) h
set_option maxHeartbeats 4000000 in
set_option maxRecDepth 100000 in
theorem wX9_isKept_B80 {Γ : ZG} {p : Program} {l : Launch} {e : Env} {s : State} {m : MethodId} {args : Array Value} {below : List Frame} {meth : Method} {c : Code} (hO : z_OK Γ) (G : z_GG Γ p s m args meth c cX9_isKept 3 RX9) (hr : meth.sig.returnType = (some .boolean)) (hnm : meth.name = "isKept") {r : (Int32 × ZH)} : ∀ (l0 : Int64) (h : ZH), xX9_isKept_B80  l0 h = some r → z_W Γ p l e rmX9_isKept s m args below meth c 3 0 0 (MQ below (z_Qc Γ (some (.int r.1)) r.2) args s rmX9_isKept.cells rmX9_isKept.slots (z_A Γ)) 80 [(0, .long l0)] [] h := by
  intro l0 h hX
  refine z_iconst (pc := 80) (v := 1) G dX9_isKept_80 (by decide) ?_
  refine z_goto (pc := 81) (tgt := 85) G dX9_isKept_81 (by decide) ?_
  exact wX9_isKept_B85 hO G hr hnm _ _ _ hX
noncomputable def xX9_isKept (l0 : Int64) (h : ZH) : Option (Int32 × ZH) := (if (lg_cmp l0 (495740482675 : Int64)) = 0 then xX9_isKept_B80 l0 h else (if (lg_cmp l0 (491260897125 : Int64)) = 0 then xX9_isKept_B80 l0 h else (if (lg_cmp l0 (2003395685 : Int64)) = 0 then xX9_isKept_B80 l0 h else (if (lg_cmp l0 (465557353332 : Int64)) = 0 then xX9_isKept_B80 l0 h else (if (lg_cmp l0 (461262647411 : Int64)) = 0 then xX9_isKept_B80 l0 h else (if (lg_cmp l0 (1936222576 : Int64)) = 0 then xX9_isKept_B80 l0 h else (if (lg_cmp l0 (24948 : Int64)) = 0 then xX9_isKept_B80 l0 h else (if (lg_cmp l0 (470021465459 : Int64)) = 0 then xX9_isKept_B80 l0 h else (if (lg_cmp l0 (28526 : Int64)) = 0 then xX9_isKept_B80 l0 h else (if (lg_cmp l0 (32199680925529203 : Int64)) = 0 then xX9_isKept_B80 l0 h else xX9_isKept_B85 l0 (0 : Int32) h))))))))))
set_option maxHeartbeats 4000000 in
set_option maxRecDepth 100000 in
theorem lX9_isKept {Γ : ZG} {l : Launch} (hO : z_OK Γ) {l0 : Int64} {h : ZH} {r : (Int32 × ZH)} (hX : xX9_isKept l0 h = some r) : z_M Γ l yX9_isKept (z_ws1 yX9_isKept cX9_isKept 3 (some .boolean)) rmX9_isKept [.long l0] h (some (.int r.1)) r.2 := by
  refine z_start hO (plainFor_of_name (by decide)) (Nat.le_of_ble_eq_true rfl) ?_
  intro p e s m args below meth c G hr hnm
  refine z_lvc (lv2 := [(0, .long l0)]) rfl ?_
  refine z_lload_n (pc := 0) G 0 dX9_isKept_0 rfl rfl ?_
  refine z_ldc2 (pc := 1) G kt_1429 dX9_isKept_1 ?_
  refine z_lcmp (pc := 4) G dX9_isKept_4 ?_
  refine z_if_eq (pc := 5) (tgt := 80) G dX9_isKept_5 (by decide) (fun hc5 => ?_) (fun hc5 => ?_)
  · have hX := z_it hc5 hX
    exact wX9_isKept_B80 hO G hr hnm _ _ hX
  · have hX := z_if hc5 hX
    refine z_lload_n (pc := 8) G 0 dX9_isKept_8 rfl rfl ?_
    refine z_ldc2 (pc := 9) G kt_1430 dX9_isKept_9 ?_
    refine z_lcmp (pc := 12) G dX9_isKept_12 ?_
    refine z_if_eq (pc := 13) (tgt := 80) G dX9_isKept_13 (by decide) (fun hc13 => ?_) (fun hc13 => ?_)
    · have hX := z_it hc13 hX
      exact wX9_isKept_B80 hO G hr hnm _ _ hX
    · have hX := z_if hc13 hX
      refine z_lload_n (pc := 16) G 0 dX9_isKept_16 rfl rfl ?_
      refine z_ldc2 (pc := 17) G kt_1431 dX9_isKept_17 ?_
      refine z_lcmp (pc := 20) G dX9_isKept_20 ?_
      refine z_if_eq (pc := 21) (tgt := 80) G dX9_isKept_21 (by decide) (fun hc21 => ?_) (fun hc21 => ?_)
      · have hX := z_it hc21 hX
        exact wX9_isKept_B80 hO G hr hnm _ _ hX
      · have hX := z_if hc21 hX
        refine z_lload_n (pc := 24) G 0 dX9_isKept_24 rfl rfl ?_
        refine z_ldc2 (pc := 25) G kt_1432 dX9_isKept_25 ?_
        refine z_lcmp (pc := 28) G dX9_isKept_28 ?_
        refine z_if_eq (pc := 29) (tgt := 80) G dX9_isKept_29 (by decide) (fun hc29 => ?_) (fun hc29 => ?_)
        · have hX := z_it hc29 hX
          exact wX9_isKept_B80 hO G hr hnm _ _ hX
        · have hX := z_if hc29 hX
          refine z_lload_n (pc := 32) G 0 dX9_isKept_32 rfl rfl ?_
          refine z_ldc2 (pc := 33) G kt_1433 dX9_isKept_33 ?_
          refine z_lcmp (pc := 36) G dX9_isKept_36 ?_
          refine z_if_eq (pc := 37) (tgt := 80) G dX9_isKept_37 (by decide) (fun hc37 => ?_) (fun hc37 => ?_)
          · have hX := z_it hc37 hX
            exact wX9_isKept_B80 hO G hr hnm _ _ hX
          · have hX := z_if hc37 hX
            refine z_lload_n (pc := 40) G 0 dX9_isKept_40 rfl rfl ?_
            refine z_ldc2 (pc := 41) G kt_1434 dX9_isKept_41 ?_
            refine z_lcmp (pc := 44) G dX9_isKept_44 ?_
            refine z_if_eq (pc := 45) (tgt := 80) G dX9_isKept_45 (by decide) (fun hc45 => ?_) (fun hc45 => ?_)
            · have hX := z_it hc45 hX
              exact wX9_isKept_B80 hO G hr hnm _ _ hX
            · have hX := z_if hc45 hX
              refine z_lload_n (pc := 48) G 0 dX9_isKept_48 rfl rfl ?_
              refine z_ldc2 (pc := 49) G kt_1435 dX9_isKept_49 ?_
              refine z_lcmp (pc := 52) G dX9_isKept_52 ?_
              refine z_if_eq (pc := 53) (tgt := 80) G dX9_isKept_53 (by decide) (fun hc53 => ?_) (fun hc53 => ?_)
              · have hX := z_it hc53 hX
                exact wX9_isKept_B80 hO G hr hnm _ _ hX
              · have hX := z_if hc53 hX
                refine z_lload_n (pc := 56) G 0 dX9_isKept_56 rfl rfl ?_
                refine z_ldc2 (pc := 57) G kt_1436 dX9_isKept_57 ?_
                refine z_lcmp (pc := 60) G dX9_isKept_60 ?_
                refine z_if_eq (pc := 61) (tgt := 80) G dX9_isKept_61 (by decide) (fun hc61 => ?_) (fun hc61 => ?_)
                · have hX := z_it hc61 hX
                  exact wX9_isKept_B80 hO G hr hnm _ _ hX
                · have hX := z_if hc61 hX
                  refine z_lload_n (pc := 64) G 0 dX9_isKept_64 rfl rfl ?_
                  refine z_ldc2 (pc := 65) G kt_1437 dX9_isKept_65 ?_
                  refine z_lcmp (pc := 68) G dX9_isKept_68 ?_
                  refine z_if_eq (pc := 69) (tgt := 80) G dX9_isKept_69 (by decide) (fun hc69 => ?_) (fun hc69 => ?_)
                  · have hX := z_it hc69 hX
                    exact wX9_isKept_B80 hO G hr hnm _ _ hX
                  · have hX := z_if hc69 hX
                    refine z_lload_n (pc := 72) G 0 dX9_isKept_72 rfl rfl ?_
                    refine z_ldc2 (pc := 73) G kt_1438 dX9_isKept_73 ?_
                    refine z_lcmp (pc := 76) G dX9_isKept_76 ?_
                    refine z_if_ne (pc := 77) (tgt := 84) G dX9_isKept_77 (by decide) (fun hc77 => ?_) (fun hc77 => ?_)
                    · have hX := z_if hc77 hX
                      refine z_iconst (pc := 84) (v := 0) G dX9_isKept_84 (by decide) ?_
                      exact wX9_isKept_B85 hO G hr hnm _ _ _ hX
                    · have hX := z_it hc77 hX
                      exact wX9_isKept_B80 hO G hr hnm _ _ hX
theorem dX9_isSign_0 : decode cX9_isSign 0 = .ok (.iload_n 0, 1) := by decide +kernel
theorem dX9_isSign_1 : decode cX9_isSign 1 = .ok (.bipush 59, 2) := by decide +kernel
theorem dX9_isSign_3 : decode cX9_isSign 3 = .ok (.if_icmp .eq 63, 3) := by decide +kernel
theorem dX9_isSign_6 : decode cX9_isSign 6 = .ok (.iload_n 0, 1) := by decide +kernel
theorem dX9_isSign_7 : decode cX9_isSign 7 = .ok (.bipush 40, 2) := by decide +kernel
theorem dX9_isSign_9 : decode cX9_isSign 9 = .ok (.if_icmp .eq 57, 3) := by decide +kernel
theorem dX9_isSign_12 : decode cX9_isSign 12 = .ok (.iload_n 0, 1) := by decide +kernel
theorem dX9_isSign_13 : decode cX9_isSign 13 = .ok (.bipush 41, 2) := by decide +kernel
theorem dX9_isSign_15 : decode cX9_isSign 15 = .ok (.if_icmp .eq 51, 3) := by decide +kernel
theorem dX9_isSign_18 : decode cX9_isSign 18 = .ok (.iload_n 0, 1) := by decide +kernel
theorem dX9_isSign_19 : decode cX9_isSign 19 = .ok (.bipush 60, 2) := by decide +kernel
theorem dX9_isSign_21 : decode cX9_isSign 21 = .ok (.if_icmp .eq 45, 3) := by decide +kernel
theorem dX9_isSign_24 : decode cX9_isSign 24 = .ok (.iload_n 0, 1) := by decide +kernel
theorem dX9_isSign_25 : decode cX9_isSign 25 = .ok (.bipush 62, 2) := by decide +kernel
theorem dX9_isSign_27 : decode cX9_isSign 27 = .ok (.if_icmp .eq 39, 3) := by decide +kernel
theorem dX9_isSign_30 : decode cX9_isSign 30 = .ok (.iload_n 0, 1) := by decide +kernel
theorem dX9_isSign_31 : decode cX9_isSign 31 = .ok (.bipush 61, 2) := by decide +kernel
theorem dX9_isSign_33 : decode cX9_isSign 33 = .ok (.if_icmp .eq 33, 3) := by decide +kernel
theorem dX9_isSign_36 : decode cX9_isSign 36 = .ok (.iload_n 0, 1) := by decide +kernel
theorem dX9_isSign_37 : decode cX9_isSign 37 = .ok (.bipush 43, 2) := by decide +kernel
theorem dX9_isSign_39 : decode cX9_isSign 39 = .ok (.if_icmp .eq 27, 3) := by decide +kernel
theorem dX9_isSign_42 : decode cX9_isSign 42 = .ok (.iload_n 0, 1) := by decide +kernel
theorem dX9_isSign_43 : decode cX9_isSign 43 = .ok (.bipush 45, 2) := by decide +kernel
theorem dX9_isSign_45 : decode cX9_isSign 45 = .ok (.if_icmp .eq 21, 3) := by decide +kernel
theorem dX9_isSign_48 : decode cX9_isSign 48 = .ok (.iload_n 0, 1) := by decide +kernel
theorem dX9_isSign_49 : decode cX9_isSign 49 = .ok (.bipush 42, 2) := by decide +kernel
theorem dX9_isSign_51 : decode cX9_isSign 51 = .ok (.if_icmp .eq 15, 3) := by decide +kernel
theorem dX9_isSign_54 : decode cX9_isSign 54 = .ok (.iload_n 0, 1) := by decide +kernel
theorem dX9_isSign_55 : decode cX9_isSign 55 = .ok (.bipush 47, 2) := by decide +kernel
theorem dX9_isSign_57 : decode cX9_isSign 57 = .ok (.if_icmp .eq 9, 3) := by decide +kernel
theorem dX9_isSign_60 : decode cX9_isSign 60 = .ok (.iload_n 0, 1) := by decide +kernel
theorem dX9_isSign_61 : decode cX9_isSign 61 = .ok (.bipush 37, 2) := by decide +kernel
theorem dX9_isSign_63 : decode cX9_isSign 63 = .ok (.if_icmp .ne 7, 3) := by decide +kernel
theorem dX9_isSign_66 : decode cX9_isSign 66 = .ok (.iconst 1, 1) := by decide +kernel
theorem dX9_isSign_67 : decode cX9_isSign 67 = .ok (.goto 4, 3) := by decide +kernel
theorem dX9_isSign_70 : decode cX9_isSign 70 = .ok (.iconst 0, 1) := by decide +kernel
theorem dX9_isSign_71 : decode cX9_isSign 71 = .ok (.ireturn, 1) := by decide +kernel
theorem ydX9_isSign : z_yd yX9_isSign 1 := ⟨by decide, by decide, by decide +kernel⟩
abbrev rmX9_isSign : Room := { frames := 0, cells := 0, slots := 0, locals := 0 }
noncomputable def xX9_isSign (l0 : Int32) (h : ZH) : Option (Int32 × ZH) := (if l0 = (59 : Int32) then some ((1 : Int32), h) else (if l0 = (40 : Int32) then some ((1 : Int32), h) else (if l0 = (41 : Int32) then some ((1 : Int32), h) else (if l0 = (60 : Int32) then some ((1 : Int32), h) else (if l0 = (62 : Int32) then some ((1 : Int32), h) else (if l0 = (61 : Int32) then some ((1 : Int32), h) else (if l0 = (43 : Int32) then some ((1 : Int32), h) else (if l0 = (45 : Int32) then some ((1 : Int32), h) else (if l0 = (42 : Int32) then some ((1 : Int32), h) else (if l0 = (47 : Int32) then some ((1 : Int32), h) else (if l0 = (37 : Int32) then some ((1 : Int32), h) else some ((0 : Int32), h))))))))))))
set_option maxHeartbeats 4000000 in
set_option maxRecDepth 100000 in
theorem lX9_isSign {Γ : ZG} {l : Launch} (hO : z_OK Γ) {l0 : Int32} {h : ZH} {r : (Int32 × ZH)} (hX : xX9_isSign l0 h = some r) : z_M Γ l yX9_isSign (z_ws1 yX9_isSign cX9_isSign 1 (some .boolean)) rmX9_isSign [.int l0] h (some (.int r.1)) r.2 := by
  refine z_start hO (plainFor_of_name (by decide)) (Nat.le_of_ble_eq_true rfl) ?_
  intro p e s m args below meth c G hr hnm
  refine z_lvc (lv2 := [(0, .int l0)]) rfl ?_
  refine z_iload_n (pc := 0) G 0 dX9_isSign_0 rfl rfl ?_
  refine z_bipush (pc := 1) (v := 59) G dX9_isSign_1 (by decide) ?_
  refine z_icmp_eq (pc := 3) (tgt := 66) G dX9_isSign_3 (by decide) (fun hc3 => ?_) (fun hc3 => ?_)
  · have hX := z_it hc3 hX
    refine z_iconst (pc := 66) (v := 1) G dX9_isSign_66 (by decide) ?_
    refine z_goto (pc := 67) (tgt := 71) G dX9_isSign_67 (by decide) ?_
    exact z_zretX (pc := 71) hX G hr rfl dX9_isSign_71 (by decide) (by decide)
  · have hX := z_if hc3 hX
    refine z_iload_n (pc := 6) G 0 dX9_isSign_6 rfl rfl ?_
    refine z_bipush (pc := 7) (v := 40) G dX9_isSign_7 (by decide) ?_
    refine z_icmp_eq (pc := 9) (tgt := 66) G dX9_isSign_9 (by decide) (fun hc9 => ?_) (fun hc9 => ?_)
    · have hX := z_it hc9 hX
      refine z_iconst (pc := 66) (v := 1) G dX9_isSign_66 (by decide) ?_
      refine z_goto (pc := 67) (tgt := 71) G dX9_isSign_67 (by decide) ?_
      exact z_zretX (pc := 71) hX G hr rfl dX9_isSign_71 (by decide) (by decide)
    · have hX := z_if hc9 hX
      refine z_iload_n (pc := 12) G 0 dX9_isSign_12 rfl rfl ?_
      refine z_bipush (pc := 13) (v := 41) G dX9_isSign_13 (by decide) ?_
      refine z_icmp_eq (pc := 15) (tgt := 66) G dX9_isSign_15 (by decide) (fun hc15 => ?_) (fun hc15 => ?_)
      · have hX := z_it hc15 hX
        refine z_iconst (pc := 66) (v := 1) G dX9_isSign_66 (by decide) ?_
        refine z_goto (pc := 67) (tgt := 71) G dX9_isSign_67 (by decide) ?_
        exact z_zretX (pc := 71) hX G hr rfl dX9_isSign_71 (by decide) (by decide)
      · have hX := z_if hc15 hX
        refine z_iload_n (pc := 18) G 0 dX9_isSign_18 rfl rfl ?_
        refine z_bipush (pc := 19) (v := 60) G dX9_isSign_19 (by decide) ?_
        refine z_icmp_eq (pc := 21) (tgt := 66) G dX9_isSign_21 (by decide) (fun hc21 => ?_) (fun hc21 => ?_)
        · have hX := z_it hc21 hX
          refine z_iconst (pc := 66) (v := 1) G dX9_isSign_66 (by decide) ?_
          refine z_goto (pc := 67) (tgt := 71) G dX9_isSign_67 (by decide) ?_
          exact z_zretX (pc := 71) hX G hr rfl dX9_isSign_71 (by decide) (by decide)
        · have hX := z_if hc21 hX
          refine z_iload_n (pc := 24) G 0 dX9_isSign_24 rfl rfl ?_
          refine z_bipush (pc := 25) (v := 62) G dX9_isSign_25 (by decide) ?_
          refine z_icmp_eq (pc := 27) (tgt := 66) G dX9_isSign_27 (by decide) (fun hc27 => ?_) (fun hc27 => ?_)
          · have hX := z_it hc27 hX
            refine z_iconst (pc := 66) (v := 1) G dX9_isSign_66 (by decide) ?_
            refine z_goto (pc := 67) (tgt := 71) G dX9_isSign_67 (by decide) ?_
            exact z_zretX (pc := 71) hX G hr rfl dX9_isSign_71 (by decide) (by decide)
          · have hX := z_if hc27 hX
            refine z_iload_n (pc := 30) G 0 dX9_isSign_30 rfl rfl ?_
            refine z_bipush (pc := 31) (v := 61) G dX9_isSign_31 (by decide) ?_
            refine z_icmp_eq (pc := 33) (tgt := 66) G dX9_isSign_33 (by decide) (fun hc33 => ?_) (fun hc33 => ?_)
            · have hX := z_it hc33 hX
              refine z_iconst (pc := 66) (v := 1) G dX9_isSign_66 (by decide) ?_
              refine z_goto (pc := 67) (tgt := 71) G dX9_isSign_67 (by decide) ?_
              exact z_zretX (pc := 71) hX G hr rfl dX9_isSign_71 (by decide) (by decide)
            · have hX := z_if hc33 hX
              refine z_iload_n (pc := 36) G 0 dX9_isSign_36 rfl rfl ?_
              refine z_bipush (pc := 37) (v := 43) G dX9_isSign_37 (by decide) ?_
              refine z_icmp_eq (pc := 39) (tgt := 66) G dX9_isSign_39 (by decide) (fun hc39 => ?_) (fun hc39 => ?_)
              · have hX := z_it hc39 hX
                refine z_iconst (pc := 66) (v := 1) G dX9_isSign_66 (by decide) ?_
                refine z_goto (pc := 67) (tgt := 71) G dX9_isSign_67 (by decide) ?_
                exact z_zretX (pc := 71) hX G hr rfl dX9_isSign_71 (by decide) (by decide)
              · have hX := z_if hc39 hX
                refine z_iload_n (pc := 42) G 0 dX9_isSign_42 rfl rfl ?_
                refine z_bipush (pc := 43) (v := 45) G dX9_isSign_43 (by decide) ?_
                refine z_icmp_eq (pc := 45) (tgt := 66) G dX9_isSign_45 (by decide) (fun hc45 => ?_) (fun hc45 => ?_)
                · have hX := z_it hc45 hX
                  refine z_iconst (pc := 66) (v := 1) G dX9_isSign_66 (by decide) ?_
                  refine z_goto (pc := 67) (tgt := 71) G dX9_isSign_67 (by decide) ?_
                  exact z_zretX (pc := 71) hX G hr rfl dX9_isSign_71 (by decide) (by decide)
                · have hX := z_if hc45 hX
                  refine z_iload_n (pc := 48) G 0 dX9_isSign_48 rfl rfl ?_
                  refine z_bipush (pc := 49) (v := 42) G dX9_isSign_49 (by decide) ?_
                  refine z_icmp_eq (pc := 51) (tgt := 66) G dX9_isSign_51 (by decide) (fun hc51 => ?_) (fun hc51 => ?_)
                  · have hX := z_it hc51 hX
                    refine z_iconst (pc := 66) (v := 1) G dX9_isSign_66 (by decide) ?_
                    refine z_goto (pc := 67) (tgt := 71) G dX9_isSign_67 (by decide) ?_
                    exact z_zretX (pc := 71) hX G hr rfl dX9_isSign_71 (by decide) (by decide)
                  · have hX := z_if hc51 hX
                    refine z_iload_n (pc := 54) G 0 dX9_isSign_54 rfl rfl ?_
                    refine z_bipush (pc := 55) (v := 47) G dX9_isSign_55 (by decide) ?_
                    refine z_icmp_eq (pc := 57) (tgt := 66) G dX9_isSign_57 (by decide) (fun hc57 => ?_) (fun hc57 => ?_)
                    · have hX := z_it hc57 hX
                      refine z_iconst (pc := 66) (v := 1) G dX9_isSign_66 (by decide) ?_
                      refine z_goto (pc := 67) (tgt := 71) G dX9_isSign_67 (by decide) ?_
                      exact z_zretX (pc := 71) hX G hr rfl dX9_isSign_71 (by decide) (by decide)
                    · have hX := z_if hc57 hX
                      refine z_iload_n (pc := 60) G 0 dX9_isSign_60 rfl rfl ?_
                      refine z_bipush (pc := 61) (v := 37) G dX9_isSign_61 (by decide) ?_
                      refine z_icmp_ne (pc := 63) (tgt := 70) G dX9_isSign_63 (by decide) (fun hc63 => ?_) (fun hc63 => ?_)
                      · have hX := z_if hc63 hX
                        refine z_iconst (pc := 70) (v := 0) G dX9_isSign_70 (by decide) ?_
                        exact z_zretX (pc := 71) hX G hr rfl dX9_isSign_71 (by decide) (by decide)
                      · have hX := z_it hc63 hX
                        refine z_iconst (pc := 66) (v := 1) G dX9_isSign_66 (by decide) ?_
                        refine z_goto (pc := 67) (tgt := 71) G dX9_isSign_67 (by decide) ?_
                        exact z_zretX (pc := 71) hX G hr rfl dX9_isSign_71 (by decide) (by decide)
theorem dX9_goOn_0 : decode cX9_goOn 0 = .ok (.aload_n 0, 1) := by decide +kernel
theorem dX9_goOn_1 : decode cX9_goOn 1 = .ok (.aload_n 0, 1) := by decide +kernel
theorem dX9_goOn_2 : decode cX9_goOn 2 = .ok (.getfield 187, 3) := by decide +kernel
theorem dX9_goOn_5 : decode cX9_goOn 5 = .ok (.putfield 190, 3) := by decide +kernel
theorem dX9_goOn_8 : decode cX9_goOn 8 = .ok (.aload_n 0, 1) := by decide +kernel
theorem dX9_goOn_9 : decode cX9_goOn 9 = .ok (.getfield 190, 3) := by decide +kernel
theorem dX9_goOn_12 : decode cX9_goOn 12 = .ok (.aload_n 0, 1) := by decide +kernel
theorem dX9_goOn_13 : decode cX9_goOn 13 = .ok (.getfield 143, 3) := by decide +kernel
theorem dX9_goOn_16 : decode cX9_goOn 16 = .ok (.if_icmp .ge 42, 3) := by decide +kernel
theorem dX9_goOn_19 : decode cX9_goOn 19 = .ok (.aload_n 0, 1) := by decide +kernel
theorem dX9_goOn_20 : decode cX9_goOn 20 = .ok (.aload_n 0, 1) := by decide +kernel
theorem dX9_goOn_21 : decode cX9_goOn 21 = .ok (.getfield 190, 3) := by decide +kernel
theorem dX9_goOn_24 : decode cX9_goOn 24 = .ok (.invokevirtual 193, 3) := by decide +kernel
theorem dX9_goOn_27 : decode cX9_goOn 27 = .ok (.bipush 32, 2) := by decide +kernel
theorem dX9_goOn_29 : decode cX9_goOn 29 = .ok (.if_icmp .eq 16, 3) := by decide +kernel
theorem dX9_goOn_32 : decode cX9_goOn 32 = .ok (.aload_n 0, 1) := by decide +kernel
theorem dX9_goOn_33 : decode cX9_goOn 33 = .ok (.aload_n 0, 1) := by decide +kernel
theorem dX9_goOn_34 : decode cX9_goOn 34 = .ok (.getfield 190, 3) := by decide +kernel
theorem dX9_goOn_37 : decode cX9_goOn 37 = .ok (.invokevirtual 193, 3) := by decide +kernel
theorem dX9_goOn_40 : decode cX9_goOn 40 = .ok (.bipush 10, 2) := by decide +kernel
theorem dX9_goOn_42 : decode cX9_goOn 42 = .ok (.if_icmp .ne 16, 3) := by decide +kernel
theorem dX9_goOn_45 : decode cX9_goOn 45 = .ok (.aload_n 0, 1) := by decide +kernel
theorem dX9_goOn_46 : decode cX9_goOn 46 = .ok (.dup, 1) := by decide +kernel
theorem dX9_goOn_47 : decode cX9_goOn 47 = .ok (.getfield 190, 3) := by decide +kernel
theorem dX9_goOn_50 : decode cX9_goOn 50 = .ok (.iconst 1, 1) := by decide +kernel
theorem dX9_goOn_51 : decode cX9_goOn 51 = .ok (.iadd, 1) := by decide +kernel
theorem dX9_goOn_52 : decode cX9_goOn 52 = .ok (.putfield 190, 3) := by decide +kernel
theorem dX9_goOn_55 : decode cX9_goOn 55 = .ok (.goto (-47), 3) := by decide +kernel
theorem dX9_goOn_58 : decode cX9_goOn 58 = .ok (.aload_n 0, 1) := by decide +kernel
theorem dX9_goOn_59 : decode cX9_goOn 59 = .ok (.aload_n 0, 1) := by decide +kernel
theorem dX9_goOn_60 : decode cX9_goOn 60 = .ok (.getfield 190, 3) := by decide +kernel
theorem dX9_goOn_63 : decode cX9_goOn 63 = .ok (.invokevirtual 193, 3) := by decide +kernel
theorem dX9_goOn_66 : decode cX9_goOn 66 = .ok (.istore_n 1, 1) := by decide +kernel
theorem dX9_goOn_67 : decode cX9_goOn 67 = .ok (.aload_n 0, 1) := by decide +kernel
theorem dX9_goOn_68 : decode cX9_goOn 68 = .ok (.aload_n 0, 1) := by decide +kernel
theorem dX9_goOn_69 : decode cX9_goOn 69 = .ok (.getfield 190, 3) := by decide +kernel
theorem dX9_goOn_72 : decode cX9_goOn 72 = .ok (.iconst 1, 1) := by decide +kernel
theorem dX9_goOn_73 : decode cX9_goOn 73 = .ok (.iadd, 1) := by decide +kernel
theorem dX9_goOn_74 : decode cX9_goOn 74 = .ok (.putfield 187, 3) := by decide +kernel
theorem dX9_goOn_77 : decode cX9_goOn 77 = .ok (.aload_n 0, 1) := by decide +kernel
theorem dX9_goOn_78 : decode cX9_goOn 78 = .ok (.getfield 190, 3) := by decide +kernel
theorem dX9_goOn_81 : decode cX9_goOn 81 = .ok (.aload_n 0, 1) := by decide +kernel
theorem dX9_goOn_82 : decode cX9_goOn 82 = .ok (.getfield 143, 3) := by decide +kernel
theorem dX9_goOn_85 : decode cX9_goOn 85 = .ok (.if_icmp .lt 27, 3) := by decide +kernel
theorem dX9_goOn_88 : decode cX9_goOn 88 = .ok (.aload_n 0, 1) := by decide +kernel
theorem dX9_goOn_89 : decode cX9_goOn 89 = .ok (.iconst 0, 1) := by decide +kernel
theorem dX9_goOn_90 : decode cX9_goOn 90 = .ok (.putfield 197, 3) := by decide +kernel
theorem dX9_goOn_93 : decode cX9_goOn 93 = .ok (.aload_n 0, 1) := by decide +kernel
theorem dX9_goOn_94 : decode cX9_goOn 94 = .ok (.aload_n 0, 1) := by decide +kernel
theorem dX9_goOn_95 : decode cX9_goOn 95 = .ok (.getfield 143, 3) := by decide +kernel
theorem dX9_goOn_98 : decode cX9_goOn 98 = .ok (.putfield 190, 3) := by decide +kernel
theorem dX9_goOn_101 : decode cX9_goOn 101 = .ok (.aload_n 0, 1) := by decide +kernel
theorem dX9_goOn_102 : decode cX9_goOn 102 = .ok (.aload_n 0, 1) := by decide +kernel
theorem dX9_goOn_103 : decode cX9_goOn 103 = .ok (.getfield 143, 3) := by decide +kernel
theorem dX9_goOn_106 : decode cX9_goOn 106 = .ok (.putfield 187, 3) := by decide +kernel
theorem dX9_goOn_109 : decode cX9_goOn 109 = .ok (.goto 268, 3) := by decide +kernel
theorem dX9_goOn_112 : decode cX9_goOn 112 = .ok (.iload_n 1, 1) := by decide +kernel
theorem dX9_goOn_113 : decode cX9_goOn 113 = .ok (.invokestatic 200, 3) := by decide +kernel
theorem dX9_goOn_116 : decode cX9_goOn 116 = .ok (.ifCond .eq 123, 3) := by decide +kernel
theorem dX9_goOn_119 : decode cX9_goOn 119 = .ok (.aload_n 0, 1) := by decide +kernel
theorem dX9_goOn_120 : decode cX9_goOn 120 = .ok (.aload_n 0, 1) := by decide +kernel
theorem dX9_goOn_121 : decode cX9_goOn 121 = .ok (.getfield 187, 3) := by decide +kernel
theorem dX9_goOn_124 : decode cX9_goOn 124 = .ok (.invokevirtual 193, 3) := by decide +kernel
theorem dX9_goOn_127 : decode cX9_goOn 127 = .ok (.invokestatic 200, 3) := by decide +kernel
theorem dX9_goOn_130 : decode cX9_goOn 130 = .ok (.ifCond .eq 16, 3) := by decide +kernel
theorem dX9_goOn_133 : decode cX9_goOn 133 = .ok (.aload_n 0, 1) := by decide +kernel
theorem dX9_goOn_134 : decode cX9_goOn 134 = .ok (.dup, 1) := by decide +kernel
theorem dX9_goOn_135 : decode cX9_goOn 135 = .ok (.getfield 187, 3) := by decide +kernel
theorem dX9_goOn_138 : decode cX9_goOn 138 = .ok (.iconst 1, 1) := by decide +kernel
theorem dX9_goOn_139 : decode cX9_goOn 139 = .ok (.iadd, 1) := by decide +kernel
theorem dX9_goOn_140 : decode cX9_goOn 140 = .ok (.putfield 187, 3) := by decide +kernel
theorem dX9_goOn_143 : decode cX9_goOn 143 = .ok (.goto (-24), 3) := by decide +kernel
theorem dX9_goOn_146 : decode cX9_goOn 146 = .ok (.aload_n 0, 1) := by decide +kernel
theorem dX9_goOn_147 : decode cX9_goOn 147 = .ok (.lconst 0, 1) := by decide +kernel
theorem dX9_goOn_148 : decode cX9_goOn 148 = .ok (.putfield 204, 3) := by decide +kernel
theorem dX9_goOn_151 : decode cX9_goOn 151 = .ok (.aload_n 0, 1) := by decide +kernel
theorem dX9_goOn_152 : decode cX9_goOn 152 = .ok (.getfield 190, 3) := by decide +kernel
theorem dX9_goOn_155 : decode cX9_goOn 155 = .ok (.istore_n 2, 1) := by decide +kernel
theorem dX9_goOn_156 : decode cX9_goOn 156 = .ok (.iload_n 2, 1) := by decide +kernel
theorem dX9_goOn_157 : decode cX9_goOn 157 = .ok (.aload_n 0, 1) := by decide +kernel
theorem dX9_goOn_158 : decode cX9_goOn 158 = .ok (.getfield 187, 3) := by decide +kernel
theorem dX9_goOn_161 : decode cX9_goOn 161 = .ok (.if_icmp .ge 38, 3) := by decide +kernel
theorem dX9_goOn_164 : decode cX9_goOn 164 = .ok (.iload_n 2, 1) := by decide +kernel
theorem dX9_goOn_165 : decode cX9_goOn 165 = .ok (.aload_n 0, 1) := by decide +kernel
theorem dX9_goOn_166 : decode cX9_goOn 166 = .ok (.getfield 190, 3) := by decide +kernel
theorem dX9_goOn_169 : decode cX9_goOn 169 = .ok (.bipush 8, 2) := by decide +kernel
theorem dX9_goOn_171 : decode cX9_goOn 171 = .ok (.iadd, 1) := by decide +kernel
theorem dX9_goOn_172 : decode cX9_goOn 172 = .ok (.if_icmp .ge 27, 3) := by decide +kernel
theorem dX9_goOn_175 : decode cX9_goOn 175 = .ok (.aload_n 0, 1) := by decide +kernel
theorem dX9_goOn_176 : decode cX9_goOn 176 = .ok (.aload_n 0, 1) := by decide +kernel
theorem dX9_goOn_177 : decode cX9_goOn 177 = .ok (.getfield 204, 3) := by decide +kernel
theorem dX9_goOn_180 : decode cX9_goOn 180 = .ok (.bipush 8, 2) := by decide +kernel
theorem dX9_goOn_182 : decode cX9_goOn 182 = .ok (.lshl, 1) := by decide +kernel
theorem dX9_goOn_183 : decode cX9_goOn 183 = .ok (.aload_n 0, 1) := by decide +kernel
theorem dX9_goOn_184 : decode cX9_goOn 184 = .ok (.iload_n 2, 1) := by decide +kernel
theorem dX9_goOn_185 : decode cX9_goOn 185 = .ok (.invokevirtual 193, 3) := by decide +kernel
theorem dX9_goOn_188 : decode cX9_goOn 188 = .ok (.i2l, 1) := by decide +kernel
theorem dX9_goOn_189 : decode cX9_goOn 189 = .ok (.lor, 1) := by decide +kernel
theorem dX9_goOn_190 : decode cX9_goOn 190 = .ok (.putfield 204, 3) := by decide +kernel
theorem dX9_goOn_193 : decode cX9_goOn 193 = .ok (.iinc 2 1, 3) := by decide +kernel
theorem dX9_goOn_196 : decode cX9_goOn 196 = .ok (.goto (-40), 3) := by decide +kernel
theorem dX9_goOn_199 : decode cX9_goOn 199 = .ok (.aload_n 0, 1) := by decide +kernel
theorem dX9_goOn_200 : decode cX9_goOn 200 = .ok (.aload_n 0, 1) := by decide +kernel
theorem dX9_goOn_201 : decode cX9_goOn 201 = .ok (.getfield 187, 3) := by decide +kernel
theorem dX9_goOn_204 : decode cX9_goOn 204 = .ok (.aload_n 0, 1) := by decide +kernel
theorem dX9_goOn_205 : decode cX9_goOn 205 = .ok (.getfield 190, 3) := by decide +kernel
theorem dX9_goOn_208 : decode cX9_goOn 208 = .ok (.isub, 1) := by decide +kernel
theorem dX9_goOn_209 : decode cX9_goOn 209 = .ok (.bipush 8, 2) := by decide +kernel
theorem dX9_goOn_211 : decode cX9_goOn 211 = .ok (.if_icmp .le 7, 3) := by decide +kernel
theorem dX9_goOn_214 : decode cX9_goOn 214 = .ok (.iconst 1, 1) := by decide +kernel
theorem dX9_goOn_215 : decode cX9_goOn 215 = .ok (.goto 18, 3) := by decide +kernel
theorem dX9_goOn_218 : decode cX9_goOn 218 = .ok (.aload_n 0, 1) := by decide +kernel
theorem dX9_goOn_219 : decode cX9_goOn 219 = .ok (.getfield 204, 3) := by decide +kernel
theorem dX9_goOn_222 : decode cX9_goOn 222 = .ok (.invokestatic 208, 3) := by decide +kernel
theorem dX9_goOn_225 : decode cX9_goOn 225 = .ok (.ifCond .eq 7, 3) := by decide +kernel
theorem dX9_goOn_228 : decode cX9_goOn 228 = .ok (.iconst 3, 1) := by decide +kernel
theorem dX9_goOn_229 : decode cX9_goOn 229 = .ok (.goto 4, 3) := by decide +kernel
theorem dX9_goOn_232 : decode cX9_goOn 232 = .ok (.iconst 2, 1) := by decide +kernel
theorem dX9_goOn_233 : decode cX9_goOn 233 = .ok (.putfield 197, 3) := by decide +kernel
theorem dX9_goOn_236 : decode cX9_goOn 236 = .ok (.goto 141, 3) := by decide +kernel
theorem dX9_goOn_239 : decode cX9_goOn 239 = .ok (.iload_n 1, 1) := by decide +kernel
theorem dX9_goOn_240 : decode cX9_goOn 240 = .ok (.invokestatic 212, 3) := by decide +kernel
theorem dX9_goOn_243 : decode cX9_goOn 243 = .ok (.ifCond .eq 118, 3) := by decide +kernel
theorem dX9_goOn_246 : decode cX9_goOn 246 = .ok (.aload_n 0, 1) := by decide +kernel
theorem dX9_goOn_247 : decode cX9_goOn 247 = .ok (.iconst 0, 1) := by decide +kernel
theorem dX9_goOn_248 : decode cX9_goOn 248 = .ok (.putfield 215, 3) := by decide +kernel
theorem dX9_goOn_251 : decode cX9_goOn 251 = .ok (.aload_n 0, 1) := by decide +kernel
theorem dX9_goOn_252 : decode cX9_goOn 252 = .ok (.aload_n 0, 1) := by decide +kernel
theorem dX9_goOn_253 : decode cX9_goOn 253 = .ok (.getfield 190, 3) := by decide +kernel
theorem dX9_goOn_256 : decode cX9_goOn 256 = .ok (.putfield 187, 3) := by decide +kernel
theorem dX9_goOn_259 : decode cX9_goOn 259 = .ok (.aload_n 0, 1) := by decide +kernel
theorem dX9_goOn_260 : decode cX9_goOn 260 = .ok (.aload_n 0, 1) := by decide +kernel
theorem dX9_goOn_261 : decode cX9_goOn 261 = .ok (.getfield 187, 3) := by decide +kernel
theorem dX9_goOn_264 : decode cX9_goOn 264 = .ok (.invokevirtual 193, 3) := by decide +kernel
theorem dX9_goOn_267 : decode cX9_goOn 267 = .ok (.invokestatic 212, 3) := by decide +kernel
theorem dX9_goOn_270 : decode cX9_goOn 270 = .ok (.ifCond .eq 52, 3) := by decide +kernel
theorem dX9_goOn_273 : decode cX9_goOn 273 = .ok (.aload_n 0, 1) := by decide +kernel
theorem dX9_goOn_274 : decode cX9_goOn 274 = .ok (.getfield 187, 3) := by decide +kernel
theorem dX9_goOn_277 : decode cX9_goOn 277 = .ok (.aload_n 0, 1) := by decide +kernel
theorem dX9_goOn_278 : decode cX9_goOn 278 = .ok (.getfield 190, 3) := by decide +kernel
theorem dX9_goOn_281 : decode cX9_goOn 281 = .ok (.isub, 1) := by decide +kernel
theorem dX9_goOn_282 : decode cX9_goOn 282 = .ok (.iconst 4, 1) := by decide +kernel
theorem dX9_goOn_283 : decode cX9_goOn 283 = .ok (.if_icmp .ge 26, 3) := by decide +kernel
theorem dX9_goOn_286 : decode cX9_goOn 286 = .ok (.aload_n 0, 1) := by decide +kernel
theorem dX9_goOn_287 : decode cX9_goOn 287 = .ok (.bipush 10, 2) := by decide +kernel
theorem dX9_goOn_289 : decode cX9_goOn 289 = .ok (.aload_n 0, 1) := by decide +kernel
theorem dX9_goOn_290 : decode cX9_goOn 290 = .ok (.getfield 215, 3) := by decide +kernel
theorem dX9_goOn_293 : decode cX9_goOn 293 = .ok (.imul, 1) := by decide +kernel
theorem dX9_goOn_294 : decode cX9_goOn 294 = .ok (.aload_n 0, 1) := by decide +kernel
theorem dX9_goOn_295 : decode cX9_goOn 295 = .ok (.aload_n 0, 1) := by decide +kernel
theorem dX9_goOn_296 : decode cX9_goOn 296 = .ok (.getfield 187, 3) := by decide +kernel
theorem dX9_goOn_299 : decode cX9_goOn 299 = .ok (.invokevirtual 193, 3) := by decide +kernel
theorem dX9_goOn_302 : decode cX9_goOn 302 = .ok (.iadd, 1) := by decide +kernel
theorem dX9_goOn_303 : decode cX9_goOn 303 = .ok (.bipush 48, 2) := by decide +kernel
theorem dX9_goOn_305 : decode cX9_goOn 305 = .ok (.isub, 1) := by decide +kernel
theorem dX9_goOn_306 : decode cX9_goOn 306 = .ok (.putfield 215, 3) := by decide +kernel
theorem dX9_goOn_309 : decode cX9_goOn 309 = .ok (.aload_n 0, 1) := by decide +kernel
theorem dX9_goOn_310 : decode cX9_goOn 310 = .ok (.dup, 1) := by decide +kernel
theorem dX9_goOn_311 : decode cX9_goOn 311 = .ok (.getfield 187, 3) := by decide +kernel
theorem dX9_goOn_314 : decode cX9_goOn 314 = .ok (.iconst 1, 1) := by decide +kernel
theorem dX9_goOn_315 : decode cX9_goOn 315 = .ok (.iadd, 1) := by decide +kernel
theorem dX9_goOn_316 : decode cX9_goOn 316 = .ok (.putfield 187, 3) := by decide +kernel
theorem dX9_goOn_319 : decode cX9_goOn 319 = .ok (.goto (-60), 3) := by decide +kernel
theorem dX9_goOn_322 : decode cX9_goOn 322 = .ok (.aload_n 0, 1) := by decide +kernel
theorem dX9_goOn_323 : decode cX9_goOn 323 = .ok (.aload_n 0, 1) := by decide +kernel
theorem dX9_goOn_324 : decode cX9_goOn 324 = .ok (.getfield 187, 3) := by decide +kernel
theorem dX9_goOn_327 : decode cX9_goOn 327 = .ok (.aload_n 0, 1) := by decide +kernel
theorem dX9_goOn_328 : decode cX9_goOn 328 = .ok (.getfield 190, 3) := by decide +kernel
theorem dX9_goOn_331 : decode cX9_goOn 331 = .ok (.isub, 1) := by decide +kernel
theorem dX9_goOn_332 : decode cX9_goOn 332 = .ok (.iconst 4, 1) := by decide +kernel
theorem dX9_goOn_333 : decode cX9_goOn 333 = .ok (.if_icmp .gt 17, 3) := by decide +kernel
theorem dX9_goOn_336 : decode cX9_goOn 336 = .ok (.aload_n 0, 1) := by decide +kernel
theorem dX9_goOn_337 : decode cX9_goOn 337 = .ok (.aload_n 0, 1) := by decide +kernel
theorem dX9_goOn_338 : decode cX9_goOn 338 = .ok (.getfield 187, 3) := by decide +kernel
theorem dX9_goOn_341 : decode cX9_goOn 341 = .ok (.invokevirtual 193, 3) := by decide +kernel
theorem dX9_goOn_344 : decode cX9_goOn 344 = .ok (.invokestatic 200, 3) := by decide +kernel
theorem dX9_goOn_347 : decode cX9_goOn 347 = .ok (.ifCond .eq 7, 3) := by decide +kernel
theorem dX9_goOn_350 : decode cX9_goOn 350 = .ok (.iconst 1, 1) := by decide +kernel
theorem dX9_goOn_351 : decode cX9_goOn 351 = .ok (.goto 4, 3) := by decide +kernel
theorem dX9_goOn_354 : decode cX9_goOn 354 = .ok (.iconst 4, 1) := by decide +kernel
theorem dX9_goOn_355 : decode cX9_goOn 355 = .ok (.putfield 197, 3) := by decide +kernel
theorem dX9_goOn_358 : decode cX9_goOn 358 = .ok (.goto 19, 3) := by decide +kernel
theorem dX9_goOn_361 : decode cX9_goOn 361 = .ok (.aload_n 0, 1) := by decide +kernel
theorem dX9_goOn_362 : decode cX9_goOn 362 = .ok (.iload_n 1, 1) := by decide +kernel
theorem dX9_goOn_363 : decode cX9_goOn 363 = .ok (.invokestatic 218, 3) := by decide +kernel
theorem dX9_goOn_366 : decode cX9_goOn 366 = .ok (.ifCond .eq 7, 3) := by decide +kernel
theorem dX9_goOn_369 : decode cX9_goOn 369 = .ok (.iconst 5, 1) := by decide +kernel
theorem dX9_goOn_370 : decode cX9_goOn 370 = .ok (.goto 4, 3) := by decide +kernel
theorem dX9_goOn_373 : decode cX9_goOn 373 = .ok (.iconst 1, 1) := by decide +kernel
theorem dX9_goOn_374 : decode cX9_goOn 374 = .ok (.putfield 197, 3) := by decide +kernel
theorem dX9_goOn_377 : decode cX9_goOn 377 = .ok (.return_, 1) := by decide +kernel
theorem ydX9_goOn : z_yd yX9_goOn 0 := ⟨by decide, by decide, by decide +kernel⟩
abbrev rmX9_goOn : Room := { frames := 1, cells := 0, slots := 0, locals := 22 }
noncomputable def xX9_goOn_B199 (l0 : Nat) (h : ZH) : Option ZH := ((z_gI h l0 9 7).bind fun x201 => ((z_gI h l0 9 6).bind fun x205 => (if (x201 - x205) ≤ (8 : Int32) then ((z_gJ h l0 9 10).bind fun x219 => ((xX9_isKept x219 h).bind fun r222 => (if r222.1 = 0 then ((z_sF r222.2 l0 9 8 (.int (2 : Int32))).bind fun h233 => some h233) else ((z_sF r222.2 l0 9 8 (.int (3 : Int32))).bind fun h233 => some h233)))) else ((z_sF h l0 9 8 (.int (1 : Int32))).bind fun h233 => some h233))))
set_option maxHeartbeats 4000000 in
set_option maxRecDepth 100000 in
theorem wX9_goOn_B199 {Γ : ZG} {p : Program} {l : Launch} {e : Env} {s : State} {m : MethodId} {args : Array Value} {below : List Frame} {meth : Method} {c : Code} (hO : z_OK Γ) (G : z_GG Γ p s m args meth c cX9_goOn 3 RX9) (hr : meth.sig.returnType = none) (hnm : meth.name = "goOn") {r : ZH} : ∀ (l0 : Nat) (h : ZH), xX9_goOn_B199  l0 h = some r → z_W Γ p l e rmX9_goOn s m args below meth c 3 0 0 (MQ below (z_Qc Γ none r) args s rmX9_goOn.cells rmX9_goOn.slots (z_A Γ)) 199 [(0, .ref l0)] [] h := by
  intro l0 h hX
  refine z_aload_n (pc := 199) G 0 dX9_goOn_199 rfl rfl ?_
  refine z_aload_n (pc := 200) G 0 dX9_goOn_200 rfl rfl ?_
  obtain ⟨x201, hv201, hX⟩ := z_bd hX
  refine z_getI (pc := 201) G kK9 (k := 7) (by decide) kt_1233 dX9_goOn_201 hv201 ?_
  refine z_aload_n (pc := 204) G 0 dX9_goOn_204 rfl rfl ?_
  obtain ⟨x205, hv205, hX⟩ := z_bd hX
  refine z_getI (pc := 205) G kK9 (k := 6) (by decide) kt_1232 dX9_goOn_205 hv205 ?_
  refine z_isub (pc := 208) G dX9_goOn_208 ?_
  refine z_bipush (pc := 209) (v := 8) G dX9_goOn_209 (by decide) ?_
  refine z_icmp_le (pc := 211) (tgt := 218) G dX9_goOn_211 (by decide) (fun hc211 => ?_) (fun hc211 => ?_)
  · have hX := z_it hc211 hX
    refine z_aload_n (pc := 218) G 0 dX9_goOn_218 rfl rfl ?_
    obtain ⟨x219, hv219, hX⟩ := z_bd hX
    refine z_getJ (pc := 219) G kK9 (k := 10) (by decide) kt_1236 dX9_goOn_219 hv219 ?_
    obtain ⟨r222, hv222, hX⟩ := z_bd hX
    refine z_cSI (pc := 222) (As := [.long x219]) (c2 := 0) (s2 := 0) G (lX9_isKept hO hv222) kt_1428 kt_11 kt_1426 kt_1427 ydX9_isKept ⟨by decide, by decide⟩ rfl (Nat.le_of_ble_eq_true rfl) ⟨rfl, rfl⟩ ⟨by decide, by decide⟩ rfl dX9_goOn_222 ?_
    refine z_if_eq (pc := 225) (tgt := 232) G dX9_goOn_225 (by decide) (fun hc225 => ?_) (fun hc225 => ?_)
    · have hX := z_it hc225 hX
      refine z_iconst (pc := 232) (v := 2) G dX9_goOn_232 (by decide) ?_
      obtain ⟨h233, hv233, hX⟩ := z_bd hX
      refine z_putF (pc := 233) G kK9 (k := 8) (by decide) kt_1234 (Or.inl rfl) rfl rfl dX9_goOn_233 hv233 ?_
      refine z_goto (pc := 236) (tgt := 377) G dX9_goOn_236 (by decide) ?_
      exact z_vretX (pc := 377) hX G hr dX9_goOn_377 (by decide) (by decide)
    · have hX := z_if hc225 hX
      refine z_iconst (pc := 228) (v := 3) G dX9_goOn_228 (by decide) ?_
      refine z_goto (pc := 229) (tgt := 233) G dX9_goOn_229 (by decide) ?_
      obtain ⟨h233, hv233, hX⟩ := z_bd hX
      refine z_putF (pc := 233) G kK9 (k := 8) (by decide) kt_1234 (Or.inl rfl) rfl rfl dX9_goOn_233 hv233 ?_
      refine z_goto (pc := 236) (tgt := 377) G dX9_goOn_236 (by decide) ?_
      exact z_vretX (pc := 377) hX G hr dX9_goOn_377 (by decide) (by decide)
  · have hX := z_if hc211 hX
    refine z_iconst (pc := 214) (v := 1) G dX9_goOn_214 (by decide) ?_
    refine z_goto (pc := 215) (tgt := 233) G dX9_goOn_215 (by decide) ?_
    obtain ⟨h233, hv233, hX⟩ := z_bd hX
    refine z_putF (pc := 233) G kK9 (k := 8) (by decide) kt_1234 (Or.inl rfl) rfl rfl dX9_goOn_233 hv233 ?_
    refine z_goto (pc := 236) (tgt := 377) G dX9_goOn_236 (by decide) ?_
    exact z_vretX (pc := 377) hX G hr dX9_goOn_377 (by decide) (by decide)
noncomputable def xX9_goOn_B156 (r156 : Nat → Int32 → ZH → Option ZH) (l0 : Nat) (l2 : Int32) (h : ZH) : Option ZH := ((z_gI h l0 9 7).bind fun x158 => (if x158 ≤ l2 then xX9_goOn_B199 l0 h else ((z_gI h l0 9 6).bind fun x166 => (if (x166 + (8 : Int32)) ≤ l2 then xX9_goOn_B199 l0 h else ((z_gJ h l0 9 10).bind fun x177 => (z_gu (z_is h l0 9) ((xX9_sign l0 l2 h).bind fun r185 => ((z_sF r185.2 l0 9 10 (.long ((x177 <<< ((8 : Int32).toInt64 &&& 63)) ||| r185.1.toInt64))).bind fun h190 => r156 l0 (l2 + 1) h190))))))))
noncomputable def xX9_goOn_L156 (n : Nat) : Nat → Int32 → ZH → Option ZH := Nat.rec (motive := fun _ => Nat → Int32 → ZH → Option ZH) (fun _ _ _ => none) (fun _ rec => xX9_goOn_B156  rec) n
set_option maxHeartbeats 4000000 in
set_option maxRecDepth 100000 in
theorem wX9_goOn_B156 {Γ : ZG} {p : Program} {l : Launch} {e : Env} {s : State} {m : MethodId} {args : Array Value} {below : List Frame} {meth : Method} {c : Code} (hO : z_OK Γ) (G : z_GG Γ p s m args meth c cX9_goOn 3 RX9) (hr : meth.sig.returnType = none) (hnm : meth.name = "goOn") {r : ZH} {r156 : Nat → Int32 → ZH → Option ZH} (H156 : ∀ (l0 : Nat) (l2 : Int32) (h : ZH), r156 l0 l2 h = some r → z_W Γ p l e rmX9_goOn s m args below meth c 3 0 0 (MQ below (z_Qc Γ none r) args s rmX9_goOn.cells rmX9_goOn.slots (z_A Γ)) 156 [(0, .ref l0), (2, .int l2)] [] h) : ∀ (l0 : Nat) (l2 : Int32) (h : ZH), xX9_goOn_B156  r156 l0 l2 h = some r → z_W Γ p l e rmX9_goOn s m args below meth c 3 0 0 (MQ below (z_Qc Γ none r) args s rmX9_goOn.cells rmX9_goOn.slots (z_A Γ)) 156 [(0, .ref l0), (2, .int l2)] [] h := by
  intro l0 l2 h hX
  refine z_iload_n (pc := 156) G 1 dX9_goOn_156 rfl rfl ?_
  refine z_aload_n (pc := 157) G 0 dX9_goOn_157 rfl rfl ?_
  obtain ⟨x158, hv158, hX⟩ := z_bd hX
  refine z_getI (pc := 158) G kK9 (k := 7) (by decide) kt_1233 dX9_goOn_158 hv158 ?_
  refine z_icmp_ge (pc := 161) (tgt := 199) G dX9_goOn_161 (by decide) (fun hc161 => ?_) (fun hc161 => ?_)
  · have hX := z_it hc161 hX
    refine z_drop (lv2 := [(0, .ref l0)]) [0] rfl ?_
    exact wX9_goOn_B199 hO G hr hnm _ _ hX
  · have hX := z_if hc161 hX
    refine z_iload_n (pc := 164) G 1 dX9_goOn_164 rfl rfl ?_
    refine z_aload_n (pc := 165) G 0 dX9_goOn_165 rfl rfl ?_
    obtain ⟨x166, hv166, hX⟩ := z_bd hX
    refine z_getI (pc := 166) G kK9 (k := 6) (by decide) kt_1232 dX9_goOn_166 hv166 ?_
    refine z_bipush (pc := 169) (v := 8) G dX9_goOn_169 (by decide) ?_
    refine z_iadd (pc := 171) G dX9_goOn_171 ?_
    refine z_icmp_ge (pc := 172) (tgt := 199) G dX9_goOn_172 (by decide) (fun hc172 => ?_) (fun hc172 => ?_)
    · have hX := z_it hc172 hX
      refine z_drop (lv2 := [(0, .ref l0)]) [0] rfl ?_
      exact wX9_goOn_B199 hO G hr hnm _ _ hX
    · have hX := z_if hc172 hX
      refine z_aload_n (pc := 175) G 0 dX9_goOn_175 rfl rfl ?_
      refine z_aload_n (pc := 176) G 0 dX9_goOn_176 rfl rfl ?_
      obtain ⟨x177, hv177, hX⟩ := z_bd hX
      refine z_getJ (pc := 177) G kK9 (k := 10) (by decide) kt_1236 dX9_goOn_177 hv177 ?_
      refine z_bipush (pc := 180) (v := 8) G dX9_goOn_180 (by decide) ?_
      refine z_lshl (pc := 182) (v := (x177 <<< ((8 : Int32).toInt64 &&& 63))) G dX9_goOn_182 rfl ?_
      refine z_aload_n (pc := 183) G 0 dX9_goOn_183 rfl rfl ?_
      refine z_iload_n (pc := 184) G 1 dX9_goOn_184 rfl rfl ?_
      obtain ⟨hi185, hX⟩ := z_gu_s hX
      obtain ⟨r185, hv185, hX⟩ := z_bd hX
      refine z_cVI (pc := 185) (As := [.int l2]) (c2 := 0) (s2 := 0) G kK9 (lX9_sign hO hv185) hi185 kt_1422 kt_11 kt_1419 kt_1421 ks_39 ydX9_sign ⟨by decide, by decide⟩ rfl (Nat.le_of_ble_eq_true rfl) ⟨rfl, rfl⟩ ⟨by decide, by decide⟩ rfl dX9_goOn_185 ?_
      refine z_i2l (pc := 188) (v := r185.1.toInt64) G dX9_goOn_188 rfl ?_
      refine z_lor (pc := 189) G dX9_goOn_189 ?_
      obtain ⟨h190, hv190, hX⟩ := z_bd hX
      refine z_putF (pc := 190) G kK9 (k := 10) (by decide) kt_1236 (Or.inl rfl) rfl rfl dX9_goOn_190 hv190 ?_
      refine z_iincw (pc := 193) (w := 1) (lv2 := [(0, .ref l0), (2, .int (l2 + 1))]) G 1 dX9_goOn_193 rfl (by decide) (by decide) rfl rfl ?_
      refine z_goto (pc := 196) (tgt := 156) G dX9_goOn_196 (by decide) ?_
      exact H156 _ _ _ hX
set_option maxHeartbeats 4000000 in
set_option maxRecDepth 100000 in
theorem wX9_goOn_L156 {Γ : ZG} {p : Program} {l : Launch} {e : Env} {s : State} {m : MethodId} {args : Array Value} {below : List Frame} {meth : Method} {c : Code} (hO : z_OK Γ) (G : z_GG Γ p s m args meth c cX9_goOn 3 RX9) (hr : meth.sig.returnType = none) (hnm : meth.name = "goOn") {r : ZH} : ∀ (nn : Nat) (l0 : Nat) (l2 : Int32) (h : ZH), xX9_goOn_L156  nn l0 l2 h = some r → z_W Γ p l e rmX9_goOn s m args below meth c 3 0 0 (MQ below (z_Qc Γ none r) args s rmX9_goOn.cells rmX9_goOn.slots (z_A Γ)) 156 [(0, .ref l0), (2, .int l2)] [] h := by
  intro nn
  induction nn with
  | zero => intro l0 l2 h hX; cases hX
  | succ nn ih => intro l0 l2 h hX; exact wX9_goOn_B156 hO G hr hnm  ih l0 l2 h hX
noncomputable def xX9_goOn_B119 (r119 : Nat → ZH → Option ZH) (l0 : Nat) (h : ZH) : Option ZH := ((z_gI h l0 9 7).bind fun x121 => (z_gu (z_is h l0 9) ((xX9_sign l0 x121 h).bind fun r124 => ((xX9_isLetter r124.1 r124.2).bind fun r127 => (if r127.1 = 0 then ((z_sF r127.2 l0 9 10 (.long (0 : Int64))).bind fun h148 => ((z_gI h148 l0 9 6).bind fun x152 => xX9_goOn_L156 zFU l0 x152 h148)) else ((z_gI r127.2 l0 9 7).bind fun x135 => ((z_sF r127.2 l0 9 7 (.int (x135 + (1 : Int32)))).bind fun h140 => r119 l0 h140)))))))
noncomputable def xX9_goOn_L119 (n : Nat) : Nat → ZH → Option ZH := Nat.rec (motive := fun _ => Nat → ZH → Option ZH) (fun _ _ => none) (fun _ rec => xX9_goOn_B119  rec) n
set_option maxHeartbeats 4000000 in
set_option maxRecDepth 100000 in
theorem wX9_goOn_B119 {Γ : ZG} {p : Program} {l : Launch} {e : Env} {s : State} {m : MethodId} {args : Array Value} {below : List Frame} {meth : Method} {c : Code} (hO : z_OK Γ) (G : z_GG Γ p s m args meth c cX9_goOn 3 RX9) (hr : meth.sig.returnType = none) (hnm : meth.name = "goOn") {r : ZH} {r119 : Nat → ZH → Option ZH} (H119 : ∀ (l0 : Nat) (h : ZH), r119 l0 h = some r → z_W Γ p l e rmX9_goOn s m args below meth c 3 0 0 (MQ below (z_Qc Γ none r) args s rmX9_goOn.cells rmX9_goOn.slots (z_A Γ)) 119 [(0, .ref l0)] [] h) : ∀ (l0 : Nat) (h : ZH), xX9_goOn_B119  r119 l0 h = some r → z_W Γ p l e rmX9_goOn s m args below meth c 3 0 0 (MQ below (z_Qc Γ none r) args s rmX9_goOn.cells rmX9_goOn.slots (z_A Γ)) 119 [(0, .ref l0)] [] h := by
  intro l0 h hX
  refine z_aload_n (pc := 119) G 0 dX9_goOn_119 rfl rfl ?_
  refine z_aload_n (pc := 120) G 0 dX9_goOn_120 rfl rfl ?_
  obtain ⟨x121, hv121, hX⟩ := z_bd hX
  refine z_getI (pc := 121) G kK9 (k := 7) (by decide) kt_1233 dX9_goOn_121 hv121 ?_
  obtain ⟨hi124, hX⟩ := z_gu_s hX
  obtain ⟨r124, hv124, hX⟩ := z_bd hX
  refine z_cVI (pc := 124) (As := [.int x121]) (c2 := 0) (s2 := 0) G kK9 (lX9_sign hO hv124) hi124 kt_1422 kt_11 kt_1419 kt_1421 ks_39 ydX9_sign ⟨by decide, by decide⟩ rfl (Nat.le_of_ble_eq_true rfl) ⟨rfl, rfl⟩ ⟨by decide, by decide⟩ rfl dX9_goOn_124 ?_
  obtain ⟨r127, hv127, hX⟩ := z_bd hX
  refine z_cSI (pc := 127) (As := [.int r124.1]) (c2 := 0) (s2 := 0) G (lX9_isLetter hO hv127) kt_1425 kt_11 kt_1423 kt_1424 ydX9_isLetter ⟨by decide, by decide⟩ rfl (Nat.le_of_ble_eq_true rfl) ⟨rfl, rfl⟩ ⟨by decide, by decide⟩ rfl dX9_goOn_127 ?_
  refine z_if_eq (pc := 130) (tgt := 146) G dX9_goOn_130 (by decide) (fun hc130 => ?_) (fun hc130 => ?_)
  · have hX := z_it hc130 hX
    refine z_aload_n (pc := 146) G 0 dX9_goOn_146 rfl rfl ?_
    refine z_lconst (pc := 147) (v := 0) G dX9_goOn_147 (by decide) ?_
    obtain ⟨h148, hv148, hX⟩ := z_bd hX
    refine z_putF (pc := 148) G kK9 (k := 10) (by decide) kt_1236 (Or.inl rfl) rfl rfl dX9_goOn_148 hv148 ?_
    refine z_aload_n (pc := 151) G 0 dX9_goOn_151 rfl rfl ?_
    obtain ⟨x152, hv152, hX⟩ := z_bd hX
    refine z_getI (pc := 152) G kK9 (k := 6) (by decide) kt_1232 dX9_goOn_152 hv152 ?_
    refine z_istore_n (pc := 155) (lv2 := [(0, .ref l0), (2, .int x152)]) G dX9_goOn_155 rfl (by decide) rfl rfl ?_
    exact wX9_goOn_L156 hO G hr hnm zFU _ _ _ hX
  · have hX := z_if hc130 hX
    refine z_aload_n (pc := 133) G 0 dX9_goOn_133 rfl rfl ?_
    refine z_dup (pc := 134) G dX9_goOn_134 rfl ?_
    obtain ⟨x135, hv135, hX⟩ := z_bd hX
    refine z_getI (pc := 135) G kK9 (k := 7) (by decide) kt_1233 dX9_goOn_135 hv135 ?_
    refine z_iconst (pc := 138) (v := 1) G dX9_goOn_138 (by decide) ?_
    refine z_iadd (pc := 139) G dX9_goOn_139 ?_
    obtain ⟨h140, hv140, hX⟩ := z_bd hX
    refine z_putF (pc := 140) G kK9 (k := 7) (by decide) kt_1233 (Or.inl rfl) rfl rfl dX9_goOn_140 hv140 ?_
    refine z_goto (pc := 143) (tgt := 119) G dX9_goOn_143 (by decide) ?_
    exact H119 _ _ hX
set_option maxHeartbeats 4000000 in
set_option maxRecDepth 100000 in
theorem wX9_goOn_L119 {Γ : ZG} {p : Program} {l : Launch} {e : Env} {s : State} {m : MethodId} {args : Array Value} {below : List Frame} {meth : Method} {c : Code} (hO : z_OK Γ) (G : z_GG Γ p s m args meth c cX9_goOn 3 RX9) (hr : meth.sig.returnType = none) (hnm : meth.name = "goOn") {r : ZH} : ∀ (nn : Nat) (l0 : Nat) (h : ZH), xX9_goOn_L119  nn l0 h = some r → z_W Γ p l e rmX9_goOn s m args below meth c 3 0 0 (MQ below (z_Qc Γ none r) args s rmX9_goOn.cells rmX9_goOn.slots (z_A Γ)) 119 [(0, .ref l0)] [] h := by
  intro nn
  induction nn with
  | zero => intro l0 h hX; cases hX
  | succ nn ih => intro l0 h hX; exact wX9_goOn_B119 hO G hr hnm  ih l0 h hX
noncomputable def xX9_goOn_B322 (l0 : Nat) (h : ZH) : Option ZH := ((z_gI h l0 9 7).bind fun x324 => ((z_gI h l0 9 6).bind fun x328 => (if (4 : Int32) < (x324 - x328) then ((z_sF h l0 9 8 (.int (1 : Int32))).bind fun h355 => some h355) else ((z_gI h l0 9 7).bind fun x338 => (z_gu (z_is h l0 9) ((xX9_sign l0 x338 h).bind fun r341 => ((xX9_isLetter r341.1 r341.2).bind fun r344 => (if r344.1 = 0 then ((z_sF r344.2 l0 9 8 (.int (4 : Int32))).bind fun h355 => some h355) else ((z_sF r344.2 l0 9 8 (.int (1 : Int32))).bind fun h355 => some h355)))))))))
set_option maxHeartbeats 4000000 in
set_option maxRecDepth 100000 in
theorem wX9_goOn_B322 {Γ : ZG} {p : Program} {l : Launch} {e : Env} {s : State} {m : MethodId} {args : Array Value} {below : List Frame} {meth : Method} {c : Code} (hO : z_OK Γ) (G : z_GG Γ p s m args meth c cX9_goOn 3 RX9) (hr : meth.sig.returnType = none) (hnm : meth.name = "goOn") {r : ZH} : ∀ (l0 : Nat) (h : ZH), xX9_goOn_B322  l0 h = some r → z_W Γ p l e rmX9_goOn s m args below meth c 3 0 0 (MQ below (z_Qc Γ none r) args s rmX9_goOn.cells rmX9_goOn.slots (z_A Γ)) 322 [(0, .ref l0)] [] h := by
  intro l0 h hX
  refine z_aload_n (pc := 322) G 0 dX9_goOn_322 rfl rfl ?_
  refine z_aload_n (pc := 323) G 0 dX9_goOn_323 rfl rfl ?_
  obtain ⟨x324, hv324, hX⟩ := z_bd hX
  refine z_getI (pc := 324) G kK9 (k := 7) (by decide) kt_1233 dX9_goOn_324 hv324 ?_
  refine z_aload_n (pc := 327) G 0 dX9_goOn_327 rfl rfl ?_
  obtain ⟨x328, hv328, hX⟩ := z_bd hX
  refine z_getI (pc := 328) G kK9 (k := 6) (by decide) kt_1232 dX9_goOn_328 hv328 ?_
  refine z_isub (pc := 331) G dX9_goOn_331 ?_
  refine z_iconst (pc := 332) (v := 4) G dX9_goOn_332 (by decide) ?_
  refine z_icmp_gt (pc := 333) (tgt := 350) G dX9_goOn_333 (by decide) (fun hc333 => ?_) (fun hc333 => ?_)
  · have hX := z_it hc333 hX
    refine z_iconst (pc := 350) (v := 1) G dX9_goOn_350 (by decide) ?_
    refine z_goto (pc := 351) (tgt := 355) G dX9_goOn_351 (by decide) ?_
    obtain ⟨h355, hv355, hX⟩ := z_bd hX
    refine z_putF (pc := 355) G kK9 (k := 8) (by decide) kt_1234 (Or.inl rfl) rfl rfl dX9_goOn_355 hv355 ?_
    refine z_goto (pc := 358) (tgt := 377) G dX9_goOn_358 (by decide) ?_
    exact z_vretX (pc := 377) hX G hr dX9_goOn_377 (by decide) (by decide)
  · have hX := z_if hc333 hX
    refine z_aload_n (pc := 336) G 0 dX9_goOn_336 rfl rfl ?_
    refine z_aload_n (pc := 337) G 0 dX9_goOn_337 rfl rfl ?_
    obtain ⟨x338, hv338, hX⟩ := z_bd hX
    refine z_getI (pc := 338) G kK9 (k := 7) (by decide) kt_1233 dX9_goOn_338 hv338 ?_
    obtain ⟨hi341, hX⟩ := z_gu_s hX
    obtain ⟨r341, hv341, hX⟩ := z_bd hX
    refine z_cVI (pc := 341) (As := [.int x338]) (c2 := 0) (s2 := 0) G kK9 (lX9_sign hO hv341) hi341 kt_1422 kt_11 kt_1419 kt_1421 ks_39 ydX9_sign ⟨by decide, by decide⟩ rfl (Nat.le_of_ble_eq_true rfl) ⟨rfl, rfl⟩ ⟨by decide, by decide⟩ rfl dX9_goOn_341 ?_
    obtain ⟨r344, hv344, hX⟩ := z_bd hX
    refine z_cSI (pc := 344) (As := [.int r341.1]) (c2 := 0) (s2 := 0) G (lX9_isLetter hO hv344) kt_1425 kt_11 kt_1423 kt_1424 ydX9_isLetter ⟨by decide, by decide⟩ rfl (Nat.le_of_ble_eq_true rfl) ⟨rfl, rfl⟩ ⟨by decide, by decide⟩ rfl dX9_goOn_344 ?_
    refine z_if_eq (pc := 347) (tgt := 354) G dX9_goOn_347 (by decide) (fun hc347 => ?_) (fun hc347 => ?_)
    · have hX := z_it hc347 hX
      refine z_iconst (pc := 354) (v := 4) G dX9_goOn_354 (by decide) ?_
      obtain ⟨h355, hv355, hX⟩ := z_bd hX
      refine z_putF (pc := 355) G kK9 (k := 8) (by decide) kt_1234 (Or.inl rfl) rfl rfl dX9_goOn_355 hv355 ?_
      refine z_goto (pc := 358) (tgt := 377) G dX9_goOn_358 (by decide) ?_
      exact z_vretX (pc := 377) hX G hr dX9_goOn_377 (by decide) (by decide)
    · have hX := z_if hc347 hX
      refine z_iconst (pc := 350) (v := 1) G dX9_goOn_350 (by decide) ?_
      refine z_goto (pc := 351) (tgt := 355) G dX9_goOn_351 (by decide) ?_
      obtain ⟨h355, hv355, hX⟩ := z_bd hX
      refine z_putF (pc := 355) G kK9 (k := 8) (by decide) kt_1234 (Or.inl rfl) rfl rfl dX9_goOn_355 hv355 ?_
      refine z_goto (pc := 358) (tgt := 377) G dX9_goOn_358 (by decide) ?_
      exact z_vretX (pc := 377) hX G hr dX9_goOn_377 (by decide) (by decide)
noncomputable def xX9_goOn_B259 (r259 : Nat → ZH → Option ZH) (l0 : Nat) (h : ZH) : Option ZH := ((z_gI h l0 9 7).bind fun x261 => (z_gu (z_is h l0 9) ((xX9_sign l0 x261 h).bind fun r264 => ((xX9_isDigit r264.1 r264.2).bind fun r267 => (if r267.1 = 0 then xX9_goOn_B322 l0 r267.2 else ((z_gI r267.2 l0 9 7).bind fun x274 => ((z_gI r267.2 l0 9 6).bind fun x278 => (if (4 : Int32) ≤ (x274 - x278) then ((z_gI r267.2 l0 9 7).bind fun x311 => ((z_sF r267.2 l0 9 7 (.int (x311 + (1 : Int32)))).bind fun h316 => r259 l0 h316)) else ((z_gI r267.2 l0 9 9).bind fun x290 => ((z_gI r267.2 l0 9 7).bind fun x296 => (z_gu (z_is r267.2 l0 9) ((xX9_sign l0 x296 r267.2).bind fun r299 => ((z_sF r299.2 l0 9 9 (.int ((((10 : Int32) * x290) + r299.1) - (48 : Int32)))).bind fun h306 => ((z_gI h306 l0 9 7).bind fun x311 => ((z_sF h306 l0 9 7 (.int (x311 + (1 : Int32)))).bind fun h316 => r259 l0 h316)))))))))))))))
noncomputable def xX9_goOn_L259 (n : Nat) : Nat → ZH → Option ZH := Nat.rec (motive := fun _ => Nat → ZH → Option ZH) (fun _ _ => none) (fun _ rec => xX9_goOn_B259  rec) n
set_option maxHeartbeats 4000000 in
set_option maxRecDepth 100000 in
theorem wX9_goOn_B259 {Γ : ZG} {p : Program} {l : Launch} {e : Env} {s : State} {m : MethodId} {args : Array Value} {below : List Frame} {meth : Method} {c : Code} (hO : z_OK Γ) (G : z_GG Γ p s m args meth c cX9_goOn 3 RX9) (hr : meth.sig.returnType = none) (hnm : meth.name = "goOn") {r : ZH} {r259 : Nat → ZH → Option ZH} (H259 : ∀ (l0 : Nat) (h : ZH), r259 l0 h = some r → z_W Γ p l e rmX9_goOn s m args below meth c 3 0 0 (MQ below (z_Qc Γ none r) args s rmX9_goOn.cells rmX9_goOn.slots (z_A Γ)) 259 [(0, .ref l0)] [] h) : ∀ (l0 : Nat) (h : ZH), xX9_goOn_B259  r259 l0 h = some r → z_W Γ p l e rmX9_goOn s m args below meth c 3 0 0 (MQ below (z_Qc Γ none r) args s rmX9_goOn.cells rmX9_goOn.slots (z_A Γ)) 259 [(0, .ref l0)] [] h := by
  intro l0 h hX
  refine z_aload_n (pc := 259) G 0 dX9_goOn_259 rfl rfl ?_
  refine z_aload_n (pc := 260) G 0 dX9_goOn_260 rfl rfl ?_
  obtain ⟨x261, hv261, hX⟩ := z_bd hX
  refine z_getI (pc := 261) G kK9 (k := 7) (by decide) kt_1233 dX9_goOn_261 hv261 ?_
  obtain ⟨hi264, hX⟩ := z_gu_s hX
  obtain ⟨r264, hv264, hX⟩ := z_bd hX
  refine z_cVI (pc := 264) (As := [.int x261]) (c2 := 0) (s2 := 0) G kK9 (lX9_sign hO hv264) hi264 kt_1422 kt_11 kt_1419 kt_1421 ks_39 ydX9_sign ⟨by decide, by decide⟩ rfl (Nat.le_of_ble_eq_true rfl) ⟨rfl, rfl⟩ ⟨by decide, by decide⟩ rfl dX9_goOn_264 ?_
  obtain ⟨r267, hv267, hX⟩ := z_bd hX
  refine z_cSI (pc := 267) (As := [.int r264.1]) (c2 := 0) (s2 := 0) G (lX9_isDigit hO hv267) kt_1450 kt_11 kt_1448 kt_1449 ydX9_isDigit ⟨by decide, by decide⟩ rfl (Nat.le_of_ble_eq_true rfl) ⟨rfl, rfl⟩ ⟨by decide, by decide⟩ rfl dX9_goOn_267 ?_
  refine z_if_eq (pc := 270) (tgt := 322) G dX9_goOn_270 (by decide) (fun hc270 => ?_) (fun hc270 => ?_)
  · have hX := z_it hc270 hX
    exact wX9_goOn_B322 hO G hr hnm _ _ hX
  · have hX := z_if hc270 hX
    refine z_aload_n (pc := 273) G 0 dX9_goOn_273 rfl rfl ?_
    obtain ⟨x274, hv274, hX⟩ := z_bd hX
    refine z_getI (pc := 274) G kK9 (k := 7) (by decide) kt_1233 dX9_goOn_274 hv274 ?_
    refine z_aload_n (pc := 277) G 0 dX9_goOn_277 rfl rfl ?_
    obtain ⟨x278, hv278, hX⟩ := z_bd hX
    refine z_getI (pc := 278) G kK9 (k := 6) (by decide) kt_1232 dX9_goOn_278 hv278 ?_
    refine z_isub (pc := 281) G dX9_goOn_281 ?_
    refine z_iconst (pc := 282) (v := 4) G dX9_goOn_282 (by decide) ?_
    refine z_icmp_ge (pc := 283) (tgt := 309) G dX9_goOn_283 (by decide) (fun hc283 => ?_) (fun hc283 => ?_)
    · have hX := z_it hc283 hX
      refine z_aload_n (pc := 309) G 0 dX9_goOn_309 rfl rfl ?_
      refine z_dup (pc := 310) G dX9_goOn_310 rfl ?_
      obtain ⟨x311, hv311, hX⟩ := z_bd hX
      refine z_getI (pc := 311) G kK9 (k := 7) (by decide) kt_1233 dX9_goOn_311 hv311 ?_
      refine z_iconst (pc := 314) (v := 1) G dX9_goOn_314 (by decide) ?_
      refine z_iadd (pc := 315) G dX9_goOn_315 ?_
      obtain ⟨h316, hv316, hX⟩ := z_bd hX
      refine z_putF (pc := 316) G kK9 (k := 7) (by decide) kt_1233 (Or.inl rfl) rfl rfl dX9_goOn_316 hv316 ?_
      refine z_goto (pc := 319) (tgt := 259) G dX9_goOn_319 (by decide) ?_
      exact H259 _ _ hX
    · have hX := z_if hc283 hX
      refine z_aload_n (pc := 286) G 0 dX9_goOn_286 rfl rfl ?_
      refine z_bipush (pc := 287) (v := 10) G dX9_goOn_287 (by decide) ?_
      refine z_aload_n (pc := 289) G 0 dX9_goOn_289 rfl rfl ?_
      obtain ⟨x290, hv290, hX⟩ := z_bd hX
      refine z_getI (pc := 290) G kK9 (k := 9) (by decide) kt_1235 dX9_goOn_290 hv290 ?_
      refine z_imul (pc := 293) G dX9_goOn_293 ?_
      refine z_aload_n (pc := 294) G 0 dX9_goOn_294 rfl rfl ?_
      refine z_aload_n (pc := 295) G 0 dX9_goOn_295 rfl rfl ?_
      obtain ⟨x296, hv296, hX⟩ := z_bd hX
      refine z_getI (pc := 296) G kK9 (k := 7) (by decide) kt_1233 dX9_goOn_296 hv296 ?_
      obtain ⟨hi299, hX⟩ := z_gu_s hX
      obtain ⟨r299, hv299, hX⟩ := z_bd hX
      refine z_cVI (pc := 299) (As := [.int x296]) (c2 := 0) (s2 := 0) G kK9 (lX9_sign hO hv299) hi299 kt_1422 kt_11 kt_1419 kt_1421 ks_39 ydX9_sign ⟨by decide, by decide⟩ rfl (Nat.le_of_ble_eq_true rfl) ⟨rfl, rfl⟩ ⟨by decide, by decide⟩ rfl dX9_goOn_299 ?_
      refine z_iadd (pc := 302) G dX9_goOn_302 ?_
      refine z_bipush (pc := 303) (v := 48) G dX9_goOn_303 (by decide) ?_
      refine z_isub (pc := 305) G dX9_goOn_305 ?_
      obtain ⟨h306, hv306, hX⟩ := z_bd hX
      refine z_putF (pc := 306) G kK9 (k := 9) (by decide) kt_1235 (Or.inl rfl) rfl rfl dX9_goOn_306 hv306 ?_
      refine z_aload_n (pc := 309) G 0 dX9_goOn_309 rfl rfl ?_
      refine z_dup (pc := 310) G dX9_goOn_310 rfl ?_
      obtain ⟨x311, hv311, hX⟩ := z_bd hX
      refine z_getI (pc := 311) G kK9 (k := 7) (by decide) kt_1233 dX9_goOn_311 hv311 ?_
      refine z_iconst (pc := 314) (v := 1) G dX9_goOn_314 (by decide) ?_
      refine z_iadd (pc := 315) G dX9_goOn_315 ?_
      obtain ⟨h316, hv316, hX⟩ := z_bd hX
      refine z_putF (pc := 316) G kK9 (k := 7) (by decide) kt_1233 (Or.inl rfl) rfl rfl dX9_goOn_316 hv316 ?_
      refine z_goto (pc := 319) (tgt := 259) G dX9_goOn_319 (by decide) ?_
      exact H259 _ _ hX
set_option maxHeartbeats 4000000 in
set_option maxRecDepth 100000 in
theorem wX9_goOn_L259 {Γ : ZG} {p : Program} {l : Launch} {e : Env} {s : State} {m : MethodId} {args : Array Value} {below : List Frame} {meth : Method} {c : Code} (hO : z_OK Γ) (G : z_GG Γ p s m args meth c cX9_goOn 3 RX9) (hr : meth.sig.returnType = none) (hnm : meth.name = "goOn") {r : ZH} : ∀ (nn : Nat) (l0 : Nat) (h : ZH), xX9_goOn_L259  nn l0 h = some r → z_W Γ p l e rmX9_goOn s m args below meth c 3 0 0 (MQ below (z_Qc Γ none r) args s rmX9_goOn.cells rmX9_goOn.slots (z_A Γ)) 259 [(0, .ref l0)] [] h := by
  intro nn
  induction nn with
  | zero => intro l0 h hX; cases hX
  | succ nn ih => intro l0 h hX; exact wX9_goOn_B259 hO G hr hnm  ih l0 h hX
noncomputable def xX9_goOn_B58 (l0 : Nat) (h : ZH) : Option ZH := ((z_gI h l0 9 6).bind fun x60 => (z_gu (z_is h l0 9) ((xX9_sign l0 x60 h).bind fun r63 => ((z_gI r63.2 l0 9 6).bind fun x69 => ((z_sF r63.2 l0 9 7 (.int (x69 + (1 : Int32)))).bind fun h74 => ((z_gI h74 l0 9 6).bind fun x78 => ((z_gI h74 l0 9 3).bind fun x82 => (if x78 < x82 then ((xX9_isLetter r63.1 h74).bind fun r113 => (if r113.1 = 0 then ((xX9_isDigit r63.1 r113.2).bind fun r240 => (if r240.1 = 0 then ((xX9_isSign r63.1 r240.2).bind fun r363 => (if r363.1 = 0 then ((z_sF r363.2 l0 9 8 (.int (1 : Int32))).bind fun h374 => some h374) else ((z_sF r363.2 l0 9 8 (.int (5 : Int32))).bind fun h374 => some h374))) else ((z_sF r240.2 l0 9 9 (.int (0 : Int32))).bind fun h248 => ((z_gI h248 l0 9 6).bind fun x253 => ((z_sF h248 l0 9 7 (.int x253)).bind fun h256 => xX9_goOn_L259 zFU l0 h256))))) else xX9_goOn_L119 zFU l0 r113.2)) else ((z_sF h74 l0 9 8 (.int (0 : Int32))).bind fun h90 => ((z_gI h90 l0 9 3).bind fun x95 => ((z_sF h90 l0 9 6 (.int x95)).bind fun h98 => ((z_gI h98 l0 9 3).bind fun x103 => ((z_sF h98 l0 9 7 (.int x103)).bind fun h106 => some h106)))))))))))))
set_option maxHeartbeats 4000000 in
set_option maxRecDepth 100000 in
theorem wX9_goOn_B58 {Γ : ZG} {p : Program} {l : Launch} {e : Env} {s : State} {m : MethodId} {args : Array Value} {below : List Frame} {meth : Method} {c : Code} (hO : z_OK Γ) (G : z_GG Γ p s m args meth c cX9_goOn 3 RX9) (hr : meth.sig.returnType = none) (hnm : meth.name = "goOn") {r : ZH} : ∀ (l0 : Nat) (h : ZH), xX9_goOn_B58  l0 h = some r → z_W Γ p l e rmX9_goOn s m args below meth c 3 0 0 (MQ below (z_Qc Γ none r) args s rmX9_goOn.cells rmX9_goOn.slots (z_A Γ)) 58 [(0, .ref l0)] [] h := by
  intro l0 h hX
  refine z_aload_n (pc := 58) G 0 dX9_goOn_58 rfl rfl ?_
  refine z_aload_n (pc := 59) G 0 dX9_goOn_59 rfl rfl ?_
  obtain ⟨x60, hv60, hX⟩ := z_bd hX
  refine z_getI (pc := 60) G kK9 (k := 6) (by decide) kt_1232 dX9_goOn_60 hv60 ?_
  obtain ⟨hi63, hX⟩ := z_gu_s hX
  obtain ⟨r63, hv63, hX⟩ := z_bd hX
  refine z_cVI (pc := 63) (As := [.int x60]) (c2 := 0) (s2 := 0) G kK9 (lX9_sign hO hv63) hi63 kt_1422 kt_11 kt_1419 kt_1421 ks_39 ydX9_sign ⟨by decide, by decide⟩ rfl (Nat.le_of_ble_eq_true rfl) ⟨rfl, rfl⟩ ⟨by decide, by decide⟩ rfl dX9_goOn_63 ?_
  refine z_istore_n (pc := 66) (lv2 := [(0, .ref l0), (1, .int r63.1)]) G dX9_goOn_66 rfl (by decide) rfl rfl ?_
  refine z_aload_n (pc := 67) G 0 dX9_goOn_67 rfl rfl ?_
  refine z_aload_n (pc := 68) G 0 dX9_goOn_68 rfl rfl ?_
  obtain ⟨x69, hv69, hX⟩ := z_bd hX
  refine z_getI (pc := 69) G kK9 (k := 6) (by decide) kt_1232 dX9_goOn_69 hv69 ?_
  refine z_iconst (pc := 72) (v := 1) G dX9_goOn_72 (by decide) ?_
  refine z_iadd (pc := 73) G dX9_goOn_73 ?_
  obtain ⟨h74, hv74, hX⟩ := z_bd hX
  refine z_putF (pc := 74) G kK9 (k := 7) (by decide) kt_1233 (Or.inl rfl) rfl rfl dX9_goOn_74 hv74 ?_
  refine z_aload_n (pc := 77) G 0 dX9_goOn_77 rfl rfl ?_
  obtain ⟨x78, hv78, hX⟩ := z_bd hX
  refine z_getI (pc := 78) G kK9 (k := 6) (by decide) kt_1232 dX9_goOn_78 hv78 ?_
  refine z_aload_n (pc := 81) G 0 dX9_goOn_81 rfl rfl ?_
  obtain ⟨x82, hv82, hX⟩ := z_bd hX
  refine z_getI (pc := 82) G kK9 (k := 3) (by decide) kt_1229 dX9_goOn_82 hv82 ?_
  refine z_icmp_lt (pc := 85) (tgt := 112) G dX9_goOn_85 (by decide) (fun hc85 => ?_) (fun hc85 => ?_)
  · have hX := z_it hc85 hX
    refine z_iload_n (pc := 112) G 1 dX9_goOn_112 rfl rfl ?_
    obtain ⟨r113, hv113, hX⟩ := z_bd hX
    refine z_cSI (pc := 113) (As := [.int r63.1]) (c2 := 0) (s2 := 0) G (lX9_isLetter hO hv113) kt_1425 kt_11 kt_1423 kt_1424 ydX9_isLetter ⟨by decide, by decide⟩ rfl (Nat.le_of_ble_eq_true rfl) ⟨rfl, rfl⟩ ⟨by decide, by decide⟩ rfl dX9_goOn_113 ?_
    refine z_if_eq (pc := 116) (tgt := 239) G dX9_goOn_116 (by decide) (fun hc116 => ?_) (fun hc116 => ?_)
    · have hX := z_it hc116 hX
      refine z_iload_n (pc := 239) G 1 dX9_goOn_239 rfl rfl ?_
      obtain ⟨r240, hv240, hX⟩ := z_bd hX
      refine z_cSI (pc := 240) (As := [.int r63.1]) (c2 := 0) (s2 := 0) G (lX9_isDigit hO hv240) kt_1450 kt_11 kt_1448 kt_1449 ydX9_isDigit ⟨by decide, by decide⟩ rfl (Nat.le_of_ble_eq_true rfl) ⟨rfl, rfl⟩ ⟨by decide, by decide⟩ rfl dX9_goOn_240 ?_
      refine z_if_eq (pc := 243) (tgt := 361) G dX9_goOn_243 (by decide) (fun hc243 => ?_) (fun hc243 => ?_)
      · have hX := z_it hc243 hX
        refine z_aload_n (pc := 361) G 0 dX9_goOn_361 rfl rfl ?_
        refine z_iload_n (pc := 362) G 1 dX9_goOn_362 rfl rfl ?_
        obtain ⟨r363, hv363, hX⟩ := z_bd hX
        refine z_cSI (pc := 363) (As := [.int r63.1]) (c2 := 0) (s2 := 0) G (lX9_isSign hO hv363) kt_1453 kt_11 kt_1451 kt_1452 ydX9_isSign ⟨by decide, by decide⟩ rfl (Nat.le_of_ble_eq_true rfl) ⟨rfl, rfl⟩ ⟨by decide, by decide⟩ rfl dX9_goOn_363 ?_
        refine z_if_eq (pc := 366) (tgt := 373) G dX9_goOn_366 (by decide) (fun hc366 => ?_) (fun hc366 => ?_)
        · have hX := z_it hc366 hX
          refine z_iconst (pc := 373) (v := 1) G dX9_goOn_373 (by decide) ?_
          obtain ⟨h374, hv374, hX⟩ := z_bd hX
          refine z_putF (pc := 374) G kK9 (k := 8) (by decide) kt_1234 (Or.inl rfl) rfl rfl dX9_goOn_374 hv374 ?_
          exact z_vretX (pc := 377) hX G hr dX9_goOn_377 (by decide) (by decide)
        · have hX := z_if hc366 hX
          refine z_iconst (pc := 369) (v := 5) G dX9_goOn_369 (by decide) ?_
          refine z_goto (pc := 370) (tgt := 374) G dX9_goOn_370 (by decide) ?_
          obtain ⟨h374, hv374, hX⟩ := z_bd hX
          refine z_putF (pc := 374) G kK9 (k := 8) (by decide) kt_1234 (Or.inl rfl) rfl rfl dX9_goOn_374 hv374 ?_
          exact z_vretX (pc := 377) hX G hr dX9_goOn_377 (by decide) (by decide)
      · have hX := z_if hc243 hX
        refine z_aload_n (pc := 246) G 0 dX9_goOn_246 rfl rfl ?_
        refine z_iconst (pc := 247) (v := 0) G dX9_goOn_247 (by decide) ?_
        obtain ⟨h248, hv248, hX⟩ := z_bd hX
        refine z_putF (pc := 248) G kK9 (k := 9) (by decide) kt_1235 (Or.inl rfl) rfl rfl dX9_goOn_248 hv248 ?_
        refine z_aload_n (pc := 251) G 0 dX9_goOn_251 rfl rfl ?_
        refine z_aload_n (pc := 252) G 0 dX9_goOn_252 rfl rfl ?_
        obtain ⟨x253, hv253, hX⟩ := z_bd hX
        refine z_getI (pc := 253) G kK9 (k := 6) (by decide) kt_1232 dX9_goOn_253 hv253 ?_
        obtain ⟨h256, hv256, hX⟩ := z_bd hX
        refine z_putF (pc := 256) G kK9 (k := 7) (by decide) kt_1233 (Or.inl rfl) rfl rfl dX9_goOn_256 hv256 ?_
        refine z_drop (lv2 := [(0, .ref l0)]) [0] rfl ?_
        exact wX9_goOn_L259 hO G hr hnm zFU _ _ hX
    · have hX := z_if hc116 hX
      refine z_drop (lv2 := [(0, .ref l0)]) [0] rfl ?_
      exact wX9_goOn_L119 hO G hr hnm zFU _ _ hX
  · have hX := z_if hc85 hX
    refine z_aload_n (pc := 88) G 0 dX9_goOn_88 rfl rfl ?_
    refine z_iconst (pc := 89) (v := 0) G dX9_goOn_89 (by decide) ?_
    obtain ⟨h90, hv90, hX⟩ := z_bd hX
    refine z_putF (pc := 90) G kK9 (k := 8) (by decide) kt_1234 (Or.inl rfl) rfl rfl dX9_goOn_90 hv90 ?_
    refine z_aload_n (pc := 93) G 0 dX9_goOn_93 rfl rfl ?_
    refine z_aload_n (pc := 94) G 0 dX9_goOn_94 rfl rfl ?_
    obtain ⟨x95, hv95, hX⟩ := z_bd hX
    refine z_getI (pc := 95) G kK9 (k := 3) (by decide) kt_1229 dX9_goOn_95 hv95 ?_
    obtain ⟨h98, hv98, hX⟩ := z_bd hX
    refine z_putF (pc := 98) G kK9 (k := 6) (by decide) kt_1232 (Or.inl rfl) rfl rfl dX9_goOn_98 hv98 ?_
    refine z_aload_n (pc := 101) G 0 dX9_goOn_101 rfl rfl ?_
    refine z_aload_n (pc := 102) G 0 dX9_goOn_102 rfl rfl ?_
    obtain ⟨x103, hv103, hX⟩ := z_bd hX
    refine z_getI (pc := 103) G kK9 (k := 3) (by decide) kt_1229 dX9_goOn_103 hv103 ?_
    obtain ⟨h106, hv106, hX⟩ := z_bd hX
    refine z_putF (pc := 106) G kK9 (k := 7) (by decide) kt_1233 (Or.inl rfl) rfl rfl dX9_goOn_106 hv106 ?_
    refine z_goto (pc := 109) (tgt := 377) G dX9_goOn_109 (by decide) ?_
    exact z_vretX (pc := 377) hX G hr dX9_goOn_377 (by decide) (by decide)
noncomputable def xX9_goOn_B8 (r8 : Nat → ZH → Option ZH) (l0 : Nat) (h : ZH) : Option ZH := ((z_gI h l0 9 6).bind fun x9 => ((z_gI h l0 9 3).bind fun x13 => (if x13 ≤ x9 then xX9_goOn_B58 l0 h else ((z_gI h l0 9 6).bind fun x21 => (z_gu (z_is h l0 9) ((xX9_sign l0 x21 h).bind fun r24 => (if r24.1 = (32 : Int32) then ((z_gI r24.2 l0 9 6).bind fun x47 => ((z_sF r24.2 l0 9 6 (.int (x47 + (1 : Int32)))).bind fun h52 => r8 l0 h52)) else ((z_gI r24.2 l0 9 6).bind fun x34 => (z_gu (z_is r24.2 l0 9) ((xX9_sign l0 x34 r24.2).bind fun r37 => (if r37.1 = (10 : Int32) then ((z_gI r37.2 l0 9 6).bind fun x47 => ((z_sF r37.2 l0 9 6 (.int (x47 + (1 : Int32)))).bind fun h52 => r8 l0 h52)) else xX9_goOn_B58 l0 r37.2)))))))))))
noncomputable def xX9_goOn_L8 (n : Nat) : Nat → ZH → Option ZH := Nat.rec (motive := fun _ => Nat → ZH → Option ZH) (fun _ _ => none) (fun _ rec => xX9_goOn_B8  rec) n
set_option maxHeartbeats 4000000 in
set_option maxRecDepth 100000 in
theorem wX9_goOn_B8 {Γ : ZG} {p : Program} {l : Launch} {e : Env} {s : State} {m : MethodId} {args : Array Value} {below : List Frame} {meth : Method} {c : Code} (hO : z_OK Γ) (G : z_GG Γ p s m args meth c cX9_goOn 3 RX9) (hr : meth.sig.returnType = none) (hnm : meth.name = "goOn") {r : ZH} {r8 : Nat → ZH → Option ZH} (H8 : ∀ (l0 : Nat) (h : ZH), r8 l0 h = some r → z_W Γ p l e rmX9_goOn s m args below meth c 3 0 0 (MQ below (z_Qc Γ none r) args s rmX9_goOn.cells rmX9_goOn.slots (z_A Γ)) 8 [(0, .ref l0)] [] h) : ∀ (l0 : Nat) (h : ZH), xX9_goOn_B8  r8 l0 h = some r → z_W Γ p l e rmX9_goOn s m args below meth c 3 0 0 (MQ below (z_Qc Γ none r) args s rmX9_goOn.cells rmX9_goOn.slots (z_A Γ)) 8 [(0, .ref l0)] [] h := by
  intro l0 h hX
  refine z_aload_n (pc := 8) G 0 dX9_goOn_8 rfl rfl ?_
  obtain ⟨x9, hv9, hX⟩ := z_bd hX
  refine z_getI (pc := 9) G kK9 (k := 6) (by decide) kt_1232 dX9_goOn_9 hv9 ?_
  refine z_aload_n (pc := 12) G 0 dX9_goOn_12 rfl rfl ?_
  obtain ⟨x13, hv13, hX⟩ := z_bd hX
  refine z_getI (pc := 13) G kK9 (k := 3) (by decide) kt_1229 dX9_goOn_13 hv13 ?_
  refine z_icmp_ge (pc := 16) (tgt := 58) G dX9_goOn_16 (by decide) (fun hc16 => ?_) (fun hc16 => ?_)
  · have hX := z_it hc16 hX
    exact wX9_goOn_B58 hO G hr hnm _ _ hX
  · have hX := z_if hc16 hX
    refine z_aload_n (pc := 19) G 0 dX9_goOn_19 rfl rfl ?_
    refine z_aload_n (pc := 20) G 0 dX9_goOn_20 rfl rfl ?_
    obtain ⟨x21, hv21, hX⟩ := z_bd hX
    refine z_getI (pc := 21) G kK9 (k := 6) (by decide) kt_1232 dX9_goOn_21 hv21 ?_
    obtain ⟨hi24, hX⟩ := z_gu_s hX
    obtain ⟨r24, hv24, hX⟩ := z_bd hX
    refine z_cVI (pc := 24) (As := [.int x21]) (c2 := 0) (s2 := 0) G kK9 (lX9_sign hO hv24) hi24 kt_1422 kt_11 kt_1419 kt_1421 ks_39 ydX9_sign ⟨by decide, by decide⟩ rfl (Nat.le_of_ble_eq_true rfl) ⟨rfl, rfl⟩ ⟨by decide, by decide⟩ rfl dX9_goOn_24 ?_
    refine z_bipush (pc := 27) (v := 32) G dX9_goOn_27 (by decide) ?_
    refine z_icmp_eq (pc := 29) (tgt := 45) G dX9_goOn_29 (by decide) (fun hc29 => ?_) (fun hc29 => ?_)
    · have hX := z_it hc29 hX
      refine z_aload_n (pc := 45) G 0 dX9_goOn_45 rfl rfl ?_
      refine z_dup (pc := 46) G dX9_goOn_46 rfl ?_
      obtain ⟨x47, hv47, hX⟩ := z_bd hX
      refine z_getI (pc := 47) G kK9 (k := 6) (by decide) kt_1232 dX9_goOn_47 hv47 ?_
      refine z_iconst (pc := 50) (v := 1) G dX9_goOn_50 (by decide) ?_
      refine z_iadd (pc := 51) G dX9_goOn_51 ?_
      obtain ⟨h52, hv52, hX⟩ := z_bd hX
      refine z_putF (pc := 52) G kK9 (k := 6) (by decide) kt_1232 (Or.inl rfl) rfl rfl dX9_goOn_52 hv52 ?_
      refine z_goto (pc := 55) (tgt := 8) G dX9_goOn_55 (by decide) ?_
      exact H8 _ _ hX
    · have hX := z_if hc29 hX
      refine z_aload_n (pc := 32) G 0 dX9_goOn_32 rfl rfl ?_
      refine z_aload_n (pc := 33) G 0 dX9_goOn_33 rfl rfl ?_
      obtain ⟨x34, hv34, hX⟩ := z_bd hX
      refine z_getI (pc := 34) G kK9 (k := 6) (by decide) kt_1232 dX9_goOn_34 hv34 ?_
      obtain ⟨hi37, hX⟩ := z_gu_s hX
      obtain ⟨r37, hv37, hX⟩ := z_bd hX
      refine z_cVI (pc := 37) (As := [.int x34]) (c2 := 0) (s2 := 0) G kK9 (lX9_sign hO hv37) hi37 kt_1422 kt_11 kt_1419 kt_1421 ks_39 ydX9_sign ⟨by decide, by decide⟩ rfl (Nat.le_of_ble_eq_true rfl) ⟨rfl, rfl⟩ ⟨by decide, by decide⟩ rfl dX9_goOn_37 ?_
      refine z_bipush (pc := 40) (v := 10) G dX9_goOn_40 (by decide) ?_
      refine z_icmp_ne (pc := 42) (tgt := 58) G dX9_goOn_42 (by decide) (fun hc42 => ?_) (fun hc42 => ?_)
      · have hX := z_if hc42 hX
        exact wX9_goOn_B58 hO G hr hnm _ _ hX
      · have hX := z_it hc42 hX
        refine z_aload_n (pc := 45) G 0 dX9_goOn_45 rfl rfl ?_
        refine z_dup (pc := 46) G dX9_goOn_46 rfl ?_
        obtain ⟨x47, hv47, hX⟩ := z_bd hX
        refine z_getI (pc := 47) G kK9 (k := 6) (by decide) kt_1232 dX9_goOn_47 hv47 ?_
        refine z_iconst (pc := 50) (v := 1) G dX9_goOn_50 (by decide) ?_
        refine z_iadd (pc := 51) G dX9_goOn_51 ?_
        obtain ⟨h52, hv52, hX⟩ := z_bd hX
        refine z_putF (pc := 52) G kK9 (k := 6) (by decide) kt_1232 (Or.inl rfl) rfl rfl dX9_goOn_52 hv52 ?_
        refine z_goto (pc := 55) (tgt := 8) G dX9_goOn_55 (by decide) ?_
        exact H8 _ _ hX
set_option maxHeartbeats 4000000 in
set_option maxRecDepth 100000 in
theorem wX9_goOn_L8 {Γ : ZG} {p : Program} {l : Launch} {e : Env} {s : State} {m : MethodId} {args : Array Value} {below : List Frame} {meth : Method} {c : Code} (hO : z_OK Γ) (G : z_GG Γ p s m args meth c cX9_goOn 3 RX9) (hr : meth.sig.returnType = none) (hnm : meth.name = "goOn") {r : ZH} : ∀ (nn : Nat) (l0 : Nat) (h : ZH), xX9_goOn_L8  nn l0 h = some r → z_W Γ p l e rmX9_goOn s m args below meth c 3 0 0 (MQ below (z_Qc Γ none r) args s rmX9_goOn.cells rmX9_goOn.slots (z_A Γ)) 8 [(0, .ref l0)] [] h := by
  intro nn
  induction nn with
  | zero => intro l0 h hX; cases hX
  | succ nn ih => intro l0 h hX; exact wX9_goOn_B8 hO G hr hnm  ih l0 h hX
noncomputable def xX9_goOn (l0 : Nat) (h : ZH) : Option ZH := ((z_gI h l0 9 7).bind fun x2 => ((z_sF h l0 9 6 (.int x2)).bind fun h5 => xX9_goOn_L8 zFU l0 h5))
set_option maxHeartbeats 4000000 in
set_option maxRecDepth 100000 in
theorem lX9_goOn {Γ : ZG} {l : Launch} (hO : z_OK Γ) {l0 : Nat} {h : ZH} {r : ZH} (hX : xX9_goOn l0 h = some r) : z_M Γ l yX9_goOn (z_ws1 yX9_goOn cX9_goOn 3 none) rmX9_goOn [.ref l0] h none r := by
  refine z_start hO (plainFor_of_name (by decide)) (Nat.le_of_ble_eq_true rfl) ?_
  intro p e s m args below meth c G hr hnm
  refine z_lvc (lv2 := [(0, .ref l0)]) rfl ?_
  refine z_aload_n (pc := 0) G 0 dX9_goOn_0 rfl rfl ?_
  refine z_aload_n (pc := 1) G 0 dX9_goOn_1 rfl rfl ?_
  obtain ⟨x2, hv2, hX⟩ := z_bd hX
  refine z_getI (pc := 2) G kK9 (k := 7) (by decide) kt_1233 dX9_goOn_2 hv2 ?_
  obtain ⟨h5, hv5, hX⟩ := z_bd hX
  refine z_putF (pc := 5) G kK9 (k := 6) (by decide) kt_1232 (Or.inl rfl) rfl rfl dX9_goOn_5 hv5 ?_
  exact wX9_goOn_L8 hO G hr hnm zFU _ _ hX
theorem dX9_isSignHere_0 : decode cX9_isSignHere 0 = .ok (.aload_n 0, 1) := by decide +kernel
theorem dX9_isSignHere_1 : decode cX9_isSignHere 1 = .ok (.getfield 197, 3) := by decide +kernel
theorem dX9_isSignHere_4 : decode cX9_isSignHere 4 = .ok (.iconst 5, 1) := by decide +kernel
theorem dX9_isSignHere_5 : decode cX9_isSignHere 5 = .ok (.if_icmp .ne 19, 3) := by decide +kernel
theorem dX9_isSignHere_8 : decode cX9_isSignHere 8 = .ok (.aload_n 0, 1) := by decide +kernel
theorem dX9_isSignHere_9 : decode cX9_isSignHere 9 = .ok (.aload_n 0, 1) := by decide +kernel
theorem dX9_isSignHere_10 : decode cX9_isSignHere 10 = .ok (.getfield 190, 3) := by decide +kernel
theorem dX9_isSignHere_13 : decode cX9_isSignHere 13 = .ok (.invokevirtual 193, 3) := by decide +kernel
theorem dX9_isSignHere_16 : decode cX9_isSignHere 16 = .ok (.iload_n 1, 1) := by decide +kernel
theorem dX9_isSignHere_17 : decode cX9_isSignHere 17 = .ok (.if_icmp .ne 7, 3) := by decide +kernel
theorem dX9_isSignHere_20 : decode cX9_isSignHere 20 = .ok (.iconst 1, 1) := by decide +kernel
theorem dX9_isSignHere_21 : decode cX9_isSignHere 21 = .ok (.goto 4, 3) := by decide +kernel
theorem dX9_isSignHere_24 : decode cX9_isSignHere 24 = .ok (.iconst 0, 1) := by decide +kernel
theorem dX9_isSignHere_25 : decode cX9_isSignHere 25 = .ok (.ireturn, 1) := by decide +kernel
theorem ydX9_isSignHere : z_yd yX9_isSignHere 1 := ⟨by decide, by decide, by decide +kernel⟩
abbrev rmX9_isSignHere : Room := { frames := 1, cells := 0, slots := 0, locals := 21 }
noncomputable def xX9_isSignHere (l0 : Nat) (l1 : Int32) (h : ZH) : Option (Int32 × ZH) := ((z_gI h l0 9 8).bind fun x1 => (if x1 = (5 : Int32) then ((z_gI h l0 9 6).bind fun x10 => (z_gu (z_is h l0 9) ((xX9_sign l0 x10 h).bind fun r13 => (if r13.1 = l1 then some ((1 : Int32), r13.2) else some ((0 : Int32), r13.2))))) else some ((0 : Int32), h)))
set_option maxHeartbeats 4000000 in
set_option maxRecDepth 100000 in
theorem lX9_isSignHere {Γ : ZG} {l : Launch} (hO : z_OK Γ) {l0 : Nat} {l1 : Int32} {h : ZH} {r : (Int32 × ZH)} (hX : xX9_isSignHere l0 l1 h = some r) : z_M Γ l yX9_isSignHere (z_ws1 yX9_isSignHere cX9_isSignHere 2 (some .boolean)) rmX9_isSignHere [.ref l0, .int l1] h (some (.int r.1)) r.2 := by
  refine z_start hO (plainFor_of_name (by decide)) (Nat.le_of_ble_eq_true rfl) ?_
  intro p e s m args below meth c G hr hnm
  refine z_lvc (lv2 := [(0, .ref l0), (1, .int l1)]) rfl ?_
  refine z_aload_n (pc := 0) G 0 dX9_isSignHere_0 rfl rfl ?_
  obtain ⟨x1, hv1, hX⟩ := z_bd hX
  refine z_getI (pc := 1) G kK9 (k := 8) (by decide) kt_1234 dX9_isSignHere_1 hv1 ?_
  refine z_iconst (pc := 4) (v := 5) G dX9_isSignHere_4 (by decide) ?_
  refine z_icmp_ne (pc := 5) (tgt := 24) G dX9_isSignHere_5 (by decide) (fun hc5 => ?_) (fun hc5 => ?_)
  · have hX := z_if hc5 hX
    refine z_iconst (pc := 24) (v := 0) G dX9_isSignHere_24 (by decide) ?_
    exact z_zretX (pc := 25) hX G hr rfl dX9_isSignHere_25 (by decide) (by decide)
  · have hX := z_it hc5 hX
    refine z_aload_n (pc := 8) G 0 dX9_isSignHere_8 rfl rfl ?_
    refine z_aload_n (pc := 9) G 0 dX9_isSignHere_9 rfl rfl ?_
    obtain ⟨x10, hv10, hX⟩ := z_bd hX
    refine z_getI (pc := 10) G kK9 (k := 6) (by decide) kt_1232 dX9_isSignHere_10 hv10 ?_
    obtain ⟨hi13, hX⟩ := z_gu_s hX
    obtain ⟨r13, hv13, hX⟩ := z_bd hX
    refine z_cVI (pc := 13) (As := [.int x10]) (c2 := 0) (s2 := 0) G kK9 (lX9_sign hO hv13) hi13 kt_1422 kt_11 kt_1419 kt_1421 ks_39 ydX9_sign ⟨by decide, by decide⟩ rfl (Nat.le_of_ble_eq_true rfl) ⟨rfl, rfl⟩ ⟨by decide, by decide⟩ rfl dX9_isSignHere_13 ?_
    refine z_iload_n (pc := 16) G 1 dX9_isSignHere_16 rfl rfl ?_
    refine z_icmp_ne (pc := 17) (tgt := 24) G dX9_isSignHere_17 (by decide) (fun hc17 => ?_) (fun hc17 => ?_)
    · have hX := z_if hc17 hX
      refine z_iconst (pc := 24) (v := 0) G dX9_isSignHere_24 (by decide) ?_
      exact z_zretX (pc := 25) hX G hr rfl dX9_isSignHere_25 (by decide) (by decide)
    · have hX := z_it hc17 hX
      refine z_iconst (pc := 20) (v := 1) G dX9_isSignHere_20 (by decide) ?_
      refine z_goto (pc := 21) (tgt := 25) G dX9_isSignHere_21 (by decide) ?_
      exact z_zretX (pc := 25) hX G hr rfl dX9_isSignHere_25 (by decide) (by decide)
theorem dX9_isWord_0 : decode cX9_isWord 0 = .ok (.aload_n 0, 1) := by decide +kernel
theorem dX9_isWord_1 : decode cX9_isWord 1 = .ok (.getfield 197, 3) := by decide +kernel
theorem dX9_isWord_4 : decode cX9_isWord 4 = .ok (.iconst 3, 1) := by decide +kernel
theorem dX9_isWord_5 : decode cX9_isWord 5 = .ok (.if_icmp .ne 16, 3) := by decide +kernel
theorem dX9_isWord_8 : decode cX9_isWord 8 = .ok (.aload_n 0, 1) := by decide +kernel
theorem dX9_isWord_9 : decode cX9_isWord 9 = .ok (.getfield 204, 3) := by decide +kernel
theorem dX9_isWord_12 : decode cX9_isWord 12 = .ok (.lload_n 1, 1) := by decide +kernel
theorem dX9_isWord_13 : decode cX9_isWord 13 = .ok (.lcmp, 1) := by decide +kernel
theorem dX9_isWord_14 : decode cX9_isWord 14 = .ok (.ifCond .ne 7, 3) := by decide +kernel
theorem dX9_isWord_17 : decode cX9_isWord 17 = .ok (.iconst 1, 1) := by decide +kernel
theorem dX9_isWord_18 : decode cX9_isWord 18 = .ok (.goto 4, 3) := by decide +kernel
theorem dX9_isWord_21 : decode cX9_isWord 21 = .ok (.iconst 0, 1) := by decide +kernel
theorem dX9_isWord_22 : decode cX9_isWord 22 = .ok (.ireturn, 1) := by decide +kernel
theorem ydX9_isWord : z_yd yX9_isWord 1 := ⟨by decide, by decide, by decide +kernel⟩
abbrev rmX9_isWord : Room := { frames := 0, cells := 0, slots := 0, locals := 0 }
noncomputable def xX9_isWord (l0 : Nat) (l1 : Int64) (h : ZH) : Option (Int32 × ZH) := ((z_gI h l0 9 8).bind fun x1 => (if x1 = (3 : Int32) then ((z_gJ h l0 9 10).bind fun x9 => (if (lg_cmp x9 l1) = 0 then some ((1 : Int32), h) else some ((0 : Int32), h))) else some ((0 : Int32), h)))
set_option maxHeartbeats 4000000 in
set_option maxRecDepth 100000 in
theorem lX9_isWord {Γ : ZG} {l : Launch} (hO : z_OK Γ) {l0 : Nat} {l1 : Int64} {h : ZH} {r : (Int32 × ZH)} (hX : xX9_isWord l0 l1 h = some r) : z_M Γ l yX9_isWord (z_ws1 yX9_isWord cX9_isWord 3 (some .boolean)) rmX9_isWord [.ref l0, .long l1] h (some (.int r.1)) r.2 := by
  refine z_start hO (plainFor_of_name (by decide)) (Nat.le_of_ble_eq_true rfl) ?_
  intro p e s m args below meth c G hr hnm
  refine z_lvc (lv2 := [(0, .ref l0), (1, .long l1)]) rfl ?_
  refine z_aload_n (pc := 0) G 0 dX9_isWord_0 rfl rfl ?_
  obtain ⟨x1, hv1, hX⟩ := z_bd hX
  refine z_getI (pc := 1) G kK9 (k := 8) (by decide) kt_1234 dX9_isWord_1 hv1 ?_
  refine z_iconst (pc := 4) (v := 3) G dX9_isWord_4 (by decide) ?_
  refine z_icmp_ne (pc := 5) (tgt := 21) G dX9_isWord_5 (by decide) (fun hc5 => ?_) (fun hc5 => ?_)
  · have hX := z_if hc5 hX
    refine z_iconst (pc := 21) (v := 0) G dX9_isWord_21 (by decide) ?_
    exact z_zretX (pc := 22) hX G hr rfl dX9_isWord_22 (by decide) (by decide)
  · have hX := z_it hc5 hX
    refine z_aload_n (pc := 8) G 0 dX9_isWord_8 rfl rfl ?_
    obtain ⟨x9, hv9, hX⟩ := z_bd hX
    refine z_getJ (pc := 9) G kK9 (k := 10) (by decide) kt_1236 dX9_isWord_9 hv9 ?_
    refine z_lload_n (pc := 12) G 1 dX9_isWord_12 rfl rfl ?_
    refine z_lcmp (pc := 13) G dX9_isWord_13 ?_
    refine z_if_ne (pc := 14) (tgt := 21) G dX9_isWord_14 (by decide) (fun hc14 => ?_) (fun hc14 => ?_)
    · have hX := z_if hc14 hX
      refine z_iconst (pc := 21) (v := 0) G dX9_isWord_21 (by decide) ?_
      exact z_zretX (pc := 22) hX G hr rfl dX9_isWord_22 (by decide) (by decide)
    · have hX := z_it hc14 hX
      refine z_iconst (pc := 17) (v := 1) G dX9_isWord_17 (by decide) ?_
      refine z_goto (pc := 18) (tgt := 22) G dX9_isWord_18 (by decide) ?_
      exact z_zretX (pc := 22) hX G hr rfl dX9_isWord_22 (by decide) (by decide)
theorem dX9_misplaced_0 : decode cX9_misplaced 0 = .ok (.aload_n 0, 1) := by decide +kernel
theorem dX9_misplaced_1 : decode cX9_misplaced 1 = .ok (.aload_n 0, 1) := by decide +kernel
theorem dX9_misplaced_2 : decode cX9_misplaced 2 = .ok (.getfield 197, 3) := by decide +kernel
theorem dX9_misplaced_5 : decode cX9_misplaced 5 = .ok (.iconst 1, 1) := by decide +kernel
theorem dX9_misplaced_6 : decode cX9_misplaced 6 = .ok (.if_icmp .ne 7, 3) := by decide +kernel
theorem dX9_misplaced_9 : decode cX9_misplaced 9 = .ok (.iconst 1, 1) := by decide +kernel
theorem dX9_misplaced_10 : decode cX9_misplaced 10 = .ok (.goto 4, 3) := by decide +kernel
theorem dX9_misplaced_13 : decode cX9_misplaced 13 = .ok (.iconst 2, 1) := by decide +kernel
theorem dX9_misplaced_14 : decode cX9_misplaced 14 = .ok (.aload_n 0, 1) := by decide +kernel
theorem dX9_misplaced_15 : decode cX9_misplaced 15 = .ok (.getfield 190, 3) := by decide +kernel
theorem dX9_misplaced_18 : decode cX9_misplaced 18 = .ok (.invokevirtual 221, 3) := by decide +kernel
theorem dX9_misplaced_21 : decode cX9_misplaced 21 = .ok (.return_, 1) := by decide +kernel
theorem ydX9_misplaced : z_yd yX9_misplaced 0 := ⟨by decide, by decide, by decide +kernel⟩
abbrev rmX9_misplaced : Room := { frames := 1, cells := 0, slots := 0, locals := 22 }
noncomputable def xX9_misplaced (l0 : Nat) (h : ZH) : Option ZH := ((z_gI h l0 9 8).bind fun x2 => (if x2 = (1 : Int32) then ((z_gI h l0 9 6).bind fun x15 => (z_gu (z_is h l0 9) ((xX9_fails l0 (1 : Int32) x15 h).bind fun h18 => some h18))) else ((z_gI h l0 9 6).bind fun x15 => (z_gu (z_is h l0 9) ((xX9_fails l0 (2 : Int32) x15 h).bind fun h18 => some h18)))))
set_option maxHeartbeats 4000000 in
set_option maxRecDepth 100000 in
theorem lX9_misplaced {Γ : ZG} {l : Launch} (hO : z_OK Γ) {l0 : Nat} {h : ZH} {r : ZH} (hX : xX9_misplaced l0 h = some r) : z_M Γ l yX9_misplaced (z_ws1 yX9_misplaced cX9_misplaced 1 none) rmX9_misplaced [.ref l0] h none r := by
  refine z_start hO (plainFor_of_name (by decide)) (Nat.le_of_ble_eq_true rfl) ?_
  intro p e s m args below meth c G hr hnm
  refine z_lvc (lv2 := [(0, .ref l0)]) rfl ?_
  refine z_aload_n (pc := 0) G 0 dX9_misplaced_0 rfl rfl ?_
  refine z_aload_n (pc := 1) G 0 dX9_misplaced_1 rfl rfl ?_
  obtain ⟨x2, hv2, hX⟩ := z_bd hX
  refine z_getI (pc := 2) G kK9 (k := 8) (by decide) kt_1234 dX9_misplaced_2 hv2 ?_
  refine z_iconst (pc := 5) (v := 1) G dX9_misplaced_5 (by decide) ?_
  refine z_icmp_ne (pc := 6) (tgt := 13) G dX9_misplaced_6 (by decide) (fun hc6 => ?_) (fun hc6 => ?_)
  · have hX := z_if hc6 hX
    refine z_iconst (pc := 13) (v := 2) G dX9_misplaced_13 (by decide) ?_
    refine z_aload_n (pc := 14) G 0 dX9_misplaced_14 rfl rfl ?_
    obtain ⟨x15, hv15, hX⟩ := z_bd hX
    refine z_getI (pc := 15) G kK9 (k := 6) (by decide) kt_1232 dX9_misplaced_15 hv15 ?_
    obtain ⟨hi18, hX⟩ := z_gu_s hX
    obtain ⟨h18, hv18, hX⟩ := z_bd hX
    refine z_cVV (pc := 18) (As := [.int (2 : Int32), .int x15]) (c2 := 0) (s2 := 0) G kK9 (lX9_fails hO hv18) hi18 kt_1484 kt_11 kt_1481 kt_1483 ks_46 ydX9_fails ⟨by decide, by decide⟩ rfl (Nat.le_of_ble_eq_true rfl) ⟨rfl, rfl⟩ ⟨by decide, by decide⟩ rfl dX9_misplaced_18 ?_
    exact z_vretX (pc := 21) hX G hr dX9_misplaced_21 (by decide) (by decide)
  · have hX := z_it hc6 hX
    refine z_iconst (pc := 9) (v := 1) G dX9_misplaced_9 (by decide) ?_
    refine z_goto (pc := 10) (tgt := 14) G dX9_misplaced_10 (by decide) ?_
    refine z_aload_n (pc := 14) G 0 dX9_misplaced_14 rfl rfl ?_
    obtain ⟨x15, hv15, hX⟩ := z_bd hX
    refine z_getI (pc := 15) G kK9 (k := 6) (by decide) kt_1232 dX9_misplaced_15 hv15 ?_
    obtain ⟨hi18, hX⟩ := z_gu_s hX
    obtain ⟨h18, hv18, hX⟩ := z_bd hX
    refine z_cVV (pc := 18) (As := [.int (1 : Int32), .int x15]) (c2 := 0) (s2 := 0) G kK9 (lX9_fails hO hv18) hi18 kt_1484 kt_11 kt_1481 kt_1483 ks_46 ydX9_fails ⟨by decide, by decide⟩ rfl (Nat.le_of_ble_eq_true rfl) ⟨rfl, rfl⟩ ⟨by decide, by decide⟩ rfl dX9_misplaced_18 ?_
    exact z_vretX (pc := 21) hX G hr dX9_misplaced_21 (by decide) (by decide)
theorem dX9_must_0 : decode cX9_must 0 = .ok (.aload_n 0, 1) := by decide +kernel
theorem dX9_must_1 : decode cX9_must 1 = .ok (.invokevirtual 225, 3) := by decide +kernel
theorem dX9_must_4 : decode cX9_must 4 = .ok (.ifCond .ne 4, 3) := by decide +kernel
theorem dX9_must_7 : decode cX9_must 7 = .ok (.return_, 1) := by decide +kernel
theorem dX9_must_8 : decode cX9_must 8 = .ok (.iload_n 1, 1) := by decide +kernel
theorem dX9_must_9 : decode cX9_must 9 = .ok (.ifCond .eq 10, 3) := by decide +kernel
theorem dX9_must_12 : decode cX9_must 12 = .ok (.aload_n 0, 1) := by decide +kernel
theorem dX9_must_13 : decode cX9_must 13 = .ok (.invokevirtual 229, 3) := by decide +kernel
theorem dX9_must_16 : decode cX9_must 16 = .ok (.goto 7, 3) := by decide +kernel
theorem dX9_must_19 : decode cX9_must 19 = .ok (.aload_n 0, 1) := by decide +kernel
theorem dX9_must_20 : decode cX9_must 20 = .ok (.invokevirtual 232, 3) := by decide +kernel
theorem dX9_must_23 : decode cX9_must 23 = .ok (.return_, 1) := by decide +kernel
theorem ydX9_must : z_yd yX9_must 1 := ⟨by decide, by decide, by decide +kernel⟩
abbrev rmX9_must : Room := { frames := 2, cells := 0, slots := 0, locals := 44 }
noncomputable def xX9_must (l0 : Nat) (l1 : Int32) (h : ZH) : Option ZH := (z_gu (z_is h l0 9) ((xX9_isGood l0 h).bind fun r1 => (if r1.1 = 0 then some r1.2 else (if l1 = 0 then (z_gu (z_is r1.2 l0 9) ((xX9_misplaced l0 r1.2).bind fun h20 => some h20)) else (z_gu (z_is r1.2 l0 9) ((xX9_goOn l0 r1.2).bind fun h13 => some h13))))))
set_option maxHeartbeats 4000000 in
set_option maxRecDepth 100000 in
theorem lX9_must {Γ : ZG} {l : Launch} (hO : z_OK Γ) {l0 : Nat} {l1 : Int32} {h : ZH} {r : ZH} (hX : xX9_must l0 l1 h = some r) : z_M Γ l yX9_must (z_ws1 yX9_must cX9_must 2 none) rmX9_must [.ref l0, .int l1] h none r := by
  refine z_start hO (plainFor_of_name (by decide)) (Nat.le_of_ble_eq_true rfl) ?_
  intro p e s m args below meth c G hr hnm
  refine z_lvc (lv2 := [(0, .ref l0), (1, .int l1)]) rfl ?_
  refine z_aload_n (pc := 0) G 0 dX9_must_0 rfl rfl ?_
  obtain ⟨hi1, hX⟩ := z_gu_s hX
  obtain ⟨r1, hv1, hX⟩ := z_bd hX
  refine z_cVI (pc := 1) (As := []) (c2 := 0) (s2 := 0) G kK9 (lX9_isGood hO hv1) hi1 kt_1457 kt_11 kt_1454 kt_1456 ks_40 ydX9_isGood ⟨by decide, by decide⟩ rfl (Nat.le_of_ble_eq_true rfl) ⟨rfl, rfl⟩ ⟨by decide, by decide⟩ rfl dX9_must_1 ?_
  refine z_if_ne (pc := 4) (tgt := 8) G dX9_must_4 (by decide) (fun hc4 => ?_) (fun hc4 => ?_)
  · have hX := z_if hc4 hX
    refine z_iload_n (pc := 8) G 1 dX9_must_8 rfl rfl ?_
    refine z_if_eq (pc := 9) (tgt := 19) G dX9_must_9 (by decide) (fun hc9 => ?_) (fun hc9 => ?_)
    · have hX := z_it hc9 hX
      refine z_aload_n (pc := 19) G 0 dX9_must_19 rfl rfl ?_
      obtain ⟨hi20, hX⟩ := z_gu_s hX
      obtain ⟨h20, hv20, hX⟩ := z_bd hX
      refine z_cVV (pc := 20) (As := []) (c2 := 0) (s2 := 0) G kK9 (lX9_misplaced hO hv20) hi20 kt_1480 kt_11 kt_1477 kt_1479 ks_45 ydX9_misplaced ⟨by decide, by decide⟩ rfl (Nat.le_of_ble_eq_true rfl) ⟨rfl, rfl⟩ ⟨by decide, by decide⟩ rfl dX9_must_20 ?_
      exact z_vretX (pc := 23) hX G hr dX9_must_23 (by decide) (by decide)
    · have hX := z_if hc9 hX
      refine z_aload_n (pc := 12) G 0 dX9_must_12 rfl rfl ?_
      obtain ⟨hi13, hX⟩ := z_gu_s hX
      obtain ⟨h13, hv13, hX⟩ := z_bd hX
      refine z_cVV (pc := 13) (As := []) (c2 := 0) (s2 := 0) G kK9 (lX9_goOn hO hv13) hi13 kt_1418 kt_11 kt_1415 kt_1417 ks_38 ydX9_goOn ⟨by decide, by decide⟩ rfl (Nat.le_of_ble_eq_true rfl) ⟨rfl, rfl⟩ ⟨by decide, by decide⟩ rfl dX9_must_13 ?_
      refine z_goto (pc := 16) (tgt := 23) G dX9_must_16 (by decide) ?_
      exact z_vretX (pc := 23) hX G hr dX9_must_23 (by decide) (by decide)
  · have hX := z_it hc4 hX
    exact z_vretX (pc := 7) hX G hr dX9_must_7 (by decide) (by decide)
theorem dX9_numeral_0 : decode cX9_numeral 0 = .ok (.aload_n 0, 1) := by decide +kernel
theorem dX9_numeral_1 : decode cX9_numeral 1 = .ok (.invokevirtual 225, 3) := by decide +kernel
theorem dX9_numeral_4 : decode cX9_numeral 4 = .ok (.ifCond .ne 5, 3) := by decide +kernel
theorem dX9_numeral_7 : decode cX9_numeral 7 = .ok (.iload_n 1, 1) := by decide +kernel
theorem dX9_numeral_8 : decode cX9_numeral 8 = .ok (.ireturn, 1) := by decide +kernel
theorem dX9_numeral_9 : decode cX9_numeral 9 = .ok (.aload_n 0, 1) := by decide +kernel
theorem dX9_numeral_10 : decode cX9_numeral 10 = .ok (.getfield 197, 3) := by decide +kernel
theorem dX9_numeral_13 : decode cX9_numeral 13 = .ok (.iconst 4, 1) := by decide +kernel
theorem dX9_numeral_14 : decode cX9_numeral 14 = .ok (.if_icmp .eq 7, 3) := by decide +kernel
theorem dX9_numeral_17 : decode cX9_numeral 17 = .ok (.aload_n 0, 1) := by decide +kernel
theorem dX9_numeral_18 : decode cX9_numeral 18 = .ok (.invokevirtual 232, 3) := by decide +kernel
theorem dX9_numeral_21 : decode cX9_numeral 21 = .ok (.aload_n 0, 1) := by decide +kernel
theorem dX9_numeral_22 : decode cX9_numeral 22 = .ok (.invokevirtual 225, 3) := by decide +kernel
theorem dX9_numeral_25 : decode cX9_numeral 25 = .ok (.ifCond .eq 28, 3) := by decide +kernel
theorem dX9_numeral_28 : decode cX9_numeral 28 = .ok (.aload_n 0, 1) := by decide +kernel
theorem dX9_numeral_29 : decode cX9_numeral 29 = .ok (.getfield 215, 3) := by decide +kernel
theorem dX9_numeral_32 : decode cX9_numeral 32 = .ok (.iload_n 1, 1) := by decide +kernel
theorem dX9_numeral_33 : decode cX9_numeral 33 = .ok (.if_icmp .lt 11, 3) := by decide +kernel
theorem dX9_numeral_36 : decode cX9_numeral 36 = .ok (.aload_n 0, 1) := by decide +kernel
theorem dX9_numeral_37 : decode cX9_numeral 37 = .ok (.getfield 215, 3) := by decide +kernel
theorem dX9_numeral_40 : decode cX9_numeral 40 = .ok (.iload_n 2, 1) := by decide +kernel
theorem dX9_numeral_41 : decode cX9_numeral 41 = .ok (.if_icmp .le 12, 3) := by decide +kernel
theorem dX9_numeral_44 : decode cX9_numeral 44 = .ok (.aload_n 0, 1) := by decide +kernel
theorem dX9_numeral_45 : decode cX9_numeral 45 = .ok (.iconst 4, 1) := by decide +kernel
theorem dX9_numeral_46 : decode cX9_numeral 46 = .ok (.aload_n 0, 1) := by decide +kernel
theorem dX9_numeral_47 : decode cX9_numeral 47 = .ok (.getfield 190, 3) := by decide +kernel
theorem dX9_numeral_50 : decode cX9_numeral 50 = .ok (.invokevirtual 221, 3) := by decide +kernel
theorem dX9_numeral_53 : decode cX9_numeral 53 = .ok (.aload_n 0, 1) := by decide +kernel
theorem dX9_numeral_54 : decode cX9_numeral 54 = .ok (.getfield 215, 3) := by decide +kernel
theorem dX9_numeral_57 : decode cX9_numeral 57 = .ok (.istore_n 3, 1) := by decide +kernel
theorem dX9_numeral_58 : decode cX9_numeral 58 = .ok (.aload_n 0, 1) := by decide +kernel
theorem dX9_numeral_59 : decode cX9_numeral 59 = .ok (.invokevirtual 225, 3) := by decide +kernel
theorem dX9_numeral_62 : decode cX9_numeral 62 = .ok (.ifCond .eq 7, 3) := by decide +kernel
theorem dX9_numeral_65 : decode cX9_numeral 65 = .ok (.aload_n 0, 1) := by decide +kernel
theorem dX9_numeral_66 : decode cX9_numeral 66 = .ok (.invokevirtual 229, 3) := by decide +kernel
theorem dX9_numeral_69 : decode cX9_numeral 69 = .ok (.aload_n 0, 1) := by decide +kernel
theorem dX9_numeral_70 : decode cX9_numeral 70 = .ok (.invokevirtual 225, 3) := by decide +kernel
theorem dX9_numeral_73 : decode cX9_numeral 73 = .ok (.ifCond .eq 7, 3) := by decide +kernel
theorem dX9_numeral_76 : decode cX9_numeral 76 = .ok (.iload_n 3, 1) := by decide +kernel
theorem dX9_numeral_77 : decode cX9_numeral 77 = .ok (.goto 4, 3) := by decide +kernel
theorem dX9_numeral_80 : decode cX9_numeral 80 = .ok (.iload_n 1, 1) := by decide +kernel
theorem dX9_numeral_81 : decode cX9_numeral 81 = .ok (.ireturn, 1) := by decide +kernel
theorem ydX9_numeral : z_yd yX9_numeral 2 := ⟨by decide, by decide, by decide +kernel⟩
abbrev rmX9_numeral : Room := { frames := 2, cells := 0, slots := 0, locals := 44 }
noncomputable def xX9_numeral_B69 (l0 : Nat) (l1 : Int32) (l3 : Int32) (h : ZH) : Option (Int32 × ZH) := (z_gu (z_is h l0 9) ((xX9_isGood l0 h).bind fun r70 => (if r70.1 = 0 then some (l1, r70.2) else some (l3, r70.2))))
set_option maxHeartbeats 4000000 in
set_option maxRecDepth 100000 in
theorem wX9_numeral_B69 {Γ : ZG} {p : Program} {l : Launch} {e : Env} {s : State} {m : MethodId} {args : Array Value} {below : List Frame} {meth : Method} {c : Code} (hO : z_OK Γ) (G : z_GG Γ p s m args meth c cX9_numeral 4 RX9) (hr : meth.sig.returnType = (some .int)) (hnm : meth.name = "numeral") {r : (Int32 × ZH)} : ∀ (l0 : Nat) (l1 : Int32) (l3 : Int32) (h : ZH), xX9_numeral_B69  l0 l1 l3 h = some r → z_W Γ p l e rmX9_numeral s m args below meth c 4 0 0 (MQ below (z_Qc Γ (some (.int r.1)) r.2) args s rmX9_numeral.cells rmX9_numeral.slots (z_A Γ)) 69 [(0, .ref l0), (1, .int l1), (3, .int l3)] [] h := by
  intro l0 l1 l3 h hX
  refine z_aload_n (pc := 69) G 0 dX9_numeral_69 rfl rfl ?_
  obtain ⟨hi70, hX⟩ := z_gu_s hX
  obtain ⟨r70, hv70, hX⟩ := z_bd hX
  refine z_cVI (pc := 70) (As := []) (c2 := 0) (s2 := 0) G kK9 (lX9_isGood hO hv70) hi70 kt_1457 kt_11 kt_1454 kt_1456 ks_40 ydX9_isGood ⟨by decide, by decide⟩ rfl (Nat.le_of_ble_eq_true rfl) ⟨rfl, rfl⟩ ⟨by decide, by decide⟩ rfl dX9_numeral_70 ?_
  refine z_if_eq (pc := 73) (tgt := 80) G dX9_numeral_73 (by decide) (fun hc73 => ?_) (fun hc73 => ?_)
  · have hX := z_it hc73 hX
    refine z_iload_n (pc := 80) G 1 dX9_numeral_80 rfl rfl ?_
    exact z_iretX (pc := 81) hX G hr dX9_numeral_81 (by decide) (by decide)
  · have hX := z_if hc73 hX
    refine z_iload_n (pc := 76) G 2 dX9_numeral_76 rfl rfl ?_
    refine z_goto (pc := 77) (tgt := 81) G dX9_numeral_77 (by decide) ?_
    exact z_iretX (pc := 81) hX G hr dX9_numeral_81 (by decide) (by decide)
noncomputable def xX9_numeral_B53 (l0 : Nat) (l1 : Int32) (h : ZH) : Option (Int32 × ZH) := ((z_gI h l0 9 9).bind fun x54 => (z_gu (z_is h l0 9) ((xX9_isGood l0 h).bind fun r59 => (if r59.1 = 0 then xX9_numeral_B69 l0 l1 x54 r59.2 else (z_gu (z_is r59.2 l0 9) ((xX9_goOn l0 r59.2).bind fun h66 => xX9_numeral_B69 l0 l1 x54 h66))))))
set_option maxHeartbeats 4000000 in
set_option maxRecDepth 100000 in
theorem wX9_numeral_B53 {Γ : ZG} {p : Program} {l : Launch} {e : Env} {s : State} {m : MethodId} {args : Array Value} {below : List Frame} {meth : Method} {c : Code} (hO : z_OK Γ) (G : z_GG Γ p s m args meth c cX9_numeral 4 RX9) (hr : meth.sig.returnType = (some .int)) (hnm : meth.name = "numeral") {r : (Int32 × ZH)} : ∀ (l0 : Nat) (l1 : Int32) (h : ZH), xX9_numeral_B53  l0 l1 h = some r → z_W Γ p l e rmX9_numeral s m args below meth c 4 0 0 (MQ below (z_Qc Γ (some (.int r.1)) r.2) args s rmX9_numeral.cells rmX9_numeral.slots (z_A Γ)) 53 [(0, .ref l0), (1, .int l1)] [] h := by
  intro l0 l1 h hX
  refine z_aload_n (pc := 53) G 0 dX9_numeral_53 rfl rfl ?_
  obtain ⟨x54, hv54, hX⟩ := z_bd hX
  refine z_getI (pc := 54) G kK9 (k := 9) (by decide) kt_1235 dX9_numeral_54 hv54 ?_
  refine z_istore_n (pc := 57) (lv2 := [(0, .ref l0), (1, .int l1), (3, .int x54)]) G dX9_numeral_57 rfl (by decide) rfl rfl ?_
  refine z_aload_n (pc := 58) G 0 dX9_numeral_58 rfl rfl ?_
  obtain ⟨hi59, hX⟩ := z_gu_s hX
  obtain ⟨r59, hv59, hX⟩ := z_bd hX
  refine z_cVI (pc := 59) (As := []) (c2 := 0) (s2 := 0) G kK9 (lX9_isGood hO hv59) hi59 kt_1457 kt_11 kt_1454 kt_1456 ks_40 ydX9_isGood ⟨by decide, by decide⟩ rfl (Nat.le_of_ble_eq_true rfl) ⟨rfl, rfl⟩ ⟨by decide, by decide⟩ rfl dX9_numeral_59 ?_
  refine z_if_eq (pc := 62) (tgt := 69) G dX9_numeral_62 (by decide) (fun hc62 => ?_) (fun hc62 => ?_)
  · have hX := z_it hc62 hX
    exact wX9_numeral_B69 hO G hr hnm _ _ _ _ hX
  · have hX := z_if hc62 hX
    refine z_aload_n (pc := 65) G 0 dX9_numeral_65 rfl rfl ?_
    obtain ⟨hi66, hX⟩ := z_gu_s hX
    obtain ⟨h66, hv66, hX⟩ := z_bd hX
    refine z_cVV (pc := 66) (As := []) (c2 := 0) (s2 := 0) G kK9 (lX9_goOn hO hv66) hi66 kt_1418 kt_11 kt_1415 kt_1417 ks_38 ydX9_goOn ⟨by decide, by decide⟩ rfl (Nat.le_of_ble_eq_true rfl) ⟨rfl, rfl⟩ ⟨by decide, by decide⟩ rfl dX9_numeral_66 ?_
    exact wX9_numeral_B69 hO G hr hnm _ _ _ _ hX
noncomputable def xX9_numeral_B44 (l0 : Nat) (l1 : Int32) (h : ZH) : Option (Int32 × ZH) := ((z_gI h l0 9 6).bind fun x47 => (z_gu (z_is h l0 9) ((xX9_fails l0 (4 : Int32) x47 h).bind fun h50 => xX9_numeral_B53 l0 l1 h50)))
set_option maxHeartbeats 4000000 in
set_option maxRecDepth 100000 in
theorem wX9_numeral_B44 {Γ : ZG} {p : Program} {l : Launch} {e : Env} {s : State} {m : MethodId} {args : Array Value} {below : List Frame} {meth : Method} {c : Code} (hO : z_OK Γ) (G : z_GG Γ p s m args meth c cX9_numeral 4 RX9) (hr : meth.sig.returnType = (some .int)) (hnm : meth.name = "numeral") {r : (Int32 × ZH)} : ∀ (l0 : Nat) (l1 : Int32) (h : ZH), xX9_numeral_B44  l0 l1 h = some r → z_W Γ p l e rmX9_numeral s m args below meth c 4 0 0 (MQ below (z_Qc Γ (some (.int r.1)) r.2) args s rmX9_numeral.cells rmX9_numeral.slots (z_A Γ)) 44 [(0, .ref l0), (1, .int l1)] [] h := by
  intro l0 l1 h hX
  refine z_aload_n (pc := 44) G 0 dX9_numeral_44 rfl rfl ?_
  refine z_iconst (pc := 45) (v := 4) G dX9_numeral_45 (by decide) ?_
  refine z_aload_n (pc := 46) G 0 dX9_numeral_46 rfl rfl ?_
  obtain ⟨x47, hv47, hX⟩ := z_bd hX
  refine z_getI (pc := 47) G kK9 (k := 6) (by decide) kt_1232 dX9_numeral_47 hv47 ?_
  obtain ⟨hi50, hX⟩ := z_gu_s hX
  obtain ⟨h50, hv50, hX⟩ := z_bd hX
  refine z_cVV (pc := 50) (As := [.int (4 : Int32), .int x47]) (c2 := 0) (s2 := 0) G kK9 (lX9_fails hO hv50) hi50 kt_1484 kt_11 kt_1481 kt_1483 ks_46 ydX9_fails ⟨by decide, by decide⟩ rfl (Nat.le_of_ble_eq_true rfl) ⟨rfl, rfl⟩ ⟨by decide, by decide⟩ rfl dX9_numeral_50 ?_
  exact wX9_numeral_B53 hO G hr hnm _ _ _ hX
noncomputable def xX9_numeral_B21 (l0 : Nat) (l1 : Int32) (l2 : Int32) (h : ZH) : Option (Int32 × ZH) := (z_gu (z_is h l0 9) ((xX9_isGood l0 h).bind fun r22 => (if r22.1 = 0 then xX9_numeral_B53 l0 l1 r22.2 else ((z_gI r22.2 l0 9 9).bind fun x29 => (if x29 < l1 then xX9_numeral_B44 l0 l1 r22.2 else ((z_gI r22.2 l0 9 9).bind fun x37 => (if x37 ≤ l2 then xX9_numeral_B53 l0 l1 r22.2 else xX9_numeral_B44 l0 l1 r22.2)))))))
set_option maxHeartbeats 4000000 in
set_option maxRecDepth 100000 in
theorem wX9_numeral_B21 {Γ : ZG} {p : Program} {l : Launch} {e : Env} {s : State} {m : MethodId} {args : Array Value} {below : List Frame} {meth : Method} {c : Code} (hO : z_OK Γ) (G : z_GG Γ p s m args meth c cX9_numeral 4 RX9) (hr : meth.sig.returnType = (some .int)) (hnm : meth.name = "numeral") {r : (Int32 × ZH)} : ∀ (l0 : Nat) (l1 : Int32) (l2 : Int32) (h : ZH), xX9_numeral_B21  l0 l1 l2 h = some r → z_W Γ p l e rmX9_numeral s m args below meth c 4 0 0 (MQ below (z_Qc Γ (some (.int r.1)) r.2) args s rmX9_numeral.cells rmX9_numeral.slots (z_A Γ)) 21 [(0, .ref l0), (1, .int l1), (2, .int l2)] [] h := by
  intro l0 l1 l2 h hX
  refine z_aload_n (pc := 21) G 0 dX9_numeral_21 rfl rfl ?_
  obtain ⟨hi22, hX⟩ := z_gu_s hX
  obtain ⟨r22, hv22, hX⟩ := z_bd hX
  refine z_cVI (pc := 22) (As := []) (c2 := 0) (s2 := 0) G kK9 (lX9_isGood hO hv22) hi22 kt_1457 kt_11 kt_1454 kt_1456 ks_40 ydX9_isGood ⟨by decide, by decide⟩ rfl (Nat.le_of_ble_eq_true rfl) ⟨rfl, rfl⟩ ⟨by decide, by decide⟩ rfl dX9_numeral_22 ?_
  refine z_if_eq (pc := 25) (tgt := 53) G dX9_numeral_25 (by decide) (fun hc25 => ?_) (fun hc25 => ?_)
  · have hX := z_it hc25 hX
    refine z_drop (lv2 := [(0, .ref l0), (1, .int l1)]) [0, 1] rfl ?_
    exact wX9_numeral_B53 hO G hr hnm _ _ _ hX
  · have hX := z_if hc25 hX
    refine z_aload_n (pc := 28) G 0 dX9_numeral_28 rfl rfl ?_
    obtain ⟨x29, hv29, hX⟩ := z_bd hX
    refine z_getI (pc := 29) G kK9 (k := 9) (by decide) kt_1235 dX9_numeral_29 hv29 ?_
    refine z_iload_n (pc := 32) G 1 dX9_numeral_32 rfl rfl ?_
    refine z_icmp_lt (pc := 33) (tgt := 44) G dX9_numeral_33 (by decide) (fun hc33 => ?_) (fun hc33 => ?_)
    · have hX := z_it hc33 hX
      refine z_drop (lv2 := [(0, .ref l0), (1, .int l1)]) [0, 1] rfl ?_
      exact wX9_numeral_B44 hO G hr hnm _ _ _ hX
    · have hX := z_if hc33 hX
      refine z_aload_n (pc := 36) G 0 dX9_numeral_36 rfl rfl ?_
      obtain ⟨x37, hv37, hX⟩ := z_bd hX
      refine z_getI (pc := 37) G kK9 (k := 9) (by decide) kt_1235 dX9_numeral_37 hv37 ?_
      refine z_iload_n (pc := 40) G 2 dX9_numeral_40 rfl rfl ?_
      refine z_icmp_le (pc := 41) (tgt := 53) G dX9_numeral_41 (by decide) (fun hc41 => ?_) (fun hc41 => ?_)
      · have hX := z_it hc41 hX
        refine z_drop (lv2 := [(0, .ref l0), (1, .int l1)]) [0, 1] rfl ?_
        exact wX9_numeral_B53 hO G hr hnm _ _ _ hX
      · have hX := z_if hc41 hX
        refine z_drop (lv2 := [(0, .ref l0), (1, .int l1)]) [0, 1] rfl ?_
        exact wX9_numeral_B44 hO G hr hnm _ _ _ hX
noncomputable def xX9_numeral (l0 : Nat) (l1 : Int32) (l2 : Int32) (h : ZH) : Option (Int32 × ZH) := (z_gu (z_is h l0 9) ((xX9_isGood l0 h).bind fun r1 => (if r1.1 = 0 then some (l1, r1.2) else ((z_gI r1.2 l0 9 8).bind fun x10 => (if x10 = (4 : Int32) then xX9_numeral_B21 l0 l1 l2 r1.2 else (z_gu (z_is r1.2 l0 9) ((xX9_misplaced l0 r1.2).bind fun h18 => xX9_numeral_B21 l0 l1 l2 h18)))))))
set_option maxHeartbeats 4000000 in
set_option maxRecDepth 100000 in
theorem lX9_numeral {Γ : ZG} {l : Launch} (hO : z_OK Γ) {l0 : Nat} {l1 : Int32} {l2 : Int32} {h : ZH} {r : (Int32 × ZH)} (hX : xX9_numeral l0 l1 l2 h = some r) : z_M Γ l yX9_numeral (z_ws1 yX9_numeral cX9_numeral 4 (some .int)) rmX9_numeral [.ref l0, .int l1, .int l2] h (some (.int r.1)) r.2 := by
  refine z_start hO (plainFor_of_name (by decide)) (Nat.le_of_ble_eq_true rfl) ?_
  intro p e s m args below meth c G hr hnm
  refine z_lvc (lv2 := [(0, .ref l0), (1, .int l1), (2, .int l2)]) rfl ?_
  refine z_aload_n (pc := 0) G 0 dX9_numeral_0 rfl rfl ?_
  obtain ⟨hi1, hX⟩ := z_gu_s hX
  obtain ⟨r1, hv1, hX⟩ := z_bd hX
  refine z_cVI (pc := 1) (As := []) (c2 := 0) (s2 := 0) G kK9 (lX9_isGood hO hv1) hi1 kt_1457 kt_11 kt_1454 kt_1456 ks_40 ydX9_isGood ⟨by decide, by decide⟩ rfl (Nat.le_of_ble_eq_true rfl) ⟨rfl, rfl⟩ ⟨by decide, by decide⟩ rfl dX9_numeral_1 ?_
  refine z_if_ne (pc := 4) (tgt := 9) G dX9_numeral_4 (by decide) (fun hc4 => ?_) (fun hc4 => ?_)
  · have hX := z_if hc4 hX
    refine z_aload_n (pc := 9) G 0 dX9_numeral_9 rfl rfl ?_
    obtain ⟨x10, hv10, hX⟩ := z_bd hX
    refine z_getI (pc := 10) G kK9 (k := 8) (by decide) kt_1234 dX9_numeral_10 hv10 ?_
    refine z_iconst (pc := 13) (v := 4) G dX9_numeral_13 (by decide) ?_
    refine z_icmp_eq (pc := 14) (tgt := 21) G dX9_numeral_14 (by decide) (fun hc14 => ?_) (fun hc14 => ?_)
    · have hX := z_it hc14 hX
      exact wX9_numeral_B21 hO G hr hnm _ _ _ _ hX
    · have hX := z_if hc14 hX
      refine z_aload_n (pc := 17) G 0 dX9_numeral_17 rfl rfl ?_
      obtain ⟨hi18, hX⟩ := z_gu_s hX
      obtain ⟨h18, hv18, hX⟩ := z_bd hX
      refine z_cVV (pc := 18) (As := []) (c2 := 0) (s2 := 0) G kK9 (lX9_misplaced hO hv18) hi18 kt_1480 kt_11 kt_1477 kt_1479 ks_45 ydX9_misplaced ⟨by decide, by decide⟩ rfl (Nat.le_of_ble_eq_true rfl) ⟨rfl, rfl⟩ ⟨by decide, by decide⟩ rfl dX9_numeral_18 ?_
      exact wX9_numeral_B21 hO G hr hnm _ _ _ _ hX
  · have hX := z_it hc4 hX
    refine z_iload_n (pc := 7) G 1 dX9_numeral_7 rfl rfl ?_
    exact z_iretX (pc := 8) hX G hr dX9_numeral_8 (by decide) (by decide)
theorem dX9_after_0 : decode cX9_after 0 = .ok (.aload_n 0, 1) := by decide +kernel
theorem dX9_after_1 : decode cX9_after 1 = .ok (.aload_n 0, 1) := by decide +kernel
theorem dX9_after_2 : decode cX9_after 2 = .ok (.lload_n 1, 1) := by decide +kernel
theorem dX9_after_3 : decode cX9_after 3 = .ok (.invokevirtual 235, 3) := by decide +kernel
theorem dX9_after_6 : decode cX9_after 6 = .ok (.invokevirtual 238, 3) := by decide +kernel
theorem dX9_after_9 : decode cX9_after 9 = .ok (.aload_n 0, 1) := by decide +kernel
theorem dX9_after_10 : decode cX9_after 10 = .ok (.iload_n 3, 1) := by decide +kernel
theorem dX9_after_11 : decode cX9_after 11 = .ok (.iload 4, 2) := by decide +kernel
theorem dX9_after_13 : decode cX9_after 13 = .ok (.invokevirtual 242, 3) := by decide +kernel
theorem dX9_after_16 : decode cX9_after 16 = .ok (.ireturn, 1) := by decide +kernel
theorem ydX9_after : z_yd yX9_after 3 := ⟨by decide, by decide, by decide +kernel⟩
abbrev rmX9_after : Room := { frames := 3, cells := 0, slots := 0, locals := 67 }
noncomputable def xX9_after (l0 : Nat) (l1 : Int64) (l3 : Int32) (l4 : Int32) (h : ZH) : Option (Int32 × ZH) := (z_gu (z_is h l0 9) ((xX9_isWord l0 l1 h).bind fun r3 => (z_gu (z_is r3.2 l0 9) ((xX9_must l0 r3.1 r3.2).bind fun h6 => (z_gu (z_is h6 l0 9) ((xX9_numeral l0 l3 l4 h6).bind fun r13 => some (r13.1, r13.2)))))))
set_option maxHeartbeats 4000000 in
set_option maxRecDepth 100000 in
theorem lX9_after {Γ : ZG} {l : Launch} (hO : z_OK Γ) {l0 : Nat} {l1 : Int64} {l3 : Int32} {l4 : Int32} {h : ZH} {r : (Int32 × ZH)} (hX : xX9_after l0 l1 l3 l4 h = some r) : z_M Γ l yX9_after (z_ws1 yX9_after cX9_after 5 (some .int)) rmX9_after [.ref l0, .long l1, .int l3, .int l4] h (some (.int r.1)) r.2 := by
  refine z_start hO (plainFor_of_name (by decide)) (Nat.le_of_ble_eq_true rfl) ?_
  intro p e s m args below meth c G hr hnm
  refine z_lvc (lv2 := [(0, .ref l0), (1, .long l1), (3, .int l3), (4, .int l4)]) rfl ?_
  refine z_aload_n (pc := 0) G 0 dX9_after_0 rfl rfl ?_
  refine z_aload_n (pc := 1) G 0 dX9_after_1 rfl rfl ?_
  refine z_lload_n (pc := 2) G 1 dX9_after_2 rfl rfl ?_
  obtain ⟨hi3, hX⟩ := z_gu_s hX
  obtain ⟨r3, hv3, hX⟩ := z_bd hX
  refine z_cVI (pc := 3) (As := [.long l1]) (c2 := 0) (s2 := 0) G kK9 (lX9_isWord hO hv3) hi3 kt_1469 kt_11 kt_1466 kt_1468 ks_43 ydX9_isWord ⟨by decide, by decide⟩ rfl (Nat.le_of_ble_eq_true rfl) ⟨rfl, rfl⟩ ⟨by decide, by decide⟩ rfl dX9_after_3 ?_
  obtain ⟨hi6, hX⟩ := z_gu_s hX
  obtain ⟨h6, hv6, hX⟩ := z_bd hX
  refine z_cVV (pc := 6) (As := [.int r3.1]) (c2 := 0) (s2 := 0) G kK9 (lX9_must hO hv6) hi6 kt_1500 kt_11 kt_1497 kt_1499 ks_50 ydX9_must ⟨by decide, by decide⟩ rfl (Nat.le_of_ble_eq_true rfl) ⟨rfl, rfl⟩ ⟨by decide, by decide⟩ rfl dX9_after_6 ?_
  refine z_aload_n (pc := 9) G 0 dX9_after_9 rfl rfl ?_
  refine z_iload_n (pc := 10) G 2 dX9_after_10 rfl rfl ?_
  refine z_iload (pc := 11) G 3 dX9_after_11 rfl ?_
  obtain ⟨hi13, hX⟩ := z_gu_s hX
  obtain ⟨r13, hv13, hX⟩ := z_bd hX
  refine z_cVI (pc := 13) (As := [.int l3, .int l4]) (c2 := 0) (s2 := 0) G kK9 (lX9_numeral hO hv13) hi13 kt_1492 kt_11 kt_1489 kt_1491 ks_48 ydX9_numeral ⟨by decide, by decide⟩ rfl (Nat.le_of_ble_eq_true rfl) ⟨rfl, rfl⟩ ⟨by decide, by decide⟩ rfl dX9_after_13 ?_
  exact z_iretX (pc := 16) hX G hr dX9_after_16 (by decide) (by decide)
theorem dX9_bit_0 : decode cX9_bit 0 = .ok (.iload_n 0, 1) := by decide +kernel
theorem dX9_bit_1 : decode cX9_bit 1 = .ok (.iload_n 1, 1) := by decide +kernel
theorem dX9_bit_2 : decode cX9_bit 2 = .ok (.ishr, 1) := by decide +kernel
theorem dX9_bit_3 : decode cX9_bit 3 = .ok (.iconst 1, 1) := by decide +kernel
theorem dX9_bit_4 : decode cX9_bit 4 = .ok (.iand, 1) := by decide +kernel
theorem dX9_bit_5 : decode cX9_bit 5 = .ok (.iconst 1, 1) := by decide +kernel
theorem dX9_bit_6 : decode cX9_bit 6 = .ok (.if_icmp .ne 7, 3) := by decide +kernel
theorem dX9_bit_9 : decode cX9_bit 9 = .ok (.iconst 1, 1) := by decide +kernel
theorem dX9_bit_10 : decode cX9_bit 10 = .ok (.goto 4, 3) := by decide +kernel
theorem dX9_bit_13 : decode cX9_bit 13 = .ok (.iconst 0, 1) := by decide +kernel
theorem dX9_bit_14 : decode cX9_bit 14 = .ok (.ireturn, 1) := by decide +kernel
theorem ydX9_bit : z_yd yX9_bit 2 := ⟨by decide, by decide, by decide +kernel⟩
abbrev rmX9_bit : Room := { frames := 0, cells := 0, slots := 0, locals := 0 }
noncomputable def xX9_bit (l0 : Int32) (l1 : Int32) (h : ZH) : Option (Int32 × ZH) := (if ((l0 >>> (l1 &&& 31)) &&& (1 : Int32)) = (1 : Int32) then some ((1 : Int32), h) else some ((0 : Int32), h))
set_option maxHeartbeats 4000000 in
set_option maxRecDepth 100000 in
theorem lX9_bit {Γ : ZG} {l : Launch} (hO : z_OK Γ) {l0 : Int32} {l1 : Int32} {h : ZH} {r : (Int32 × ZH)} (hX : xX9_bit l0 l1 h = some r) : z_M Γ l yX9_bit (z_ws1 yX9_bit cX9_bit 2 (some .boolean)) rmX9_bit [.int l0, .int l1] h (some (.int r.1)) r.2 := by
  refine z_start hO (plainFor_of_name (by decide)) (Nat.le_of_ble_eq_true rfl) ?_
  intro p e s m args below meth c G hr hnm
  refine z_lvc (lv2 := [(0, .int l0), (1, .int l1)]) rfl ?_
  refine z_iload_n (pc := 0) G 0 dX9_bit_0 rfl rfl ?_
  refine z_iload_n (pc := 1) G 1 dX9_bit_1 rfl rfl ?_
  refine z_ishr (pc := 2) G dX9_bit_2 ?_
  refine z_iconst (pc := 3) (v := 1) G dX9_bit_3 (by decide) ?_
  refine z_iand (pc := 4) G dX9_bit_4 ?_
  refine z_iconst (pc := 5) (v := 1) G dX9_bit_5 (by decide) ?_
  refine z_icmp_ne (pc := 6) (tgt := 13) G dX9_bit_6 (by decide) (fun hc6 => ?_) (fun hc6 => ?_)
  · have hX := z_if hc6 hX
    refine z_iconst (pc := 13) (v := 0) G dX9_bit_13 (by decide) ?_
    exact z_zretX (pc := 14) hX G hr rfl dX9_bit_14 (by decide) (by decide)
  · have hX := z_it hc6 hX
    refine z_iconst (pc := 9) (v := 1) G dX9_bit_9 (by decide) ?_
    refine z_goto (pc := 10) (tgt := 14) G dX9_bit_10 (by decide) ?_
    exact z_zretX (pc := 14) hX G hr rfl dX9_bit_14 (by decide) (by decide)
theorem dX9_sortHere_0 : decode cX9_sortHere 0 = .ok (.aload_n 0, 1) := by decide +kernel
theorem dX9_sortHere_1 : decode cX9_sortHere 1 = .ok (.ldc2_w 149, 3) := by decide +kernel
theorem dX9_sortHere_4 : decode cX9_sortHere 4 = .ok (.invokevirtual 235, 3) := by decide +kernel
theorem dX9_sortHere_7 : decode cX9_sortHere 7 = .ok (.ifCond .eq 5, 3) := by decide +kernel
theorem dX9_sortHere_10 : decode cX9_sortHere 10 = .ok (.iconst 0, 1) := by decide +kernel
theorem dX9_sortHere_11 : decode cX9_sortHere 11 = .ok (.ireturn, 1) := by decide +kernel
theorem dX9_sortHere_12 : decode cX9_sortHere 12 = .ok (.aload_n 0, 1) := by decide +kernel
theorem dX9_sortHere_13 : decode cX9_sortHere 13 = .ok (.ldc2_w 151, 3) := by decide +kernel
theorem dX9_sortHere_16 : decode cX9_sortHere 16 = .ok (.invokevirtual 235, 3) := by decide +kernel
theorem dX9_sortHere_19 : decode cX9_sortHere 19 = .ok (.ifCond .eq 5, 3) := by decide +kernel
theorem dX9_sortHere_22 : decode cX9_sortHere 22 = .ok (.iconst 1, 1) := by decide +kernel
theorem dX9_sortHere_23 : decode cX9_sortHere 23 = .ok (.ireturn, 1) := by decide +kernel
theorem dX9_sortHere_24 : decode cX9_sortHere 24 = .ok (.aload_n 0, 1) := by decide +kernel
theorem dX9_sortHere_25 : decode cX9_sortHere 25 = .ok (.ldc2_w 153, 3) := by decide +kernel
theorem dX9_sortHere_28 : decode cX9_sortHere 28 = .ok (.invokevirtual 235, 3) := by decide +kernel
theorem dX9_sortHere_31 : decode cX9_sortHere 31 = .ok (.ifCond .eq 5, 3) := by decide +kernel
theorem dX9_sortHere_34 : decode cX9_sortHere 34 = .ok (.iconst 2, 1) := by decide +kernel
theorem dX9_sortHere_35 : decode cX9_sortHere 35 = .ok (.ireturn, 1) := by decide +kernel
theorem dX9_sortHere_36 : decode cX9_sortHere 36 = .ok (.aload_n 0, 1) := by decide +kernel
theorem dX9_sortHere_37 : decode cX9_sortHere 37 = .ok (.ldc2_w 155, 3) := by decide +kernel
theorem dX9_sortHere_40 : decode cX9_sortHere 40 = .ok (.invokevirtual 235, 3) := by decide +kernel
theorem dX9_sortHere_43 : decode cX9_sortHere 43 = .ok (.ifCond .eq 5, 3) := by decide +kernel
theorem dX9_sortHere_46 : decode cX9_sortHere 46 = .ok (.iconst 3, 1) := by decide +kernel
theorem dX9_sortHere_47 : decode cX9_sortHere 47 = .ok (.ireturn, 1) := by decide +kernel
theorem dX9_sortHere_48 : decode cX9_sortHere 48 = .ok (.aload_n 0, 1) := by decide +kernel
theorem dX9_sortHere_49 : decode cX9_sortHere 49 = .ok (.ldc2_w 157, 3) := by decide +kernel
theorem dX9_sortHere_52 : decode cX9_sortHere 52 = .ok (.invokevirtual 235, 3) := by decide +kernel
theorem dX9_sortHere_55 : decode cX9_sortHere 55 = .ok (.ifCond .eq 5, 3) := by decide +kernel
theorem dX9_sortHere_58 : decode cX9_sortHere 58 = .ok (.iconst 4, 1) := by decide +kernel
theorem dX9_sortHere_59 : decode cX9_sortHere 59 = .ok (.ireturn, 1) := by decide +kernel
theorem dX9_sortHere_60 : decode cX9_sortHere 60 = .ok (.aload_n 0, 1) := by decide +kernel
theorem dX9_sortHere_61 : decode cX9_sortHere 61 = .ok (.ldc2_w 167, 3) := by decide +kernel
theorem dX9_sortHere_64 : decode cX9_sortHere 64 = .ok (.invokevirtual 235, 3) := by decide +kernel
theorem dX9_sortHere_67 : decode cX9_sortHere 67 = .ok (.ifCond .eq 5, 3) := by decide +kernel
theorem dX9_sortHere_70 : decode cX9_sortHere 70 = .ok (.iconst 5, 1) := by decide +kernel
theorem dX9_sortHere_71 : decode cX9_sortHere 71 = .ok (.ireturn, 1) := by decide +kernel
theorem dX9_sortHere_72 : decode cX9_sortHere 72 = .ok (.aload_n 0, 1) := by decide +kernel
theorem dX9_sortHere_73 : decode cX9_sortHere 73 = .ok (.ldc2_w 169, 3) := by decide +kernel
theorem dX9_sortHere_76 : decode cX9_sortHere 76 = .ok (.invokevirtual 235, 3) := by decide +kernel
theorem dX9_sortHere_79 : decode cX9_sortHere 79 = .ok (.ifCond .eq 6, 3) := by decide +kernel
theorem dX9_sortHere_82 : decode cX9_sortHere 82 = .ok (.bipush 6, 2) := by decide +kernel
theorem dX9_sortHere_84 : decode cX9_sortHere 84 = .ok (.ireturn, 1) := by decide +kernel
theorem dX9_sortHere_85 : decode cX9_sortHere 85 = .ok (.aload_n 0, 1) := by decide +kernel
theorem dX9_sortHere_86 : decode cX9_sortHere 86 = .ok (.ldc2_w 171, 3) := by decide +kernel
theorem dX9_sortHere_89 : decode cX9_sortHere 89 = .ok (.invokevirtual 235, 3) := by decide +kernel
theorem dX9_sortHere_92 : decode cX9_sortHere 92 = .ok (.ifCond .eq 8, 3) := by decide +kernel
theorem dX9_sortHere_95 : decode cX9_sortHere 95 = .ok (.bipush 7, 2) := by decide +kernel
theorem dX9_sortHere_97 : decode cX9_sortHere 97 = .ok (.goto 4, 3) := by decide +kernel
theorem dX9_sortHere_100 : decode cX9_sortHere 100 = .ok (.iconst (-1), 1) := by decide +kernel
theorem dX9_sortHere_101 : decode cX9_sortHere 101 = .ok (.ireturn, 1) := by decide +kernel
theorem ydX9_sortHere : z_yd yX9_sortHere 0 := ⟨by decide, by decide, by decide +kernel⟩
abbrev rmX9_sortHere : Room := { frames := 1, cells := 0, slots := 0, locals := 22 }
noncomputable def xX9_sortHere (l0 : Nat) (h : ZH) : Option (Int32 × ZH) := (z_gu (z_is h l0 9) ((xX9_isWord l0 (495740482675 : Int64) h).bind fun r4 => (if r4.1 = 0 then (z_gu (z_is r4.2 l0 9) ((xX9_isWord l0 (491260897125 : Int64) r4.2).bind fun r16 => (if r16.1 = 0 then (z_gu (z_is r16.2 l0 9) ((xX9_isWord l0 (2003395685 : Int64) r16.2).bind fun r28 => (if r28.1 = 0 then (z_gu (z_is r28.2 l0 9) ((xX9_isWord l0 (465557353332 : Int64) r28.2).bind fun r40 => (if r40.1 = 0 then (z_gu (z_is r40.2 l0 9) ((xX9_isWord l0 (461262647411 : Int64) r40.2).bind fun r52 => (if r52.1 = 0 then (z_gu (z_is r52.2 l0 9) ((xX9_isWord l0 (32199680925529203 : Int64) r52.2).bind fun r64 => (if r64.1 = 0 then (z_gu (z_is r64.2 l0 9) ((xX9_isWord l0 (439720633715 : Int64) r64.2).bind fun r76 => (if r76.1 = 0 then (z_gu (z_is r76.2 l0 9) ((xX9_isWord l0 (1685217655 : Int64) r76.2).bind fun r89 => (if r89.1 = 0 then some ((-1 : Int32), r89.2) else some ((7 : Int32), r89.2)))) else some ((6 : Int32), r76.2)))) else some ((5 : Int32), r64.2)))) else some ((4 : Int32), r52.2)))) else some ((3 : Int32), r40.2)))) else some ((2 : Int32), r28.2)))) else some ((1 : Int32), r16.2)))) else some ((0 : Int32), r4.2))))
set_option maxHeartbeats 4000000 in
set_option maxRecDepth 100000 in
theorem lX9_sortHere {Γ : ZG} {l : Launch} (hO : z_OK Γ) {l0 : Nat} {h : ZH} {r : (Int32 × ZH)} (hX : xX9_sortHere l0 h = some r) : z_M Γ l yX9_sortHere (z_ws1 yX9_sortHere cX9_sortHere 1 (some .int)) rmX9_sortHere [.ref l0] h (some (.int r.1)) r.2 := by
  refine z_start hO (plainFor_of_name (by decide)) (Nat.le_of_ble_eq_true rfl) ?_
  intro p e s m args below meth c G hr hnm
  refine z_lvc (lv2 := [(0, .ref l0)]) rfl ?_
  refine z_aload_n (pc := 0) G 0 dX9_sortHere_0 rfl rfl ?_
  refine z_ldc2 (pc := 1) G kt_1429 dX9_sortHere_1 ?_
  obtain ⟨hi4, hX⟩ := z_gu_s hX
  obtain ⟨r4, hv4, hX⟩ := z_bd hX
  refine z_cVI (pc := 4) (As := [.long (495740482675 : Int64)]) (c2 := 0) (s2 := 0) G kK9 (lX9_isWord hO hv4) hi4 kt_1469 kt_11 kt_1466 kt_1468 ks_43 ydX9_isWord ⟨by decide, by decide⟩ rfl (Nat.le_of_ble_eq_true rfl) ⟨rfl, rfl⟩ ⟨by decide, by decide⟩ rfl dX9_sortHere_4 ?_
  refine z_if_eq (pc := 7) (tgt := 12) G dX9_sortHere_7 (by decide) (fun hc7 => ?_) (fun hc7 => ?_)
  · have hX := z_it hc7 hX
    refine z_aload_n (pc := 12) G 0 dX9_sortHere_12 rfl rfl ?_
    refine z_ldc2 (pc := 13) G kt_1430 dX9_sortHere_13 ?_
    obtain ⟨hi16, hX⟩ := z_gu_s hX
    obtain ⟨r16, hv16, hX⟩ := z_bd hX
    refine z_cVI (pc := 16) (As := [.long (491260897125 : Int64)]) (c2 := 0) (s2 := 0) G kK9 (lX9_isWord hO hv16) hi16 kt_1469 kt_11 kt_1466 kt_1468 ks_43 ydX9_isWord ⟨by decide, by decide⟩ rfl (Nat.le_of_ble_eq_true rfl) ⟨rfl, rfl⟩ ⟨by decide, by decide⟩ rfl dX9_sortHere_16 ?_
    refine z_if_eq (pc := 19) (tgt := 24) G dX9_sortHere_19 (by decide) (fun hc19 => ?_) (fun hc19 => ?_)
    · have hX := z_it hc19 hX
      refine z_aload_n (pc := 24) G 0 dX9_sortHere_24 rfl rfl ?_
      refine z_ldc2 (pc := 25) G kt_1431 dX9_sortHere_25 ?_
      obtain ⟨hi28, hX⟩ := z_gu_s hX
      obtain ⟨r28, hv28, hX⟩ := z_bd hX
      refine z_cVI (pc := 28) (As := [.long (2003395685 : Int64)]) (c2 := 0) (s2 := 0) G kK9 (lX9_isWord hO hv28) hi28 kt_1469 kt_11 kt_1466 kt_1468 ks_43 ydX9_isWord ⟨by decide, by decide⟩ rfl (Nat.le_of_ble_eq_true rfl) ⟨rfl, rfl⟩ ⟨by decide, by decide⟩ rfl dX9_sortHere_28 ?_
      refine z_if_eq (pc := 31) (tgt := 36) G dX9_sortHere_31 (by decide) (fun hc31 => ?_) (fun hc31 => ?_)
      · have hX := z_it hc31 hX
        refine z_aload_n (pc := 36) G 0 dX9_sortHere_36 rfl rfl ?_
        refine z_ldc2 (pc := 37) G kt_1432 dX9_sortHere_37 ?_
        obtain ⟨hi40, hX⟩ := z_gu_s hX
        obtain ⟨r40, hv40, hX⟩ := z_bd hX
        refine z_cVI (pc := 40) (As := [.long (465557353332 : Int64)]) (c2 := 0) (s2 := 0) G kK9 (lX9_isWord hO hv40) hi40 kt_1469 kt_11 kt_1466 kt_1468 ks_43 ydX9_isWord ⟨by decide, by decide⟩ rfl (Nat.le_of_ble_eq_true rfl) ⟨rfl, rfl⟩ ⟨by decide, by decide⟩ rfl dX9_sortHere_40 ?_
        refine z_if_eq (pc := 43) (tgt := 48) G dX9_sortHere_43 (by decide) (fun hc43 => ?_) (fun hc43 => ?_)
        · have hX := z_it hc43 hX
          refine z_aload_n (pc := 48) G 0 dX9_sortHere_48 rfl rfl ?_
          refine z_ldc2 (pc := 49) G kt_1433 dX9_sortHere_49 ?_
          obtain ⟨hi52, hX⟩ := z_gu_s hX
          obtain ⟨r52, hv52, hX⟩ := z_bd hX
          refine z_cVI (pc := 52) (As := [.long (461262647411 : Int64)]) (c2 := 0) (s2 := 0) G kK9 (lX9_isWord hO hv52) hi52 kt_1469 kt_11 kt_1466 kt_1468 ks_43 ydX9_isWord ⟨by decide, by decide⟩ rfl (Nat.le_of_ble_eq_true rfl) ⟨rfl, rfl⟩ ⟨by decide, by decide⟩ rfl dX9_sortHere_52 ?_
          refine z_if_eq (pc := 55) (tgt := 60) G dX9_sortHere_55 (by decide) (fun hc55 => ?_) (fun hc55 => ?_)
          · have hX := z_it hc55 hX
            refine z_aload_n (pc := 60) G 0 dX9_sortHere_60 rfl rfl ?_
            refine z_ldc2 (pc := 61) G kt_1438 dX9_sortHere_61 ?_
            obtain ⟨hi64, hX⟩ := z_gu_s hX
            obtain ⟨r64, hv64, hX⟩ := z_bd hX
            refine z_cVI (pc := 64) (As := [.long (32199680925529203 : Int64)]) (c2 := 0) (s2 := 0) G kK9 (lX9_isWord hO hv64) hi64 kt_1469 kt_11 kt_1466 kt_1468 ks_43 ydX9_isWord ⟨by decide, by decide⟩ rfl (Nat.le_of_ble_eq_true rfl) ⟨rfl, rfl⟩ ⟨by decide, by decide⟩ rfl dX9_sortHere_64 ?_
            refine z_if_eq (pc := 67) (tgt := 72) G dX9_sortHere_67 (by decide) (fun hc67 => ?_) (fun hc67 => ?_)
            · have hX := z_it hc67 hX
              refine z_aload_n (pc := 72) G 0 dX9_sortHere_72 rfl rfl ?_
              refine z_ldc2 (pc := 73) G kt_1439 dX9_sortHere_73 ?_
              obtain ⟨hi76, hX⟩ := z_gu_s hX
              obtain ⟨r76, hv76, hX⟩ := z_bd hX
              refine z_cVI (pc := 76) (As := [.long (439720633715 : Int64)]) (c2 := 0) (s2 := 0) G kK9 (lX9_isWord hO hv76) hi76 kt_1469 kt_11 kt_1466 kt_1468 ks_43 ydX9_isWord ⟨by decide, by decide⟩ rfl (Nat.le_of_ble_eq_true rfl) ⟨rfl, rfl⟩ ⟨by decide, by decide⟩ rfl dX9_sortHere_76 ?_
              refine z_if_eq (pc := 79) (tgt := 85) G dX9_sortHere_79 (by decide) (fun hc79 => ?_) (fun hc79 => ?_)
              · have hX := z_it hc79 hX
                refine z_aload_n (pc := 85) G 0 dX9_sortHere_85 rfl rfl ?_
                refine z_ldc2 (pc := 86) G kt_1440 dX9_sortHere_86 ?_
                obtain ⟨hi89, hX⟩ := z_gu_s hX
                obtain ⟨r89, hv89, hX⟩ := z_bd hX
                refine z_cVI (pc := 89) (As := [.long (1685217655 : Int64)]) (c2 := 0) (s2 := 0) G kK9 (lX9_isWord hO hv89) hi89 kt_1469 kt_11 kt_1466 kt_1468 ks_43 ydX9_isWord ⟨by decide, by decide⟩ rfl (Nat.le_of_ble_eq_true rfl) ⟨rfl, rfl⟩ ⟨by decide, by decide⟩ rfl dX9_sortHere_89 ?_
                refine z_if_eq (pc := 92) (tgt := 100) G dX9_sortHere_92 (by decide) (fun hc92 => ?_) (fun hc92 => ?_)
                · have hX := z_it hc92 hX
                  refine z_iconst (pc := 100) (v := (-1)) G dX9_sortHere_100 (by decide) ?_
                  exact z_iretX (pc := 101) hX G hr dX9_sortHere_101 (by decide) (by decide)
                · have hX := z_if hc92 hX
                  refine z_bipush (pc := 95) (v := 7) G dX9_sortHere_95 (by decide) ?_
                  refine z_goto (pc := 97) (tgt := 101) G dX9_sortHere_97 (by decide) ?_
                  exact z_iretX (pc := 101) hX G hr dX9_sortHere_101 (by decide) (by decide)
              · have hX := z_if hc79 hX
                refine z_bipush (pc := 82) (v := 6) G dX9_sortHere_82 (by decide) ?_
                exact z_iretX (pc := 84) hX G hr dX9_sortHere_84 (by decide) (by decide)
            · have hX := z_if hc67 hX
              refine z_iconst (pc := 70) (v := 5) G dX9_sortHere_70 (by decide) ?_
              exact z_iretX (pc := 71) hX G hr dX9_sortHere_71 (by decide) (by decide)
          · have hX := z_if hc55 hX
            refine z_iconst (pc := 58) (v := 4) G dX9_sortHere_58 (by decide) ?_
            exact z_iretX (pc := 59) hX G hr dX9_sortHere_59 (by decide) (by decide)
        · have hX := z_if hc43 hX
          refine z_iconst (pc := 46) (v := 3) G dX9_sortHere_46 (by decide) ?_
          exact z_iretX (pc := 47) hX G hr dX9_sortHere_47 (by decide) (by decide)
      · have hX := z_if hc31 hX
        refine z_iconst (pc := 34) (v := 2) G dX9_sortHere_34 (by decide) ?_
        exact z_iretX (pc := 35) hX G hr dX9_sortHere_35 (by decide) (by decide)
    · have hX := z_if hc19 hX
      refine z_iconst (pc := 22) (v := 1) G dX9_sortHere_22 (by decide) ?_
      exact z_iretX (pc := 23) hX G hr dX9_sortHere_23 (by decide) (by decide)
  · have hX := z_if hc7 hX
    refine z_iconst (pc := 10) (v := 0) G dX9_sortHere_10 (by decide) ?_
    exact z_iretX (pc := 11) hX G hr dX9_sortHere_11 (by decide) (by decide)
