theorem dX4_agrees_0 : decode cX4_agrees 0 = .ok (.iconst 0, 1) := by decide +kernel
theorem dX4_agrees_1 : decode cX4_agrees 1 = .ok (.istore_n 3, 1) := by decide +kernel
theorem dX4_agrees_2 : decode cX4_agrees 2 = .ok (.iload_n 3, 1) := by decide +kernel
theorem dX4_agrees_3 : decode cX4_agrees 3 = .ok (.aload_n 0, 1) := by decide +kernel
theorem dX4_agrees_4 : decode cX4_agrees 4 = .ok (.getfield 35, 3) := by decide +kernel
theorem dX4_agrees_7 : decode cX4_agrees 7 = .ok (.if_icmp .ge 91, 3) := by decide +kernel
theorem dX4_agrees_10 : decode cX4_agrees 10 = .ok (.aload_n 0, 1) := by decide +kernel
theorem dX4_agrees_11 : decode cX4_agrees 11 = .ok (.getfield 25, 3) := by decide +kernel
theorem dX4_agrees_14 : decode cX4_agrees 14 = .ok (.iload_n 3, 1) := by decide +kernel
theorem dX4_agrees_15 : decode cX4_agrees 15 = .ok (.iaload, 1) := by decide +kernel
theorem dX4_agrees_16 : decode cX4_agrees 16 = .ok (.iconst (-1), 1) := by decide +kernel
theorem dX4_agrees_17 : decode cX4_agrees 17 = .ok (.if_icmp .eq 17, 3) := by decide +kernel
theorem dX4_agrees_20 : decode cX4_agrees 20 = .ok (.aload_n 0, 1) := by decide +kernel
theorem dX4_agrees_21 : decode cX4_agrees 21 = .ok (.getfield 25, 3) := by decide +kernel
theorem dX4_agrees_24 : decode cX4_agrees 24 = .ok (.iload_n 3, 1) := by decide +kernel
theorem dX4_agrees_25 : decode cX4_agrees 25 = .ok (.iaload, 1) := by decide +kernel
theorem dX4_agrees_26 : decode cX4_agrees 26 = .ok (.iload_n 2, 1) := by decide +kernel
theorem dX4_agrees_27 : decode cX4_agrees 27 = .ok (.if_icmp .gt 7, 3) := by decide +kernel
theorem dX4_agrees_30 : decode cX4_agrees 30 = .ok (.iconst 1, 1) := by decide +kernel
theorem dX4_agrees_31 : decode cX4_agrees 31 = .ok (.goto 4, 3) := by decide +kernel
theorem dX4_agrees_34 : decode cX4_agrees 34 = .ok (.iconst 0, 1) := by decide +kernel
theorem dX4_agrees_35 : decode cX4_agrees 35 = .ok (.istore 4, 2) := by decide +kernel
theorem dX4_agrees_37 : decode cX4_agrees 37 = .ok (.aload_n 0, 1) := by decide +kernel
theorem dX4_agrees_38 : decode cX4_agrees 38 = .ok (.getfield 22, 3) := by decide +kernel
theorem dX4_agrees_41 : decode cX4_agrees 41 = .ok (.iload_n 3, 1) := by decide +kernel
theorem dX4_agrees_42 : decode cX4_agrees 42 = .ok (.iaload, 1) := by decide +kernel
theorem dX4_agrees_43 : decode cX4_agrees 43 = .ok (.iload_n 2, 1) := by decide +kernel
theorem dX4_agrees_44 : decode cX4_agrees 44 = .ok (.if_icmp .gt 12, 3) := by decide +kernel
theorem dX4_agrees_47 : decode cX4_agrees 47 = .ok (.iload 4, 2) := by decide +kernel
theorem dX4_agrees_49 : decode cX4_agrees 49 = .ok (.ifCond .ne 7, 3) := by decide +kernel
theorem dX4_agrees_52 : decode cX4_agrees 52 = .ok (.iconst 1, 1) := by decide +kernel
theorem dX4_agrees_53 : decode cX4_agrees 53 = .ok (.goto 4, 3) := by decide +kernel
theorem dX4_agrees_56 : decode cX4_agrees 56 = .ok (.iconst 0, 1) := by decide +kernel
theorem dX4_agrees_57 : decode cX4_agrees 57 = .ok (.istore 5, 2) := by decide +kernel
theorem dX4_agrees_59 : decode cX4_agrees 59 = .ok (.iload 5, 2) := by decide +kernel
theorem dX4_agrees_61 : decode cX4_agrees 61 = .ok (.ifCond .eq 31, 3) := by decide +kernel
theorem dX4_agrees_64 : decode cX4_agrees 64 = .ok (.aload_n 0, 1) := by decide +kernel
theorem dX4_agrees_65 : decode cX4_agrees 65 = .ok (.iload_n 1, 1) := by decide +kernel
theorem dX4_agrees_66 : decode cX4_agrees 66 = .ok (.aload_n 0, 1) := by decide +kernel
theorem dX4_agrees_67 : decode cX4_agrees 67 = .ok (.getfield 15, 3) := by decide +kernel
theorem dX4_agrees_70 : decode cX4_agrees 70 = .ok (.iload_n 3, 1) := by decide +kernel
theorem dX4_agrees_71 : decode cX4_agrees 71 = .ok (.iaload, 1) := by decide +kernel
theorem dX4_agrees_72 : decode cX4_agrees 72 = .ok (.aload_n 0, 1) := by decide +kernel
theorem dX4_agrees_73 : decode cX4_agrees 73 = .ok (.getfield 11, 3) := by decide +kernel
theorem dX4_agrees_76 : decode cX4_agrees 76 = .ok (.iload_n 3, 1) := by decide +kernel
theorem dX4_agrees_77 : decode cX4_agrees 77 = .ok (.iaload, 1) := by decide +kernel
theorem dX4_agrees_78 : decode cX4_agrees 78 = .ok (.invokevirtual 54, 3) := by decide +kernel
theorem dX4_agrees_81 : decode cX4_agrees 81 = .ok (.aload_n 0, 1) := by decide +kernel
theorem dX4_agrees_82 : decode cX4_agrees 82 = .ok (.getfield 18, 3) := by decide +kernel
theorem dX4_agrees_85 : decode cX4_agrees 85 = .ok (.iload_n 3, 1) := by decide +kernel
theorem dX4_agrees_86 : decode cX4_agrees 86 = .ok (.baload, 1) := by decide +kernel
theorem dX4_agrees_87 : decode cX4_agrees 87 = .ok (.if_icmp .eq 5, 3) := by decide +kernel
theorem dX4_agrees_90 : decode cX4_agrees 90 = .ok (.iconst 0, 1) := by decide +kernel
theorem dX4_agrees_91 : decode cX4_agrees 91 = .ok (.ireturn, 1) := by decide +kernel
theorem dX4_agrees_92 : decode cX4_agrees 92 = .ok (.iinc 3 1, 3) := by decide +kernel
theorem dX4_agrees_95 : decode cX4_agrees 95 = .ok (.goto (-93), 3) := by decide +kernel
theorem dX4_agrees_98 : decode cX4_agrees 98 = .ok (.iconst 1, 1) := by decide +kernel
theorem dX4_agrees_99 : decode cX4_agrees 99 = .ok (.ireturn, 1) := by decide +kernel
theorem ydX4_agrees : z_yd yX4_agrees 2 := ⟨by decide, by decide, by decide +kernel⟩
abbrev rmX4_agrees : Room := { frames := 2, cells := 0, slots := 0, locals := 48 }
noncomputable def xX4_agrees_B57 (r2 : Nat → Int32 → Int32 → Int32 → ZH → Option (Int32 × ZH)) (l0 : Nat) (l1 : Int32) (l2 : Int32) (l3 : Int32) (s0 : Int32) (h : ZH) : Option (Int32 × ZH) := (if s0 = 0 then r2 l0 l1 l2 (l3 + 1) h else ((z_gR h l0 4 2).bind fun x67 => ((z_aI h x67 l3).bind fun x71 => ((z_gR h l0 4 1).bind fun x73 => ((z_aI h x73 l3).bind fun x77 => (z_gu (z_is h l0 4) ((xX4_wasInRange l0 l1 x71 x77 h).bind fun r78 => ((z_gR r78.2 l0 4 3).bind fun x82 => ((z_aB r78.2 x82 l3).bind fun x86 => (if r78.1 = x86 then r2 l0 l1 l2 (l3 + 1) r78.2 else some ((0 : Int32), r78.2)))))))))))
set_option maxHeartbeats 4000000 in
set_option maxRecDepth 100000 in
theorem wX4_agrees_B57 {Γ : ZG} {p : Program} {l : Launch} {e : Env} {s : State} {m : MethodId} {args : Array Value} {below : List Frame} {meth : Method} {c : Code} (hO : z_OK Γ) (G : z_GG Γ p s m args meth c cX4_agrees 6 RX4) (hr : meth.sig.returnType = (some .boolean)) (hnm : meth.name = "agrees") {r : (Int32 × ZH)} {r2 : Nat → Int32 → Int32 → Int32 → ZH → Option (Int32 × ZH)} (H2 : ∀ (l0 : Nat) (l1 : Int32) (l2 : Int32) (l3 : Int32) (h : ZH), r2 l0 l1 l2 l3 h = some r → z_W Γ p l e rmX4_agrees s m args below meth c 6 0 0 (MQ below (z_Qc Γ (some (.int r.1)) r.2) args s rmX4_agrees.cells rmX4_agrees.slots (z_A Γ)) 2 [(0, .ref l0), (1, .int l1), (2, .int l2), (3, .int l3)] [] h) : ∀ (l0 : Nat) (l1 : Int32) (l2 : Int32) (l3 : Int32) (s0 : Int32) (h : ZH), xX4_agrees_B57  r2 l0 l1 l2 l3 s0 h = some r → z_W Γ p l e rmX4_agrees s m args below meth c 6 0 0 (MQ below (z_Qc Γ (some (.int r.1)) r.2) args s rmX4_agrees.cells rmX4_agrees.slots (z_A Γ)) 57 [(0, .ref l0), (1, .int l1), (2, .int l2), (3, .int l3)] [.int s0] h := by
  intro l0 l1 l2 l3 s0 h hX
  refine z_istore (pc := 57) (lv2 := [(0, .ref l0), (1, .int l1), (2, .int l2), (3, .int l3), (5, .int s0)]) G dX4_agrees_57 (by decide) rfl rfl ?_
  refine z_iload (pc := 59) G 4 dX4_agrees_59 rfl ?_
  refine z_if_eq (pc := 61) (tgt := 92) G dX4_agrees_61 (by decide) (fun hc61 => ?_) (fun hc61 => ?_)
  · have hX := z_it hc61 hX
    refine z_iincw (pc := 92) (w := 1) (lv2 := [(0, .ref l0), (1, .int l1), (2, .int l2), (3, .int (l3 + 1)), (5, .int s0)]) G 3 dX4_agrees_92 rfl (by decide) (by decide) rfl rfl ?_
    refine z_goto (pc := 95) (tgt := 2) G dX4_agrees_95 (by decide) ?_
    refine z_drop (lv2 := [(0, .ref l0), (1, .int l1), (2, .int l2), (3, .int (l3 + 1))]) [0, 1, 2, 3] rfl ?_
    exact H2 _ _ _ _ _ hX
  · have hX := z_if hc61 hX
    refine z_aload_n (pc := 64) G 0 dX4_agrees_64 rfl rfl ?_
    refine z_iload_n (pc := 65) G 1 dX4_agrees_65 rfl rfl ?_
    refine z_aload_n (pc := 66) G 0 dX4_agrees_66 rfl rfl ?_
    obtain ⟨x67, hv67, hX⟩ := z_bd hX
    refine z_getR (pc := 67) G kK4 (k := 2) (by decide) kt_373 dX4_agrees_67 hv67 ?_
    refine z_iload_n (pc := 70) G 3 dX4_agrees_70 rfl rfl ?_
    obtain ⟨x71, hv71, hX⟩ := z_bd hX
    refine z_iald (pc := 71) G dX4_agrees_71 hv71 ?_
    refine z_aload_n (pc := 72) G 0 dX4_agrees_72 rfl rfl ?_
    obtain ⟨x73, hv73, hX⟩ := z_bd hX
    refine z_getR (pc := 73) G kK4 (k := 1) (by decide) kt_372 dX4_agrees_73 hv73 ?_
    refine z_iload_n (pc := 76) G 3 dX4_agrees_76 rfl rfl ?_
    obtain ⟨x77, hv77, hX⟩ := z_bd hX
    refine z_iald (pc := 77) G dX4_agrees_77 hv77 ?_
    obtain ⟨hi78, hX⟩ := z_gu_s hX
    obtain ⟨r78, hv78, hX⟩ := z_bd hX
    refine z_cVI (pc := 78) (As := [.int l1, .int x71, .int x77]) (c2 := 0) (s2 := 0) G kK4 (lX4_wasInRange hO hv78) hi78 kt_1164 kt_9 kt_1161 kt_1163 ks_32 ydX4_wasInRange ⟨by decide, by decide⟩ rfl (Nat.le_of_ble_eq_true rfl) ⟨rfl, rfl⟩ ⟨by decide, by decide⟩ rfl dX4_agrees_78 ?_
    refine z_aload_n (pc := 81) G 0 dX4_agrees_81 rfl rfl ?_
    obtain ⟨x82, hv82, hX⟩ := z_bd hX
    refine z_getR (pc := 82) G kK4 (k := 3) (by decide) kt_374 dX4_agrees_82 hv82 ?_
    refine z_iload_n (pc := 85) G 3 dX4_agrees_85 rfl rfl ?_
    obtain ⟨x86, hv86, hX⟩ := z_bd hX
    refine z_bald (pc := 86) G dX4_agrees_86 hv86 ?_
    refine z_icmp_eq (pc := 87) (tgt := 92) G dX4_agrees_87 (by decide) (fun hc87 => ?_) (fun hc87 => ?_)
    · have hX := z_it hc87 hX
      refine z_iincw (pc := 92) (w := 1) (lv2 := [(0, .ref l0), (1, .int l1), (2, .int l2), (3, .int (l3 + 1)), (5, .int s0)]) G 3 dX4_agrees_92 rfl (by decide) (by decide) rfl rfl ?_
      refine z_goto (pc := 95) (tgt := 2) G dX4_agrees_95 (by decide) ?_
      refine z_drop (lv2 := [(0, .ref l0), (1, .int l1), (2, .int l2), (3, .int (l3 + 1))]) [0, 1, 2, 3] rfl ?_
      exact H2 _ _ _ _ _ hX
    · have hX := z_if hc87 hX
      refine z_iconst (pc := 90) (v := 0) G dX4_agrees_90 (by decide) ?_
      exact z_zretX (pc := 91) hX G hr rfl dX4_agrees_91 (by decide) (by decide)
noncomputable def xX4_agrees_B56 (r2 : Nat → Int32 → Int32 → Int32 → ZH → Option (Int32 × ZH)) (l0 : Nat) (l1 : Int32) (l2 : Int32) (l3 : Int32) (h : ZH) : Option (Int32 × ZH) := xX4_agrees_B57 r2 l0 l1 l2 l3 (0 : Int32) h
set_option maxHeartbeats 4000000 in
set_option maxRecDepth 100000 in
theorem wX4_agrees_B56 {Γ : ZG} {p : Program} {l : Launch} {e : Env} {s : State} {m : MethodId} {args : Array Value} {below : List Frame} {meth : Method} {c : Code} (hO : z_OK Γ) (G : z_GG Γ p s m args meth c cX4_agrees 6 RX4) (hr : meth.sig.returnType = (some .boolean)) (hnm : meth.name = "agrees") {r : (Int32 × ZH)} {r2 : Nat → Int32 → Int32 → Int32 → ZH → Option (Int32 × ZH)} (H2 : ∀ (l0 : Nat) (l1 : Int32) (l2 : Int32) (l3 : Int32) (h : ZH), r2 l0 l1 l2 l3 h = some r → z_W Γ p l e rmX4_agrees s m args below meth c 6 0 0 (MQ below (z_Qc Γ (some (.int r.1)) r.2) args s rmX4_agrees.cells rmX4_agrees.slots (z_A Γ)) 2 [(0, .ref l0), (1, .int l1), (2, .int l2), (3, .int l3)] [] h) : ∀ (l0 : Nat) (l1 : Int32) (l2 : Int32) (l3 : Int32) (h : ZH), xX4_agrees_B56  r2 l0 l1 l2 l3 h = some r → z_W Γ p l e rmX4_agrees s m args below meth c 6 0 0 (MQ below (z_Qc Γ (some (.int r.1)) r.2) args s rmX4_agrees.cells rmX4_agrees.slots (z_A Γ)) 56 [(0, .ref l0), (1, .int l1), (2, .int l2), (3, .int l3)] [] h := by
  intro l0 l1 l2 l3 h hX
  refine z_iconst (pc := 56) (v := 0) G dX4_agrees_56 (by decide) ?_
  exact wX4_agrees_B57 hO G hr hnm H2 _ _ _ _ _ _ hX
noncomputable def xX4_agrees_B35 (r2 : Nat → Int32 → Int32 → Int32 → ZH → Option (Int32 × ZH)) (l0 : Nat) (l1 : Int32) (l2 : Int32) (l3 : Int32) (s0 : Int32) (h : ZH) : Option (Int32 × ZH) := ((z_gR h l0 4 4).bind fun x38 => ((z_aI h x38 l3).bind fun x42 => (if l2 < x42 then xX4_agrees_B56 r2 l0 l1 l2 l3 h else (if s0 = 0 then xX4_agrees_B57 r2 l0 l1 l2 l3 (1 : Int32) h else xX4_agrees_B56 r2 l0 l1 l2 l3 h))))
set_option maxHeartbeats 4000000 in
set_option maxRecDepth 100000 in
theorem wX4_agrees_B35 {Γ : ZG} {p : Program} {l : Launch} {e : Env} {s : State} {m : MethodId} {args : Array Value} {below : List Frame} {meth : Method} {c : Code} (hO : z_OK Γ) (G : z_GG Γ p s m args meth c cX4_agrees 6 RX4) (hr : meth.sig.returnType = (some .boolean)) (hnm : meth.name = "agrees") {r : (Int32 × ZH)} {r2 : Nat → Int32 → Int32 → Int32 → ZH → Option (Int32 × ZH)} (H2 : ∀ (l0 : Nat) (l1 : Int32) (l2 : Int32) (l3 : Int32) (h : ZH), r2 l0 l1 l2 l3 h = some r → z_W Γ p l e rmX4_agrees s m args below meth c 6 0 0 (MQ below (z_Qc Γ (some (.int r.1)) r.2) args s rmX4_agrees.cells rmX4_agrees.slots (z_A Γ)) 2 [(0, .ref l0), (1, .int l1), (2, .int l2), (3, .int l3)] [] h) : ∀ (l0 : Nat) (l1 : Int32) (l2 : Int32) (l3 : Int32) (s0 : Int32) (h : ZH), xX4_agrees_B35  r2 l0 l1 l2 l3 s0 h = some r → z_W Γ p l e rmX4_agrees s m args below meth c 6 0 0 (MQ below (z_Qc Γ (some (.int r.1)) r.2) args s rmX4_agrees.cells rmX4_agrees.slots (z_A Γ)) 35 [(0, .ref l0), (1, .int l1), (2, .int l2), (3, .int l3)] [.int s0] h := by
  intro l0 l1 l2 l3 s0 h hX
  refine z_istore (pc := 35) (lv2 := [(0, .ref l0), (1, .int l1), (2, .int l2), (3, .int l3), (4, .int s0)]) G dX4_agrees_35 (by decide) rfl rfl ?_
  refine z_aload_n (pc := 37) G 0 dX4_agrees_37 rfl rfl ?_
  obtain ⟨x38, hv38, hX⟩ := z_bd hX
  refine z_getR (pc := 38) G kK4 (k := 4) (by decide) kt_375 dX4_agrees_38 hv38 ?_
  refine z_iload_n (pc := 41) G 3 dX4_agrees_41 rfl rfl ?_
  obtain ⟨x42, hv42, hX⟩ := z_bd hX
  refine z_iald (pc := 42) G dX4_agrees_42 hv42 ?_
  refine z_iload_n (pc := 43) G 2 dX4_agrees_43 rfl rfl ?_
  refine z_icmp_gt (pc := 44) (tgt := 56) G dX4_agrees_44 (by decide) (fun hc44 => ?_) (fun hc44 => ?_)
  · have hX := z_it hc44 hX
    refine z_drop (lv2 := [(0, .ref l0), (1, .int l1), (2, .int l2), (3, .int l3)]) [0, 1, 2, 3] rfl ?_
    exact wX4_agrees_B56 hO G hr hnm H2 _ _ _ _ _ hX
  · have hX := z_if hc44 hX
    refine z_iload (pc := 47) G 4 dX4_agrees_47 rfl ?_
    refine z_if_ne (pc := 49) (tgt := 56) G dX4_agrees_49 (by decide) (fun hc49 => ?_) (fun hc49 => ?_)
    · have hX := z_if hc49 hX
      refine z_drop (lv2 := [(0, .ref l0), (1, .int l1), (2, .int l2), (3, .int l3)]) [0, 1, 2, 3] rfl ?_
      exact wX4_agrees_B56 hO G hr hnm H2 _ _ _ _ _ hX
    · have hX := z_it hc49 hX
      refine z_iconst (pc := 52) (v := 1) G dX4_agrees_52 (by decide) ?_
      refine z_goto (pc := 53) (tgt := 57) G dX4_agrees_53 (by decide) ?_
      refine z_drop (lv2 := [(0, .ref l0), (1, .int l1), (2, .int l2), (3, .int l3)]) [0, 1, 2, 3] rfl ?_
      exact wX4_agrees_B57 hO G hr hnm H2 _ _ _ _ _ _ hX
noncomputable def xX4_agrees_B34 (r2 : Nat → Int32 → Int32 → Int32 → ZH → Option (Int32 × ZH)) (l0 : Nat) (l1 : Int32) (l2 : Int32) (l3 : Int32) (h : ZH) : Option (Int32 × ZH) := xX4_agrees_B35 r2 l0 l1 l2 l3 (0 : Int32) h
set_option maxHeartbeats 4000000 in
set_option maxRecDepth 100000 in
theorem wX4_agrees_B34 {Γ : ZG} {p : Program} {l : Launch} {e : Env} {s : State} {m : MethodId} {args : Array Value} {below : List Frame} {meth : Method} {c : Code} (hO : z_OK Γ) (G : z_GG Γ p s m args meth c cX4_agrees 6 RX4) (hr : meth.sig.returnType = (some .boolean)) (hnm : meth.name = "agrees") {r : (Int32 × ZH)} {r2 : Nat → Int32 → Int32 → Int32 → ZH → Option (Int32 × ZH)} (H2 : ∀ (l0 : Nat) (l1 : Int32) (l2 : Int32) (l3 : Int32) (h : ZH), r2 l0 l1 l2 l3 h = some r → z_W Γ p l e rmX4_agrees s m args below meth c 6 0 0 (MQ below (z_Qc Γ (some (.int r.1)) r.2) args s rmX4_agrees.cells rmX4_agrees.slots (z_A Γ)) 2 [(0, .ref l0), (1, .int l1), (2, .int l2), (3, .int l3)] [] h) : ∀ (l0 : Nat) (l1 : Int32) (l2 : Int32) (l3 : Int32) (h : ZH), xX4_agrees_B34  r2 l0 l1 l2 l3 h = some r → z_W Γ p l e rmX4_agrees s m args below meth c 6 0 0 (MQ below (z_Qc Γ (some (.int r.1)) r.2) args s rmX4_agrees.cells rmX4_agrees.slots (z_A Γ)) 34 [(0, .ref l0), (1, .int l1), (2, .int l2), (3, .int l3)] [] h := by
  intro l0 l1 l2 l3 h hX
  refine z_iconst (pc := 34) (v := 0) G dX4_agrees_34 (by decide) ?_
  exact wX4_agrees_B35 hO G hr hnm H2 _ _ _ _ _ _ hX
noncomputable def xX4_agrees_B2 (r2 : Nat → Int32 → Int32 → Int32 → ZH → Option (Int32 × ZH)) (l0 : Nat) (l1 : Int32) (l2 : Int32) (l3 : Int32) (h : ZH) : Option (Int32 × ZH) := ((z_gI h l0 4 8).bind fun x4 => (if x4 ≤ l3 then some ((1 : Int32), h) else ((z_gR h l0 4 5).bind fun x11 => ((z_aI h x11 l3).bind fun x15 => (if x15 = (-1 : Int32) then xX4_agrees_B34 r2 l0 l1 l2 l3 h else ((z_gR h l0 4 5).bind fun x21 => ((z_aI h x21 l3).bind fun x25 => (if l2 < x25 then xX4_agrees_B34 r2 l0 l1 l2 l3 h else xX4_agrees_B35 r2 l0 l1 l2 l3 (1 : Int32) h))))))))
noncomputable def xX4_agrees_L2 (n : Nat) : Nat → Int32 → Int32 → Int32 → ZH → Option (Int32 × ZH) := Nat.rec (motive := fun _ => Nat → Int32 → Int32 → Int32 → ZH → Option (Int32 × ZH)) (fun _ _ _ _ _ => none) (fun _ rec => xX4_agrees_B2  rec) n
set_option maxHeartbeats 4000000 in
set_option maxRecDepth 100000 in
theorem wX4_agrees_B2 {Γ : ZG} {p : Program} {l : Launch} {e : Env} {s : State} {m : MethodId} {args : Array Value} {below : List Frame} {meth : Method} {c : Code} (hO : z_OK Γ) (G : z_GG Γ p s m args meth c cX4_agrees 6 RX4) (hr : meth.sig.returnType = (some .boolean)) (hnm : meth.name = "agrees") {r : (Int32 × ZH)} {r2 : Nat → Int32 → Int32 → Int32 → ZH → Option (Int32 × ZH)} (H2 : ∀ (l0 : Nat) (l1 : Int32) (l2 : Int32) (l3 : Int32) (h : ZH), r2 l0 l1 l2 l3 h = some r → z_W Γ p l e rmX4_agrees s m args below meth c 6 0 0 (MQ below (z_Qc Γ (some (.int r.1)) r.2) args s rmX4_agrees.cells rmX4_agrees.slots (z_A Γ)) 2 [(0, .ref l0), (1, .int l1), (2, .int l2), (3, .int l3)] [] h) : ∀ (l0 : Nat) (l1 : Int32) (l2 : Int32) (l3 : Int32) (h : ZH), xX4_agrees_B2  r2 l0 l1 l2 l3 h = some r → z_W Γ p l e rmX4_agrees s m args below meth c 6 0 0 (MQ below (z_Qc Γ (some (.int r.1)) r.2) args s rmX4_agrees.cells rmX4_agrees.slots (z_A Γ)) 2 [(0, .ref l0), (1, .int l1), (2, .int l2), (3, .int l3)] [] h := by
  intro l0 l1 l2 l3 h hX
  refine z_iload_n (pc := 2) G 3 dX4_agrees_2 rfl rfl ?_
  refine z_aload_n (pc := 3) G 0 dX4_agrees_3 rfl rfl ?_
  obtain ⟨x4, hv4, hX⟩ := z_bd hX
  refine z_getI (pc := 4) G kK4 (k := 8) (by decide) kt_379 dX4_agrees_4 hv4 ?_
  refine z_icmp_ge (pc := 7) (tgt := 98) G dX4_agrees_7 (by decide) (fun hc7 => ?_) (fun hc7 => ?_)
  · have hX := z_it hc7 hX
    refine z_iconst (pc := 98) (v := 1) G dX4_agrees_98 (by decide) ?_
    exact z_zretX (pc := 99) hX G hr rfl dX4_agrees_99 (by decide) (by decide)
  · have hX := z_if hc7 hX
    refine z_aload_n (pc := 10) G 0 dX4_agrees_10 rfl rfl ?_
    obtain ⟨x11, hv11, hX⟩ := z_bd hX
    refine z_getR (pc := 11) G kK4 (k := 5) (by decide) kt_376 dX4_agrees_11 hv11 ?_
    refine z_iload_n (pc := 14) G 3 dX4_agrees_14 rfl rfl ?_
    obtain ⟨x15, hv15, hX⟩ := z_bd hX
    refine z_iald (pc := 15) G dX4_agrees_15 hv15 ?_
    refine z_iconst (pc := 16) (v := (-1)) G dX4_agrees_16 (by decide) ?_
    refine z_icmp_eq (pc := 17) (tgt := 34) G dX4_agrees_17 (by decide) (fun hc17 => ?_) (fun hc17 => ?_)
    · have hX := z_it hc17 hX
      exact wX4_agrees_B34 hO G hr hnm H2 _ _ _ _ _ hX
    · have hX := z_if hc17 hX
      refine z_aload_n (pc := 20) G 0 dX4_agrees_20 rfl rfl ?_
      obtain ⟨x21, hv21, hX⟩ := z_bd hX
      refine z_getR (pc := 21) G kK4 (k := 5) (by decide) kt_376 dX4_agrees_21 hv21 ?_
      refine z_iload_n (pc := 24) G 3 dX4_agrees_24 rfl rfl ?_
      obtain ⟨x25, hv25, hX⟩ := z_bd hX
      refine z_iald (pc := 25) G dX4_agrees_25 hv25 ?_
      refine z_iload_n (pc := 26) G 2 dX4_agrees_26 rfl rfl ?_
      refine z_icmp_gt (pc := 27) (tgt := 34) G dX4_agrees_27 (by decide) (fun hc27 => ?_) (fun hc27 => ?_)
      · have hX := z_it hc27 hX
        exact wX4_agrees_B34 hO G hr hnm H2 _ _ _ _ _ hX
      · have hX := z_if hc27 hX
        refine z_iconst (pc := 30) (v := 1) G dX4_agrees_30 (by decide) ?_
        refine z_goto (pc := 31) (tgt := 35) G dX4_agrees_31 (by decide) ?_
        exact wX4_agrees_B35 hO G hr hnm H2 _ _ _ _ _ _ hX
set_option maxHeartbeats 4000000 in
set_option maxRecDepth 100000 in
theorem wX4_agrees_L2 {Γ : ZG} {p : Program} {l : Launch} {e : Env} {s : State} {m : MethodId} {args : Array Value} {below : List Frame} {meth : Method} {c : Code} (hO : z_OK Γ) (G : z_GG Γ p s m args meth c cX4_agrees 6 RX4) (hr : meth.sig.returnType = (some .boolean)) (hnm : meth.name = "agrees") {r : (Int32 × ZH)} : ∀ (nn : Nat) (l0 : Nat) (l1 : Int32) (l2 : Int32) (l3 : Int32) (h : ZH), xX4_agrees_L2  nn l0 l1 l2 l3 h = some r → z_W Γ p l e rmX4_agrees s m args below meth c 6 0 0 (MQ below (z_Qc Γ (some (.int r.1)) r.2) args s rmX4_agrees.cells rmX4_agrees.slots (z_A Γ)) 2 [(0, .ref l0), (1, .int l1), (2, .int l2), (3, .int l3)] [] h := by
  intro nn
  induction nn with
  | zero => intro l0 l1 l2 l3 h hX; cases hX
  | succ nn ih => intro l0 l1 l2 l3 h hX; exact wX4_agrees_B2 hO G hr hnm  ih l0 l1 l2 l3 h hX
noncomputable def xX4_agrees (l0 : Nat) (l1 : Int32) (l2 : Int32) (h : ZH) : Option (Int32 × ZH) := xX4_agrees_L2 zFU l0 l1 l2 (0 : Int32) h
set_option maxHeartbeats 4000000 in
set_option maxRecDepth 100000 in
theorem lX4_agrees {Γ : ZG} {l : Launch} (hO : z_OK Γ) {l0 : Nat} {l1 : Int32} {l2 : Int32} {h : ZH} {r : (Int32 × ZH)} (hX : xX4_agrees l0 l1 l2 h = some r) : z_M Γ l yX4_agrees (z_ws1 yX4_agrees cX4_agrees 6 (some .boolean)) rmX4_agrees [.ref l0, .int l1, .int l2] h (some (.int r.1)) r.2 := by
  refine z_start hO (plainFor_of_name (by decide)) (Nat.le_of_ble_eq_true rfl) ?_
  intro p e s m args below meth c G hr hnm
  refine z_lvc (lv2 := [(0, .ref l0), (1, .int l1), (2, .int l2)]) rfl ?_
  refine z_iconst (pc := 0) (v := 0) G dX4_agrees_0 (by decide) ?_
  refine z_istore_n (pc := 1) (lv2 := [(0, .ref l0), (1, .int l1), (2, .int l2), (3, .int (0 : Int32))]) G dX4_agrees_1 rfl (by decide) rfl rfl ?_
  exact wX4_agrees_L2 hO G hr hnm zFU _ _ _ _ _ hX
theorem dX4_sift_0 : decode cX4_sift 0 = .ok (.aload_n 0, 1) := by decide +kernel
theorem dX4_sift_1 : decode cX4_sift 1 = .ok (.iconst 0, 1) := by decide +kernel
theorem dX4_sift_2 : decode cX4_sift 2 = .ok (.putfield 47, 3) := by decide +kernel
theorem dX4_sift_5 : decode cX4_sift 5 = .ok (.iconst 0, 1) := by decide +kernel
theorem dX4_sift_6 : decode cX4_sift 6 = .ok (.istore_n 2, 1) := by decide +kernel
theorem dX4_sift_7 : decode cX4_sift 7 = .ok (.iload_n 2, 1) := by decide +kernel
theorem dX4_sift_8 : decode cX4_sift 8 = .ok (.bipush 100, 2) := by decide +kernel
theorem dX4_sift_10 : decode cX4_sift 10 = .ok (.if_icmp .ge 58, 3) := by decide +kernel
theorem dX4_sift_13 : decode cX4_sift 13 = .ok (.aload_n 0, 1) := by decide +kernel
theorem dX4_sift_14 : decode cX4_sift 14 = .ok (.getfield 28, 3) := by decide +kernel
theorem dX4_sift_17 : decode cX4_sift 17 = .ok (.iload_n 2, 1) := by decide +kernel
theorem dX4_sift_18 : decode cX4_sift 18 = .ok (.aload_n 0, 1) := by decide +kernel
theorem dX4_sift_19 : decode cX4_sift 19 = .ok (.getfield 31, 3) := by decide +kernel
theorem dX4_sift_22 : decode cX4_sift 22 = .ok (.getfield 45, 3) := by decide +kernel
theorem dX4_sift_25 : decode cX4_sift 25 = .ok (.ifCond .le 16, 3) := by decide +kernel
theorem dX4_sift_28 : decode cX4_sift 28 = .ok (.aload_n 0, 1) := by decide +kernel
theorem dX4_sift_29 : decode cX4_sift 29 = .ok (.iload_n 2, 1) := by decide +kernel
theorem dX4_sift_30 : decode cX4_sift 30 = .ok (.iload_n 1, 1) := by decide +kernel
theorem dX4_sift_31 : decode cX4_sift 31 = .ok (.invokevirtual 50, 3) := by decide +kernel
theorem dX4_sift_34 : decode cX4_sift 34 = .ok (.ifCond .eq 7, 3) := by decide +kernel
theorem dX4_sift_37 : decode cX4_sift 37 = .ok (.iconst 1, 1) := by decide +kernel
theorem dX4_sift_38 : decode cX4_sift 38 = .ok (.goto 4, 3) := by decide +kernel
theorem dX4_sift_41 : decode cX4_sift 41 = .ok (.iconst 0, 1) := by decide +kernel
theorem dX4_sift_42 : decode cX4_sift 42 = .ok (.bastore, 1) := by decide +kernel
theorem dX4_sift_43 : decode cX4_sift 43 = .ok (.aload_n 0, 1) := by decide +kernel
theorem dX4_sift_44 : decode cX4_sift 44 = .ok (.getfield 28, 3) := by decide +kernel
theorem dX4_sift_47 : decode cX4_sift 47 = .ok (.iload_n 2, 1) := by decide +kernel
theorem dX4_sift_48 : decode cX4_sift 48 = .ok (.baload, 1) := by decide +kernel
theorem dX4_sift_49 : decode cX4_sift 49 = .ok (.ifCond .eq 13, 3) := by decide +kernel
theorem dX4_sift_52 : decode cX4_sift 52 = .ok (.aload_n 0, 1) := by decide +kernel
theorem dX4_sift_53 : decode cX4_sift 53 = .ok (.dup, 1) := by decide +kernel
theorem dX4_sift_54 : decode cX4_sift 54 = .ok (.getfield 47, 3) := by decide +kernel
theorem dX4_sift_57 : decode cX4_sift 57 = .ok (.iconst 1, 1) := by decide +kernel
theorem dX4_sift_58 : decode cX4_sift 58 = .ok (.iadd, 1) := by decide +kernel
theorem dX4_sift_59 : decode cX4_sift 59 = .ok (.putfield 47, 3) := by decide +kernel
theorem dX4_sift_62 : decode cX4_sift 62 = .ok (.iinc 2 1, 3) := by decide +kernel
theorem dX4_sift_65 : decode cX4_sift 65 = .ok (.goto (-58), 3) := by decide +kernel
theorem dX4_sift_68 : decode cX4_sift 68 = .ok (.aload_n 0, 1) := by decide +kernel
theorem dX4_sift_69 : decode cX4_sift 69 = .ok (.getfield 47, 3) := by decide +kernel
theorem dX4_sift_72 : decode cX4_sift 72 = .ok (.ireturn, 1) := by decide +kernel
theorem ydX4_sift : z_yd yX4_sift 1 := ⟨by decide, by decide, by decide +kernel⟩
abbrev rmX4_sift : Room := { frames := 3, cells := 0, slots := 0, locals := 73 }
noncomputable def xX4_sift_B42 (r7 : Nat → Int32 → Int32 → ZH → Option (Int32 × ZH)) (l0 : Nat) (l1 : Int32) (l2 : Int32) (s0 : Int32) (s1 : Int32) (s2 : Nat) (h : ZH) : Option (Int32 × ZH) := ((z_uB h s2 s1 s0).bind fun h42 => ((z_gR h42 l0 4 6).bind fun x44 => ((z_aB h42 x44 l2).bind fun x48 => (if x48 = 0 then r7 l0 l1 (l2 + 1) h42 else ((z_gI h42 l0 4 7).bind fun x54 => ((z_sF h42 l0 4 7 (.int (x54 + (1 : Int32)))).bind fun h59 => r7 l0 l1 (l2 + 1) h59))))))
set_option maxHeartbeats 4000000 in
set_option maxRecDepth 100000 in
theorem wX4_sift_B42 {Γ : ZG} {p : Program} {l : Launch} {e : Env} {s : State} {m : MethodId} {args : Array Value} {below : List Frame} {meth : Method} {c : Code} (hO : z_OK Γ) (G : z_GG Γ p s m args meth c cX4_sift 3 RX4) (hr : meth.sig.returnType = (some .int)) (hnm : meth.name = "sift") {r : (Int32 × ZH)} {r7 : Nat → Int32 → Int32 → ZH → Option (Int32 × ZH)} (H7 : ∀ (l0 : Nat) (l1 : Int32) (l2 : Int32) (h : ZH), r7 l0 l1 l2 h = some r → z_W Γ p l e rmX4_sift s m args below meth c 3 0 0 (MQ below (z_Qc Γ (some (.int r.1)) r.2) args s rmX4_sift.cells rmX4_sift.slots (z_A Γ)) 7 [(0, .ref l0), (1, .int l1), (2, .int l2)] [] h) : ∀ (l0 : Nat) (l1 : Int32) (l2 : Int32) (s0 : Int32) (s1 : Int32) (s2 : Nat) (h : ZH), xX4_sift_B42  r7 l0 l1 l2 s0 s1 s2 h = some r → z_W Γ p l e rmX4_sift s m args below meth c 3 0 0 (MQ below (z_Qc Γ (some (.int r.1)) r.2) args s rmX4_sift.cells rmX4_sift.slots (z_A Γ)) 42 [(0, .ref l0), (1, .int l1), (2, .int l2)] [.int s0, .int s1, .ref s2] h := by
  intro l0 l1 l2 s0 s1 s2 h hX
  obtain ⟨h42, hv42, hX⟩ := z_bd hX
  refine z_bast (pc := 42) G dX4_sift_42 hv42 ?_
  refine z_aload_n (pc := 43) G 0 dX4_sift_43 rfl rfl ?_
  obtain ⟨x44, hv44, hX⟩ := z_bd hX
  refine z_getR (pc := 44) G kK4 (k := 6) (by decide) kt_377 dX4_sift_44 hv44 ?_
  refine z_iload_n (pc := 47) G 2 dX4_sift_47 rfl rfl ?_
  obtain ⟨x48, hv48, hX⟩ := z_bd hX
  refine z_bald (pc := 48) G dX4_sift_48 hv48 ?_
  refine z_if_eq (pc := 49) (tgt := 62) G dX4_sift_49 (by decide) (fun hc49 => ?_) (fun hc49 => ?_)
  · have hX := z_it hc49 hX
    refine z_iincw (pc := 62) (w := 1) (lv2 := [(0, .ref l0), (1, .int l1), (2, .int (l2 + 1))]) G 2 dX4_sift_62 rfl (by decide) (by decide) rfl rfl ?_
    refine z_goto (pc := 65) (tgt := 7) G dX4_sift_65 (by decide) ?_
    exact H7 _ _ _ _ hX
  · have hX := z_if hc49 hX
    refine z_aload_n (pc := 52) G 0 dX4_sift_52 rfl rfl ?_
    refine z_dup (pc := 53) G dX4_sift_53 rfl ?_
    obtain ⟨x54, hv54, hX⟩ := z_bd hX
    refine z_getI (pc := 54) G kK4 (k := 7) (by decide) kt_378 dX4_sift_54 hv54 ?_
    refine z_iconst (pc := 57) (v := 1) G dX4_sift_57 (by decide) ?_
    refine z_iadd (pc := 58) G dX4_sift_58 ?_
    obtain ⟨h59, hv59, hX⟩ := z_bd hX
    refine z_putF (pc := 59) G kK4 (k := 7) (by decide) kt_378 (Or.inl rfl) rfl rfl dX4_sift_59 hv59 ?_
    refine z_iincw (pc := 62) (w := 1) (lv2 := [(0, .ref l0), (1, .int l1), (2, .int (l2 + 1))]) G 2 dX4_sift_62 rfl (by decide) (by decide) rfl rfl ?_
    refine z_goto (pc := 65) (tgt := 7) G dX4_sift_65 (by decide) ?_
    exact H7 _ _ _ _ hX
noncomputable def xX4_sift_B41 (r7 : Nat → Int32 → Int32 → ZH → Option (Int32 × ZH)) (l0 : Nat) (l1 : Int32) (l2 : Int32) (s0 : Int32) (s1 : Nat) (h : ZH) : Option (Int32 × ZH) := xX4_sift_B42 r7 l0 l1 l2 (0 : Int32) s0 s1 h
set_option maxHeartbeats 4000000 in
set_option maxRecDepth 100000 in
theorem wX4_sift_B41 {Γ : ZG} {p : Program} {l : Launch} {e : Env} {s : State} {m : MethodId} {args : Array Value} {below : List Frame} {meth : Method} {c : Code} (hO : z_OK Γ) (G : z_GG Γ p s m args meth c cX4_sift 3 RX4) (hr : meth.sig.returnType = (some .int)) (hnm : meth.name = "sift") {r : (Int32 × ZH)} {r7 : Nat → Int32 → Int32 → ZH → Option (Int32 × ZH)} (H7 : ∀ (l0 : Nat) (l1 : Int32) (l2 : Int32) (h : ZH), r7 l0 l1 l2 h = some r → z_W Γ p l e rmX4_sift s m args below meth c 3 0 0 (MQ below (z_Qc Γ (some (.int r.1)) r.2) args s rmX4_sift.cells rmX4_sift.slots (z_A Γ)) 7 [(0, .ref l0), (1, .int l1), (2, .int l2)] [] h) : ∀ (l0 : Nat) (l1 : Int32) (l2 : Int32) (s0 : Int32) (s1 : Nat) (h : ZH), xX4_sift_B41  r7 l0 l1 l2 s0 s1 h = some r → z_W Γ p l e rmX4_sift s m args below meth c 3 0 0 (MQ below (z_Qc Γ (some (.int r.1)) r.2) args s rmX4_sift.cells rmX4_sift.slots (z_A Γ)) 41 [(0, .ref l0), (1, .int l1), (2, .int l2)] [.int s0, .ref s1] h := by
  intro l0 l1 l2 s0 s1 h hX
  refine z_iconst (pc := 41) (v := 0) G dX4_sift_41 (by decide) ?_
  exact wX4_sift_B42 hO G hr hnm H7 _ _ _ _ _ _ _ hX
noncomputable def xX4_sift_B7 (r7 : Nat → Int32 → Int32 → ZH → Option (Int32 × ZH)) (l0 : Nat) (l1 : Int32) (l2 : Int32) (h : ZH) : Option (Int32 × ZH) := (if (100 : Int32) ≤ l2 then ((z_gI h l0 4 7).bind fun x69 => some (x69, h)) else ((z_gR h l0 4 6).bind fun x14 => ((z_gR h l0 4 0).bind fun x19 => ((z_gI h x19 2 7).bind fun x22 => (if x22 ≤ 0 then xX4_sift_B41 r7 l0 l1 l2 l2 x14 h else (z_gu (z_is h l0 4) ((xX4_agrees l0 l2 l1 h).bind fun r31 => (if r31.1 = 0 then xX4_sift_B41 r7 l0 l1 l2 l2 x14 r31.2 else xX4_sift_B42 r7 l0 l1 l2 (1 : Int32) l2 x14 r31.2))))))))
noncomputable def xX4_sift_L7 (n : Nat) : Nat → Int32 → Int32 → ZH → Option (Int32 × ZH) := Nat.rec (motive := fun _ => Nat → Int32 → Int32 → ZH → Option (Int32 × ZH)) (fun _ _ _ _ => none) (fun _ rec => xX4_sift_B7  rec) n
set_option maxHeartbeats 4000000 in
set_option maxRecDepth 100000 in
theorem wX4_sift_B7 {Γ : ZG} {p : Program} {l : Launch} {e : Env} {s : State} {m : MethodId} {args : Array Value} {below : List Frame} {meth : Method} {c : Code} (hO : z_OK Γ) (G : z_GG Γ p s m args meth c cX4_sift 3 RX4) (hr : meth.sig.returnType = (some .int)) (hnm : meth.name = "sift") {r : (Int32 × ZH)} {r7 : Nat → Int32 → Int32 → ZH → Option (Int32 × ZH)} (H7 : ∀ (l0 : Nat) (l1 : Int32) (l2 : Int32) (h : ZH), r7 l0 l1 l2 h = some r → z_W Γ p l e rmX4_sift s m args below meth c 3 0 0 (MQ below (z_Qc Γ (some (.int r.1)) r.2) args s rmX4_sift.cells rmX4_sift.slots (z_A Γ)) 7 [(0, .ref l0), (1, .int l1), (2, .int l2)] [] h) : ∀ (l0 : Nat) (l1 : Int32) (l2 : Int32) (h : ZH), xX4_sift_B7  r7 l0 l1 l2 h = some r → z_W Γ p l e rmX4_sift s m args below meth c 3 0 0 (MQ below (z_Qc Γ (some (.int r.1)) r.2) args s rmX4_sift.cells rmX4_sift.slots (z_A Γ)) 7 [(0, .ref l0), (1, .int l1), (2, .int l2)] [] h := by
  intro l0 l1 l2 h hX
  refine z_iload_n (pc := 7) G 2 dX4_sift_7 rfl rfl ?_
  refine z_bipush (pc := 8) (v := 100) G dX4_sift_8 (by decide) ?_
  refine z_icmp_ge (pc := 10) (tgt := 68) G dX4_sift_10 (by decide) (fun hc10 => ?_) (fun hc10 => ?_)
  · have hX := z_it hc10 hX
    refine z_aload_n (pc := 68) G 0 dX4_sift_68 rfl rfl ?_
    obtain ⟨x69, hv69, hX⟩ := z_bd hX
    refine z_getI (pc := 69) G kK4 (k := 7) (by decide) kt_378 dX4_sift_69 hv69 ?_
    exact z_iretX (pc := 72) hX G hr dX4_sift_72 (by decide) (by decide)
  · have hX := z_if hc10 hX
    refine z_aload_n (pc := 13) G 0 dX4_sift_13 rfl rfl ?_
    obtain ⟨x14, hv14, hX⟩ := z_bd hX
    refine z_getR (pc := 14) G kK4 (k := 6) (by decide) kt_377 dX4_sift_14 hv14 ?_
    refine z_iload_n (pc := 17) G 2 dX4_sift_17 rfl rfl ?_
    refine z_aload_n (pc := 18) G 0 dX4_sift_18 rfl rfl ?_
    obtain ⟨x19, hv19, hX⟩ := z_bd hX
    refine z_getR (pc := 19) G kK4 (k := 0) (by decide) kt_371 dX4_sift_19 hv19 ?_
    obtain ⟨x22, hv22, hX⟩ := z_bd hX
    refine z_getI (pc := 22) G kK2 (k := 7) (by decide) kt_69 dX4_sift_22 hv22 ?_
    refine z_if_le (pc := 25) (tgt := 41) G dX4_sift_25 (by decide) (fun hc25 => ?_) (fun hc25 => ?_)
    · have hX := z_it hc25 hX
      exact wX4_sift_B41 hO G hr hnm H7 _ _ _ _ _ _ hX
    · have hX := z_if hc25 hX
      refine z_aload_n (pc := 28) G 0 dX4_sift_28 rfl rfl ?_
      refine z_iload_n (pc := 29) G 2 dX4_sift_29 rfl rfl ?_
      refine z_iload_n (pc := 30) G 1 dX4_sift_30 rfl rfl ?_
      obtain ⟨hi31, hX⟩ := z_gu_s hX
      obtain ⟨r31, hv31, hX⟩ := z_bd hX
      refine z_cVI (pc := 31) (As := [.int l2, .int l1]) (c2 := 0) (s2 := 0) G kK4 (lX4_agrees hO hv31) hi31 kt_1160 kt_9 kt_1157 kt_1159 ks_31 ydX4_agrees ⟨by decide, by decide⟩ rfl (Nat.le_of_ble_eq_true rfl) ⟨rfl, rfl⟩ ⟨by decide, by decide⟩ rfl dX4_sift_31 ?_
      refine z_if_eq (pc := 34) (tgt := 41) G dX4_sift_34 (by decide) (fun hc34 => ?_) (fun hc34 => ?_)
      · have hX := z_it hc34 hX
        exact wX4_sift_B41 hO G hr hnm H7 _ _ _ _ _ _ hX
      · have hX := z_if hc34 hX
        refine z_iconst (pc := 37) (v := 1) G dX4_sift_37 (by decide) ?_
        refine z_goto (pc := 38) (tgt := 42) G dX4_sift_38 (by decide) ?_
        exact wX4_sift_B42 hO G hr hnm H7 _ _ _ _ _ _ _ hX
set_option maxHeartbeats 4000000 in
set_option maxRecDepth 100000 in
theorem wX4_sift_L7 {Γ : ZG} {p : Program} {l : Launch} {e : Env} {s : State} {m : MethodId} {args : Array Value} {below : List Frame} {meth : Method} {c : Code} (hO : z_OK Γ) (G : z_GG Γ p s m args meth c cX4_sift 3 RX4) (hr : meth.sig.returnType = (some .int)) (hnm : meth.name = "sift") {r : (Int32 × ZH)} : ∀ (nn : Nat) (l0 : Nat) (l1 : Int32) (l2 : Int32) (h : ZH), xX4_sift_L7  nn l0 l1 l2 h = some r → z_W Γ p l e rmX4_sift s m args below meth c 3 0 0 (MQ below (z_Qc Γ (some (.int r.1)) r.2) args s rmX4_sift.cells rmX4_sift.slots (z_A Γ)) 7 [(0, .ref l0), (1, .int l1), (2, .int l2)] [] h := by
  intro nn
  induction nn with
  | zero => intro l0 l1 l2 h hX; cases hX
  | succ nn ih => intro l0 l1 l2 h hX; exact wX4_sift_B7 hO G hr hnm  ih l0 l1 l2 h hX
noncomputable def xX4_sift (l0 : Nat) (l1 : Int32) (h : ZH) : Option (Int32 × ZH) := ((z_sF h l0 4 7 (.int (0 : Int32))).bind fun h2 => xX4_sift_L7 zFU l0 l1 (0 : Int32) h2)
set_option maxHeartbeats 4000000 in
set_option maxRecDepth 100000 in
theorem lX4_sift {Γ : ZG} {l : Launch} (hO : z_OK Γ) {l0 : Nat} {l1 : Int32} {h : ZH} {r : (Int32 × ZH)} (hX : xX4_sift l0 l1 h = some r) : z_M Γ l yX4_sift (z_ws1 yX4_sift cX4_sift 3 (some .int)) rmX4_sift [.ref l0, .int l1] h (some (.int r.1)) r.2 := by
  refine z_start hO (plainFor_of_name (by decide)) (Nat.le_of_ble_eq_true rfl) ?_
  intro p e s m args below meth c G hr hnm
  refine z_lvc (lv2 := [(0, .ref l0), (1, .int l1)]) rfl ?_
  refine z_aload_n (pc := 0) G 0 dX4_sift_0 rfl rfl ?_
  refine z_iconst (pc := 1) (v := 0) G dX4_sift_1 (by decide) ?_
  obtain ⟨h2, hv2, hX⟩ := z_bd hX
  refine z_putF (pc := 2) G kK4 (k := 7) (by decide) kt_378 (Or.inl rfl) rfl rfl dX4_sift_2 hv2 ?_
  refine z_iconst (pc := 5) (v := 0) G dX4_sift_5 (by decide) ?_
  refine z_istore_n (pc := 6) (lv2 := [(0, .ref l0), (1, .int l1), (2, .int (0 : Int32))]) G dX4_sift_6 rfl (by decide) rfl rfl ?_
  exact wX4_sift_L7 hO G hr hnm zFU _ _ _ _ hX
theorem dX4_least_0 : decode cX4_least 0 = .ok (.iconst 0, 1) := by decide +kernel
theorem dX4_least_1 : decode cX4_least 1 = .ok (.istore_n 1, 1) := by decide +kernel
theorem dX4_least_2 : decode cX4_least 2 = .ok (.iload_n 1, 1) := by decide +kernel
theorem dX4_least_3 : decode cX4_least 3 = .ok (.bipush 100, 2) := by decide +kernel
theorem dX4_least_5 : decode cX4_least 5 = .ok (.if_icmp .ge 20, 3) := by decide +kernel
theorem dX4_least_8 : decode cX4_least 8 = .ok (.aload_n 0, 1) := by decide +kernel
theorem dX4_least_9 : decode cX4_least 9 = .ok (.getfield 28, 3) := by decide +kernel
theorem dX4_least_12 : decode cX4_least 12 = .ok (.iload_n 1, 1) := by decide +kernel
theorem dX4_least_13 : decode cX4_least 13 = .ok (.baload, 1) := by decide +kernel
theorem dX4_least_14 : decode cX4_least 14 = .ok (.ifCond .eq 5, 3) := by decide +kernel
theorem dX4_least_17 : decode cX4_least 17 = .ok (.iload_n 1, 1) := by decide +kernel
theorem dX4_least_18 : decode cX4_least 18 = .ok (.ireturn, 1) := by decide +kernel
theorem dX4_least_19 : decode cX4_least 19 = .ok (.iinc 1 1, 3) := by decide +kernel
theorem dX4_least_22 : decode cX4_least 22 = .ok (.goto (-20), 3) := by decide +kernel
theorem dX4_least_25 : decode cX4_least 25 = .ok (.iconst (-1), 1) := by decide +kernel
theorem dX4_least_26 : decode cX4_least 26 = .ok (.ireturn, 1) := by decide +kernel
theorem ydX4_least : z_yd yX4_least 0 := ⟨by decide, by decide, by decide +kernel⟩
abbrev rmX4_least : Room := { frames := 0, cells := 0, slots := 0, locals := 0 }
noncomputable def xX4_least_B2 (r2 : Nat → Int32 → ZH → Option (Int32 × ZH)) (l0 : Nat) (l1 : Int32) (h : ZH) : Option (Int32 × ZH) := (if (100 : Int32) ≤ l1 then some ((-1 : Int32), h) else ((z_gR h l0 4 6).bind fun x9 => ((z_aB h x9 l1).bind fun x13 => (if x13 = 0 then r2 l0 (l1 + 1) h else some (l1, h)))))
noncomputable def xX4_least_L2 (n : Nat) : Nat → Int32 → ZH → Option (Int32 × ZH) := Nat.rec (motive := fun _ => Nat → Int32 → ZH → Option (Int32 × ZH)) (fun _ _ _ => none) (fun _ rec => xX4_least_B2  rec) n
set_option maxHeartbeats 4000000 in
set_option maxRecDepth 100000 in
theorem wX4_least_B2 {Γ : ZG} {p : Program} {l : Launch} {e : Env} {s : State} {m : MethodId} {args : Array Value} {below : List Frame} {meth : Method} {c : Code} (hO : z_OK Γ) (G : z_GG Γ p s m args meth c cX4_least 2 RX4) (hr : meth.sig.returnType = (some .int)) (hnm : meth.name = "least") {r : (Int32 × ZH)} {r2 : Nat → Int32 → ZH → Option (Int32 × ZH)} (H2 : ∀ (l0 : Nat) (l1 : Int32) (h : ZH), r2 l0 l1 h = some r → z_W Γ p l e rmX4_least s m args below meth c 2 0 0 (MQ below (z_Qc Γ (some (.int r.1)) r.2) args s rmX4_least.cells rmX4_least.slots (z_A Γ)) 2 [(0, .ref l0), (1, .int l1)] [] h) : ∀ (l0 : Nat) (l1 : Int32) (h : ZH), xX4_least_B2  r2 l0 l1 h = some r → z_W Γ p l e rmX4_least s m args below meth c 2 0 0 (MQ below (z_Qc Γ (some (.int r.1)) r.2) args s rmX4_least.cells rmX4_least.slots (z_A Γ)) 2 [(0, .ref l0), (1, .int l1)] [] h := by
  intro l0 l1 h hX
  refine z_iload_n (pc := 2) G 1 dX4_least_2 rfl rfl ?_
  refine z_bipush (pc := 3) (v := 100) G dX4_least_3 (by decide) ?_
  refine z_icmp_ge (pc := 5) (tgt := 25) G dX4_least_5 (by decide) (fun hc5 => ?_) (fun hc5 => ?_)
  · have hX := z_it hc5 hX
    refine z_iconst (pc := 25) (v := (-1)) G dX4_least_25 (by decide) ?_
    exact z_iretX (pc := 26) hX G hr dX4_least_26 (by decide) (by decide)
  · have hX := z_if hc5 hX
    refine z_aload_n (pc := 8) G 0 dX4_least_8 rfl rfl ?_
    obtain ⟨x9, hv9, hX⟩ := z_bd hX
    refine z_getR (pc := 9) G kK4 (k := 6) (by decide) kt_377 dX4_least_9 hv9 ?_
    refine z_iload_n (pc := 12) G 1 dX4_least_12 rfl rfl ?_
    obtain ⟨x13, hv13, hX⟩ := z_bd hX
    refine z_bald (pc := 13) G dX4_least_13 hv13 ?_
    refine z_if_eq (pc := 14) (tgt := 19) G dX4_least_14 (by decide) (fun hc14 => ?_) (fun hc14 => ?_)
    · have hX := z_it hc14 hX
      refine z_iincw (pc := 19) (w := 1) (lv2 := [(0, .ref l0), (1, .int (l1 + 1))]) G 1 dX4_least_19 rfl (by decide) (by decide) rfl rfl ?_
      refine z_goto (pc := 22) (tgt := 2) G dX4_least_22 (by decide) ?_
      exact H2 _ _ _ hX
    · have hX := z_if hc14 hX
      refine z_iload_n (pc := 17) G 1 dX4_least_17 rfl rfl ?_
      exact z_iretX (pc := 18) hX G hr dX4_least_18 (by decide) (by decide)
set_option maxHeartbeats 4000000 in
set_option maxRecDepth 100000 in
theorem wX4_least_L2 {Γ : ZG} {p : Program} {l : Launch} {e : Env} {s : State} {m : MethodId} {args : Array Value} {below : List Frame} {meth : Method} {c : Code} (hO : z_OK Γ) (G : z_GG Γ p s m args meth c cX4_least 2 RX4) (hr : meth.sig.returnType = (some .int)) (hnm : meth.name = "least") {r : (Int32 × ZH)} : ∀ (nn : Nat) (l0 : Nat) (l1 : Int32) (h : ZH), xX4_least_L2  nn l0 l1 h = some r → z_W Γ p l e rmX4_least s m args below meth c 2 0 0 (MQ below (z_Qc Γ (some (.int r.1)) r.2) args s rmX4_least.cells rmX4_least.slots (z_A Γ)) 2 [(0, .ref l0), (1, .int l1)] [] h := by
  intro nn
  induction nn with
  | zero => intro l0 l1 h hX; cases hX
  | succ nn ih => intro l0 l1 h hX; exact wX4_least_B2 hO G hr hnm  ih l0 l1 h hX
noncomputable def xX4_least (l0 : Nat) (h : ZH) : Option (Int32 × ZH) := xX4_least_L2 zFU l0 (0 : Int32) h
set_option maxHeartbeats 4000000 in
set_option maxRecDepth 100000 in
theorem lX4_least {Γ : ZG} {l : Launch} (hO : z_OK Γ) {l0 : Nat} {h : ZH} {r : (Int32 × ZH)} (hX : xX4_least l0 h = some r) : z_M Γ l yX4_least (z_ws1 yX4_least cX4_least 2 (some .int)) rmX4_least [.ref l0] h (some (.int r.1)) r.2 := by
  refine z_start hO (plainFor_of_name (by decide)) (Nat.le_of_ble_eq_true rfl) ?_
  intro p e s m args below meth c G hr hnm
  refine z_lvc (lv2 := [(0, .ref l0)]) rfl ?_
  refine z_iconst (pc := 0) (v := 0) G dX4_least_0 (by decide) ?_
  refine z_istore_n (pc := 1) (lv2 := [(0, .ref l0), (1, .int (0 : Int32))]) G dX4_least_1 rfl (by decide) rfl rfl ?_
  exact wX4_least_L2 hO G hr hnm zFU _ _ _ hX
theorem dX4_greatest_0 : decode cX4_greatest 0 = .ok (.bipush 99, 2) := by decide +kernel
theorem dX4_greatest_2 : decode cX4_greatest 2 = .ok (.istore_n 1, 1) := by decide +kernel
theorem dX4_greatest_3 : decode cX4_greatest 3 = .ok (.iload_n 1, 1) := by decide +kernel
theorem dX4_greatest_4 : decode cX4_greatest 4 = .ok (.ifCond .lt 20, 3) := by decide +kernel
theorem dX4_greatest_7 : decode cX4_greatest 7 = .ok (.aload_n 0, 1) := by decide +kernel
theorem dX4_greatest_8 : decode cX4_greatest 8 = .ok (.getfield 28, 3) := by decide +kernel
theorem dX4_greatest_11 : decode cX4_greatest 11 = .ok (.iload_n 1, 1) := by decide +kernel
theorem dX4_greatest_12 : decode cX4_greatest 12 = .ok (.baload, 1) := by decide +kernel
theorem dX4_greatest_13 : decode cX4_greatest 13 = .ok (.ifCond .eq 5, 3) := by decide +kernel
theorem dX4_greatest_16 : decode cX4_greatest 16 = .ok (.iload_n 1, 1) := by decide +kernel
theorem dX4_greatest_17 : decode cX4_greatest 17 = .ok (.ireturn, 1) := by decide +kernel
theorem dX4_greatest_18 : decode cX4_greatest 18 = .ok (.iinc 1 (-1), 3) := by decide +kernel
theorem dX4_greatest_21 : decode cX4_greatest 21 = .ok (.goto (-18), 3) := by decide +kernel
theorem dX4_greatest_24 : decode cX4_greatest 24 = .ok (.iconst (-1), 1) := by decide +kernel
theorem dX4_greatest_25 : decode cX4_greatest 25 = .ok (.ireturn, 1) := by decide +kernel
theorem ydX4_greatest : z_yd yX4_greatest 0 := ⟨by decide, by decide, by decide +kernel⟩
abbrev rmX4_greatest : Room := { frames := 0, cells := 0, slots := 0, locals := 0 }
noncomputable def xX4_greatest_B3 (r3 : Nat → Int32 → ZH → Option (Int32 × ZH)) (l0 : Nat) (l1 : Int32) (h : ZH) : Option (Int32 × ZH) := (if l1 < 0 then some ((-1 : Int32), h) else ((z_gR h l0 4 6).bind fun x8 => ((z_aB h x8 l1).bind fun x12 => (if x12 = 0 then r3 l0 (l1 + (-1)) h else some (l1, h)))))
noncomputable def xX4_greatest_L3 (n : Nat) : Nat → Int32 → ZH → Option (Int32 × ZH) := Nat.rec (motive := fun _ => Nat → Int32 → ZH → Option (Int32 × ZH)) (fun _ _ _ => none) (fun _ rec => xX4_greatest_B3  rec) n
set_option maxHeartbeats 4000000 in
set_option maxRecDepth 100000 in
theorem wX4_greatest_B3 {Γ : ZG} {p : Program} {l : Launch} {e : Env} {s : State} {m : MethodId} {args : Array Value} {below : List Frame} {meth : Method} {c : Code} (hO : z_OK Γ) (G : z_GG Γ p s m args meth c cX4_greatest 2 RX4) (hr : meth.sig.returnType = (some .int)) (hnm : meth.name = "greatest") {r : (Int32 × ZH)} {r3 : Nat → Int32 → ZH → Option (Int32 × ZH)} (H3 : ∀ (l0 : Nat) (l1 : Int32) (h : ZH), r3 l0 l1 h = some r → z_W Γ p l e rmX4_greatest s m args below meth c 2 0 0 (MQ below (z_Qc Γ (some (.int r.1)) r.2) args s rmX4_greatest.cells rmX4_greatest.slots (z_A Γ)) 3 [(0, .ref l0), (1, .int l1)] [] h) : ∀ (l0 : Nat) (l1 : Int32) (h : ZH), xX4_greatest_B3  r3 l0 l1 h = some r → z_W Γ p l e rmX4_greatest s m args below meth c 2 0 0 (MQ below (z_Qc Γ (some (.int r.1)) r.2) args s rmX4_greatest.cells rmX4_greatest.slots (z_A Γ)) 3 [(0, .ref l0), (1, .int l1)] [] h := by
  intro l0 l1 h hX
  refine z_iload_n (pc := 3) G 1 dX4_greatest_3 rfl rfl ?_
  refine z_if_lt (pc := 4) (tgt := 24) G dX4_greatest_4 (by decide) (fun hc4 => ?_) (fun hc4 => ?_)
  · have hX := z_it hc4 hX
    refine z_iconst (pc := 24) (v := (-1)) G dX4_greatest_24 (by decide) ?_
    exact z_iretX (pc := 25) hX G hr dX4_greatest_25 (by decide) (by decide)
  · have hX := z_if hc4 hX
    refine z_aload_n (pc := 7) G 0 dX4_greatest_7 rfl rfl ?_
    obtain ⟨x8, hv8, hX⟩ := z_bd hX
    refine z_getR (pc := 8) G kK4 (k := 6) (by decide) kt_377 dX4_greatest_8 hv8 ?_
    refine z_iload_n (pc := 11) G 1 dX4_greatest_11 rfl rfl ?_
    obtain ⟨x12, hv12, hX⟩ := z_bd hX
    refine z_bald (pc := 12) G dX4_greatest_12 hv12 ?_
    refine z_if_eq (pc := 13) (tgt := 18) G dX4_greatest_13 (by decide) (fun hc13 => ?_) (fun hc13 => ?_)
    · have hX := z_it hc13 hX
      refine z_iincw (pc := 18) (w := (-1)) (lv2 := [(0, .ref l0), (1, .int (l1 + (-1)))]) G 1 dX4_greatest_18 rfl (by decide) (by decide) rfl rfl ?_
      refine z_goto (pc := 21) (tgt := 3) G dX4_greatest_21 (by decide) ?_
      exact H3 _ _ _ hX
    · have hX := z_if hc13 hX
      refine z_iload_n (pc := 16) G 1 dX4_greatest_16 rfl rfl ?_
      exact z_iretX (pc := 17) hX G hr dX4_greatest_17 (by decide) (by decide)
set_option maxHeartbeats 4000000 in
set_option maxRecDepth 100000 in
theorem wX4_greatest_L3 {Γ : ZG} {p : Program} {l : Launch} {e : Env} {s : State} {m : MethodId} {args : Array Value} {below : List Frame} {meth : Method} {c : Code} (hO : z_OK Γ) (G : z_GG Γ p s m args meth c cX4_greatest 2 RX4) (hr : meth.sig.returnType = (some .int)) (hnm : meth.name = "greatest") {r : (Int32 × ZH)} : ∀ (nn : Nat) (l0 : Nat) (l1 : Int32) (h : ZH), xX4_greatest_L3  nn l0 l1 h = some r → z_W Γ p l e rmX4_greatest s m args below meth c 2 0 0 (MQ below (z_Qc Γ (some (.int r.1)) r.2) args s rmX4_greatest.cells rmX4_greatest.slots (z_A Γ)) 3 [(0, .ref l0), (1, .int l1)] [] h := by
  intro nn
  induction nn with
  | zero => intro l0 l1 h hX; cases hX
  | succ nn ih => intro l0 l1 h hX; exact wX4_greatest_B3 hO G hr hnm  ih l0 l1 h hX
noncomputable def xX4_greatest (l0 : Nat) (h : ZH) : Option (Int32 × ZH) := xX4_greatest_L3 zFU l0 (99 : Int32) h
set_option maxHeartbeats 4000000 in
set_option maxRecDepth 100000 in
theorem lX4_greatest {Γ : ZG} {l : Launch} (hO : z_OK Γ) {l0 : Nat} {h : ZH} {r : (Int32 × ZH)} (hX : xX4_greatest l0 h = some r) : z_M Γ l yX4_greatest (z_ws1 yX4_greatest cX4_greatest 2 (some .int)) rmX4_greatest [.ref l0] h (some (.int r.1)) r.2 := by
  refine z_start hO (plainFor_of_name (by decide)) (Nat.le_of_ble_eq_true rfl) ?_
  intro p e s m args below meth c G hr hnm
  refine z_lvc (lv2 := [(0, .ref l0)]) rfl ?_
  refine z_bipush (pc := 0) (v := 99) G dX4_greatest_0 (by decide) ?_
  refine z_istore_n (pc := 2) (lv2 := [(0, .ref l0), (1, .int (99 : Int32))]) G dX4_greatest_2 rfl (by decide) rfl rfl ?_
  exact wX4_greatest_L3 hO G hr hnm zFU _ _ _ hX
theorem dX4_seekFrame_0 : decode cX4_seekFrame 0 = .ok (.aload_n 0, 1) := by decide +kernel
theorem dX4_seekFrame_1 : decode cX4_seekFrame 1 = .ok (.iconst (-1), 1) := by decide +kernel
theorem dX4_seekFrame_2 : decode cX4_seekFrame 2 = .ok (.putfield 85, 3) := by decide +kernel
theorem dX4_seekFrame_5 : decode cX4_seekFrame 5 = .ok (.aload_n 0, 1) := by decide +kernel
theorem dX4_seekFrame_6 : decode cX4_seekFrame 6 = .ok (.bipush 101, 2) := by decide +kernel
theorem dX4_seekFrame_8 : decode cX4_seekFrame 8 = .ok (.putfield 88, 3) := by decide +kernel
theorem dX4_seekFrame_11 : decode cX4_seekFrame 11 = .ok (.iconst 0, 1) := by decide +kernel
theorem dX4_seekFrame_12 : decode cX4_seekFrame 12 = .ok (.istore_n 2, 1) := by decide +kernel
theorem dX4_seekFrame_13 : decode cX4_seekFrame 13 = .ok (.iload_n 2, 1) := by decide +kernel
theorem dX4_seekFrame_14 : decode cX4_seekFrame 14 = .ok (.bipush 40, 2) := by decide +kernel
theorem dX4_seekFrame_16 : decode cX4_seekFrame 16 = .ok (.if_icmp .gt 83, 3) := by decide +kernel
theorem dX4_seekFrame_19 : decode cX4_seekFrame 19 = .ok (.iconst 0, 1) := by decide +kernel
theorem dX4_seekFrame_20 : decode cX4_seekFrame 20 = .ok (.istore_n 3, 1) := by decide +kernel
theorem dX4_seekFrame_21 : decode cX4_seekFrame 21 = .ok (.iconst 0, 1) := by decide +kernel
theorem dX4_seekFrame_22 : decode cX4_seekFrame 22 = .ok (.istore 4, 2) := by decide +kernel
theorem dX4_seekFrame_24 : decode cX4_seekFrame 24 = .ok (.iload 4, 2) := by decide +kernel
theorem dX4_seekFrame_26 : decode cX4_seekFrame 26 = .ok (.bipush 100, 2) := by decide +kernel
theorem dX4_seekFrame_28 : decode cX4_seekFrame 28 = .ok (.if_icmp .ge 33, 3) := by decide +kernel
theorem dX4_seekFrame_31 : decode cX4_seekFrame 31 = .ok (.aload_n 0, 1) := by decide +kernel
theorem dX4_seekFrame_32 : decode cX4_seekFrame 32 = .ok (.getfield 28, 3) := by decide +kernel
theorem dX4_seekFrame_35 : decode cX4_seekFrame 35 = .ok (.iload 4, 2) := by decide +kernel
theorem dX4_seekFrame_37 : decode cX4_seekFrame 37 = .ok (.baload, 1) := by decide +kernel
theorem dX4_seekFrame_38 : decode cX4_seekFrame 38 = .ok (.ifCond .eq 17, 3) := by decide +kernel
theorem dX4_seekFrame_41 : decode cX4_seekFrame 41 = .ok (.aload_n 0, 1) := by decide +kernel
theorem dX4_seekFrame_42 : decode cX4_seekFrame 42 = .ok (.iload 4, 2) := by decide +kernel
theorem dX4_seekFrame_44 : decode cX4_seekFrame 44 = .ok (.iload_n 1, 1) := by decide +kernel
theorem dX4_seekFrame_45 : decode cX4_seekFrame 45 = .ok (.iload_n 2, 1) := by decide +kernel
theorem dX4_seekFrame_46 : decode cX4_seekFrame 46 = .ok (.invokevirtual 54, 3) := by decide +kernel
theorem dX4_seekFrame_49 : decode cX4_seekFrame 49 = .ok (.ifCond .eq 6, 3) := by decide +kernel
theorem dX4_seekFrame_52 : decode cX4_seekFrame 52 = .ok (.iinc 3 1, 3) := by decide +kernel
theorem dX4_seekFrame_55 : decode cX4_seekFrame 55 = .ok (.iinc 4 1, 3) := by decide +kernel
theorem dX4_seekFrame_58 : decode cX4_seekFrame 58 = .ok (.goto (-34), 3) := by decide +kernel
theorem dX4_seekFrame_61 : decode cX4_seekFrame 61 = .ok (.iload_n 3, 1) := by decide +kernel
theorem dX4_seekFrame_62 : decode cX4_seekFrame 62 = .ok (.aload_n 0, 1) := by decide +kernel
theorem dX4_seekFrame_63 : decode cX4_seekFrame 63 = .ok (.getfield 47, 3) := by decide +kernel
theorem dX4_seekFrame_66 : decode cX4_seekFrame 66 = .ok (.iload_n 3, 1) := by decide +kernel
theorem dX4_seekFrame_67 : decode cX4_seekFrame 67 = .ok (.isub, 1) := by decide +kernel
theorem dX4_seekFrame_68 : decode cX4_seekFrame 68 = .ok (.invokestatic 91, 3) := by decide +kernel
theorem dX4_seekFrame_71 : decode cX4_seekFrame 71 = .ok (.istore 4, 2) := by decide +kernel
theorem dX4_seekFrame_73 : decode cX4_seekFrame 73 = .ok (.iload 4, 2) := by decide +kernel
theorem dX4_seekFrame_75 : decode cX4_seekFrame 75 = .ok (.aload_n 0, 1) := by decide +kernel
theorem dX4_seekFrame_76 : decode cX4_seekFrame 76 = .ok (.getfield 88, 3) := by decide +kernel
theorem dX4_seekFrame_79 : decode cX4_seekFrame 79 = .ok (.if_icmp .ge 14, 3) := by decide +kernel
theorem dX4_seekFrame_82 : decode cX4_seekFrame 82 = .ok (.aload_n 0, 1) := by decide +kernel
theorem dX4_seekFrame_83 : decode cX4_seekFrame 83 = .ok (.iload 4, 2) := by decide +kernel
theorem dX4_seekFrame_85 : decode cX4_seekFrame 85 = .ok (.putfield 88, 3) := by decide +kernel
theorem dX4_seekFrame_88 : decode cX4_seekFrame 88 = .ok (.aload_n 0, 1) := by decide +kernel
theorem dX4_seekFrame_89 : decode cX4_seekFrame 89 = .ok (.iload_n 2, 1) := by decide +kernel
theorem dX4_seekFrame_90 : decode cX4_seekFrame 90 = .ok (.putfield 85, 3) := by decide +kernel
theorem dX4_seekFrame_93 : decode cX4_seekFrame 93 = .ok (.iinc 2 1, 3) := by decide +kernel
theorem dX4_seekFrame_96 : decode cX4_seekFrame 96 = .ok (.goto (-83), 3) := by decide +kernel
theorem dX4_seekFrame_99 : decode cX4_seekFrame 99 = .ok (.return_, 1) := by decide +kernel
theorem ydX4_seekFrame : z_yd yX4_seekFrame 1 := ⟨by decide, by decide, by decide +kernel⟩
abbrev rmX4_seekFrame : Room := { frames := 2, cells := 0, slots := 0, locals := 48 }
noncomputable def xX4_seekFrame_B61 (r13 : Nat → Int32 → Int32 → ZH → Option ZH) (l0 : Nat) (l1 : Int32) (l2 : Int32) (l3 : Int32) (h : ZH) : Option ZH := ((z_gI h l0 4 7).bind fun x63 => ((xJ9_max_7cf53 l3 (x63 - l3) h).bind fun r68 => ((z_gI r68.2 l0 4 10).bind fun x76 => (if x76 ≤ r68.1 then r13 l0 l1 (l2 + 1) r68.2 else ((z_sF r68.2 l0 4 10 (.int r68.1)).bind fun h85 => ((z_sF h85 l0 4 9 (.int l2)).bind fun h90 => r13 l0 l1 (l2 + 1) h90))))))
set_option maxHeartbeats 4000000 in
set_option maxRecDepth 100000 in
theorem wX4_seekFrame_B61 {Γ : ZG} {p : Program} {l : Launch} {e : Env} {s : State} {m : MethodId} {args : Array Value} {below : List Frame} {meth : Method} {c : Code} (hO : z_OK Γ) (G : z_GG Γ p s m args meth c cX4_seekFrame 5 RX4) (hr : meth.sig.returnType = none) (hnm : meth.name = "seekFrame") {r : ZH} {r13 : Nat → Int32 → Int32 → ZH → Option ZH} (H13 : ∀ (l0 : Nat) (l1 : Int32) (l2 : Int32) (h : ZH), r13 l0 l1 l2 h = some r → z_W Γ p l e rmX4_seekFrame s m args below meth c 5 0 0 (MQ below (z_Qc Γ none r) args s rmX4_seekFrame.cells rmX4_seekFrame.slots (z_A Γ)) 13 [(0, .ref l0), (1, .int l1), (2, .int l2)] [] h) : ∀ (l0 : Nat) (l1 : Int32) (l2 : Int32) (l3 : Int32) (h : ZH), xX4_seekFrame_B61  r13 l0 l1 l2 l3 h = some r → z_W Γ p l e rmX4_seekFrame s m args below meth c 5 0 0 (MQ below (z_Qc Γ none r) args s rmX4_seekFrame.cells rmX4_seekFrame.slots (z_A Γ)) 61 [(0, .ref l0), (1, .int l1), (2, .int l2), (3, .int l3)] [] h := by
  intro l0 l1 l2 l3 h hX
  refine z_iload_n (pc := 61) G 3 dX4_seekFrame_61 rfl rfl ?_
  refine z_aload_n (pc := 62) G 0 dX4_seekFrame_62 rfl rfl ?_
  obtain ⟨x63, hv63, hX⟩ := z_bd hX
  refine z_getI (pc := 63) G kK4 (k := 7) (by decide) kt_378 dX4_seekFrame_63 hv63 ?_
  refine z_iload_n (pc := 66) G 3 dX4_seekFrame_66 rfl rfl ?_
  refine z_isub (pc := 67) G dX4_seekFrame_67 ?_
  obtain ⟨r68, hv68, hX⟩ := z_bd hX
  refine z_cSI (pc := 68) (As := [.int l3, .int (x63 - l3)]) (c2 := 0) (s2 := 0) G (lJ9_max_7cf53 hO hv68) kt_504 kt_12 kt_1187 kt_503 ydJ9_max_7cf53 ⟨by decide, by decide⟩ rfl (Nat.le_of_ble_eq_true rfl) ⟨rfl, rfl⟩ ⟨by decide, by decide⟩ rfl dX4_seekFrame_68 ?_
  refine z_istore (pc := 71) (lv2 := [(0, .ref l0), (1, .int l1), (2, .int l2), (3, .int l3), (4, .int r68.1)]) G dX4_seekFrame_71 (by decide) rfl rfl ?_
  refine z_iload (pc := 73) G 4 dX4_seekFrame_73 rfl ?_
  refine z_aload_n (pc := 75) G 0 dX4_seekFrame_75 rfl rfl ?_
  obtain ⟨x76, hv76, hX⟩ := z_bd hX
  refine z_getI (pc := 76) G kK4 (k := 10) (by decide) kt_383 dX4_seekFrame_76 hv76 ?_
  refine z_icmp_ge (pc := 79) (tgt := 93) G dX4_seekFrame_79 (by decide) (fun hc79 => ?_) (fun hc79 => ?_)
  · have hX := z_it hc79 hX
    refine z_iincw (pc := 93) (w := 1) (lv2 := [(0, .ref l0), (1, .int l1), (2, .int (l2 + 1)), (3, .int l3), (4, .int r68.1)]) G 2 dX4_seekFrame_93 rfl (by decide) (by decide) rfl rfl ?_
    refine z_goto (pc := 96) (tgt := 13) G dX4_seekFrame_96 (by decide) ?_
    refine z_drop (lv2 := [(0, .ref l0), (1, .int l1), (2, .int (l2 + 1))]) [0, 1, 2] rfl ?_
    exact H13 _ _ _ _ hX
  · have hX := z_if hc79 hX
    refine z_aload_n (pc := 82) G 0 dX4_seekFrame_82 rfl rfl ?_
    refine z_iload (pc := 83) G 4 dX4_seekFrame_83 rfl ?_
    obtain ⟨h85, hv85, hX⟩ := z_bd hX
    refine z_putF (pc := 85) G kK4 (k := 10) (by decide) kt_383 (Or.inl rfl) rfl rfl dX4_seekFrame_85 hv85 ?_
    refine z_aload_n (pc := 88) G 0 dX4_seekFrame_88 rfl rfl ?_
    refine z_iload_n (pc := 89) G 2 dX4_seekFrame_89 rfl rfl ?_
    obtain ⟨h90, hv90, hX⟩ := z_bd hX
    refine z_putF (pc := 90) G kK4 (k := 9) (by decide) kt_381 (Or.inl rfl) rfl rfl dX4_seekFrame_90 hv90 ?_
    refine z_iincw (pc := 93) (w := 1) (lv2 := [(0, .ref l0), (1, .int l1), (2, .int (l2 + 1)), (3, .int l3), (4, .int r68.1)]) G 2 dX4_seekFrame_93 rfl (by decide) (by decide) rfl rfl ?_
    refine z_goto (pc := 96) (tgt := 13) G dX4_seekFrame_96 (by decide) ?_
    refine z_drop (lv2 := [(0, .ref l0), (1, .int l1), (2, .int (l2 + 1))]) [0, 1, 2] rfl ?_
    exact H13 _ _ _ _ hX
noncomputable def xX4_seekFrame_B24 (r13 : Nat → Int32 → Int32 → ZH → Option ZH) (r24 : Nat → Int32 → Int32 → Int32 → Int32 → ZH → Option ZH) (l0 : Nat) (l1 : Int32) (l2 : Int32) (l3 : Int32) (l4 : Int32) (h : ZH) : Option ZH := (if (100 : Int32) ≤ l4 then xX4_seekFrame_B61 r13 l0 l1 l2 l3 h else ((z_gR h l0 4 6).bind fun x32 => ((z_aB h x32 l4).bind fun x37 => (if x37 = 0 then r24 l0 l1 l2 l3 (l4 + 1) h else (z_gu (z_is h l0 4) ((xX4_wasInRange l0 l4 l1 l2 h).bind fun r46 => (if r46.1 = 0 then r24 l0 l1 l2 l3 (l4 + 1) r46.2 else r24 l0 l1 l2 (l3 + 1) (l4 + 1) r46.2)))))))
noncomputable def xX4_seekFrame_L24 (r13 : Nat → Int32 → Int32 → ZH → Option ZH) (n : Nat) : Nat → Int32 → Int32 → Int32 → Int32 → ZH → Option ZH := Nat.rec (motive := fun _ => Nat → Int32 → Int32 → Int32 → Int32 → ZH → Option ZH) (fun _ _ _ _ _ _ => none) (fun _ rec => xX4_seekFrame_B24  r13 rec) n
set_option maxHeartbeats 4000000 in
set_option maxRecDepth 100000 in
theorem wX4_seekFrame_B24 {Γ : ZG} {p : Program} {l : Launch} {e : Env} {s : State} {m : MethodId} {args : Array Value} {below : List Frame} {meth : Method} {c : Code} (hO : z_OK Γ) (G : z_GG Γ p s m args meth c cX4_seekFrame 5 RX4) (hr : meth.sig.returnType = none) (hnm : meth.name = "seekFrame") {r : ZH} {r13 : Nat → Int32 → Int32 → ZH → Option ZH} (H13 : ∀ (l0 : Nat) (l1 : Int32) (l2 : Int32) (h : ZH), r13 l0 l1 l2 h = some r → z_W Γ p l e rmX4_seekFrame s m args below meth c 5 0 0 (MQ below (z_Qc Γ none r) args s rmX4_seekFrame.cells rmX4_seekFrame.slots (z_A Γ)) 13 [(0, .ref l0), (1, .int l1), (2, .int l2)] [] h) {r24 : Nat → Int32 → Int32 → Int32 → Int32 → ZH → Option ZH} (H24 : ∀ (l0 : Nat) (l1 : Int32) (l2 : Int32) (l3 : Int32) (l4 : Int32) (h : ZH), r24 l0 l1 l2 l3 l4 h = some r → z_W Γ p l e rmX4_seekFrame s m args below meth c 5 0 0 (MQ below (z_Qc Γ none r) args s rmX4_seekFrame.cells rmX4_seekFrame.slots (z_A Γ)) 24 [(0, .ref l0), (1, .int l1), (2, .int l2), (3, .int l3), (4, .int l4)] [] h) : ∀ (l0 : Nat) (l1 : Int32) (l2 : Int32) (l3 : Int32) (l4 : Int32) (h : ZH), xX4_seekFrame_B24  r13 r24 l0 l1 l2 l3 l4 h = some r → z_W Γ p l e rmX4_seekFrame s m args below meth c 5 0 0 (MQ below (z_Qc Γ none r) args s rmX4_seekFrame.cells rmX4_seekFrame.slots (z_A Γ)) 24 [(0, .ref l0), (1, .int l1), (2, .int l2), (3, .int l3), (4, .int l4)] [] h := by
  intro l0 l1 l2 l3 l4 h hX
  refine z_iload (pc := 24) G 4 dX4_seekFrame_24 rfl ?_
  refine z_bipush (pc := 26) (v := 100) G dX4_seekFrame_26 (by decide) ?_
  refine z_icmp_ge (pc := 28) (tgt := 61) G dX4_seekFrame_28 (by decide) (fun hc28 => ?_) (fun hc28 => ?_)
  · have hX := z_it hc28 hX
    refine z_drop (lv2 := [(0, .ref l0), (1, .int l1), (2, .int l2), (3, .int l3)]) [0, 1, 2, 3] rfl ?_
    exact wX4_seekFrame_B61 hO G hr hnm H13 _ _ _ _ _ hX
  · have hX := z_if hc28 hX
    refine z_aload_n (pc := 31) G 0 dX4_seekFrame_31 rfl rfl ?_
    obtain ⟨x32, hv32, hX⟩ := z_bd hX
    refine z_getR (pc := 32) G kK4 (k := 6) (by decide) kt_377 dX4_seekFrame_32 hv32 ?_
    refine z_iload (pc := 35) G 4 dX4_seekFrame_35 rfl ?_
    obtain ⟨x37, hv37, hX⟩ := z_bd hX
    refine z_bald (pc := 37) G dX4_seekFrame_37 hv37 ?_
    refine z_if_eq (pc := 38) (tgt := 55) G dX4_seekFrame_38 (by decide) (fun hc38 => ?_) (fun hc38 => ?_)
    · have hX := z_it hc38 hX
      refine z_iincw (pc := 55) (w := 1) (lv2 := [(0, .ref l0), (1, .int l1), (2, .int l2), (3, .int l3), (4, .int (l4 + 1))]) G 4 dX4_seekFrame_55 rfl (by decide) (by decide) rfl rfl ?_
      refine z_goto (pc := 58) (tgt := 24) G dX4_seekFrame_58 (by decide) ?_
      exact H24 _ _ _ _ _ _ hX
    · have hX := z_if hc38 hX
      refine z_aload_n (pc := 41) G 0 dX4_seekFrame_41 rfl rfl ?_
      refine z_iload (pc := 42) G 4 dX4_seekFrame_42 rfl ?_
      refine z_iload_n (pc := 44) G 1 dX4_seekFrame_44 rfl rfl ?_
      refine z_iload_n (pc := 45) G 2 dX4_seekFrame_45 rfl rfl ?_
      obtain ⟨hi46, hX⟩ := z_gu_s hX
      obtain ⟨r46, hv46, hX⟩ := z_bd hX
      refine z_cVI (pc := 46) (As := [.int l4, .int l1, .int l2]) (c2 := 0) (s2 := 0) G kK4 (lX4_wasInRange hO hv46) hi46 kt_1164 kt_9 kt_1161 kt_1163 ks_32 ydX4_wasInRange ⟨by decide, by decide⟩ rfl (Nat.le_of_ble_eq_true rfl) ⟨rfl, rfl⟩ ⟨by decide, by decide⟩ rfl dX4_seekFrame_46 ?_
      refine z_if_eq (pc := 49) (tgt := 55) G dX4_seekFrame_49 (by decide) (fun hc49 => ?_) (fun hc49 => ?_)
      · have hX := z_it hc49 hX
        refine z_iincw (pc := 55) (w := 1) (lv2 := [(0, .ref l0), (1, .int l1), (2, .int l2), (3, .int l3), (4, .int (l4 + 1))]) G 4 dX4_seekFrame_55 rfl (by decide) (by decide) rfl rfl ?_
        refine z_goto (pc := 58) (tgt := 24) G dX4_seekFrame_58 (by decide) ?_
        exact H24 _ _ _ _ _ _ hX
      · have hX := z_if hc49 hX
        refine z_iincw (pc := 52) (w := 1) (lv2 := [(0, .ref l0), (1, .int l1), (2, .int l2), (3, .int (l3 + 1)), (4, .int l4)]) G 3 dX4_seekFrame_52 rfl (by decide) (by decide) rfl rfl ?_
        refine z_iincw (pc := 55) (w := 1) (lv2 := [(0, .ref l0), (1, .int l1), (2, .int l2), (3, .int (l3 + 1)), (4, .int (l4 + 1))]) G 4 dX4_seekFrame_55 rfl (by decide) (by decide) rfl rfl ?_
        refine z_goto (pc := 58) (tgt := 24) G dX4_seekFrame_58 (by decide) ?_
        exact H24 _ _ _ _ _ _ hX
set_option maxHeartbeats 4000000 in
set_option maxRecDepth 100000 in
theorem wX4_seekFrame_L24 {Γ : ZG} {p : Program} {l : Launch} {e : Env} {s : State} {m : MethodId} {args : Array Value} {below : List Frame} {meth : Method} {c : Code} (hO : z_OK Γ) (G : z_GG Γ p s m args meth c cX4_seekFrame 5 RX4) (hr : meth.sig.returnType = none) (hnm : meth.name = "seekFrame") {r : ZH} {r13 : Nat → Int32 → Int32 → ZH → Option ZH} (H13 : ∀ (l0 : Nat) (l1 : Int32) (l2 : Int32) (h : ZH), r13 l0 l1 l2 h = some r → z_W Γ p l e rmX4_seekFrame s m args below meth c 5 0 0 (MQ below (z_Qc Γ none r) args s rmX4_seekFrame.cells rmX4_seekFrame.slots (z_A Γ)) 13 [(0, .ref l0), (1, .int l1), (2, .int l2)] [] h) : ∀ (nn : Nat) (l0 : Nat) (l1 : Int32) (l2 : Int32) (l3 : Int32) (l4 : Int32) (h : ZH), xX4_seekFrame_L24  r13 nn l0 l1 l2 l3 l4 h = some r → z_W Γ p l e rmX4_seekFrame s m args below meth c 5 0 0 (MQ below (z_Qc Γ none r) args s rmX4_seekFrame.cells rmX4_seekFrame.slots (z_A Γ)) 24 [(0, .ref l0), (1, .int l1), (2, .int l2), (3, .int l3), (4, .int l4)] [] h := by
  intro nn
  induction nn with
  | zero => intro l0 l1 l2 l3 l4 h hX; cases hX
  | succ nn ih => intro l0 l1 l2 l3 l4 h hX; exact wX4_seekFrame_B24 hO G hr hnm  H13 ih l0 l1 l2 l3 l4 h hX
noncomputable def xX4_seekFrame_B13 (r13 : Nat → Int32 → Int32 → ZH → Option ZH) (l0 : Nat) (l1 : Int32) (l2 : Int32) (h : ZH) : Option ZH := (if (40 : Int32) < l2 then some h else xX4_seekFrame_L24 r13 zFU l0 l1 l2 (0 : Int32) (0 : Int32) h)
noncomputable def xX4_seekFrame_L13 (n : Nat) : Nat → Int32 → Int32 → ZH → Option ZH := Nat.rec (motive := fun _ => Nat → Int32 → Int32 → ZH → Option ZH) (fun _ _ _ _ => none) (fun _ rec => xX4_seekFrame_B13  rec) n
set_option maxHeartbeats 4000000 in
set_option maxRecDepth 100000 in
theorem wX4_seekFrame_B13 {Γ : ZG} {p : Program} {l : Launch} {e : Env} {s : State} {m : MethodId} {args : Array Value} {below : List Frame} {meth : Method} {c : Code} (hO : z_OK Γ) (G : z_GG Γ p s m args meth c cX4_seekFrame 5 RX4) (hr : meth.sig.returnType = none) (hnm : meth.name = "seekFrame") {r : ZH} {r13 : Nat → Int32 → Int32 → ZH → Option ZH} (H13 : ∀ (l0 : Nat) (l1 : Int32) (l2 : Int32) (h : ZH), r13 l0 l1 l2 h = some r → z_W Γ p l e rmX4_seekFrame s m args below meth c 5 0 0 (MQ below (z_Qc Γ none r) args s rmX4_seekFrame.cells rmX4_seekFrame.slots (z_A Γ)) 13 [(0, .ref l0), (1, .int l1), (2, .int l2)] [] h) : ∀ (l0 : Nat) (l1 : Int32) (l2 : Int32) (h : ZH), xX4_seekFrame_B13  r13 l0 l1 l2 h = some r → z_W Γ p l e rmX4_seekFrame s m args below meth c 5 0 0 (MQ below (z_Qc Γ none r) args s rmX4_seekFrame.cells rmX4_seekFrame.slots (z_A Γ)) 13 [(0, .ref l0), (1, .int l1), (2, .int l2)] [] h := by
  intro l0 l1 l2 h hX
  refine z_iload_n (pc := 13) G 2 dX4_seekFrame_13 rfl rfl ?_
  refine z_bipush (pc := 14) (v := 40) G dX4_seekFrame_14 (by decide) ?_
  refine z_icmp_gt (pc := 16) (tgt := 99) G dX4_seekFrame_16 (by decide) (fun hc16 => ?_) (fun hc16 => ?_)
  · have hX := z_it hc16 hX
    exact z_vretX (pc := 99) hX G hr dX4_seekFrame_99 (by decide) (by decide)
  · have hX := z_if hc16 hX
    refine z_iconst (pc := 19) (v := 0) G dX4_seekFrame_19 (by decide) ?_
    refine z_istore_n (pc := 20) (lv2 := [(0, .ref l0), (1, .int l1), (2, .int l2), (3, .int (0 : Int32))]) G dX4_seekFrame_20 rfl (by decide) rfl rfl ?_
    refine z_iconst (pc := 21) (v := 0) G dX4_seekFrame_21 (by decide) ?_
    refine z_istore (pc := 22) (lv2 := [(0, .ref l0), (1, .int l1), (2, .int l2), (3, .int (0 : Int32)), (4, .int (0 : Int32))]) G dX4_seekFrame_22 (by decide) rfl rfl ?_
    exact wX4_seekFrame_L24 hO G hr hnm H13 zFU _ _ _ _ _ _ hX
set_option maxHeartbeats 4000000 in
set_option maxRecDepth 100000 in
theorem wX4_seekFrame_L13 {Γ : ZG} {p : Program} {l : Launch} {e : Env} {s : State} {m : MethodId} {args : Array Value} {below : List Frame} {meth : Method} {c : Code} (hO : z_OK Γ) (G : z_GG Γ p s m args meth c cX4_seekFrame 5 RX4) (hr : meth.sig.returnType = none) (hnm : meth.name = "seekFrame") {r : ZH} : ∀ (nn : Nat) (l0 : Nat) (l1 : Int32) (l2 : Int32) (h : ZH), xX4_seekFrame_L13  nn l0 l1 l2 h = some r → z_W Γ p l e rmX4_seekFrame s m args below meth c 5 0 0 (MQ below (z_Qc Γ none r) args s rmX4_seekFrame.cells rmX4_seekFrame.slots (z_A Γ)) 13 [(0, .ref l0), (1, .int l1), (2, .int l2)] [] h := by
  intro nn
  induction nn with
  | zero => intro l0 l1 l2 h hX; cases hX
  | succ nn ih => intro l0 l1 l2 h hX; exact wX4_seekFrame_B13 hO G hr hnm  ih l0 l1 l2 h hX
noncomputable def xX4_seekFrame (l0 : Nat) (l1 : Int32) (h : ZH) : Option ZH := ((z_sF h l0 4 9 (.int (-1 : Int32))).bind fun h2 => ((z_sF h2 l0 4 10 (.int (101 : Int32))).bind fun h8 => xX4_seekFrame_L13 zFU l0 l1 (0 : Int32) h8))
set_option maxHeartbeats 4000000 in
set_option maxRecDepth 100000 in
theorem lX4_seekFrame {Γ : ZG} {l : Launch} (hO : z_OK Γ) {l0 : Nat} {l1 : Int32} {h : ZH} {r : ZH} (hX : xX4_seekFrame l0 l1 h = some r) : z_M Γ l yX4_seekFrame (z_ws1 yX4_seekFrame cX4_seekFrame 5 none) rmX4_seekFrame [.ref l0, .int l1] h none r := by
  refine z_start hO (plainFor_of_name (by decide)) (Nat.le_of_ble_eq_true rfl) ?_
  intro p e s m args below meth c G hr hnm
  refine z_lvc (lv2 := [(0, .ref l0), (1, .int l1)]) rfl ?_
  refine z_aload_n (pc := 0) G 0 dX4_seekFrame_0 rfl rfl ?_
  refine z_iconst (pc := 1) (v := (-1)) G dX4_seekFrame_1 (by decide) ?_
  obtain ⟨h2, hv2, hX⟩ := z_bd hX
  refine z_putF (pc := 2) G kK4 (k := 9) (by decide) kt_381 (Or.inl rfl) rfl rfl dX4_seekFrame_2 hv2 ?_
  refine z_aload_n (pc := 5) G 0 dX4_seekFrame_5 rfl rfl ?_
  refine z_bipush (pc := 6) (v := 101) G dX4_seekFrame_6 (by decide) ?_
  obtain ⟨h8, hv8, hX⟩ := z_bd hX
  refine z_putF (pc := 8) G kK4 (k := 10) (by decide) kt_383 (Or.inl rfl) rfl rfl dX4_seekFrame_8 hv8 ?_
  refine z_iconst (pc := 11) (v := 0) G dX4_seekFrame_11 (by decide) ?_
  refine z_istore_n (pc := 12) (lv2 := [(0, .ref l0), (1, .int l1), (2, .int (0 : Int32))]) G dX4_seekFrame_12 rfl (by decide) rfl rfl ?_
  exact wX4_seekFrame_L13 hO G hr hnm zFU _ _ _ _ hX
theorem dX5_setHolder_0 : decode cX5_setHolder 0 = .ok (.aload_n 0, 1) := by decide +kernel
theorem dX5_setHolder_1 : decode cX5_setHolder 1 = .ok (.getfield 36, 3) := by decide +kernel
theorem dX5_setHolder_4 : decode cX5_setHolder 4 = .ok (.iload_n 1, 1) := by decide +kernel
theorem dX5_setHolder_5 : decode cX5_setHolder 5 = .ok (.bipush 30, 2) := by decide +kernel
theorem dX5_setHolder_7 : decode cX5_setHolder 7 = .ok (.imul, 1) := by decide +kernel
theorem dX5_setHolder_8 : decode cX5_setHolder 8 = .ok (.iload_n 2, 1) := by decide +kernel
theorem dX5_setHolder_9 : decode cX5_setHolder 9 = .ok (.iadd, 1) := by decide +kernel
theorem dX5_setHolder_10 : decode cX5_setHolder 10 = .ok (.iload_n 3, 1) := by decide +kernel
theorem dX5_setHolder_11 : decode cX5_setHolder 11 = .ok (.iastore, 1) := by decide +kernel
theorem dX5_setHolder_12 : decode cX5_setHolder 12 = .ok (.aload_n 0, 1) := by decide +kernel
theorem dX5_setHolder_13 : decode cX5_setHolder 13 = .ok (.getfield 39, 3) := by decide +kernel
theorem dX5_setHolder_16 : decode cX5_setHolder 16 = .ok (.iload_n 1, 1) := by decide +kernel
theorem dX5_setHolder_17 : decode cX5_setHolder 17 = .ok (.bipush 30, 2) := by decide +kernel
theorem dX5_setHolder_19 : decode cX5_setHolder 19 = .ok (.imul, 1) := by decide +kernel
theorem dX5_setHolder_20 : decode cX5_setHolder 20 = .ok (.iload_n 2, 1) := by decide +kernel
theorem dX5_setHolder_21 : decode cX5_setHolder 21 = .ok (.iadd, 1) := by decide +kernel
theorem dX5_setHolder_22 : decode cX5_setHolder 22 = .ok (.iload 4, 2) := by decide +kernel
theorem dX5_setHolder_24 : decode cX5_setHolder 24 = .ok (.iastore, 1) := by decide +kernel
theorem dX5_setHolder_25 : decode cX5_setHolder 25 = .ok (.return_, 1) := by decide +kernel
theorem ydX5_setHolder : z_yd yX5_setHolder 4 := ⟨by decide, by decide, by decide +kernel⟩
abbrev rmX5_setHolder : Room := { frames := 0, cells := 0, slots := 0, locals := 0 }
noncomputable def xX5_setHolder (l0 : Nat) (l1 : Int32) (l2 : Int32) (l3 : Int32) (l4 : Int32) (h : ZH) : Option ZH := ((z_gR h l0 5 9).bind fun x1 => ((z_uI h x1 ((l1 * (30 : Int32)) + l2) l3).bind fun h11 => ((z_gR h11 l0 5 10).bind fun x13 => ((z_uI h11 x13 ((l1 * (30 : Int32)) + l2) l4).bind fun h24 => some h24))))
set_option maxHeartbeats 4000000 in
set_option maxRecDepth 100000 in
theorem lX5_setHolder {Γ : ZG} {l : Launch} (hO : z_OK Γ) {l0 : Nat} {l1 : Int32} {l2 : Int32} {l3 : Int32} {l4 : Int32} {h : ZH} {r : ZH} (hX : xX5_setHolder l0 l1 l2 l3 l4 h = some r) : z_M Γ l yX5_setHolder (z_ws1 yX5_setHolder cX5_setHolder 5 none) rmX5_setHolder [.ref l0, .int l1, .int l2, .int l3, .int l4] h none r := by
  refine z_start hO (plainFor_of_name (by decide)) (Nat.le_of_ble_eq_true rfl) ?_
  intro p e s m args below meth c G hr hnm
  refine z_lvc (lv2 := [(0, .ref l0), (1, .int l1), (2, .int l2), (3, .int l3), (4, .int l4)]) rfl ?_
  refine z_aload_n (pc := 0) G 0 dX5_setHolder_0 rfl rfl ?_
  obtain ⟨x1, hv1, hX⟩ := z_bd hX
  refine z_getR (pc := 1) G kK5 (k := 9) (by decide) kt_215 dX5_setHolder_1 hv1 ?_
  refine z_iload_n (pc := 4) G 1 dX5_setHolder_4 rfl rfl ?_
  refine z_bipush (pc := 5) (v := 30) G dX5_setHolder_5 (by decide) ?_
  refine z_imul (pc := 7) G dX5_setHolder_7 ?_
  refine z_iload_n (pc := 8) G 2 dX5_setHolder_8 rfl rfl ?_
  refine z_iadd (pc := 9) G dX5_setHolder_9 ?_
  refine z_iload_n (pc := 10) G 3 dX5_setHolder_10 rfl rfl ?_
  obtain ⟨h11, hv11, hX⟩ := z_bd hX
  refine z_iast (pc := 11) G dX5_setHolder_11 hv11 ?_
  refine z_aload_n (pc := 12) G 0 dX5_setHolder_12 rfl rfl ?_
  obtain ⟨x13, hv13, hX⟩ := z_bd hX
  refine z_getR (pc := 13) G kK5 (k := 10) (by decide) kt_217 dX5_setHolder_13 hv13 ?_
  refine z_iload_n (pc := 16) G 1 dX5_setHolder_16 rfl rfl ?_
  refine z_bipush (pc := 17) (v := 30) G dX5_setHolder_17 (by decide) ?_
  refine z_imul (pc := 19) G dX5_setHolder_19 ?_
  refine z_iload_n (pc := 20) G 2 dX5_setHolder_20 rfl rfl ?_
  refine z_iadd (pc := 21) G dX5_setHolder_21 ?_
  refine z_iload (pc := 22) G 4 dX5_setHolder_22 rfl ?_
  obtain ⟨h24, hv24, hX⟩ := z_bd hX
  refine z_iast (pc := 24) G dX5_setHolder_24 hv24 ?_
  exact z_vretX (pc := 25) hX G hr dX5_setHolder_25 (by decide) (by decide)
theorem dX5_forgetAll_0 : decode cX5_forgetAll 0 = .ok (.aload_n 0, 1) := by decide +kernel
theorem dX5_forgetAll_1 : decode cX5_forgetAll 1 = .ok (.getfield 24, 3) := by decide +kernel
theorem dX5_forgetAll_4 : decode cX5_forgetAll 4 = .ok (.iload_n 1, 1) := by decide +kernel
theorem dX5_forgetAll_5 : decode cX5_forgetAll 5 = .ok (.iconst 0, 1) := by decide +kernel
theorem dX5_forgetAll_6 : decode cX5_forgetAll 6 = .ok (.iastore, 1) := by decide +kernel
theorem dX5_forgetAll_7 : decode cX5_forgetAll 7 = .ok (.iconst 0, 1) := by decide +kernel
theorem dX5_forgetAll_8 : decode cX5_forgetAll 8 = .ok (.istore_n 2, 1) := by decide +kernel
theorem dX5_forgetAll_9 : decode cX5_forgetAll 9 = .ok (.iload_n 2, 1) := by decide +kernel
theorem dX5_forgetAll_10 : decode cX5_forgetAll 10 = .ok (.bipush 30, 2) := by decide +kernel
theorem dX5_forgetAll_12 : decode cX5_forgetAll 12 = .ok (.if_icmp .ge 17, 3) := by decide +kernel
theorem dX5_forgetAll_15 : decode cX5_forgetAll 15 = .ok (.aload_n 0, 1) := by decide +kernel
theorem dX5_forgetAll_16 : decode cX5_forgetAll 16 = .ok (.iload_n 1, 1) := by decide +kernel
theorem dX5_forgetAll_17 : decode cX5_forgetAll 17 = .ok (.iload_n 2, 1) := by decide +kernel
theorem dX5_forgetAll_18 : decode cX5_forgetAll 18 = .ok (.iconst (-1), 1) := by decide +kernel
theorem dX5_forgetAll_19 : decode cX5_forgetAll 19 = .ok (.iconst 0, 1) := by decide +kernel
theorem dX5_forgetAll_20 : decode cX5_forgetAll 20 = .ok (.invokevirtual 87, 3) := by decide +kernel
theorem dX5_forgetAll_23 : decode cX5_forgetAll 23 = .ok (.iinc 2 1, 3) := by decide +kernel
theorem dX5_forgetAll_26 : decode cX5_forgetAll 26 = .ok (.goto (-17), 3) := by decide +kernel
theorem dX5_forgetAll_29 : decode cX5_forgetAll 29 = .ok (.iconst 0, 1) := by decide +kernel
theorem dX5_forgetAll_30 : decode cX5_forgetAll 30 = .ok (.istore_n 2, 1) := by decide +kernel
theorem dX5_forgetAll_31 : decode cX5_forgetAll 31 = .ok (.iload_n 2, 1) := by decide +kernel
theorem dX5_forgetAll_32 : decode cX5_forgetAll 32 = .ok (.bipush 6, 2) := by decide +kernel
theorem dX5_forgetAll_34 : decode cX5_forgetAll 34 = .ok (.if_icmp .ge 33, 3) := by decide +kernel
theorem dX5_forgetAll_37 : decode cX5_forgetAll 37 = .ok (.aload_n 0, 1) := by decide +kernel
theorem dX5_forgetAll_38 : decode cX5_forgetAll 38 = .ok (.getfield 42, 3) := by decide +kernel
theorem dX5_forgetAll_41 : decode cX5_forgetAll 41 = .ok (.iload_n 1, 1) := by decide +kernel
theorem dX5_forgetAll_42 : decode cX5_forgetAll 42 = .ok (.bipush 6, 2) := by decide +kernel
theorem dX5_forgetAll_44 : decode cX5_forgetAll 44 = .ok (.imul, 1) := by decide +kernel
theorem dX5_forgetAll_45 : decode cX5_forgetAll 45 = .ok (.iload_n 2, 1) := by decide +kernel
theorem dX5_forgetAll_46 : decode cX5_forgetAll 46 = .ok (.iadd, 1) := by decide +kernel
theorem dX5_forgetAll_47 : decode cX5_forgetAll 47 = .ok (.iconst (-1), 1) := by decide +kernel
theorem dX5_forgetAll_48 : decode cX5_forgetAll 48 = .ok (.iastore, 1) := by decide +kernel
theorem dX5_forgetAll_49 : decode cX5_forgetAll 49 = .ok (.aload_n 0, 1) := by decide +kernel
theorem dX5_forgetAll_50 : decode cX5_forgetAll 50 = .ok (.getfield 45, 3) := by decide +kernel
theorem dX5_forgetAll_53 : decode cX5_forgetAll 53 = .ok (.iload_n 1, 1) := by decide +kernel
theorem dX5_forgetAll_54 : decode cX5_forgetAll 54 = .ok (.bipush 6, 2) := by decide +kernel
theorem dX5_forgetAll_56 : decode cX5_forgetAll 56 = .ok (.imul, 1) := by decide +kernel
theorem dX5_forgetAll_57 : decode cX5_forgetAll 57 = .ok (.iload_n 2, 1) := by decide +kernel
theorem dX5_forgetAll_58 : decode cX5_forgetAll 58 = .ok (.iadd, 1) := by decide +kernel
theorem dX5_forgetAll_59 : decode cX5_forgetAll 59 = .ok (.iconst (-1), 1) := by decide +kernel
theorem dX5_forgetAll_60 : decode cX5_forgetAll 60 = .ok (.iastore, 1) := by decide +kernel
theorem dX5_forgetAll_61 : decode cX5_forgetAll 61 = .ok (.iinc 2 1, 3) := by decide +kernel
theorem dX5_forgetAll_64 : decode cX5_forgetAll 64 = .ok (.goto (-33), 3) := by decide +kernel
theorem dX5_forgetAll_67 : decode cX5_forgetAll 67 = .ok (.return_, 1) := by decide +kernel
theorem ydX5_forgetAll : z_yd yX5_forgetAll 1 := ⟨by decide, by decide, by decide +kernel⟩
abbrev rmX5_forgetAll : Room := { frames := 1, cells := 0, slots := 0, locals := 24 }
noncomputable def xX5_forgetAll_B31 (r31 : Nat → Int32 → Int32 → ZH → Option ZH) (l0 : Nat) (l1 : Int32) (l2 : Int32) (h : ZH) : Option ZH := (if (6 : Int32) ≤ l2 then some h else ((z_gR h l0 5 11).bind fun x38 => ((z_uI h x38 ((l1 * (6 : Int32)) + l2) (-1 : Int32)).bind fun h48 => ((z_gR h48 l0 5 12).bind fun x50 => ((z_uI h48 x50 ((l1 * (6 : Int32)) + l2) (-1 : Int32)).bind fun h60 => r31 l0 l1 (l2 + 1) h60)))))
noncomputable def xX5_forgetAll_L31 (n : Nat) : Nat → Int32 → Int32 → ZH → Option ZH := Nat.rec (motive := fun _ => Nat → Int32 → Int32 → ZH → Option ZH) (fun _ _ _ _ => none) (fun _ rec => xX5_forgetAll_B31  rec) n
set_option maxHeartbeats 4000000 in
set_option maxRecDepth 100000 in
theorem wX5_forgetAll_B31 {Γ : ZG} {p : Program} {l : Launch} {e : Env} {s : State} {m : MethodId} {args : Array Value} {below : List Frame} {meth : Method} {c : Code} (hO : z_OK Γ) (G : z_GG Γ p s m args meth c cX5_forgetAll 3 RX5) (hr : meth.sig.returnType = none) (hnm : meth.name = "forgetAll") {r : ZH} {r31 : Nat → Int32 → Int32 → ZH → Option ZH} (H31 : ∀ (l0 : Nat) (l1 : Int32) (l2 : Int32) (h : ZH), r31 l0 l1 l2 h = some r → z_W Γ p l e rmX5_forgetAll s m args below meth c 3 0 0 (MQ below (z_Qc Γ none r) args s rmX5_forgetAll.cells rmX5_forgetAll.slots (z_A Γ)) 31 [(0, .ref l0), (1, .int l1), (2, .int l2)] [] h) : ∀ (l0 : Nat) (l1 : Int32) (l2 : Int32) (h : ZH), xX5_forgetAll_B31  r31 l0 l1 l2 h = some r → z_W Γ p l e rmX5_forgetAll s m args below meth c 3 0 0 (MQ below (z_Qc Γ none r) args s rmX5_forgetAll.cells rmX5_forgetAll.slots (z_A Γ)) 31 [(0, .ref l0), (1, .int l1), (2, .int l2)] [] h := by
  intro l0 l1 l2 h hX
  refine z_iload_n (pc := 31) G 2 dX5_forgetAll_31 rfl rfl ?_
  refine z_bipush (pc := 32) (v := 6) G dX5_forgetAll_32 (by decide) ?_
  refine z_icmp_ge (pc := 34) (tgt := 67) G dX5_forgetAll_34 (by decide) (fun hc34 => ?_) (fun hc34 => ?_)
  · have hX := z_it hc34 hX
    exact z_vretX (pc := 67) hX G hr dX5_forgetAll_67 (by decide) (by decide)
  · have hX := z_if hc34 hX
    refine z_aload_n (pc := 37) G 0 dX5_forgetAll_37 rfl rfl ?_
    obtain ⟨x38, hv38, hX⟩ := z_bd hX
    refine z_getR (pc := 38) G kK5 (k := 11) (by decide) kt_219 dX5_forgetAll_38 hv38 ?_
    refine z_iload_n (pc := 41) G 1 dX5_forgetAll_41 rfl rfl ?_
    refine z_bipush (pc := 42) (v := 6) G dX5_forgetAll_42 (by decide) ?_
    refine z_imul (pc := 44) G dX5_forgetAll_44 ?_
    refine z_iload_n (pc := 45) G 2 dX5_forgetAll_45 rfl rfl ?_
    refine z_iadd (pc := 46) G dX5_forgetAll_46 ?_
    refine z_iconst (pc := 47) (v := (-1)) G dX5_forgetAll_47 (by decide) ?_
    obtain ⟨h48, hv48, hX⟩ := z_bd hX
    refine z_iast (pc := 48) G dX5_forgetAll_48 hv48 ?_
    refine z_aload_n (pc := 49) G 0 dX5_forgetAll_49 rfl rfl ?_
    obtain ⟨x50, hv50, hX⟩ := z_bd hX
    refine z_getR (pc := 50) G kK5 (k := 12) (by decide) kt_223 dX5_forgetAll_50 hv50 ?_
    refine z_iload_n (pc := 53) G 1 dX5_forgetAll_53 rfl rfl ?_
    refine z_bipush (pc := 54) (v := 6) G dX5_forgetAll_54 (by decide) ?_
    refine z_imul (pc := 56) G dX5_forgetAll_56 ?_
    refine z_iload_n (pc := 57) G 2 dX5_forgetAll_57 rfl rfl ?_
    refine z_iadd (pc := 58) G dX5_forgetAll_58 ?_
    refine z_iconst (pc := 59) (v := (-1)) G dX5_forgetAll_59 (by decide) ?_
    obtain ⟨h60, hv60, hX⟩ := z_bd hX
    refine z_iast (pc := 60) G dX5_forgetAll_60 hv60 ?_
    refine z_iincw (pc := 61) (w := 1) (lv2 := [(0, .ref l0), (1, .int l1), (2, .int (l2 + 1))]) G 2 dX5_forgetAll_61 rfl (by decide) (by decide) rfl rfl ?_
    refine z_goto (pc := 64) (tgt := 31) G dX5_forgetAll_64 (by decide) ?_
    exact H31 _ _ _ _ hX
set_option maxHeartbeats 4000000 in
set_option maxRecDepth 100000 in
theorem wX5_forgetAll_L31 {Γ : ZG} {p : Program} {l : Launch} {e : Env} {s : State} {m : MethodId} {args : Array Value} {below : List Frame} {meth : Method} {c : Code} (hO : z_OK Γ) (G : z_GG Γ p s m args meth c cX5_forgetAll 3 RX5) (hr : meth.sig.returnType = none) (hnm : meth.name = "forgetAll") {r : ZH} : ∀ (nn : Nat) (l0 : Nat) (l1 : Int32) (l2 : Int32) (h : ZH), xX5_forgetAll_L31  nn l0 l1 l2 h = some r → z_W Γ p l e rmX5_forgetAll s m args below meth c 3 0 0 (MQ below (z_Qc Γ none r) args s rmX5_forgetAll.cells rmX5_forgetAll.slots (z_A Γ)) 31 [(0, .ref l0), (1, .int l1), (2, .int l2)] [] h := by
  intro nn
  induction nn with
  | zero => intro l0 l1 l2 h hX; cases hX
  | succ nn ih => intro l0 l1 l2 h hX; exact wX5_forgetAll_B31 hO G hr hnm  ih l0 l1 l2 h hX
noncomputable def xX5_forgetAll_B9 (r9 : Nat → Int32 → Int32 → ZH → Option ZH) (l0 : Nat) (l1 : Int32) (l2 : Int32) (h : ZH) : Option ZH := (if (30 : Int32) ≤ l2 then xX5_forgetAll_L31 zFU l0 l1 (0 : Int32) h else (z_gu (z_is h l0 5) ((xX5_setHolder l0 l1 l2 (-1 : Int32) (0 : Int32) h).bind fun h20 => r9 l0 l1 (l2 + 1) h20)))
noncomputable def xX5_forgetAll_L9 (n : Nat) : Nat → Int32 → Int32 → ZH → Option ZH := Nat.rec (motive := fun _ => Nat → Int32 → Int32 → ZH → Option ZH) (fun _ _ _ _ => none) (fun _ rec => xX5_forgetAll_B9  rec) n
set_option maxHeartbeats 4000000 in
set_option maxRecDepth 100000 in
theorem wX5_forgetAll_B9 {Γ : ZG} {p : Program} {l : Launch} {e : Env} {s : State} {m : MethodId} {args : Array Value} {below : List Frame} {meth : Method} {c : Code} (hO : z_OK Γ) (G : z_GG Γ p s m args meth c cX5_forgetAll 3 RX5) (hr : meth.sig.returnType = none) (hnm : meth.name = "forgetAll") {r : ZH} {r9 : Nat → Int32 → Int32 → ZH → Option ZH} (H9 : ∀ (l0 : Nat) (l1 : Int32) (l2 : Int32) (h : ZH), r9 l0 l1 l2 h = some r → z_W Γ p l e rmX5_forgetAll s m args below meth c 3 0 0 (MQ below (z_Qc Γ none r) args s rmX5_forgetAll.cells rmX5_forgetAll.slots (z_A Γ)) 9 [(0, .ref l0), (1, .int l1), (2, .int l2)] [] h) : ∀ (l0 : Nat) (l1 : Int32) (l2 : Int32) (h : ZH), xX5_forgetAll_B9  r9 l0 l1 l2 h = some r → z_W Γ p l e rmX5_forgetAll s m args below meth c 3 0 0 (MQ below (z_Qc Γ none r) args s rmX5_forgetAll.cells rmX5_forgetAll.slots (z_A Γ)) 9 [(0, .ref l0), (1, .int l1), (2, .int l2)] [] h := by
  intro l0 l1 l2 h hX
  refine z_iload_n (pc := 9) G 2 dX5_forgetAll_9 rfl rfl ?_
  refine z_bipush (pc := 10) (v := 30) G dX5_forgetAll_10 (by decide) ?_
  refine z_icmp_ge (pc := 12) (tgt := 29) G dX5_forgetAll_12 (by decide) (fun hc12 => ?_) (fun hc12 => ?_)
  · have hX := z_it hc12 hX
    refine z_iconst (pc := 29) (v := 0) G dX5_forgetAll_29 (by decide) ?_
    refine z_istore_n (pc := 30) (lv2 := [(0, .ref l0), (1, .int l1), (2, .int (0 : Int32))]) G dX5_forgetAll_30 rfl (by decide) rfl rfl ?_
    exact wX5_forgetAll_L31 hO G hr hnm zFU _ _ _ _ hX
  · have hX := z_if hc12 hX
    refine z_aload_n (pc := 15) G 0 dX5_forgetAll_15 rfl rfl ?_
    refine z_iload_n (pc := 16) G 1 dX5_forgetAll_16 rfl rfl ?_
    refine z_iload_n (pc := 17) G 2 dX5_forgetAll_17 rfl rfl ?_
    refine z_iconst (pc := 18) (v := (-1)) G dX5_forgetAll_18 (by decide) ?_
    refine z_iconst (pc := 19) (v := 0) G dX5_forgetAll_19 (by decide) ?_
    obtain ⟨hi20, hX⟩ := z_gu_s hX
    obtain ⟨h20, hv20, hX⟩ := z_bd hX
    refine z_cVV (pc := 20) (As := [.int l1, .int l2, .int (-1 : Int32), .int (0 : Int32)]) (c2 := 0) (s2 := 0) G kK5 (lX5_setHolder hO hv20) hi20 kt_423 kt_4 kt_420 kt_421 kt_422 ydX5_setHolder ⟨by decide, by decide⟩ rfl (Nat.le_of_ble_eq_true rfl) ⟨rfl, rfl⟩ ⟨by decide, by decide⟩ rfl dX5_forgetAll_20 ?_
    refine z_iincw (pc := 23) (w := 1) (lv2 := [(0, .ref l0), (1, .int l1), (2, .int (l2 + 1))]) G 2 dX5_forgetAll_23 rfl (by decide) (by decide) rfl rfl ?_
    refine z_goto (pc := 26) (tgt := 9) G dX5_forgetAll_26 (by decide) ?_
    exact H9 _ _ _ _ hX
set_option maxHeartbeats 4000000 in
set_option maxRecDepth 100000 in
theorem wX5_forgetAll_L9 {Γ : ZG} {p : Program} {l : Launch} {e : Env} {s : State} {m : MethodId} {args : Array Value} {below : List Frame} {meth : Method} {c : Code} (hO : z_OK Γ) (G : z_GG Γ p s m args meth c cX5_forgetAll 3 RX5) (hr : meth.sig.returnType = none) (hnm : meth.name = "forgetAll") {r : ZH} : ∀ (nn : Nat) (l0 : Nat) (l1 : Int32) (l2 : Int32) (h : ZH), xX5_forgetAll_L9  nn l0 l1 l2 h = some r → z_W Γ p l e rmX5_forgetAll s m args below meth c 3 0 0 (MQ below (z_Qc Γ none r) args s rmX5_forgetAll.cells rmX5_forgetAll.slots (z_A Γ)) 9 [(0, .ref l0), (1, .int l1), (2, .int l2)] [] h := by
  intro nn
  induction nn with
  | zero => intro l0 l1 l2 h hX; cases hX
  | succ nn ih => intro l0 l1 l2 h hX; exact wX5_forgetAll_B9 hO G hr hnm  ih l0 l1 l2 h hX
noncomputable def xX5_forgetAll (l0 : Nat) (l1 : Int32) (h : ZH) : Option ZH := ((z_gR h l0 5 5).bind fun x1 => ((z_uI h x1 l1 (0 : Int32)).bind fun h6 => xX5_forgetAll_L9 zFU l0 l1 (0 : Int32) h6))
set_option maxHeartbeats 4000000 in
set_option maxRecDepth 100000 in
theorem lX5_forgetAll {Γ : ZG} {l : Launch} (hO : z_OK Γ) {l0 : Nat} {l1 : Int32} {h : ZH} {r : ZH} (hX : xX5_forgetAll l0 l1 h = some r) : z_M Γ l yX5_forgetAll (z_ws1 yX5_forgetAll cX5_forgetAll 3 none) rmX5_forgetAll [.ref l0, .int l1] h none r := by
  refine z_start hO (plainFor_of_name (by decide)) (Nat.le_of_ble_eq_true rfl) ?_
  intro p e s m args below meth c G hr hnm
  refine z_lvc (lv2 := [(0, .ref l0), (1, .int l1)]) rfl ?_
  refine z_aload_n (pc := 0) G 0 dX5_forgetAll_0 rfl rfl ?_
  obtain ⟨x1, hv1, hX⟩ := z_bd hX
  refine z_getR (pc := 1) G kK5 (k := 5) (by decide) kt_203 dX5_forgetAll_1 hv1 ?_
  refine z_iload_n (pc := 4) G 1 dX5_forgetAll_4 rfl rfl ?_
  refine z_iconst (pc := 5) (v := 0) G dX5_forgetAll_5 (by decide) ?_
  obtain ⟨h6, hv6, hX⟩ := z_bd hX
  refine z_iast (pc := 6) G dX5_forgetAll_6 hv6 ?_
  refine z_iconst (pc := 7) (v := 0) G dX5_forgetAll_7 (by decide) ?_
  refine z_istore_n (pc := 8) (lv2 := [(0, .ref l0), (1, .int l1), (2, .int (0 : Int32))]) G dX5_forgetAll_8 rfl (by decide) rfl rfl ?_
  exact wX5_forgetAll_L9 hO G hr hnm zFU _ _ _ _ hX
theorem dX5_start_0 : decode cX5_start 0 = .ok (.aload_n 0, 1) := by decide +kernel
theorem dX5_start_1 : decode cX5_start 1 = .ok (.getfield 48, 3) := by decide +kernel
theorem dX5_start_4 : decode cX5_start 4 = .ok (.getfield 52, 3) := by decide +kernel
theorem dX5_start_7 : decode cX5_start 7 = .ok (.iconst 0, 1) := by decide +kernel
theorem dX5_start_8 : decode cX5_start 8 = .ok (.aload_n 0, 1) := by decide +kernel
theorem dX5_start_9 : decode cX5_start 9 = .ok (.getfield 9, 3) := by decide +kernel
theorem dX5_start_12 : decode cX5_start 12 = .ok (.iconst 0, 1) := by decide +kernel
theorem dX5_start_13 : decode cX5_start 13 = .ok (.bipush 6, 2) := by decide +kernel
theorem dX5_start_15 : decode cX5_start 15 = .ok (.invokestatic 55, 3) := by decide +kernel
theorem dX5_start_18 : decode cX5_start 18 = .ok (.aload_n 0, 1) := by decide +kernel
theorem dX5_start_19 : decode cX5_start 19 = .ok (.getfield 48, 3) := by decide +kernel
theorem dX5_start_22 : decode cX5_start 22 = .ok (.getfield 61, 3) := by decide +kernel
theorem dX5_start_25 : decode cX5_start 25 = .ok (.iconst 0, 1) := by decide +kernel
theorem dX5_start_26 : decode cX5_start 26 = .ok (.aload_n 0, 1) := by decide +kernel
theorem dX5_start_27 : decode cX5_start 27 = .ok (.getfield 15, 3) := by decide +kernel
theorem dX5_start_30 : decode cX5_start 30 = .ok (.iconst 0, 1) := by decide +kernel
theorem dX5_start_31 : decode cX5_start 31 = .ok (.bipush 6, 2) := by decide +kernel
theorem dX5_start_33 : decode cX5_start 33 = .ok (.invokestatic 55, 3) := by decide +kernel
theorem dX5_start_36 : decode cX5_start 36 = .ok (.aload_n 0, 1) := by decide +kernel
theorem dX5_start_37 : decode cX5_start 37 = .ok (.getfield 48, 3) := by decide +kernel
theorem dX5_start_40 : decode cX5_start 40 = .ok (.getfield 62, 3) := by decide +kernel
theorem dX5_start_43 : decode cX5_start 43 = .ok (.iconst 0, 1) := by decide +kernel
theorem dX5_start_44 : decode cX5_start 44 = .ok (.aload_n 0, 1) := by decide +kernel
theorem dX5_start_45 : decode cX5_start 45 = .ok (.getfield 18, 3) := by decide +kernel
theorem dX5_start_48 : decode cX5_start 48 = .ok (.iconst 0, 1) := by decide +kernel
theorem dX5_start_49 : decode cX5_start 49 = .ok (.bipush 6, 2) := by decide +kernel
theorem dX5_start_51 : decode cX5_start 51 = .ok (.invokestatic 55, 3) := by decide +kernel
theorem dX5_start_54 : decode cX5_start 54 = .ok (.aload_n 0, 1) := by decide +kernel
theorem dX5_start_55 : decode cX5_start 55 = .ok (.getfield 48, 3) := by decide +kernel
theorem dX5_start_58 : decode cX5_start 58 = .ok (.getfield 63, 3) := by decide +kernel
theorem dX5_start_61 : decode cX5_start 61 = .ok (.iconst 0, 1) := by decide +kernel
theorem dX5_start_62 : decode cX5_start 62 = .ok (.aload_n 0, 1) := by decide +kernel
theorem dX5_start_63 : decode cX5_start 63 = .ok (.getfield 21, 3) := by decide +kernel
theorem dX5_start_66 : decode cX5_start 66 = .ok (.iconst 0, 1) := by decide +kernel
theorem dX5_start_67 : decode cX5_start 67 = .ok (.bipush 6, 2) := by decide +kernel
theorem dX5_start_69 : decode cX5_start 69 = .ok (.invokestatic 55, 3) := by decide +kernel
theorem dX5_start_72 : decode cX5_start 72 = .ok (.iconst 0, 1) := by decide +kernel
theorem dX5_start_73 : decode cX5_start 73 = .ok (.istore_n 1, 1) := by decide +kernel
theorem dX5_start_74 : decode cX5_start 74 = .ok (.iload_n 1, 1) := by decide +kernel
theorem dX5_start_75 : decode cX5_start 75 = .ok (.bipush 6, 2) := by decide +kernel
theorem dX5_start_77 : decode cX5_start 77 = .ok (.if_icmp .ge 14, 3) := by decide +kernel
theorem dX5_start_80 : decode cX5_start 80 = .ok (.aload_n 0, 1) := by decide +kernel
theorem dX5_start_81 : decode cX5_start 81 = .ok (.iload_n 1, 1) := by decide +kernel
theorem dX5_start_82 : decode cX5_start 82 = .ok (.invokevirtual 64, 3) := by decide +kernel
theorem dX5_start_85 : decode cX5_start 85 = .ok (.iinc 1 1, 3) := by decide +kernel
theorem dX5_start_88 : decode cX5_start 88 = .ok (.goto (-14), 3) := by decide +kernel
theorem dX5_start_91 : decode cX5_start 91 = .ok (.aload_n 0, 1) := by decide +kernel
theorem dX5_start_92 : decode cX5_start 92 = .ok (.iconst 0, 1) := by decide +kernel
theorem dX5_start_93 : decode cX5_start 93 = .ok (.putfield 68, 3) := by decide +kernel
theorem dX5_start_96 : decode cX5_start 96 = .ok (.aload_n 0, 1) := by decide +kernel
theorem dX5_start_97 : decode cX5_start 97 = .ok (.iconst 0, 1) := by decide +kernel
theorem dX5_start_98 : decode cX5_start 98 = .ok (.putfield 72, 3) := by decide +kernel
theorem dX5_start_101 : decode cX5_start 101 = .ok (.aload_n 0, 1) := by decide +kernel
theorem dX5_start_102 : decode cX5_start 102 = .ok (.iconst 0, 1) := by decide +kernel
theorem dX5_start_103 : decode cX5_start 103 = .ok (.putfield 75, 3) := by decide +kernel
theorem dX5_start_106 : decode cX5_start 106 = .ok (.aload_n 0, 1) := by decide +kernel
theorem dX5_start_107 : decode cX5_start 107 = .ok (.iconst 0, 1) := by decide +kernel
theorem dX5_start_108 : decode cX5_start 108 = .ok (.putfield 78, 3) := by decide +kernel
theorem dX5_start_111 : decode cX5_start 111 = .ok (.aload_n 0, 1) := by decide +kernel
theorem dX5_start_112 : decode cX5_start 112 = .ok (.aload_n 0, 1) := by decide +kernel
theorem dX5_start_113 : decode cX5_start 113 = .ok (.getfield 48, 3) := by decide +kernel
theorem dX5_start_116 : decode cX5_start 116 = .ok (.getfield 81, 3) := by decide +kernel
theorem dX5_start_119 : decode cX5_start 119 = .ok (.putfield 84, 3) := by decide +kernel
theorem dX5_start_122 : decode cX5_start 122 = .ok (.return_, 1) := by decide +kernel
theorem ydX5_start : z_yd yX5_start 0 := ⟨by decide, by decide, by decide +kernel⟩
abbrev rmX5_start : Room := { frames := 2, cells := 0, slots := 0, locals := 60 }
noncomputable def xX5_start_B91 (l0 : Nat) (h : ZH) : Option ZH := ((z_sF h l0 5 13 (.int (0 : Int32))).bind fun h93 => ((z_sF h93 l0 5 14 (.int (0 : Int32))).bind fun h98 => ((z_sF h98 l0 5 15 (.int (0 : Int32))).bind fun h103 => ((z_sF h103 l0 5 16 (.int (0 : Int32))).bind fun h108 => ((z_gR h108 l0 5 0).bind fun x113 => ((z_gI h108 x113 2 6).bind fun x116 => ((z_sF h108 l0 5 17 (.int x116)).bind fun h119 => some h119)))))))
set_option maxHeartbeats 4000000 in
set_option maxRecDepth 100000 in
theorem wX5_start_B91 {Γ : ZG} {p : Program} {l : Launch} {e : Env} {s : State} {m : MethodId} {args : Array Value} {below : List Frame} {meth : Method} {c : Code} (hO : z_OK Γ) (G : z_GG Γ p s m args meth c cX5_start 2 RX5) (hr : meth.sig.returnType = none) (hnm : meth.name = "start") {r : ZH} : ∀ (l0 : Nat) (h : ZH), xX5_start_B91  l0 h = some r → z_W Γ p l e rmX5_start s m args below meth c 2 0 0 (MQ below (z_Qc Γ none r) args s rmX5_start.cells rmX5_start.slots (z_A Γ)) 91 [(0, .ref l0)] [] h := by
  intro l0 h hX
  refine z_aload_n (pc := 91) G 0 dX5_start_91 rfl rfl ?_
  refine z_iconst (pc := 92) (v := 0) G dX5_start_92 (by decide) ?_
  obtain ⟨h93, hv93, hX⟩ := z_bd hX
  refine z_putF (pc := 93) G kK5 (k := 13) (by decide) kt_227 (Or.inl rfl) rfl rfl dX5_start_93 hv93 ?_
  refine z_aload_n (pc := 96) G 0 dX5_start_96 rfl rfl ?_
  refine z_iconst (pc := 97) (v := 0) G dX5_start_97 (by decide) ?_
  obtain ⟨h98, hv98, hX⟩ := z_bd hX
  refine z_putF (pc := 98) G kK5 (k := 14) (by decide) kt_229 (Or.inl rfl) rfl rfl dX5_start_98 hv98 ?_
  refine z_aload_n (pc := 101) G 0 dX5_start_101 rfl rfl ?_
  refine z_iconst (pc := 102) (v := 0) G dX5_start_102 (by decide) ?_
  obtain ⟨h103, hv103, hX⟩ := z_bd hX
  refine z_putF (pc := 103) G kK5 (k := 15) (by decide) kt_232 (Or.inl rfl) rfl rfl dX5_start_103 hv103 ?_
  refine z_aload_n (pc := 106) G 0 dX5_start_106 rfl rfl ?_
  refine z_iconst (pc := 107) (v := 0) G dX5_start_107 (by decide) ?_
  obtain ⟨h108, hv108, hX⟩ := z_bd hX
  refine z_putF (pc := 108) G kK5 (k := 16) (by decide) kt_236 (Or.inl rfl) rfl rfl dX5_start_108 hv108 ?_
  refine z_aload_n (pc := 111) G 0 dX5_start_111 rfl rfl ?_
  refine z_aload_n (pc := 112) G 0 dX5_start_112 rfl rfl ?_
  obtain ⟨x113, hv113, hX⟩ := z_bd hX
  refine z_getR (pc := 113) G kK5 (k := 0) (by decide) kt_188 dX5_start_113 hv113 ?_
  obtain ⟨x116, hv116, hX⟩ := z_bd hX
  refine z_getI (pc := 116) G kK2 (k := 6) (by decide) kt_65 dX5_start_116 hv116 ?_
  obtain ⟨h119, hv119, hX⟩ := z_bd hX
  refine z_putF (pc := 119) G kK5 (k := 17) (by decide) kt_238 (Or.inl rfl) rfl rfl dX5_start_119 hv119 ?_
  exact z_vretX (pc := 122) hX G hr dX5_start_122 (by decide) (by decide)
noncomputable def xX5_start_B74 (r74 : Nat → Int32 → ZH → Option ZH) (l0 : Nat) (l1 : Int32) (h : ZH) : Option ZH := (if (6 : Int32) ≤ l1 then xX5_start_B91 l0 h else (z_gu (z_is h l0 5) ((xX5_forgetAll l0 l1 h).bind fun h82 => r74 l0 (l1 + 1) h82)))
noncomputable def xX5_start_L74 (n : Nat) : Nat → Int32 → ZH → Option ZH := Nat.rec (motive := fun _ => Nat → Int32 → ZH → Option ZH) (fun _ _ _ => none) (fun _ rec => xX5_start_B74  rec) n
set_option maxHeartbeats 4000000 in
set_option maxRecDepth 100000 in
theorem wX5_start_B74 {Γ : ZG} {p : Program} {l : Launch} {e : Env} {s : State} {m : MethodId} {args : Array Value} {below : List Frame} {meth : Method} {c : Code} (hO : z_OK Γ) (G : z_GG Γ p s m args meth c cX5_start 2 RX5) (hr : meth.sig.returnType = none) (hnm : meth.name = "start") {r : ZH} {r74 : Nat → Int32 → ZH → Option ZH} (H74 : ∀ (l0 : Nat) (l1 : Int32) (h : ZH), r74 l0 l1 h = some r → z_W Γ p l e rmX5_start s m args below meth c 2 0 0 (MQ below (z_Qc Γ none r) args s rmX5_start.cells rmX5_start.slots (z_A Γ)) 74 [(0, .ref l0), (1, .int l1)] [] h) : ∀ (l0 : Nat) (l1 : Int32) (h : ZH), xX5_start_B74  r74 l0 l1 h = some r → z_W Γ p l e rmX5_start s m args below meth c 2 0 0 (MQ below (z_Qc Γ none r) args s rmX5_start.cells rmX5_start.slots (z_A Γ)) 74 [(0, .ref l0), (1, .int l1)] [] h := by
  intro l0 l1 h hX
  refine z_iload_n (pc := 74) G 1 dX5_start_74 rfl rfl ?_
  refine z_bipush (pc := 75) (v := 6) G dX5_start_75 (by decide) ?_
  refine z_icmp_ge (pc := 77) (tgt := 91) G dX5_start_77 (by decide) (fun hc77 => ?_) (fun hc77 => ?_)
  · have hX := z_it hc77 hX
    refine z_drop (lv2 := [(0, .ref l0)]) [0] rfl ?_
    exact wX5_start_B91 hO G hr hnm _ _ hX
  · have hX := z_if hc77 hX
    refine z_aload_n (pc := 80) G 0 dX5_start_80 rfl rfl ?_
    refine z_iload_n (pc := 81) G 1 dX5_start_81 rfl rfl ?_
    obtain ⟨hi82, hX⟩ := z_gu_s hX
    obtain ⟨h82, hv82, hX⟩ := z_bd hX
    refine z_cVV (pc := 82) (As := [.int l1]) (c2 := 0) (s2 := 0) G kK5 (lX5_forgetAll hO hv82) hi82 kt_419 kt_4 kt_416 kt_417 kt_418 ydX5_forgetAll ⟨by decide, by decide⟩ rfl (Nat.le_of_ble_eq_true rfl) ⟨rfl, rfl⟩ ⟨by decide, by decide⟩ rfl dX5_start_82 ?_
    refine z_iincw (pc := 85) (w := 1) (lv2 := [(0, .ref l0), (1, .int (l1 + 1))]) G 1 dX5_start_85 rfl (by decide) (by decide) rfl rfl ?_
    refine z_goto (pc := 88) (tgt := 74) G dX5_start_88 (by decide) ?_
    exact H74 _ _ _ hX
set_option maxHeartbeats 4000000 in
set_option maxRecDepth 100000 in
theorem wX5_start_L74 {Γ : ZG} {p : Program} {l : Launch} {e : Env} {s : State} {m : MethodId} {args : Array Value} {below : List Frame} {meth : Method} {c : Code} (hO : z_OK Γ) (G : z_GG Γ p s m args meth c cX5_start 2 RX5) (hr : meth.sig.returnType = none) (hnm : meth.name = "start") {r : ZH} : ∀ (nn : Nat) (l0 : Nat) (l1 : Int32) (h : ZH), xX5_start_L74  nn l0 l1 h = some r → z_W Γ p l e rmX5_start s m args below meth c 2 0 0 (MQ below (z_Qc Γ none r) args s rmX5_start.cells rmX5_start.slots (z_A Γ)) 74 [(0, .ref l0), (1, .int l1)] [] h := by
  intro nn
  induction nn with
  | zero => intro l0 l1 h hX; cases hX
  | succ nn ih => intro l0 l1 h hX; exact wX5_start_B74 hO G hr hnm  ih l0 l1 h hX
noncomputable def xX5_start (l0 : Nat) (h : ZH) : Option ZH := ((z_gR h l0 5 0).bind fun x1 => ((z_gR h x1 2 9).bind fun x4 => ((z_gR h l0 5 1).bind fun x9 => ((z_cp h x4 x9 (6 : Int32)).bind fun h15 => ((z_gR h15 l0 5 0).bind fun x19 => ((z_gR h15 x19 2 10).bind fun x22 => ((z_gR h15 l0 5 2).bind fun x27 => ((z_cp h15 x22 x27 (6 : Int32)).bind fun h33 => ((z_gR h33 l0 5 0).bind fun x37 => ((z_gR h33 x37 2 11).bind fun x40 => ((z_gR h33 l0 5 3).bind fun x45 => ((z_cp h33 x40 x45 (6 : Int32)).bind fun h51 => ((z_gR h51 l0 5 0).bind fun x55 => ((z_gR h51 x55 2 12).bind fun x58 => ((z_gR h51 l0 5 4).bind fun x63 => ((z_cp h51 x58 x63 (6 : Int32)).bind fun h69 => xX5_start_L74 zFU l0 (0 : Int32) h69))))))))))))))))
set_option maxHeartbeats 4000000 in
set_option maxRecDepth 100000 in
theorem lX5_start {Γ : ZG} {l : Launch} (hO : z_OK Γ) {l0 : Nat} {h : ZH} {r : ZH} (hX : xX5_start l0 h = some r) : z_M Γ l yX5_start (z_ws1 yX5_start cX5_start 2 none) rmX5_start [.ref l0] h none r := by
  refine z_start hO (plainFor_of_name (by decide)) (Nat.le_of_ble_eq_true rfl) ?_
  intro p e s m args below meth c G hr hnm
  refine z_lvc (lv2 := [(0, .ref l0)]) rfl ?_
  refine z_aload_n (pc := 0) G 0 dX5_start_0 rfl rfl ?_
  obtain ⟨x1, hv1, hX⟩ := z_bd hX
  refine z_getR (pc := 1) G kK5 (k := 0) (by decide) kt_188 dX5_start_1 hv1 ?_
  obtain ⟨x4, hv4, hX⟩ := z_bd hX
  refine z_getR (pc := 4) G kK2 (k := 9) (by decide) kt_77 dX5_start_4 hv4 ?_
  refine z_iconst (pc := 7) (v := 0) G dX5_start_7 (by decide) ?_
  refine z_aload_n (pc := 8) G 0 dX5_start_8 rfl rfl ?_
  obtain ⟨x9, hv9, hX⟩ := z_bd hX
  refine z_getR (pc := 9) G kK5 (k := 1) (by decide) kt_191 dX5_start_9 hv9 ?_
  refine z_iconst (pc := 12) (v := 0) G dX5_start_12 (by decide) ?_
  refine z_bipush (pc := 13) (v := 6) G dX5_start_13 (by decide) ?_
  obtain ⟨h15, hv15, hX⟩ := z_bd hX
  refine z_copy (pc := 15) G kt_413 kt_415 kt_414 kt_10 hv15 (by decide) (by decide) dX5_start_15 ?_
  refine z_aload_n (pc := 18) G 0 dX5_start_18 rfl rfl ?_
  obtain ⟨x19, hv19, hX⟩ := z_bd hX
  refine z_getR (pc := 19) G kK5 (k := 0) (by decide) kt_188 dX5_start_19 hv19 ?_
  obtain ⟨x22, hv22, hX⟩ := z_bd hX
  refine z_getR (pc := 22) G kK2 (k := 10) (by decide) kt_81 dX5_start_22 hv22 ?_
  refine z_iconst (pc := 25) (v := 0) G dX5_start_25 (by decide) ?_
  refine z_aload_n (pc := 26) G 0 dX5_start_26 rfl rfl ?_
  obtain ⟨x27, hv27, hX⟩ := z_bd hX
  refine z_getR (pc := 27) G kK5 (k := 2) (by decide) kt_195 dX5_start_27 hv27 ?_
  refine z_iconst (pc := 30) (v := 0) G dX5_start_30 (by decide) ?_
  refine z_bipush (pc := 31) (v := 6) G dX5_start_31 (by decide) ?_
  obtain ⟨h33, hv33, hX⟩ := z_bd hX
  refine z_copy (pc := 33) G kt_413 kt_415 kt_414 kt_10 hv33 (by decide) (by decide) dX5_start_33 ?_
  refine z_aload_n (pc := 36) G 0 dX5_start_36 rfl rfl ?_
  obtain ⟨x37, hv37, hX⟩ := z_bd hX
  refine z_getR (pc := 37) G kK5 (k := 0) (by decide) kt_188 dX5_start_37 hv37 ?_
  obtain ⟨x40, hv40, hX⟩ := z_bd hX
  refine z_getR (pc := 40) G kK2 (k := 11) (by decide) kt_85 dX5_start_40 hv40 ?_
  refine z_iconst (pc := 43) (v := 0) G dX5_start_43 (by decide) ?_
  refine z_aload_n (pc := 44) G 0 dX5_start_44 rfl rfl ?_
  obtain ⟨x45, hv45, hX⟩ := z_bd hX
  refine z_getR (pc := 45) G kK5 (k := 3) (by decide) kt_199 dX5_start_45 hv45 ?_
  refine z_iconst (pc := 48) (v := 0) G dX5_start_48 (by decide) ?_
  refine z_bipush (pc := 49) (v := 6) G dX5_start_49 (by decide) ?_
  obtain ⟨h51, hv51, hX⟩ := z_bd hX
  refine z_copy (pc := 51) G kt_413 kt_415 kt_414 kt_10 hv51 (by decide) (by decide) dX5_start_51 ?_
  refine z_aload_n (pc := 54) G 0 dX5_start_54 rfl rfl ?_
  obtain ⟨x55, hv55, hX⟩ := z_bd hX
  refine z_getR (pc := 55) G kK5 (k := 0) (by decide) kt_188 dX5_start_55 hv55 ?_
  obtain ⟨x58, hv58, hX⟩ := z_bd hX
  refine z_getR (pc := 58) G kK2 (k := 12) (by decide) kt_89 dX5_start_58 hv58 ?_
  refine z_iconst (pc := 61) (v := 0) G dX5_start_61 (by decide) ?_
  refine z_aload_n (pc := 62) G 0 dX5_start_62 rfl rfl ?_
  obtain ⟨x63, hv63, hX⟩ := z_bd hX
  refine z_getR (pc := 63) G kK5 (k := 4) (by decide) kt_201 dX5_start_63 hv63 ?_
  refine z_iconst (pc := 66) (v := 0) G dX5_start_66 (by decide) ?_
  refine z_bipush (pc := 67) (v := 6) G dX5_start_67 (by decide) ?_
  obtain ⟨h69, hv69, hX⟩ := z_bd hX
  refine z_copy (pc := 69) G kt_413 kt_415 kt_414 kt_10 hv69 (by decide) (by decide) dX5_start_69 ?_
  refine z_iconst (pc := 72) (v := 0) G dX5_start_72 (by decide) ?_
  refine z_istore_n (pc := 73) (lv2 := [(0, .ref l0), (1, .int (0 : Int32))]) G dX5_start_73 rfl (by decide) rfl rfl ?_
  exact wX5_start_L74 hO G hr hnm zFU _ _ _ hX
theorem dX5_isOn_0 : decode cX5_isOn 0 = .ok (.aload_n 0, 1) := by decide +kernel
theorem dX5_isOn_1 : decode cX5_isOn 1 = .ok (.getfield 68, 3) := by decide +kernel
theorem dX5_isOn_4 : decode cX5_isOn 4 = .ok (.iload_n 1, 1) := by decide +kernel
theorem dX5_isOn_5 : decode cX5_isOn 5 = .ok (.ishr, 1) := by decide +kernel
theorem dX5_isOn_6 : decode cX5_isOn 6 = .ok (.iconst 1, 1) := by decide +kernel
theorem dX5_isOn_7 : decode cX5_isOn 7 = .ok (.iand, 1) := by decide +kernel
theorem dX5_isOn_8 : decode cX5_isOn 8 = .ok (.ifCond .ne 23, 3) := by decide +kernel
theorem dX5_isOn_11 : decode cX5_isOn 11 = .ok (.aload_n 0, 1) := by decide +kernel
theorem dX5_isOn_12 : decode cX5_isOn 12 = .ok (.getfield 75, 3) := by decide +kernel
theorem dX5_isOn_15 : decode cX5_isOn 15 = .ok (.aload_n 0, 1) := by decide +kernel
theorem dX5_isOn_16 : decode cX5_isOn 16 = .ok (.getfield 48, 3) := by decide +kernel
theorem dX5_isOn_19 : decode cX5_isOn 19 = .ok (.getfield 91, 3) := by decide +kernel
theorem dX5_isOn_22 : decode cX5_isOn 22 = .ok (.iload_n 1, 1) := by decide +kernel
theorem dX5_isOn_23 : decode cX5_isOn 23 = .ok (.iaload, 1) := by decide +kernel
theorem dX5_isOn_24 : decode cX5_isOn 24 = .ok (.if_icmp .lt 7, 3) := by decide +kernel
theorem dX5_isOn_27 : decode cX5_isOn 27 = .ok (.iconst 1, 1) := by decide +kernel
theorem dX5_isOn_28 : decode cX5_isOn 28 = .ok (.goto 4, 3) := by decide +kernel
theorem dX5_isOn_31 : decode cX5_isOn 31 = .ok (.iconst 0, 1) := by decide +kernel
theorem dX5_isOn_32 : decode cX5_isOn 32 = .ok (.ireturn, 1) := by decide +kernel
theorem ydX5_isOn : z_yd yX5_isOn 1 := ⟨by decide, by decide, by decide +kernel⟩
abbrev rmX5_isOn : Room := { frames := 0, cells := 0, slots := 0, locals := 0 }
noncomputable def xX5_isOn (l0 : Nat) (l1 : Int32) (h : ZH) : Option (Int32 × ZH) := ((z_gI h l0 5 13).bind fun x1 => (if ((x1 >>> (l1 &&& 31)) &&& (1 : Int32)) = 0 then ((z_gI h l0 5 15).bind fun x12 => ((z_gR h l0 5 0).bind fun x16 => ((z_gR h x16 2 13).bind fun x19 => ((z_aI h x19 l1).bind fun x23 => (if x12 < x23 then some ((0 : Int32), h) else some ((1 : Int32), h)))))) else some ((0 : Int32), h)))
set_option maxHeartbeats 4000000 in
set_option maxRecDepth 100000 in
theorem lX5_isOn {Γ : ZG} {l : Launch} (hO : z_OK Γ) {l0 : Nat} {l1 : Int32} {h : ZH} {r : (Int32 × ZH)} (hX : xX5_isOn l0 l1 h = some r) : z_M Γ l yX5_isOn (z_ws1 yX5_isOn cX5_isOn 2 (some .boolean)) rmX5_isOn [.ref l0, .int l1] h (some (.int r.1)) r.2 := by
  refine z_start hO (plainFor_of_name (by decide)) (Nat.le_of_ble_eq_true rfl) ?_
  intro p e s m args below meth c G hr hnm
  refine z_lvc (lv2 := [(0, .ref l0), (1, .int l1)]) rfl ?_
  refine z_aload_n (pc := 0) G 0 dX5_isOn_0 rfl rfl ?_
  obtain ⟨x1, hv1, hX⟩ := z_bd hX
  refine z_getI (pc := 1) G kK5 (k := 13) (by decide) kt_227 dX5_isOn_1 hv1 ?_
  refine z_iload_n (pc := 4) G 1 dX5_isOn_4 rfl rfl ?_
  refine z_ishr (pc := 5) G dX5_isOn_5 ?_
  refine z_iconst (pc := 6) (v := 1) G dX5_isOn_6 (by decide) ?_
  refine z_iand (pc := 7) G dX5_isOn_7 ?_
  refine z_if_ne (pc := 8) (tgt := 31) G dX5_isOn_8 (by decide) (fun hc8 => ?_) (fun hc8 => ?_)
  · have hX := z_if hc8 hX
    refine z_iconst (pc := 31) (v := 0) G dX5_isOn_31 (by decide) ?_
    exact z_zretX (pc := 32) hX G hr rfl dX5_isOn_32 (by decide) (by decide)
  · have hX := z_it hc8 hX
    refine z_aload_n (pc := 11) G 0 dX5_isOn_11 rfl rfl ?_
    obtain ⟨x12, hv12, hX⟩ := z_bd hX
    refine z_getI (pc := 12) G kK5 (k := 15) (by decide) kt_232 dX5_isOn_12 hv12 ?_
    refine z_aload_n (pc := 15) G 0 dX5_isOn_15 rfl rfl ?_
    obtain ⟨x16, hv16, hX⟩ := z_bd hX
    refine z_getR (pc := 16) G kK5 (k := 0) (by decide) kt_188 dX5_isOn_16 hv16 ?_
    obtain ⟨x19, hv19, hX⟩ := z_bd hX
    refine z_getR (pc := 19) G kK2 (k := 13) (by decide) kt_95 dX5_isOn_19 hv19 ?_
    refine z_iload_n (pc := 22) G 1 dX5_isOn_22 rfl rfl ?_
    obtain ⟨x23, hv23, hX⟩ := z_bd hX
    refine z_iald (pc := 23) G dX5_isOn_23 hv23 ?_
    refine z_icmp_lt (pc := 24) (tgt := 31) G dX5_isOn_24 (by decide) (fun hc24 => ?_) (fun hc24 => ?_)
    · have hX := z_it hc24 hX
      refine z_iconst (pc := 31) (v := 0) G dX5_isOn_31 (by decide) ?_
      exact z_zretX (pc := 32) hX G hr rfl dX5_isOn_32 (by decide) (by decide)
    · have hX := z_if hc24 hX
      refine z_iconst (pc := 27) (v := 1) G dX5_isOn_27 (by decide) ?_
      refine z_goto (pc := 28) (tgt := 32) G dX5_isOn_28 (by decide) ?_
      exact z_zretX (pc := 32) hX G hr rfl dX5_isOn_32 (by decide) (by decide)
theorem dX5_onBits_0 : decode cX5_onBits 0 = .ok (.iconst 0, 1) := by decide +kernel
theorem dX5_onBits_1 : decode cX5_onBits 1 = .ok (.istore_n 1, 1) := by decide +kernel
theorem dX5_onBits_2 : decode cX5_onBits 2 = .ok (.iconst 0, 1) := by decide +kernel
theorem dX5_onBits_3 : decode cX5_onBits 3 = .ok (.istore_n 2, 1) := by decide +kernel
theorem dX5_onBits_4 : decode cX5_onBits 4 = .ok (.iload_n 2, 1) := by decide +kernel
theorem dX5_onBits_5 : decode cX5_onBits 5 = .ok (.aload_n 0, 1) := by decide +kernel
theorem dX5_onBits_6 : decode cX5_onBits 6 = .ok (.getfield 48, 3) := by decide +kernel
theorem dX5_onBits_9 : decode cX5_onBits 9 = .ok (.getfield 94, 3) := by decide +kernel
theorem dX5_onBits_12 : decode cX5_onBits 12 = .ok (.if_icmp .ge 23, 3) := by decide +kernel
theorem dX5_onBits_15 : decode cX5_onBits 15 = .ok (.aload_n 0, 1) := by decide +kernel
theorem dX5_onBits_16 : decode cX5_onBits 16 = .ok (.iload_n 2, 1) := by decide +kernel
theorem dX5_onBits_17 : decode cX5_onBits 17 = .ok (.invokevirtual 97, 3) := by decide +kernel
theorem dX5_onBits_20 : decode cX5_onBits 20 = .ok (.ifCond .eq 9, 3) := by decide +kernel
theorem dX5_onBits_23 : decode cX5_onBits 23 = .ok (.iload_n 1, 1) := by decide +kernel
theorem dX5_onBits_24 : decode cX5_onBits 24 = .ok (.iconst 1, 1) := by decide +kernel
theorem dX5_onBits_25 : decode cX5_onBits 25 = .ok (.iload_n 2, 1) := by decide +kernel
theorem dX5_onBits_26 : decode cX5_onBits 26 = .ok (.ishl, 1) := by decide +kernel
theorem dX5_onBits_27 : decode cX5_onBits 27 = .ok (.ior, 1) := by decide +kernel
theorem dX5_onBits_28 : decode cX5_onBits 28 = .ok (.istore_n 1, 1) := by decide +kernel
theorem dX5_onBits_29 : decode cX5_onBits 29 = .ok (.iinc 2 1, 3) := by decide +kernel
theorem dX5_onBits_32 : decode cX5_onBits 32 = .ok (.goto (-28), 3) := by decide +kernel
theorem dX5_onBits_35 : decode cX5_onBits 35 = .ok (.iload_n 1, 1) := by decide +kernel
theorem dX5_onBits_36 : decode cX5_onBits 36 = .ok (.ireturn, 1) := by decide +kernel
theorem ydX5_onBits : z_yd yX5_onBits 0 := ⟨by decide, by decide, by decide +kernel⟩
abbrev rmX5_onBits : Room := { frames := 1, cells := 0, slots := 0, locals := 21 }
noncomputable def xX5_onBits_B4 (r4 : Nat → Int32 → Int32 → ZH → Option (Int32 × ZH)) (l0 : Nat) (l1 : Int32) (l2 : Int32) (h : ZH) : Option (Int32 × ZH) := ((z_gR h l0 5 0).bind fun x6 => ((z_gI h x6 2 7).bind fun x9 => (if x9 ≤ l2 then some (l1, h) else (z_gu (z_is h l0 5) ((xX5_isOn l0 l2 h).bind fun r17 => (if r17.1 = 0 then r4 l0 l1 (l2 + 1) r17.2 else r4 l0 (l1 ||| ((1 : Int32) <<< (l2 &&& 31))) (l2 + 1) r17.2))))))
noncomputable def xX5_onBits_L4 (n : Nat) : Nat → Int32 → Int32 → ZH → Option (Int32 × ZH) := Nat.rec (motive := fun _ => Nat → Int32 → Int32 → ZH → Option (Int32 × ZH)) (fun _ _ _ _ => none) (fun _ rec => xX5_onBits_B4  rec) n
set_option maxHeartbeats 4000000 in
set_option maxRecDepth 100000 in
theorem wX5_onBits_B4 {Γ : ZG} {p : Program} {l : Launch} {e : Env} {s : State} {m : MethodId} {args : Array Value} {below : List Frame} {meth : Method} {c : Code} (hO : z_OK Γ) (G : z_GG Γ p s m args meth c cX5_onBits 3 RX5) (hr : meth.sig.returnType = (some .int)) (hnm : meth.name = "onBits") {r : (Int32 × ZH)} {r4 : Nat → Int32 → Int32 → ZH → Option (Int32 × ZH)} (H4 : ∀ (l0 : Nat) (l1 : Int32) (l2 : Int32) (h : ZH), r4 l0 l1 l2 h = some r → z_W Γ p l e rmX5_onBits s m args below meth c 3 0 0 (MQ below (z_Qc Γ (some (.int r.1)) r.2) args s rmX5_onBits.cells rmX5_onBits.slots (z_A Γ)) 4 [(0, .ref l0), (1, .int l1), (2, .int l2)] [] h) : ∀ (l0 : Nat) (l1 : Int32) (l2 : Int32) (h : ZH), xX5_onBits_B4  r4 l0 l1 l2 h = some r → z_W Γ p l e rmX5_onBits s m args below meth c 3 0 0 (MQ below (z_Qc Γ (some (.int r.1)) r.2) args s rmX5_onBits.cells rmX5_onBits.slots (z_A Γ)) 4 [(0, .ref l0), (1, .int l1), (2, .int l2)] [] h := by
  intro l0 l1 l2 h hX
  refine z_iload_n (pc := 4) G 2 dX5_onBits_4 rfl rfl ?_
  refine z_aload_n (pc := 5) G 0 dX5_onBits_5 rfl rfl ?_
  obtain ⟨x6, hv6, hX⟩ := z_bd hX
  refine z_getR (pc := 6) G kK5 (k := 0) (by decide) kt_188 dX5_onBits_6 hv6 ?_
  obtain ⟨x9, hv9, hX⟩ := z_bd hX
  refine z_getI (pc := 9) G kK2 (k := 7) (by decide) kt_72 dX5_onBits_9 hv9 ?_
  refine z_icmp_ge (pc := 12) (tgt := 35) G dX5_onBits_12 (by decide) (fun hc12 => ?_) (fun hc12 => ?_)
  · have hX := z_it hc12 hX
    refine z_iload_n (pc := 35) G 1 dX5_onBits_35 rfl rfl ?_
    exact z_iretX (pc := 36) hX G hr dX5_onBits_36 (by decide) (by decide)
  · have hX := z_if hc12 hX
    refine z_aload_n (pc := 15) G 0 dX5_onBits_15 rfl rfl ?_
    refine z_iload_n (pc := 16) G 2 dX5_onBits_16 rfl rfl ?_
    obtain ⟨hi17, hX⟩ := z_gu_s hX
    obtain ⟨r17, hv17, hX⟩ := z_bd hX
    refine z_cVI (pc := 17) (As := [.int l2]) (c2 := 0) (s2 := 0) G kK5 (lX5_isOn hO hv17) hi17 kt_736 kt_4 kt_1006 kt_734 kt_735 ydX5_isOn ⟨by decide, by decide⟩ rfl (Nat.le_of_ble_eq_true rfl) ⟨rfl, rfl⟩ ⟨by decide, by decide⟩ rfl dX5_onBits_17 ?_
    refine z_if_eq (pc := 20) (tgt := 29) G dX5_onBits_20 (by decide) (fun hc20 => ?_) (fun hc20 => ?_)
    · have hX := z_it hc20 hX
      refine z_iincw (pc := 29) (w := 1) (lv2 := [(0, .ref l0), (1, .int l1), (2, .int (l2 + 1))]) G 2 dX5_onBits_29 rfl (by decide) (by decide) rfl rfl ?_
      refine z_goto (pc := 32) (tgt := 4) G dX5_onBits_32 (by decide) ?_
      exact H4 _ _ _ _ hX
    · have hX := z_if hc20 hX
      refine z_iload_n (pc := 23) G 1 dX5_onBits_23 rfl rfl ?_
      refine z_iconst (pc := 24) (v := 1) G dX5_onBits_24 (by decide) ?_
      refine z_iload_n (pc := 25) G 2 dX5_onBits_25 rfl rfl ?_
      refine z_ishl (pc := 26) G dX5_onBits_26 ?_
      refine z_ior (pc := 27) G dX5_onBits_27 ?_
      refine z_istore_n (pc := 28) (lv2 := [(0, .ref l0), (1, .int (l1 ||| ((1 : Int32) <<< (l2 &&& 31)))), (2, .int l2)]) G dX5_onBits_28 rfl (by decide) rfl rfl ?_
      refine z_iincw (pc := 29) (w := 1) (lv2 := [(0, .ref l0), (1, .int (l1 ||| ((1 : Int32) <<< (l2 &&& 31)))), (2, .int (l2 + 1))]) G 2 dX5_onBits_29 rfl (by decide) (by decide) rfl rfl ?_
      refine z_goto (pc := 32) (tgt := 4) G dX5_onBits_32 (by decide) ?_
      exact H4 _ _ _ _ hX
set_option maxHeartbeats 4000000 in
set_option maxRecDepth 100000 in
theorem wX5_onBits_L4 {Γ : ZG} {p : Program} {l : Launch} {e : Env} {s : State} {m : MethodId} {args : Array Value} {below : List Frame} {meth : Method} {c : Code} (hO : z_OK Γ) (G : z_GG Γ p s m args meth c cX5_onBits 3 RX5) (hr : meth.sig.returnType = (some .int)) (hnm : meth.name = "onBits") {r : (Int32 × ZH)} : ∀ (nn : Nat) (l0 : Nat) (l1 : Int32) (l2 : Int32) (h : ZH), xX5_onBits_L4  nn l0 l1 l2 h = some r → z_W Γ p l e rmX5_onBits s m args below meth c 3 0 0 (MQ below (z_Qc Γ (some (.int r.1)) r.2) args s rmX5_onBits.cells rmX5_onBits.slots (z_A Γ)) 4 [(0, .ref l0), (1, .int l1), (2, .int l2)] [] h := by
  intro nn
  induction nn with
  | zero => intro l0 l1 l2 h hX; cases hX
  | succ nn ih => intro l0 l1 l2 h hX; exact wX5_onBits_B4 hO G hr hnm  ih l0 l1 l2 h hX
noncomputable def xX5_onBits (l0 : Nat) (h : ZH) : Option (Int32 × ZH) := xX5_onBits_L4 zFU l0 (0 : Int32) (0 : Int32) h
set_option maxHeartbeats 4000000 in
set_option maxRecDepth 100000 in
theorem lX5_onBits {Γ : ZG} {l : Launch} (hO : z_OK Γ) {l0 : Nat} {h : ZH} {r : (Int32 × ZH)} (hX : xX5_onBits l0 h = some r) : z_M Γ l yX5_onBits (z_ws1 yX5_onBits cX5_onBits 3 (some .int)) rmX5_onBits [.ref l0] h (some (.int r.1)) r.2 := by
  refine z_start hO (plainFor_of_name (by decide)) (Nat.le_of_ble_eq_true rfl) ?_
  intro p e s m args below meth c G hr hnm
  refine z_lvc (lv2 := [(0, .ref l0)]) rfl ?_
  refine z_iconst (pc := 0) (v := 0) G dX5_onBits_0 (by decide) ?_
  refine z_istore_n (pc := 1) (lv2 := [(0, .ref l0), (1, .int (0 : Int32))]) G dX5_onBits_1 rfl (by decide) rfl rfl ?_
  refine z_iconst (pc := 2) (v := 0) G dX5_onBits_2 (by decide) ?_
  refine z_istore_n (pc := 3) (lv2 := [(0, .ref l0), (1, .int (0 : Int32)), (2, .int (0 : Int32))]) G dX5_onBits_3 rfl (by decide) rfl rfl ?_
  exact wX5_onBits_L4 hO G hr hnm zFU _ _ _ _ hX
theorem dX5_distance_0 : decode cX5_distance 0 = .ok (.aload_n 0, 1) := by decide +kernel
theorem dX5_distance_1 : decode cX5_distance 1 = .ok (.getfield 9, 3) := by decide +kernel
theorem dX5_distance_4 : decode cX5_distance 4 = .ok (.iload_n 1, 1) := by decide +kernel
theorem dX5_distance_5 : decode cX5_distance 5 = .ok (.iaload, 1) := by decide +kernel
theorem dX5_distance_6 : decode cX5_distance 6 = .ok (.aload_n 0, 1) := by decide +kernel
theorem dX5_distance_7 : decode cX5_distance 7 = .ok (.getfield 9, 3) := by decide +kernel
theorem dX5_distance_10 : decode cX5_distance 10 = .ok (.iload_n 2, 1) := by decide +kernel
theorem dX5_distance_11 : decode cX5_distance 11 = .ok (.iaload, 1) := by decide +kernel
theorem dX5_distance_12 : decode cX5_distance 12 = .ok (.isub, 1) := by decide +kernel
theorem dX5_distance_13 : decode cX5_distance 13 = .ok (.invokestatic 101, 3) := by decide +kernel
theorem dX5_distance_16 : decode cX5_distance 16 = .ok (.aload_n 0, 1) := by decide +kernel
theorem dX5_distance_17 : decode cX5_distance 17 = .ok (.getfield 15, 3) := by decide +kernel
theorem dX5_distance_20 : decode cX5_distance 20 = .ok (.iload_n 1, 1) := by decide +kernel
theorem dX5_distance_21 : decode cX5_distance 21 = .ok (.iaload, 1) := by decide +kernel
theorem dX5_distance_22 : decode cX5_distance 22 = .ok (.aload_n 0, 1) := by decide +kernel
theorem dX5_distance_23 : decode cX5_distance 23 = .ok (.getfield 15, 3) := by decide +kernel
theorem dX5_distance_26 : decode cX5_distance 26 = .ok (.iload_n 2, 1) := by decide +kernel
theorem dX5_distance_27 : decode cX5_distance 27 = .ok (.iaload, 1) := by decide +kernel
theorem dX5_distance_28 : decode cX5_distance 28 = .ok (.isub, 1) := by decide +kernel
theorem dX5_distance_29 : decode cX5_distance 29 = .ok (.invokestatic 101, 3) := by decide +kernel
theorem dX5_distance_32 : decode cX5_distance 32 = .ok (.iadd, 1) := by decide +kernel
theorem dX5_distance_33 : decode cX5_distance 33 = .ok (.ireturn, 1) := by decide +kernel
theorem ydX5_distance : z_yd yX5_distance 2 := ⟨by decide, by decide, by decide +kernel⟩
abbrev rmX5_distance : Room := { frames := 1, cells := 0, slots := 0, locals := 20 }
noncomputable def xX5_distance (l0 : Nat) (l1 : Int32) (l2 : Int32) (h : ZH) : Option (Int32 × ZH) := ((z_gR h l0 5 1).bind fun x1 => ((z_aI h x1 l1).bind fun x5 => ((z_gR h l0 5 1).bind fun x7 => ((z_aI h x7 l2).bind fun x11 => ((xJ9_abs_0f7a4 (x5 - x11) h).bind fun r13 => ((z_gR r13.2 l0 5 2).bind fun x17 => ((z_aI r13.2 x17 l1).bind fun x21 => ((z_gR r13.2 l0 5 2).bind fun x23 => ((z_aI r13.2 x23 l2).bind fun x27 => ((xJ9_abs_0f7a4 (x21 - x27) r13.2).bind fun r29 => some ((r13.1 + r29.1), r29.2)))))))))))
set_option maxHeartbeats 4000000 in
set_option maxRecDepth 100000 in
theorem lX5_distance {Γ : ZG} {l : Launch} (hO : z_OK Γ) {l0 : Nat} {l1 : Int32} {l2 : Int32} {h : ZH} {r : (Int32 × ZH)} (hX : xX5_distance l0 l1 l2 h = some r) : z_M Γ l yX5_distance (z_ws1 yX5_distance cX5_distance 3 (some .int)) rmX5_distance [.ref l0, .int l1, .int l2] h (some (.int r.1)) r.2 := by
  refine z_start hO (plainFor_of_name (by decide)) (Nat.le_of_ble_eq_true rfl) ?_
  intro p e s m args below meth c G hr hnm
  refine z_lvc (lv2 := [(0, .ref l0), (1, .int l1), (2, .int l2)]) rfl ?_
  refine z_aload_n (pc := 0) G 0 dX5_distance_0 rfl rfl ?_
  obtain ⟨x1, hv1, hX⟩ := z_bd hX
  refine z_getR (pc := 1) G kK5 (k := 1) (by decide) kt_191 dX5_distance_1 hv1 ?_
  refine z_iload_n (pc := 4) G 1 dX5_distance_4 rfl rfl ?_
  obtain ⟨x5, hv5, hX⟩ := z_bd hX
  refine z_iald (pc := 5) G dX5_distance_5 hv5 ?_
  refine z_aload_n (pc := 6) G 0 dX5_distance_6 rfl rfl ?_
  obtain ⟨x7, hv7, hX⟩ := z_bd hX
  refine z_getR (pc := 7) G kK5 (k := 1) (by decide) kt_191 dX5_distance_7 hv7 ?_
  refine z_iload_n (pc := 10) G 2 dX5_distance_10 rfl rfl ?_
  obtain ⟨x11, hv11, hX⟩ := z_bd hX
  refine z_iald (pc := 11) G dX5_distance_11 hv11 ?_
  refine z_isub (pc := 12) G dX5_distance_12 ?_
  obtain ⟨r13, hv13, hX⟩ := z_bd hX
  refine z_cSI (pc := 13) (As := [.int (x5 - x11)]) (c2 := 0) (s2 := 0) G (lJ9_abs_0f7a4 hO hv13) kt_786 kt_12 kt_784 kt_785 ydJ9_abs_0f7a4 ⟨by decide, by decide⟩ rfl (Nat.le_of_ble_eq_true rfl) ⟨rfl, rfl⟩ ⟨by decide, by decide⟩ rfl dX5_distance_13 ?_
  refine z_aload_n (pc := 16) G 0 dX5_distance_16 rfl rfl ?_
  obtain ⟨x17, hv17, hX⟩ := z_bd hX
  refine z_getR (pc := 17) G kK5 (k := 2) (by decide) kt_195 dX5_distance_17 hv17 ?_
  refine z_iload_n (pc := 20) G 1 dX5_distance_20 rfl rfl ?_
  obtain ⟨x21, hv21, hX⟩ := z_bd hX
  refine z_iald (pc := 21) G dX5_distance_21 hv21 ?_
  refine z_aload_n (pc := 22) G 0 dX5_distance_22 rfl rfl ?_
  obtain ⟨x23, hv23, hX⟩ := z_bd hX
  refine z_getR (pc := 23) G kK5 (k := 2) (by decide) kt_195 dX5_distance_23 hv23 ?_
  refine z_iload_n (pc := 26) G 2 dX5_distance_26 rfl rfl ?_
  obtain ⟨x27, hv27, hX⟩ := z_bd hX
  refine z_iald (pc := 27) G dX5_distance_27 hv27 ?_
  refine z_isub (pc := 28) G dX5_distance_28 ?_
  obtain ⟨r29, hv29, hX⟩ := z_bd hX
  refine z_cSI (pc := 29) (As := [.int (x21 - x27)]) (c2 := 0) (s2 := 0) G (lJ9_abs_0f7a4 hO hv29) kt_786 kt_12 kt_784 kt_785 ydJ9_abs_0f7a4 ⟨by decide, by decide⟩ rfl (Nat.le_of_ble_eq_true rfl) ⟨rfl, rfl⟩ ⟨by decide, by decide⟩ rfl dX5_distance_29 ?_
  refine z_iadd (pc := 32) G dX5_distance_32 ?_
  exact z_iretX (pc := 33) hX G hr dX5_distance_33 (by decide) (by decide)
theorem dX5_inRange_0 : decode cX5_inRange 0 = .ok (.aload_n 0, 1) := by decide +kernel
theorem dX5_inRange_1 : decode cX5_inRange 1 = .ok (.iload_n 1, 1) := by decide +kernel
theorem dX5_inRange_2 : decode cX5_inRange 2 = .ok (.iload_n 2, 1) := by decide +kernel
theorem dX5_inRange_3 : decode cX5_inRange 3 = .ok (.invokevirtual 107, 3) := by decide +kernel
theorem dX5_inRange_6 : decode cX5_inRange 6 = .ok (.aload_n 0, 1) := by decide +kernel
theorem dX5_inRange_7 : decode cX5_inRange 7 = .ok (.getfield 48, 3) := by decide +kernel
theorem dX5_inRange_10 : decode cX5_inRange 10 = .ok (.getfield 111, 3) := by decide +kernel
theorem dX5_inRange_13 : decode cX5_inRange 13 = .ok (.if_icmp .gt 7, 3) := by decide +kernel
theorem dX5_inRange_16 : decode cX5_inRange 16 = .ok (.iconst 1, 1) := by decide +kernel
theorem dX5_inRange_17 : decode cX5_inRange 17 = .ok (.goto 4, 3) := by decide +kernel
theorem dX5_inRange_20 : decode cX5_inRange 20 = .ok (.iconst 0, 1) := by decide +kernel
theorem dX5_inRange_21 : decode cX5_inRange 21 = .ok (.ireturn, 1) := by decide +kernel
theorem ydX5_inRange : z_yd yX5_inRange 2 := ⟨by decide, by decide, by decide +kernel⟩
abbrev rmX5_inRange : Room := { frames := 2, cells := 0, slots := 0, locals := 42 }
noncomputable def xX5_inRange (l0 : Nat) (l1 : Int32) (l2 : Int32) (h : ZH) : Option (Int32 × ZH) := (z_gu (z_is h l0 5) ((xX5_distance l0 l1 l2 h).bind fun r3 => ((z_gR r3.2 l0 5 0).bind fun x7 => ((z_gI r3.2 x7 2 1).bind fun x10 => (if x10 < r3.1 then some ((0 : Int32), r3.2) else some ((1 : Int32), r3.2))))))
set_option maxHeartbeats 4000000 in
set_option maxRecDepth 100000 in
theorem lX5_inRange {Γ : ZG} {l : Launch} (hO : z_OK Γ) {l0 : Nat} {l1 : Int32} {l2 : Int32} {h : ZH} {r : (Int32 × ZH)} (hX : xX5_inRange l0 l1 l2 h = some r) : z_M Γ l yX5_inRange (z_ws1 yX5_inRange cX5_inRange 3 (some .boolean)) rmX5_inRange [.ref l0, .int l1, .int l2] h (some (.int r.1)) r.2 := by
  refine z_start hO (plainFor_of_name (by decide)) (Nat.le_of_ble_eq_true rfl) ?_
  intro p e s m args below meth c G hr hnm
  refine z_lvc (lv2 := [(0, .ref l0), (1, .int l1), (2, .int l2)]) rfl ?_
  refine z_aload_n (pc := 0) G 0 dX5_inRange_0 rfl rfl ?_
  refine z_iload_n (pc := 1) G 1 dX5_inRange_1 rfl rfl ?_
  refine z_iload_n (pc := 2) G 2 dX5_inRange_2 rfl rfl ?_
  obtain ⟨hi3, hX⟩ := z_gu_s hX
  obtain ⟨r3, hv3, hX⟩ := z_bd hX
  refine z_cVI (pc := 3) (As := [.int l1, .int l2]) (c2 := 0) (s2 := 0) G kK5 (lX5_distance hO hv3) hi3 kt_783 kt_4 kt_905 kt_781 kt_782 ydX5_distance ⟨by decide, by decide⟩ rfl (Nat.le_of_ble_eq_true rfl) ⟨rfl, rfl⟩ ⟨by decide, by decide⟩ rfl dX5_inRange_3 ?_
  refine z_aload_n (pc := 6) G 0 dX5_inRange_6 rfl rfl ?_
  obtain ⟨x7, hv7, hX⟩ := z_bd hX
  refine z_getR (pc := 7) G kK5 (k := 0) (by decide) kt_188 dX5_inRange_7 hv7 ?_
  obtain ⟨x10, hv10, hX⟩ := z_bd hX
  refine z_getI (pc := 10) G kK2 (k := 1) (by decide) kt_48 dX5_inRange_10 hv10 ?_
  refine z_icmp_gt (pc := 13) (tgt := 20) G dX5_inRange_13 (by decide) (fun hc13 => ?_) (fun hc13 => ?_)
  · have hX := z_it hc13 hX
    refine z_iconst (pc := 20) (v := 0) G dX5_inRange_20 (by decide) ?_
    exact z_zretX (pc := 21) hX G hr rfl dX5_inRange_21 (by decide) (by decide)
  · have hX := z_if hc13 hX
    refine z_iconst (pc := 16) (v := 1) G dX5_inRange_16 (by decide) ?_
    refine z_goto (pc := 17) (tgt := 21) G dX5_inRange_17 (by decide) ?_
    exact z_zretX (pc := 21) hX G hr rfl dX5_inRange_21 (by decide) (by decide)
theorem dX5_inRangeAfter_0 : decode cX5_inRangeAfter 0 = .ok (.aload_n 0, 1) := by decide +kernel
theorem dX5_inRangeAfter_1 : decode cX5_inRangeAfter 1 = .ok (.getfield 9, 3) := by decide +kernel
theorem dX5_inRangeAfter_4 : decode cX5_inRangeAfter 4 = .ok (.iload_n 1, 1) := by decide +kernel
theorem dX5_inRangeAfter_5 : decode cX5_inRangeAfter 5 = .ok (.iaload, 1) := by decide +kernel
theorem dX5_inRangeAfter_6 : decode cX5_inRangeAfter 6 = .ok (.aload_n 0, 1) := by decide +kernel
theorem dX5_inRangeAfter_7 : decode cX5_inRangeAfter 7 = .ok (.getfield 18, 3) := by decide +kernel
theorem dX5_inRangeAfter_10 : decode cX5_inRangeAfter 10 = .ok (.iload_n 1, 1) := by decide +kernel
theorem dX5_inRangeAfter_11 : decode cX5_inRangeAfter 11 = .ok (.iaload, 1) := by decide +kernel
theorem dX5_inRangeAfter_12 : decode cX5_inRangeAfter 12 = .ok (.iload_n 3, 1) := by decide +kernel
theorem dX5_inRangeAfter_13 : decode cX5_inRangeAfter 13 = .ok (.invokestatic 114, 3) := by decide +kernel
theorem dX5_inRangeAfter_16 : decode cX5_inRangeAfter 16 = .ok (.aload_n 0, 1) := by decide +kernel
theorem dX5_inRangeAfter_17 : decode cX5_inRangeAfter 17 = .ok (.getfield 9, 3) := by decide +kernel
theorem dX5_inRangeAfter_20 : decode cX5_inRangeAfter 20 = .ok (.iload_n 2, 1) := by decide +kernel
theorem dX5_inRangeAfter_21 : decode cX5_inRangeAfter 21 = .ok (.iaload, 1) := by decide +kernel
theorem dX5_inRangeAfter_22 : decode cX5_inRangeAfter 22 = .ok (.aload_n 0, 1) := by decide +kernel
theorem dX5_inRangeAfter_23 : decode cX5_inRangeAfter 23 = .ok (.getfield 18, 3) := by decide +kernel
theorem dX5_inRangeAfter_26 : decode cX5_inRangeAfter 26 = .ok (.iload_n 2, 1) := by decide +kernel
theorem dX5_inRangeAfter_27 : decode cX5_inRangeAfter 27 = .ok (.iaload, 1) := by decide +kernel
theorem dX5_inRangeAfter_28 : decode cX5_inRangeAfter 28 = .ok (.iload_n 3, 1) := by decide +kernel
theorem dX5_inRangeAfter_29 : decode cX5_inRangeAfter 29 = .ok (.invokestatic 114, 3) := by decide +kernel
theorem dX5_inRangeAfter_32 : decode cX5_inRangeAfter 32 = .ok (.isub, 1) := by decide +kernel
theorem dX5_inRangeAfter_33 : decode cX5_inRangeAfter 33 = .ok (.istore 4, 2) := by decide +kernel
theorem dX5_inRangeAfter_35 : decode cX5_inRangeAfter 35 = .ok (.aload_n 0, 1) := by decide +kernel
theorem dX5_inRangeAfter_36 : decode cX5_inRangeAfter 36 = .ok (.getfield 15, 3) := by decide +kernel
theorem dX5_inRangeAfter_39 : decode cX5_inRangeAfter 39 = .ok (.iload_n 1, 1) := by decide +kernel
theorem dX5_inRangeAfter_40 : decode cX5_inRangeAfter 40 = .ok (.iaload, 1) := by decide +kernel
theorem dX5_inRangeAfter_41 : decode cX5_inRangeAfter 41 = .ok (.aload_n 0, 1) := by decide +kernel
theorem dX5_inRangeAfter_42 : decode cX5_inRangeAfter 42 = .ok (.getfield 21, 3) := by decide +kernel
theorem dX5_inRangeAfter_45 : decode cX5_inRangeAfter 45 = .ok (.iload_n 1, 1) := by decide +kernel
theorem dX5_inRangeAfter_46 : decode cX5_inRangeAfter 46 = .ok (.iaload, 1) := by decide +kernel
theorem dX5_inRangeAfter_47 : decode cX5_inRangeAfter 47 = .ok (.iload_n 3, 1) := by decide +kernel
theorem dX5_inRangeAfter_48 : decode cX5_inRangeAfter 48 = .ok (.invokestatic 114, 3) := by decide +kernel
theorem dX5_inRangeAfter_51 : decode cX5_inRangeAfter 51 = .ok (.aload_n 0, 1) := by decide +kernel
theorem dX5_inRangeAfter_52 : decode cX5_inRangeAfter 52 = .ok (.getfield 15, 3) := by decide +kernel
theorem dX5_inRangeAfter_55 : decode cX5_inRangeAfter 55 = .ok (.iload_n 2, 1) := by decide +kernel
theorem dX5_inRangeAfter_56 : decode cX5_inRangeAfter 56 = .ok (.iaload, 1) := by decide +kernel
theorem dX5_inRangeAfter_57 : decode cX5_inRangeAfter 57 = .ok (.aload_n 0, 1) := by decide +kernel
theorem dX5_inRangeAfter_58 : decode cX5_inRangeAfter 58 = .ok (.getfield 21, 3) := by decide +kernel
theorem dX5_inRangeAfter_61 : decode cX5_inRangeAfter 61 = .ok (.iload_n 2, 1) := by decide +kernel
theorem dX5_inRangeAfter_62 : decode cX5_inRangeAfter 62 = .ok (.iaload, 1) := by decide +kernel
theorem dX5_inRangeAfter_63 : decode cX5_inRangeAfter 63 = .ok (.iload_n 3, 1) := by decide +kernel
theorem dX5_inRangeAfter_64 : decode cX5_inRangeAfter 64 = .ok (.invokestatic 114, 3) := by decide +kernel
theorem dX5_inRangeAfter_67 : decode cX5_inRangeAfter 67 = .ok (.isub, 1) := by decide +kernel
theorem dX5_inRangeAfter_68 : decode cX5_inRangeAfter 68 = .ok (.istore 5, 2) := by decide +kernel
theorem dX5_inRangeAfter_70 : decode cX5_inRangeAfter 70 = .ok (.iload 4, 2) := by decide +kernel
theorem dX5_inRangeAfter_72 : decode cX5_inRangeAfter 72 = .ok (.invokestatic 101, 3) := by decide +kernel
theorem dX5_inRangeAfter_75 : decode cX5_inRangeAfter 75 = .ok (.iload 5, 2) := by decide +kernel
theorem dX5_inRangeAfter_77 : decode cX5_inRangeAfter 77 = .ok (.invokestatic 101, 3) := by decide +kernel
theorem dX5_inRangeAfter_80 : decode cX5_inRangeAfter 80 = .ok (.iadd, 1) := by decide +kernel
theorem dX5_inRangeAfter_81 : decode cX5_inRangeAfter 81 = .ok (.aload_n 0, 1) := by decide +kernel
theorem dX5_inRangeAfter_82 : decode cX5_inRangeAfter 82 = .ok (.getfield 48, 3) := by decide +kernel
theorem dX5_inRangeAfter_85 : decode cX5_inRangeAfter 85 = .ok (.getfield 111, 3) := by decide +kernel
theorem dX5_inRangeAfter_88 : decode cX5_inRangeAfter 88 = .ok (.if_icmp .gt 7, 3) := by decide +kernel
theorem dX5_inRangeAfter_91 : decode cX5_inRangeAfter 91 = .ok (.iconst 1, 1) := by decide +kernel
theorem dX5_inRangeAfter_92 : decode cX5_inRangeAfter 92 = .ok (.goto 4, 3) := by decide +kernel
theorem dX5_inRangeAfter_95 : decode cX5_inRangeAfter 95 = .ok (.iconst 0, 1) := by decide +kernel
theorem dX5_inRangeAfter_96 : decode cX5_inRangeAfter 96 = .ok (.ireturn, 1) := by decide +kernel
theorem ydX5_inRangeAfter : z_yd yX5_inRangeAfter 3 := ⟨by decide, by decide, by decide +kernel⟩
abbrev rmX5_inRangeAfter : Room := { frames := 1, cells := 0, slots := 0, locals := 22 }
noncomputable def xX5_inRangeAfter (l0 : Nat) (l1 : Int32) (l2 : Int32) (l3 : Int32) (h : ZH) : Option (Int32 × ZH) := ((z_gR h l0 5 1).bind fun x1 => ((z_aI h x1 l1).bind fun x5 => ((z_gR h l0 5 3).bind fun x7 => ((z_aI h x7 l1).bind fun x11 => ((xX5_placeAfter x5 x11 l3 h).bind fun r13 => ((z_gR r13.2 l0 5 1).bind fun x17 => ((z_aI r13.2 x17 l2).bind fun x21 => ((z_gR r13.2 l0 5 3).bind fun x23 => ((z_aI r13.2 x23 l2).bind fun x27 => ((xX5_placeAfter x21 x27 l3 r13.2).bind fun r29 => ((z_gR r29.2 l0 5 2).bind fun x36 => ((z_aI r29.2 x36 l1).bind fun x40 => ((z_gR r29.2 l0 5 4).bind fun x42 => ((z_aI r29.2 x42 l1).bind fun x46 => ((xX5_placeAfter x40 x46 l3 r29.2).bind fun r48 => ((z_gR r48.2 l0 5 2).bind fun x52 => ((z_aI r48.2 x52 l2).bind fun x56 => ((z_gR r48.2 l0 5 4).bind fun x58 => ((z_aI r48.2 x58 l2).bind fun x62 => ((xX5_placeAfter x56 x62 l3 r48.2).bind fun r64 => ((xJ9_abs_0f7a4 (r13.1 - r29.1) r64.2).bind fun r72 => ((xJ9_abs_0f7a4 (r48.1 - r64.1) r72.2).bind fun r77 => ((z_gR r77.2 l0 5 0).bind fun x82 => ((z_gI r77.2 x82 2 1).bind fun x85 => (if x85 < (r72.1 + r77.1) then some ((0 : Int32), r77.2) else some ((1 : Int32), r77.2))))))))))))))))))))))))))
set_option maxHeartbeats 4000000 in
set_option maxRecDepth 100000 in
theorem lX5_inRangeAfter {Γ : ZG} {l : Launch} (hO : z_OK Γ) {l0 : Nat} {l1 : Int32} {l2 : Int32} {l3 : Int32} {h : ZH} {r : (Int32 × ZH)} (hX : xX5_inRangeAfter l0 l1 l2 l3 h = some r) : z_M Γ l yX5_inRangeAfter (z_ws1 yX5_inRangeAfter cX5_inRangeAfter 6 (some .boolean)) rmX5_inRangeAfter [.ref l0, .int l1, .int l2, .int l3] h (some (.int r.1)) r.2 := by
  refine z_start hO (plainFor_of_name (by decide)) (Nat.le_of_ble_eq_true rfl) ?_
  intro p e s m args below meth c G hr hnm
  refine z_lvc (lv2 := [(0, .ref l0), (1, .int l1), (2, .int l2), (3, .int l3)]) rfl ?_
  refine z_aload_n (pc := 0) G 0 dX5_inRangeAfter_0 rfl rfl ?_
  obtain ⟨x1, hv1, hX⟩ := z_bd hX
  refine z_getR (pc := 1) G kK5 (k := 1) (by decide) kt_191 dX5_inRangeAfter_1 hv1 ?_
  refine z_iload_n (pc := 4) G 1 dX5_inRangeAfter_4 rfl rfl ?_
  obtain ⟨x5, hv5, hX⟩ := z_bd hX
  refine z_iald (pc := 5) G dX5_inRangeAfter_5 hv5 ?_
  refine z_aload_n (pc := 6) G 0 dX5_inRangeAfter_6 rfl rfl ?_
  obtain ⟨x7, hv7, hX⟩ := z_bd hX
  refine z_getR (pc := 7) G kK5 (k := 3) (by decide) kt_199 dX5_inRangeAfter_7 hv7 ?_
  refine z_iload_n (pc := 10) G 1 dX5_inRangeAfter_10 rfl rfl ?_
  obtain ⟨x11, hv11, hX⟩ := z_bd hX
  refine z_iald (pc := 11) G dX5_inRangeAfter_11 hv11 ?_
  refine z_iload_n (pc := 12) G 3 dX5_inRangeAfter_12 rfl rfl ?_
  obtain ⟨r13, hv13, hX⟩ := z_bd hX
  refine z_cSI (pc := 13) (As := [.int x5, .int x11, .int l3]) (c2 := 0) (s2 := 0) G (lX5_placeAfter hO hv13) kt_818 kt_4 kt_816 kt_817 ydX5_placeAfter ⟨by decide, by decide⟩ rfl (Nat.le_of_ble_eq_true rfl) ⟨rfl, rfl⟩ ⟨by decide, by decide⟩ rfl dX5_inRangeAfter_13 ?_
  refine z_aload_n (pc := 16) G 0 dX5_inRangeAfter_16 rfl rfl ?_
  obtain ⟨x17, hv17, hX⟩ := z_bd hX
  refine z_getR (pc := 17) G kK5 (k := 1) (by decide) kt_191 dX5_inRangeAfter_17 hv17 ?_
  refine z_iload_n (pc := 20) G 2 dX5_inRangeAfter_20 rfl rfl ?_
  obtain ⟨x21, hv21, hX⟩ := z_bd hX
  refine z_iald (pc := 21) G dX5_inRangeAfter_21 hv21 ?_
  refine z_aload_n (pc := 22) G 0 dX5_inRangeAfter_22 rfl rfl ?_
  obtain ⟨x23, hv23, hX⟩ := z_bd hX
  refine z_getR (pc := 23) G kK5 (k := 3) (by decide) kt_199 dX5_inRangeAfter_23 hv23 ?_
  refine z_iload_n (pc := 26) G 2 dX5_inRangeAfter_26 rfl rfl ?_
  obtain ⟨x27, hv27, hX⟩ := z_bd hX
  refine z_iald (pc := 27) G dX5_inRangeAfter_27 hv27 ?_
  refine z_iload_n (pc := 28) G 3 dX5_inRangeAfter_28 rfl rfl ?_
  obtain ⟨r29, hv29, hX⟩ := z_bd hX
  refine z_cSI (pc := 29) (As := [.int x21, .int x27, .int l3]) (c2 := 0) (s2 := 0) G (lX5_placeAfter hO hv29) kt_818 kt_4 kt_816 kt_817 ydX5_placeAfter ⟨by decide, by decide⟩ rfl (Nat.le_of_ble_eq_true rfl) ⟨rfl, rfl⟩ ⟨by decide, by decide⟩ rfl dX5_inRangeAfter_29 ?_
  refine z_isub (pc := 32) G dX5_inRangeAfter_32 ?_
  refine z_istore (pc := 33) (lv2 := [(0, .ref l0), (1, .int l1), (2, .int l2), (3, .int l3), (4, .int (r13.1 - r29.1))]) G dX5_inRangeAfter_33 (by decide) rfl rfl ?_
  refine z_aload_n (pc := 35) G 0 dX5_inRangeAfter_35 rfl rfl ?_
  obtain ⟨x36, hv36, hX⟩ := z_bd hX
  refine z_getR (pc := 36) G kK5 (k := 2) (by decide) kt_195 dX5_inRangeAfter_36 hv36 ?_
  refine z_iload_n (pc := 39) G 1 dX5_inRangeAfter_39 rfl rfl ?_
  obtain ⟨x40, hv40, hX⟩ := z_bd hX
  refine z_iald (pc := 40) G dX5_inRangeAfter_40 hv40 ?_
  refine z_aload_n (pc := 41) G 0 dX5_inRangeAfter_41 rfl rfl ?_
  obtain ⟨x42, hv42, hX⟩ := z_bd hX
  refine z_getR (pc := 42) G kK5 (k := 4) (by decide) kt_201 dX5_inRangeAfter_42 hv42 ?_
  refine z_iload_n (pc := 45) G 1 dX5_inRangeAfter_45 rfl rfl ?_
  obtain ⟨x46, hv46, hX⟩ := z_bd hX
  refine z_iald (pc := 46) G dX5_inRangeAfter_46 hv46 ?_
  refine z_iload_n (pc := 47) G 3 dX5_inRangeAfter_47 rfl rfl ?_
  obtain ⟨r48, hv48, hX⟩ := z_bd hX
  refine z_cSI (pc := 48) (As := [.int x40, .int x46, .int l3]) (c2 := 0) (s2 := 0) G (lX5_placeAfter hO hv48) kt_818 kt_4 kt_816 kt_817 ydX5_placeAfter ⟨by decide, by decide⟩ rfl (Nat.le_of_ble_eq_true rfl) ⟨rfl, rfl⟩ ⟨by decide, by decide⟩ rfl dX5_inRangeAfter_48 ?_
  refine z_aload_n (pc := 51) G 0 dX5_inRangeAfter_51 rfl rfl ?_
  obtain ⟨x52, hv52, hX⟩ := z_bd hX
  refine z_getR (pc := 52) G kK5 (k := 2) (by decide) kt_195 dX5_inRangeAfter_52 hv52 ?_
  refine z_iload_n (pc := 55) G 2 dX5_inRangeAfter_55 rfl rfl ?_
  obtain ⟨x56, hv56, hX⟩ := z_bd hX
  refine z_iald (pc := 56) G dX5_inRangeAfter_56 hv56 ?_
  refine z_aload_n (pc := 57) G 0 dX5_inRangeAfter_57 rfl rfl ?_
  obtain ⟨x58, hv58, hX⟩ := z_bd hX
  refine z_getR (pc := 58) G kK5 (k := 4) (by decide) kt_201 dX5_inRangeAfter_58 hv58 ?_
  refine z_iload_n (pc := 61) G 2 dX5_inRangeAfter_61 rfl rfl ?_
  obtain ⟨x62, hv62, hX⟩ := z_bd hX
  refine z_iald (pc := 62) G dX5_inRangeAfter_62 hv62 ?_
  refine z_iload_n (pc := 63) G 3 dX5_inRangeAfter_63 rfl rfl ?_
  obtain ⟨r64, hv64, hX⟩ := z_bd hX
  refine z_cSI (pc := 64) (As := [.int x56, .int x62, .int l3]) (c2 := 0) (s2 := 0) G (lX5_placeAfter hO hv64) kt_818 kt_4 kt_816 kt_817 ydX5_placeAfter ⟨by decide, by decide⟩ rfl (Nat.le_of_ble_eq_true rfl) ⟨rfl, rfl⟩ ⟨by decide, by decide⟩ rfl dX5_inRangeAfter_64 ?_
  refine z_isub (pc := 67) G dX5_inRangeAfter_67 ?_
  refine z_istore (pc := 68) (lv2 := [(0, .ref l0), (1, .int l1), (2, .int l2), (3, .int l3), (4, .int (r13.1 - r29.1)), (5, .int (r48.1 - r64.1))]) G dX5_inRangeAfter_68 (by decide) rfl rfl ?_
  refine z_iload (pc := 70) G 4 dX5_inRangeAfter_70 rfl ?_
  obtain ⟨r72, hv72, hX⟩ := z_bd hX
  refine z_cSI (pc := 72) (As := [.int (r13.1 - r29.1)]) (c2 := 0) (s2 := 0) G (lJ9_abs_0f7a4 hO hv72) kt_786 kt_12 kt_784 kt_785 ydJ9_abs_0f7a4 ⟨by decide, by decide⟩ rfl (Nat.le_of_ble_eq_true rfl) ⟨rfl, rfl⟩ ⟨by decide, by decide⟩ rfl dX5_inRangeAfter_72 ?_
  refine z_iload (pc := 75) G 5 dX5_inRangeAfter_75 rfl ?_
  obtain ⟨r77, hv77, hX⟩ := z_bd hX
  refine z_cSI (pc := 77) (As := [.int (r48.1 - r64.1)]) (c2 := 0) (s2 := 0) G (lJ9_abs_0f7a4 hO hv77) kt_786 kt_12 kt_784 kt_785 ydJ9_abs_0f7a4 ⟨by decide, by decide⟩ rfl (Nat.le_of_ble_eq_true rfl) ⟨rfl, rfl⟩ ⟨by decide, by decide⟩ rfl dX5_inRangeAfter_77 ?_
  refine z_iadd (pc := 80) G dX5_inRangeAfter_80 ?_
  refine z_aload_n (pc := 81) G 0 dX5_inRangeAfter_81 rfl rfl ?_
  obtain ⟨x82, hv82, hX⟩ := z_bd hX
  refine z_getR (pc := 82) G kK5 (k := 0) (by decide) kt_188 dX5_inRangeAfter_82 hv82 ?_
  obtain ⟨x85, hv85, hX⟩ := z_bd hX
  refine z_getI (pc := 85) G kK2 (k := 1) (by decide) kt_48 dX5_inRangeAfter_85 hv85 ?_
  refine z_icmp_gt (pc := 88) (tgt := 95) G dX5_inRangeAfter_88 (by decide) (fun hc88 => ?_) (fun hc88 => ?_)
  · have hX := z_it hc88 hX
    refine z_iconst (pc := 95) (v := 0) G dX5_inRangeAfter_95 (by decide) ?_
    exact z_zretX (pc := 96) hX G hr rfl dX5_inRangeAfter_96 (by decide) (by decide)
  · have hX := z_if hc88 hX
    refine z_iconst (pc := 91) (v := 1) G dX5_inRangeAfter_91 (by decide) ?_
    refine z_goto (pc := 92) (tgt := 96) G dX5_inRangeAfter_92 (by decide) ?_
    exact z_zretX (pc := 96) hX G hr rfl dX5_inRangeAfter_96 (by decide) (by decide)
theorem dX5_speedOf_0 : decode cX5_speedOf 0 = .ok (.aload_n 0, 1) := by decide +kernel
theorem dX5_speedOf_1 : decode cX5_speedOf 1 = .ok (.getfield 18, 3) := by decide +kernel
theorem dX5_speedOf_4 : decode cX5_speedOf 4 = .ok (.iload_n 1, 1) := by decide +kernel
theorem dX5_speedOf_5 : decode cX5_speedOf 5 = .ok (.iaload, 1) := by decide +kernel
theorem dX5_speedOf_6 : decode cX5_speedOf 6 = .ok (.istore_n 2, 1) := by decide +kernel
theorem dX5_speedOf_7 : decode cX5_speedOf 7 = .ok (.aload_n 0, 1) := by decide +kernel
theorem dX5_speedOf_8 : decode cX5_speedOf 8 = .ok (.getfield 21, 3) := by decide +kernel
theorem dX5_speedOf_11 : decode cX5_speedOf 11 = .ok (.iload_n 1, 1) := by decide +kernel
theorem dX5_speedOf_12 : decode cX5_speedOf 12 = .ok (.iaload, 1) := by decide +kernel
theorem dX5_speedOf_13 : decode cX5_speedOf 13 = .ok (.istore_n 3, 1) := by decide +kernel
theorem dX5_speedOf_14 : decode cX5_speedOf 14 = .ok (.iload_n 2, 1) := by decide +kernel
theorem dX5_speedOf_15 : decode cX5_speedOf 15 = .ok (.bipush 100, 2) := by decide +kernel
theorem dX5_speedOf_17 : decode cX5_speedOf 17 = .ok (.iload_n 2, 1) := by decide +kernel
theorem dX5_speedOf_18 : decode cX5_speedOf 18 = .ok (.isub, 1) := by decide +kernel
theorem dX5_speedOf_19 : decode cX5_speedOf 19 = .ok (.invokestatic 118, 3) := by decide +kernel
theorem dX5_speedOf_22 : decode cX5_speedOf 22 = .ok (.iload_n 3, 1) := by decide +kernel
theorem dX5_speedOf_23 : decode cX5_speedOf 23 = .ok (.bipush 100, 2) := by decide +kernel
theorem dX5_speedOf_25 : decode cX5_speedOf 25 = .ok (.iload_n 3, 1) := by decide +kernel
theorem dX5_speedOf_26 : decode cX5_speedOf 26 = .ok (.isub, 1) := by decide +kernel
theorem dX5_speedOf_27 : decode cX5_speedOf 27 = .ok (.invokestatic 118, 3) := by decide +kernel
theorem dX5_speedOf_30 : decode cX5_speedOf 30 = .ok (.iadd, 1) := by decide +kernel
theorem dX5_speedOf_31 : decode cX5_speedOf 31 = .ok (.ireturn, 1) := by decide +kernel
theorem ydX5_speedOf : z_yd yX5_speedOf 1 := ⟨by decide, by decide, by decide +kernel⟩
abbrev rmX5_speedOf : Room := { frames := 1, cells := 0, slots := 0, locals := 21 }
noncomputable def xX5_speedOf (l0 : Nat) (l1 : Int32) (h : ZH) : Option (Int32 × ZH) := ((z_gR h l0 5 3).bind fun x1 => ((z_aI h x1 l1).bind fun x5 => ((z_gR h l0 5 4).bind fun x8 => ((z_aI h x8 l1).bind fun x12 => ((xJ9_min_7cf53 x5 ((100 : Int32) - x5) h).bind fun r19 => ((xJ9_min_7cf53 x12 ((100 : Int32) - x12) r19.2).bind fun r27 => some ((r19.1 + r27.1), r27.2)))))))
set_option maxHeartbeats 4000000 in
set_option maxRecDepth 100000 in
theorem lX5_speedOf {Γ : ZG} {l : Launch} (hO : z_OK Γ) {l0 : Nat} {l1 : Int32} {h : ZH} {r : (Int32 × ZH)} (hX : xX5_speedOf l0 l1 h = some r) : z_M Γ l yX5_speedOf (z_ws1 yX5_speedOf cX5_speedOf 4 (some .int)) rmX5_speedOf [.ref l0, .int l1] h (some (.int r.1)) r.2 := by
  refine z_start hO (plainFor_of_name (by decide)) (Nat.le_of_ble_eq_true rfl) ?_
  intro p e s m args below meth c G hr hnm
  refine z_lvc (lv2 := [(0, .ref l0), (1, .int l1)]) rfl ?_
  refine z_aload_n (pc := 0) G 0 dX5_speedOf_0 rfl rfl ?_
  obtain ⟨x1, hv1, hX⟩ := z_bd hX
  refine z_getR (pc := 1) G kK5 (k := 3) (by decide) kt_199 dX5_speedOf_1 hv1 ?_
  refine z_iload_n (pc := 4) G 1 dX5_speedOf_4 rfl rfl ?_
  obtain ⟨x5, hv5, hX⟩ := z_bd hX
  refine z_iald (pc := 5) G dX5_speedOf_5 hv5 ?_
  refine z_istore_n (pc := 6) (lv2 := [(0, .ref l0), (1, .int l1), (2, .int x5)]) G dX5_speedOf_6 rfl (by decide) rfl rfl ?_
  refine z_aload_n (pc := 7) G 0 dX5_speedOf_7 rfl rfl ?_
  obtain ⟨x8, hv8, hX⟩ := z_bd hX
  refine z_getR (pc := 8) G kK5 (k := 4) (by decide) kt_201 dX5_speedOf_8 hv8 ?_
  refine z_iload_n (pc := 11) G 1 dX5_speedOf_11 rfl rfl ?_
  obtain ⟨x12, hv12, hX⟩ := z_bd hX
  refine z_iald (pc := 12) G dX5_speedOf_12 hv12 ?_
  refine z_istore_n (pc := 13) (lv2 := [(0, .ref l0), (1, .int l1), (2, .int x5), (3, .int x12)]) G dX5_speedOf_13 rfl (by decide) rfl rfl ?_
  refine z_iload_n (pc := 14) G 2 dX5_speedOf_14 rfl rfl ?_
  refine z_bipush (pc := 15) (v := 100) G dX5_speedOf_15 (by decide) ?_
  refine z_iload_n (pc := 17) G 2 dX5_speedOf_17 rfl rfl ?_
  refine z_isub (pc := 18) G dX5_speedOf_18 ?_
  obtain ⟨r19, hv19, hX⟩ := z_bd hX
  refine z_cSI (pc := 19) (As := [.int x5, .int ((100 : Int32) - x5)]) (c2 := 0) (s2 := 0) G (lJ9_min_7cf53 hO hv19) kt_501 kt_12 kt_732 kt_500 ydJ9_min_7cf53 ⟨by decide, by decide⟩ rfl (Nat.le_of_ble_eq_true rfl) ⟨rfl, rfl⟩ ⟨by decide, by decide⟩ rfl dX5_speedOf_19 ?_
  refine z_iload_n (pc := 22) G 3 dX5_speedOf_22 rfl rfl ?_
  refine z_bipush (pc := 23) (v := 100) G dX5_speedOf_23 (by decide) ?_
  refine z_iload_n (pc := 25) G 3 dX5_speedOf_25 rfl rfl ?_
  refine z_isub (pc := 26) G dX5_speedOf_26 ?_
  obtain ⟨r27, hv27, hX⟩ := z_bd hX
  refine z_cSI (pc := 27) (As := [.int x12, .int ((100 : Int32) - x12)]) (c2 := 0) (s2 := 0) G (lJ9_min_7cf53 hO hv27) kt_501 kt_12 kt_732 kt_500 ydJ9_min_7cf53 ⟨by decide, by decide⟩ rfl (Nat.le_of_ble_eq_true rfl) ⟨rfl, rfl⟩ ⟨by decide, by decide⟩ rfl dX5_speedOf_27 ?_
  refine z_iadd (pc := 30) G dX5_speedOf_30 ?_
  exact z_iretX (pc := 31) hX G hr dX5_speedOf_31 (by decide) (by decide)
theorem dX5_owns_0 : decode cX5_owns 0 = .ok (.iconst 0, 1) := by decide +kernel
theorem dX5_owns_1 : decode cX5_owns 1 = .ok (.istore_n 3, 1) := by decide +kernel
theorem dX5_owns_2 : decode cX5_owns 2 = .ok (.iload_n 3, 1) := by decide +kernel
theorem dX5_owns_3 : decode cX5_owns 3 = .ok (.aload_n 0, 1) := by decide +kernel
theorem dX5_owns_4 : decode cX5_owns 4 = .ok (.getfield 24, 3) := by decide +kernel
theorem dX5_owns_7 : decode cX5_owns 7 = .ok (.iload_n 1, 1) := by decide +kernel
theorem dX5_owns_8 : decode cX5_owns 8 = .ok (.iaload, 1) := by decide +kernel
theorem dX5_owns_9 : decode cX5_owns 9 = .ok (.if_icmp .ge 25, 3) := by decide +kernel
theorem dX5_owns_12 : decode cX5_owns 12 = .ok (.aload_n 0, 1) := by decide +kernel
theorem dX5_owns_13 : decode cX5_owns 13 = .ok (.getfield 27, 3) := by decide +kernel
theorem dX5_owns_16 : decode cX5_owns 16 = .ok (.iload_n 1, 1) := by decide +kernel
theorem dX5_owns_17 : decode cX5_owns 17 = .ok (.iconst 3, 1) := by decide +kernel
theorem dX5_owns_18 : decode cX5_owns 18 = .ok (.imul, 1) := by decide +kernel
theorem dX5_owns_19 : decode cX5_owns 19 = .ok (.iload_n 3, 1) := by decide +kernel
theorem dX5_owns_20 : decode cX5_owns 20 = .ok (.iadd, 1) := by decide +kernel
theorem dX5_owns_21 : decode cX5_owns 21 = .ok (.iaload, 1) := by decide +kernel
theorem dX5_owns_22 : decode cX5_owns 22 = .ok (.iload_n 2, 1) := by decide +kernel
theorem dX5_owns_23 : decode cX5_owns 23 = .ok (.if_icmp .ne 5, 3) := by decide +kernel
theorem dX5_owns_26 : decode cX5_owns 26 = .ok (.iconst 1, 1) := by decide +kernel
theorem dX5_owns_27 : decode cX5_owns 27 = .ok (.ireturn, 1) := by decide +kernel
theorem dX5_owns_28 : decode cX5_owns 28 = .ok (.iinc 3 1, 3) := by decide +kernel
theorem dX5_owns_31 : decode cX5_owns 31 = .ok (.goto (-29), 3) := by decide +kernel
theorem dX5_owns_34 : decode cX5_owns 34 = .ok (.iconst 0, 1) := by decide +kernel
theorem dX5_owns_35 : decode cX5_owns 35 = .ok (.ireturn, 1) := by decide +kernel
theorem ydX5_owns : z_yd yX5_owns 2 := ⟨by decide, by decide, by decide +kernel⟩
abbrev rmX5_owns : Room := { frames := 0, cells := 0, slots := 0, locals := 0 }
noncomputable def xX5_owns_B2 (r2 : Nat → Int32 → Int32 → Int32 → ZH → Option (Int32 × ZH)) (l0 : Nat) (l1 : Int32) (l2 : Int32) (l3 : Int32) (h : ZH) : Option (Int32 × ZH) := ((z_gR h l0 5 5).bind fun x4 => ((z_aI h x4 l1).bind fun x8 => (if x8 ≤ l3 then some ((0 : Int32), h) else ((z_gR h l0 5 6).bind fun x13 => ((z_aI h x13 ((l1 * (3 : Int32)) + l3)).bind fun x21 => (if x21 = l2 then some ((1 : Int32), h) else r2 l0 l1 l2 (l3 + 1) h))))))
noncomputable def xX5_owns_L2 (n : Nat) : Nat → Int32 → Int32 → Int32 → ZH → Option (Int32 × ZH) := Nat.rec (motive := fun _ => Nat → Int32 → Int32 → Int32 → ZH → Option (Int32 × ZH)) (fun _ _ _ _ _ => none) (fun _ rec => xX5_owns_B2  rec) n
set_option maxHeartbeats 4000000 in
set_option maxRecDepth 100000 in
theorem wX5_owns_B2 {Γ : ZG} {p : Program} {l : Launch} {e : Env} {s : State} {m : MethodId} {args : Array Value} {below : List Frame} {meth : Method} {c : Code} (hO : z_OK Γ) (G : z_GG Γ p s m args meth c cX5_owns 4 RX5) (hr : meth.sig.returnType = (some .boolean)) (hnm : meth.name = "owns") {r : (Int32 × ZH)} {r2 : Nat → Int32 → Int32 → Int32 → ZH → Option (Int32 × ZH)} (H2 : ∀ (l0 : Nat) (l1 : Int32) (l2 : Int32) (l3 : Int32) (h : ZH), r2 l0 l1 l2 l3 h = some r → z_W Γ p l e rmX5_owns s m args below meth c 4 0 0 (MQ below (z_Qc Γ (some (.int r.1)) r.2) args s rmX5_owns.cells rmX5_owns.slots (z_A Γ)) 2 [(0, .ref l0), (1, .int l1), (2, .int l2), (3, .int l3)] [] h) : ∀ (l0 : Nat) (l1 : Int32) (l2 : Int32) (l3 : Int32) (h : ZH), xX5_owns_B2  r2 l0 l1 l2 l3 h = some r → z_W Γ p l e rmX5_owns s m args below meth c 4 0 0 (MQ below (z_Qc Γ (some (.int r.1)) r.2) args s rmX5_owns.cells rmX5_owns.slots (z_A Γ)) 2 [(0, .ref l0), (1, .int l1), (2, .int l2), (3, .int l3)] [] h := by
  intro l0 l1 l2 l3 h hX
  refine z_iload_n (pc := 2) G 3 dX5_owns_2 rfl rfl ?_
  refine z_aload_n (pc := 3) G 0 dX5_owns_3 rfl rfl ?_
  obtain ⟨x4, hv4, hX⟩ := z_bd hX
  refine z_getR (pc := 4) G kK5 (k := 5) (by decide) kt_203 dX5_owns_4 hv4 ?_
  refine z_iload_n (pc := 7) G 1 dX5_owns_7 rfl rfl ?_
  obtain ⟨x8, hv8, hX⟩ := z_bd hX
  refine z_iald (pc := 8) G dX5_owns_8 hv8 ?_
  refine z_icmp_ge (pc := 9) (tgt := 34) G dX5_owns_9 (by decide) (fun hc9 => ?_) (fun hc9 => ?_)
  · have hX := z_it hc9 hX
    refine z_iconst (pc := 34) (v := 0) G dX5_owns_34 (by decide) ?_
    exact z_zretX (pc := 35) hX G hr rfl dX5_owns_35 (by decide) (by decide)
  · have hX := z_if hc9 hX
    refine z_aload_n (pc := 12) G 0 dX5_owns_12 rfl rfl ?_
    obtain ⟨x13, hv13, hX⟩ := z_bd hX
    refine z_getR (pc := 13) G kK5 (k := 6) (by decide) kt_206 dX5_owns_13 hv13 ?_
    refine z_iload_n (pc := 16) G 1 dX5_owns_16 rfl rfl ?_
    refine z_iconst (pc := 17) (v := 3) G dX5_owns_17 (by decide) ?_
    refine z_imul (pc := 18) G dX5_owns_18 ?_
    refine z_iload_n (pc := 19) G 3 dX5_owns_19 rfl rfl ?_
    refine z_iadd (pc := 20) G dX5_owns_20 ?_
    obtain ⟨x21, hv21, hX⟩ := z_bd hX
    refine z_iald (pc := 21) G dX5_owns_21 hv21 ?_
    refine z_iload_n (pc := 22) G 2 dX5_owns_22 rfl rfl ?_
    refine z_icmp_ne (pc := 23) (tgt := 28) G dX5_owns_23 (by decide) (fun hc23 => ?_) (fun hc23 => ?_)
    · have hX := z_if hc23 hX
      refine z_iincw (pc := 28) (w := 1) (lv2 := [(0, .ref l0), (1, .int l1), (2, .int l2), (3, .int (l3 + 1))]) G 3 dX5_owns_28 rfl (by decide) (by decide) rfl rfl ?_
      refine z_goto (pc := 31) (tgt := 2) G dX5_owns_31 (by decide) ?_
      exact H2 _ _ _ _ _ hX
    · have hX := z_it hc23 hX
      refine z_iconst (pc := 26) (v := 1) G dX5_owns_26 (by decide) ?_
      exact z_zretX (pc := 27) hX G hr rfl dX5_owns_27 (by decide) (by decide)
set_option maxHeartbeats 4000000 in
set_option maxRecDepth 100000 in
theorem wX5_owns_L2 {Γ : ZG} {p : Program} {l : Launch} {e : Env} {s : State} {m : MethodId} {args : Array Value} {below : List Frame} {meth : Method} {c : Code} (hO : z_OK Γ) (G : z_GG Γ p s m args meth c cX5_owns 4 RX5) (hr : meth.sig.returnType = (some .boolean)) (hnm : meth.name = "owns") {r : (Int32 × ZH)} : ∀ (nn : Nat) (l0 : Nat) (l1 : Int32) (l2 : Int32) (l3 : Int32) (h : ZH), xX5_owns_L2  nn l0 l1 l2 l3 h = some r → z_W Γ p l e rmX5_owns s m args below meth c 4 0 0 (MQ below (z_Qc Γ (some (.int r.1)) r.2) args s rmX5_owns.cells rmX5_owns.slots (z_A Γ)) 2 [(0, .ref l0), (1, .int l1), (2, .int l2), (3, .int l3)] [] h := by
  intro nn
  induction nn with
  | zero => intro l0 l1 l2 l3 h hX; cases hX
  | succ nn ih => intro l0 l1 l2 l3 h hX; exact wX5_owns_B2 hO G hr hnm  ih l0 l1 l2 l3 h hX
noncomputable def xX5_owns (l0 : Nat) (l1 : Int32) (l2 : Int32) (h : ZH) : Option (Int32 × ZH) := xX5_owns_L2 zFU l0 l1 l2 (0 : Int32) h
set_option maxHeartbeats 4000000 in
set_option maxRecDepth 100000 in
theorem lX5_owns {Γ : ZG} {l : Launch} (hO : z_OK Γ) {l0 : Nat} {l1 : Int32} {l2 : Int32} {h : ZH} {r : (Int32 × ZH)} (hX : xX5_owns l0 l1 l2 h = some r) : z_M Γ l yX5_owns (z_ws1 yX5_owns cX5_owns 4 (some .boolean)) rmX5_owns [.ref l0, .int l1, .int l2] h (some (.int r.1)) r.2 := by
  refine z_start hO (plainFor_of_name (by decide)) (Nat.le_of_ble_eq_true rfl) ?_
  intro p e s m args below meth c G hr hnm
  refine z_lvc (lv2 := [(0, .ref l0), (1, .int l1), (2, .int l2)]) rfl ?_
  refine z_iconst (pc := 0) (v := 0) G dX5_owns_0 (by decide) ?_
  refine z_istore_n (pc := 1) (lv2 := [(0, .ref l0), (1, .int l1), (2, .int l2), (3, .int (0 : Int32))]) G dX5_owns_1 rfl (by decide) rfl rfl ?_
  exact wX5_owns_L2 hO G hr hnm zFU _ _ _ _ _ hX
theorem dX5_countOwners_0 : decode cX5_countOwners 0 = .ok (.iconst 0, 1) := by decide +kernel
theorem dX5_countOwners_1 : decode cX5_countOwners 1 = .ok (.istore_n 2, 1) := by decide +kernel
theorem dX5_countOwners_2 : decode cX5_countOwners 2 = .ok (.iconst 0, 1) := by decide +kernel
theorem dX5_countOwners_3 : decode cX5_countOwners 3 = .ok (.istore_n 3, 1) := by decide +kernel
theorem dX5_countOwners_4 : decode cX5_countOwners 4 = .ok (.iload_n 3, 1) := by decide +kernel
theorem dX5_countOwners_5 : decode cX5_countOwners 5 = .ok (.aload_n 0, 1) := by decide +kernel
theorem dX5_countOwners_6 : decode cX5_countOwners 6 = .ok (.getfield 48, 3) := by decide +kernel
theorem dX5_countOwners_9 : decode cX5_countOwners 9 = .ok (.getfield 94, 3) := by decide +kernel
theorem dX5_countOwners_12 : decode cX5_countOwners 12 = .ok (.if_icmp .ge 29, 3) := by decide +kernel
theorem dX5_countOwners_15 : decode cX5_countOwners 15 = .ok (.aload_n 0, 1) := by decide +kernel
theorem dX5_countOwners_16 : decode cX5_countOwners 16 = .ok (.iload_n 3, 1) := by decide +kernel
theorem dX5_countOwners_17 : decode cX5_countOwners 17 = .ok (.invokevirtual 97, 3) := by decide +kernel
theorem dX5_countOwners_20 : decode cX5_countOwners 20 = .ok (.ifCond .eq 15, 3) := by decide +kernel
theorem dX5_countOwners_23 : decode cX5_countOwners 23 = .ok (.aload_n 0, 1) := by decide +kernel
theorem dX5_countOwners_24 : decode cX5_countOwners 24 = .ok (.iload_n 3, 1) := by decide +kernel
theorem dX5_countOwners_25 : decode cX5_countOwners 25 = .ok (.iload_n 1, 1) := by decide +kernel
theorem dX5_countOwners_26 : decode cX5_countOwners 26 = .ok (.invokevirtual 121, 3) := by decide +kernel
theorem dX5_countOwners_29 : decode cX5_countOwners 29 = .ok (.ifCond .eq 6, 3) := by decide +kernel
theorem dX5_countOwners_32 : decode cX5_countOwners 32 = .ok (.iinc 2 1, 3) := by decide +kernel
theorem dX5_countOwners_35 : decode cX5_countOwners 35 = .ok (.iinc 3 1, 3) := by decide +kernel
theorem dX5_countOwners_38 : decode cX5_countOwners 38 = .ok (.goto (-34), 3) := by decide +kernel
theorem dX5_countOwners_41 : decode cX5_countOwners 41 = .ok (.iload_n 2, 1) := by decide +kernel
theorem dX5_countOwners_42 : decode cX5_countOwners 42 = .ok (.ireturn, 1) := by decide +kernel
theorem ydX5_countOwners : z_yd yX5_countOwners 1 := ⟨by decide, by decide, by decide +kernel⟩
abbrev rmX5_countOwners : Room := { frames := 1, cells := 0, slots := 0, locals := 23 }
noncomputable def xX5_countOwners_B4 (r4 : Nat → Int32 → Int32 → Int32 → ZH → Option (Int32 × ZH)) (l0 : Nat) (l1 : Int32) (l2 : Int32) (l3 : Int32) (h : ZH) : Option (Int32 × ZH) := ((z_gR h l0 5 0).bind fun x6 => ((z_gI h x6 2 7).bind fun x9 => (if x9 ≤ l3 then some (l2, h) else (z_gu (z_is h l0 5) ((xX5_isOn l0 l3 h).bind fun r17 => (if r17.1 = 0 then r4 l0 l1 l2 (l3 + 1) r17.2 else (z_gu (z_is r17.2 l0 5) ((xX5_owns l0 l3 l1 r17.2).bind fun r26 => (if r26.1 = 0 then r4 l0 l1 l2 (l3 + 1) r26.2 else r4 l0 l1 (l2 + 1) (l3 + 1) r26.2)))))))))
noncomputable def xX5_countOwners_L4 (n : Nat) : Nat → Int32 → Int32 → Int32 → ZH → Option (Int32 × ZH) := Nat.rec (motive := fun _ => Nat → Int32 → Int32 → Int32 → ZH → Option (Int32 × ZH)) (fun _ _ _ _ _ => none) (fun _ rec => xX5_countOwners_B4  rec) n
set_option maxHeartbeats 4000000 in
set_option maxRecDepth 100000 in
theorem wX5_countOwners_B4 {Γ : ZG} {p : Program} {l : Launch} {e : Env} {s : State} {m : MethodId} {args : Array Value} {below : List Frame} {meth : Method} {c : Code} (hO : z_OK Γ) (G : z_GG Γ p s m args meth c cX5_countOwners 4 RX5) (hr : meth.sig.returnType = (some .int)) (hnm : meth.name = "countOwners") {r : (Int32 × ZH)} {r4 : Nat → Int32 → Int32 → Int32 → ZH → Option (Int32 × ZH)} (H4 : ∀ (l0 : Nat) (l1 : Int32) (l2 : Int32) (l3 : Int32) (h : ZH), r4 l0 l1 l2 l3 h = some r → z_W Γ p l e rmX5_countOwners s m args below meth c 4 0 0 (MQ below (z_Qc Γ (some (.int r.1)) r.2) args s rmX5_countOwners.cells rmX5_countOwners.slots (z_A Γ)) 4 [(0, .ref l0), (1, .int l1), (2, .int l2), (3, .int l3)] [] h) : ∀ (l0 : Nat) (l1 : Int32) (l2 : Int32) (l3 : Int32) (h : ZH), xX5_countOwners_B4  r4 l0 l1 l2 l3 h = some r → z_W Γ p l e rmX5_countOwners s m args below meth c 4 0 0 (MQ below (z_Qc Γ (some (.int r.1)) r.2) args s rmX5_countOwners.cells rmX5_countOwners.slots (z_A Γ)) 4 [(0, .ref l0), (1, .int l1), (2, .int l2), (3, .int l3)] [] h := by
  intro l0 l1 l2 l3 h hX
  refine z_iload_n (pc := 4) G 3 dX5_countOwners_4 rfl rfl ?_
  refine z_aload_n (pc := 5) G 0 dX5_countOwners_5 rfl rfl ?_
  obtain ⟨x6, hv6, hX⟩ := z_bd hX
  refine z_getR (pc := 6) G kK5 (k := 0) (by decide) kt_188 dX5_countOwners_6 hv6 ?_
  obtain ⟨x9, hv9, hX⟩ := z_bd hX
  refine z_getI (pc := 9) G kK2 (k := 7) (by decide) kt_72 dX5_countOwners_9 hv9 ?_
  refine z_icmp_ge (pc := 12) (tgt := 41) G dX5_countOwners_12 (by decide) (fun hc12 => ?_) (fun hc12 => ?_)
  · have hX := z_it hc12 hX
    refine z_iload_n (pc := 41) G 2 dX5_countOwners_41 rfl rfl ?_
    exact z_iretX (pc := 42) hX G hr dX5_countOwners_42 (by decide) (by decide)
  · have hX := z_if hc12 hX
    refine z_aload_n (pc := 15) G 0 dX5_countOwners_15 rfl rfl ?_
    refine z_iload_n (pc := 16) G 3 dX5_countOwners_16 rfl rfl ?_
    obtain ⟨hi17, hX⟩ := z_gu_s hX
    obtain ⟨r17, hv17, hX⟩ := z_bd hX
    refine z_cVI (pc := 17) (As := [.int l3]) (c2 := 0) (s2 := 0) G kK5 (lX5_isOn hO hv17) hi17 kt_736 kt_4 kt_1006 kt_734 kt_735 ydX5_isOn ⟨by decide, by decide⟩ rfl (Nat.le_of_ble_eq_true rfl) ⟨rfl, rfl⟩ ⟨by decide, by decide⟩ rfl dX5_countOwners_17 ?_
    refine z_if_eq (pc := 20) (tgt := 35) G dX5_countOwners_20 (by decide) (fun hc20 => ?_) (fun hc20 => ?_)
    · have hX := z_it hc20 hX
      refine z_iincw (pc := 35) (w := 1) (lv2 := [(0, .ref l0), (1, .int l1), (2, .int l2), (3, .int (l3 + 1))]) G 3 dX5_countOwners_35 rfl (by decide) (by decide) rfl rfl ?_
      refine z_goto (pc := 38) (tgt := 4) G dX5_countOwners_38 (by decide) ?_
      exact H4 _ _ _ _ _ hX
    · have hX := z_if hc20 hX
      refine z_aload_n (pc := 23) G 0 dX5_countOwners_23 rfl rfl ?_
      refine z_iload_n (pc := 24) G 3 dX5_countOwners_24 rfl rfl ?_
      refine z_iload_n (pc := 25) G 1 dX5_countOwners_25 rfl rfl ?_
      obtain ⟨hi26, hX⟩ := z_gu_s hX
      obtain ⟨r26, hv26, hX⟩ := z_bd hX
      refine z_cVI (pc := 26) (As := [.int l3, .int l1]) (c2 := 0) (s2 := 0) G kK5 (lX5_owns hO hv26) hi26 kt_993 kt_4 kt_1089 kt_991 kt_992 ydX5_owns ⟨by decide, by decide⟩ rfl (Nat.le_of_ble_eq_true rfl) ⟨rfl, rfl⟩ ⟨by decide, by decide⟩ rfl dX5_countOwners_26 ?_
      refine z_if_eq (pc := 29) (tgt := 35) G dX5_countOwners_29 (by decide) (fun hc29 => ?_) (fun hc29 => ?_)
      · have hX := z_it hc29 hX
        refine z_iincw (pc := 35) (w := 1) (lv2 := [(0, .ref l0), (1, .int l1), (2, .int l2), (3, .int (l3 + 1))]) G 3 dX5_countOwners_35 rfl (by decide) (by decide) rfl rfl ?_
        refine z_goto (pc := 38) (tgt := 4) G dX5_countOwners_38 (by decide) ?_
        exact H4 _ _ _ _ _ hX
      · have hX := z_if hc29 hX
        refine z_iincw (pc := 32) (w := 1) (lv2 := [(0, .ref l0), (1, .int l1), (2, .int (l2 + 1)), (3, .int l3)]) G 2 dX5_countOwners_32 rfl (by decide) (by decide) rfl rfl ?_
        refine z_iincw (pc := 35) (w := 1) (lv2 := [(0, .ref l0), (1, .int l1), (2, .int (l2 + 1)), (3, .int (l3 + 1))]) G 3 dX5_countOwners_35 rfl (by decide) (by decide) rfl rfl ?_
        refine z_goto (pc := 38) (tgt := 4) G dX5_countOwners_38 (by decide) ?_
        exact H4 _ _ _ _ _ hX
set_option maxHeartbeats 4000000 in
set_option maxRecDepth 100000 in
theorem wX5_countOwners_L4 {Γ : ZG} {p : Program} {l : Launch} {e : Env} {s : State} {m : MethodId} {args : Array Value} {below : List Frame} {meth : Method} {c : Code} (hO : z_OK Γ) (G : z_GG Γ p s m args meth c cX5_countOwners 4 RX5) (hr : meth.sig.returnType = (some .int)) (hnm : meth.name = "countOwners") {r : (Int32 × ZH)} : ∀ (nn : Nat) (l0 : Nat) (l1 : Int32) (l2 : Int32) (l3 : Int32) (h : ZH), xX5_countOwners_L4  nn l0 l1 l2 l3 h = some r → z_W Γ p l e rmX5_countOwners s m args below meth c 4 0 0 (MQ below (z_Qc Γ (some (.int r.1)) r.2) args s rmX5_countOwners.cells rmX5_countOwners.slots (z_A Γ)) 4 [(0, .ref l0), (1, .int l1), (2, .int l2), (3, .int l3)] [] h := by
  intro nn
  induction nn with
  | zero => intro l0 l1 l2 l3 h hX; cases hX
  | succ nn ih => intro l0 l1 l2 l3 h hX; exact wX5_countOwners_B4 hO G hr hnm  ih l0 l1 l2 l3 h hX
noncomputable def xX5_countOwners (l0 : Nat) (l1 : Int32) (h : ZH) : Option (Int32 × ZH) := xX5_countOwners_L4 zFU l0 l1 (0 : Int32) (0 : Int32) h
set_option maxHeartbeats 4000000 in
set_option maxRecDepth 100000 in
theorem lX5_countOwners {Γ : ZG} {l : Launch} (hO : z_OK Γ) {l0 : Nat} {l1 : Int32} {h : ZH} {r : (Int32 × ZH)} (hX : xX5_countOwners l0 l1 h = some r) : z_M Γ l yX5_countOwners (z_ws1 yX5_countOwners cX5_countOwners 4 (some .int)) rmX5_countOwners [.ref l0, .int l1] h (some (.int r.1)) r.2 := by
  refine z_start hO (plainFor_of_name (by decide)) (Nat.le_of_ble_eq_true rfl) ?_
  intro p e s m args below meth c G hr hnm
  refine z_lvc (lv2 := [(0, .ref l0), (1, .int l1)]) rfl ?_
  refine z_iconst (pc := 0) (v := 0) G dX5_countOwners_0 (by decide) ?_
  refine z_istore_n (pc := 1) (lv2 := [(0, .ref l0), (1, .int l1), (2, .int (0 : Int32))]) G dX5_countOwners_1 rfl (by decide) rfl rfl ?_
  refine z_iconst (pc := 2) (v := 0) G dX5_countOwners_2 (by decide) ?_
  refine z_istore_n (pc := 3) (lv2 := [(0, .ref l0), (1, .int l1), (2, .int (0 : Int32)), (3, .int (0 : Int32))]) G dX5_countOwners_3 rfl (by decide) rfl rfl ?_
  exact wX5_countOwners_L4 hO G hr hnm zFU _ _ _ _ _ hX
theorem dX5_heardBits_0 : decode cX5_heardBits 0 = .ok (.iconst 0, 1) := by decide +kernel
theorem dX5_heardBits_1 : decode cX5_heardBits 1 = .ok (.istore_n 2, 1) := by decide +kernel
theorem dX5_heardBits_2 : decode cX5_heardBits 2 = .ok (.iconst 0, 1) := by decide +kernel
theorem dX5_heardBits_3 : decode cX5_heardBits 3 = .ok (.istore_n 3, 1) := by decide +kernel
theorem dX5_heardBits_4 : decode cX5_heardBits 4 = .ok (.iload_n 3, 1) := by decide +kernel
theorem dX5_heardBits_5 : decode cX5_heardBits 5 = .ok (.aload_n 0, 1) := by decide +kernel
theorem dX5_heardBits_6 : decode cX5_heardBits 6 = .ok (.getfield 48, 3) := by decide +kernel
theorem dX5_heardBits_9 : decode cX5_heardBits 9 = .ok (.getfield 125, 3) := by decide +kernel
theorem dX5_heardBits_12 : decode cX5_heardBits 12 = .ok (.if_icmp .ge 36, 3) := by decide +kernel
theorem dX5_heardBits_15 : decode cX5_heardBits 15 = .ok (.aload_n 0, 1) := by decide +kernel
theorem dX5_heardBits_16 : decode cX5_heardBits 16 = .ok (.iload_n 1, 1) := by decide +kernel
theorem dX5_heardBits_17 : decode cX5_heardBits 17 = .ok (.iload_n 3, 1) := by decide +kernel
theorem dX5_heardBits_18 : decode cX5_heardBits 18 = .ok (.invokevirtual 128, 3) := by decide +kernel
theorem dX5_heardBits_21 : decode cX5_heardBits 21 = .ok (.istore 4, 2) := by decide +kernel
theorem dX5_heardBits_23 : decode cX5_heardBits 23 = .ok (.iload 4, 2) := by decide +kernel
theorem dX5_heardBits_25 : decode cX5_heardBits 25 = .ok (.iconst (-1), 1) := by decide +kernel
theorem dX5_heardBits_26 : decode cX5_heardBits 26 = .ok (.if_icmp .eq 16, 3) := by decide +kernel
theorem dX5_heardBits_29 : decode cX5_heardBits 29 = .ok (.iload 4, 2) := by decide +kernel
theorem dX5_heardBits_31 : decode cX5_heardBits 31 = .ok (.iload_n 1, 1) := by decide +kernel
theorem dX5_heardBits_32 : decode cX5_heardBits 32 = .ok (.if_icmp .eq 10, 3) := by decide +kernel
theorem dX5_heardBits_35 : decode cX5_heardBits 35 = .ok (.iload_n 2, 1) := by decide +kernel
theorem dX5_heardBits_36 : decode cX5_heardBits 36 = .ok (.iconst 1, 1) := by decide +kernel
theorem dX5_heardBits_37 : decode cX5_heardBits 37 = .ok (.iload 4, 2) := by decide +kernel
theorem dX5_heardBits_39 : decode cX5_heardBits 39 = .ok (.ishl, 1) := by decide +kernel
theorem dX5_heardBits_40 : decode cX5_heardBits 40 = .ok (.ior, 1) := by decide +kernel
theorem dX5_heardBits_41 : decode cX5_heardBits 41 = .ok (.istore_n 2, 1) := by decide +kernel
theorem dX5_heardBits_42 : decode cX5_heardBits 42 = .ok (.iinc 3 1, 3) := by decide +kernel
theorem dX5_heardBits_45 : decode cX5_heardBits 45 = .ok (.goto (-41), 3) := by decide +kernel
theorem dX5_heardBits_48 : decode cX5_heardBits 48 = .ok (.iload_n 2, 1) := by decide +kernel
theorem dX5_heardBits_49 : decode cX5_heardBits 49 = .ok (.ireturn, 1) := by decide +kernel
theorem ydX5_heardBits : z_yd yX5_heardBits 1 := ⟨by decide, by decide, by decide +kernel⟩
abbrev rmX5_heardBits : Room := { frames := 1, cells := 0, slots := 0, locals := 22 }
noncomputable def xX5_heardBits_B4 (r4 : Nat → Int32 → Int32 → Int32 → ZH → Option (Int32 × ZH)) (l0 : Nat) (l1 : Int32) (l2 : Int32) (l3 : Int32) (h : ZH) : Option (Int32 × ZH) := ((z_gR h l0 5 0).bind fun x6 => ((z_gI h x6 2 0).bind fun x9 => (if x9 ≤ l3 then some (l2, h) else (z_gu (z_is h l0 5) ((xX5_holderOf l0 l1 l3 h).bind fun r18 => (if r18.1 = (-1 : Int32) then r4 l0 l1 l2 (l3 + 1) r18.2 else (if r18.1 = l1 then r4 l0 l1 l2 (l3 + 1) r18.2 else r4 l0 l1 (l2 ||| ((1 : Int32) <<< (r18.1 &&& 31))) (l3 + 1) r18.2)))))))
noncomputable def xX5_heardBits_L4 (n : Nat) : Nat → Int32 → Int32 → Int32 → ZH → Option (Int32 × ZH) := Nat.rec (motive := fun _ => Nat → Int32 → Int32 → Int32 → ZH → Option (Int32 × ZH)) (fun _ _ _ _ _ => none) (fun _ rec => xX5_heardBits_B4  rec) n
set_option maxHeartbeats 4000000 in
set_option maxRecDepth 100000 in
theorem wX5_heardBits_B4 {Γ : ZG} {p : Program} {l : Launch} {e : Env} {s : State} {m : MethodId} {args : Array Value} {below : List Frame} {meth : Method} {c : Code} (hO : z_OK Γ) (G : z_GG Γ p s m args meth c cX5_heardBits 5 RX5) (hr : meth.sig.returnType = (some .int)) (hnm : meth.name = "heardBits") {r : (Int32 × ZH)} {r4 : Nat → Int32 → Int32 → Int32 → ZH → Option (Int32 × ZH)} (H4 : ∀ (l0 : Nat) (l1 : Int32) (l2 : Int32) (l3 : Int32) (h : ZH), r4 l0 l1 l2 l3 h = some r → z_W Γ p l e rmX5_heardBits s m args below meth c 5 0 0 (MQ below (z_Qc Γ (some (.int r.1)) r.2) args s rmX5_heardBits.cells rmX5_heardBits.slots (z_A Γ)) 4 [(0, .ref l0), (1, .int l1), (2, .int l2), (3, .int l3)] [] h) : ∀ (l0 : Nat) (l1 : Int32) (l2 : Int32) (l3 : Int32) (h : ZH), xX5_heardBits_B4  r4 l0 l1 l2 l3 h = some r → z_W Γ p l e rmX5_heardBits s m args below meth c 5 0 0 (MQ below (z_Qc Γ (some (.int r.1)) r.2) args s rmX5_heardBits.cells rmX5_heardBits.slots (z_A Γ)) 4 [(0, .ref l0), (1, .int l1), (2, .int l2), (3, .int l3)] [] h := by
  intro l0 l1 l2 l3 h hX
  refine z_iload_n (pc := 4) G 3 dX5_heardBits_4 rfl rfl ?_
  refine z_aload_n (pc := 5) G 0 dX5_heardBits_5 rfl rfl ?_
  obtain ⟨x6, hv6, hX⟩ := z_bd hX
  refine z_getR (pc := 6) G kK5 (k := 0) (by decide) kt_188 dX5_heardBits_6 hv6 ?_
  obtain ⟨x9, hv9, hX⟩ := z_bd hX
  refine z_getI (pc := 9) G kK2 (k := 0) (by decide) kt_43 dX5_heardBits_9 hv9 ?_
  refine z_icmp_ge (pc := 12) (tgt := 48) G dX5_heardBits_12 (by decide) (fun hc12 => ?_) (fun hc12 => ?_)
  · have hX := z_it hc12 hX
    refine z_iload_n (pc := 48) G 2 dX5_heardBits_48 rfl rfl ?_
    exact z_iretX (pc := 49) hX G hr dX5_heardBits_49 (by decide) (by decide)
  · have hX := z_if hc12 hX
    refine z_aload_n (pc := 15) G 0 dX5_heardBits_15 rfl rfl ?_
    refine z_iload_n (pc := 16) G 1 dX5_heardBits_16 rfl rfl ?_
    refine z_iload_n (pc := 17) G 3 dX5_heardBits_17 rfl rfl ?_
    obtain ⟨hi18, hX⟩ := z_gu_s hX
    obtain ⟨r18, hv18, hX⟩ := z_bd hX
    refine z_cVI (pc := 18) (As := [.int l1, .int l3]) (c2 := 0) (s2 := 0) G kK5 (lX5_holderOf hO hv18) hi18 kt_748 kt_4 kt_745 kt_746 kt_747 ydX5_holderOf ⟨by decide, by decide⟩ rfl (Nat.le_of_ble_eq_true rfl) ⟨rfl, rfl⟩ ⟨by decide, by decide⟩ rfl dX5_heardBits_18 ?_
    refine z_istore (pc := 21) (lv2 := [(0, .ref l0), (1, .int l1), (2, .int l2), (3, .int l3), (4, .int r18.1)]) G dX5_heardBits_21 (by decide) rfl rfl ?_
    refine z_iload (pc := 23) G 4 dX5_heardBits_23 rfl ?_
    refine z_iconst (pc := 25) (v := (-1)) G dX5_heardBits_25 (by decide) ?_
    refine z_icmp_eq (pc := 26) (tgt := 42) G dX5_heardBits_26 (by decide) (fun hc26 => ?_) (fun hc26 => ?_)
    · have hX := z_it hc26 hX
      refine z_iincw (pc := 42) (w := 1) (lv2 := [(0, .ref l0), (1, .int l1), (2, .int l2), (3, .int (l3 + 1)), (4, .int r18.1)]) G 3 dX5_heardBits_42 rfl (by decide) (by decide) rfl rfl ?_
      refine z_goto (pc := 45) (tgt := 4) G dX5_heardBits_45 (by decide) ?_
      refine z_drop (lv2 := [(0, .ref l0), (1, .int l1), (2, .int l2), (3, .int (l3 + 1))]) [0, 1, 2, 3] rfl ?_
      exact H4 _ _ _ _ _ hX
    · have hX := z_if hc26 hX
      refine z_iload (pc := 29) G 4 dX5_heardBits_29 rfl ?_
      refine z_iload_n (pc := 31) G 1 dX5_heardBits_31 rfl rfl ?_
      refine z_icmp_eq (pc := 32) (tgt := 42) G dX5_heardBits_32 (by decide) (fun hc32 => ?_) (fun hc32 => ?_)
      · have hX := z_it hc32 hX
        refine z_iincw (pc := 42) (w := 1) (lv2 := [(0, .ref l0), (1, .int l1), (2, .int l2), (3, .int (l3 + 1)), (4, .int r18.1)]) G 3 dX5_heardBits_42 rfl (by decide) (by decide) rfl rfl ?_
        refine z_goto (pc := 45) (tgt := 4) G dX5_heardBits_45 (by decide) ?_
        refine z_drop (lv2 := [(0, .ref l0), (1, .int l1), (2, .int l2), (3, .int (l3 + 1))]) [0, 1, 2, 3] rfl ?_
        exact H4 _ _ _ _ _ hX
      · have hX := z_if hc32 hX
        refine z_iload_n (pc := 35) G 2 dX5_heardBits_35 rfl rfl ?_
        refine z_iconst (pc := 36) (v := 1) G dX5_heardBits_36 (by decide) ?_
        refine z_iload (pc := 37) G 4 dX5_heardBits_37 rfl ?_
        refine z_ishl (pc := 39) G dX5_heardBits_39 ?_
        refine z_ior (pc := 40) G dX5_heardBits_40 ?_
        refine z_istore_n (pc := 41) (lv2 := [(0, .ref l0), (1, .int l1), (2, .int (l2 ||| ((1 : Int32) <<< (r18.1 &&& 31)))), (3, .int l3), (4, .int r18.1)]) G dX5_heardBits_41 rfl (by decide) rfl rfl ?_
        refine z_iincw (pc := 42) (w := 1) (lv2 := [(0, .ref l0), (1, .int l1), (2, .int (l2 ||| ((1 : Int32) <<< (r18.1 &&& 31)))), (3, .int (l3 + 1)), (4, .int r18.1)]) G 3 dX5_heardBits_42 rfl (by decide) (by decide) rfl rfl ?_
        refine z_goto (pc := 45) (tgt := 4) G dX5_heardBits_45 (by decide) ?_
        refine z_drop (lv2 := [(0, .ref l0), (1, .int l1), (2, .int (l2 ||| ((1 : Int32) <<< (r18.1 &&& 31)))), (3, .int (l3 + 1))]) [0, 1, 2, 3] rfl ?_
        exact H4 _ _ _ _ _ hX
set_option maxHeartbeats 4000000 in
set_option maxRecDepth 100000 in
theorem wX5_heardBits_L4 {Γ : ZG} {p : Program} {l : Launch} {e : Env} {s : State} {m : MethodId} {args : Array Value} {below : List Frame} {meth : Method} {c : Code} (hO : z_OK Γ) (G : z_GG Γ p s m args meth c cX5_heardBits 5 RX5) (hr : meth.sig.returnType = (some .int)) (hnm : meth.name = "heardBits") {r : (Int32 × ZH)} : ∀ (nn : Nat) (l0 : Nat) (l1 : Int32) (l2 : Int32) (l3 : Int32) (h : ZH), xX5_heardBits_L4  nn l0 l1 l2 l3 h = some r → z_W Γ p l e rmX5_heardBits s m args below meth c 5 0 0 (MQ below (z_Qc Γ (some (.int r.1)) r.2) args s rmX5_heardBits.cells rmX5_heardBits.slots (z_A Γ)) 4 [(0, .ref l0), (1, .int l1), (2, .int l2), (3, .int l3)] [] h := by
  intro nn
  induction nn with
  | zero => intro l0 l1 l2 l3 h hX; cases hX
  | succ nn ih => intro l0 l1 l2 l3 h hX; exact wX5_heardBits_B4 hO G hr hnm  ih l0 l1 l2 l3 h hX
noncomputable def xX5_heardBits (l0 : Nat) (l1 : Int32) (h : ZH) : Option (Int32 × ZH) := xX5_heardBits_L4 zFU l0 l1 (0 : Int32) (0 : Int32) h
set_option maxHeartbeats 4000000 in
set_option maxRecDepth 100000 in
theorem lX5_heardBits {Γ : ZG} {l : Launch} (hO : z_OK Γ) {l0 : Nat} {l1 : Int32} {h : ZH} {r : (Int32 × ZH)} (hX : xX5_heardBits l0 l1 h = some r) : z_M Γ l yX5_heardBits (z_ws1 yX5_heardBits cX5_heardBits 5 (some .int)) rmX5_heardBits [.ref l0, .int l1] h (some (.int r.1)) r.2 := by
  refine z_start hO (plainFor_of_name (by decide)) (Nat.le_of_ble_eq_true rfl) ?_
  intro p e s m args below meth c G hr hnm
  refine z_lvc (lv2 := [(0, .ref l0), (1, .int l1)]) rfl ?_
  refine z_iconst (pc := 0) (v := 0) G dX5_heardBits_0 (by decide) ?_
  refine z_istore_n (pc := 1) (lv2 := [(0, .ref l0), (1, .int l1), (2, .int (0 : Int32))]) G dX5_heardBits_1 rfl (by decide) rfl rfl ?_
  refine z_iconst (pc := 2) (v := 0) G dX5_heardBits_2 (by decide) ?_
  refine z_istore_n (pc := 3) (lv2 := [(0, .ref l0), (1, .int l1), (2, .int (0 : Int32)), (3, .int (0 : Int32))]) G dX5_heardBits_3 rfl (by decide) rfl rfl ?_
  exact wX5_heardBits_L4 hO G hr hnm zFU _ _ _ _ _ hX
theorem dX5_othersHeard_0 : decode cX5_othersHeard 0 = .ok (.aload_n 0, 1) := by decide +kernel
theorem dX5_othersHeard_1 : decode cX5_othersHeard 1 = .ok (.iload_n 1, 1) := by decide +kernel
theorem dX5_othersHeard_2 : decode cX5_othersHeard 2 = .ok (.invokevirtual 131, 3) := by decide +kernel
theorem dX5_othersHeard_5 : decode cX5_othersHeard 5 = .ok (.invokestatic 134, 3) := by decide +kernel
theorem dX5_othersHeard_8 : decode cX5_othersHeard 8 = .ok (.ireturn, 1) := by decide +kernel
theorem ydX5_othersHeard : z_yd yX5_othersHeard 1 := ⟨by decide, by decide, by decide +kernel⟩
abbrev rmX5_othersHeard : Room := { frames := 2, cells := 0, slots := 0, locals := 46 }
noncomputable def xX5_othersHeard (l0 : Nat) (l1 : Int32) (h : ZH) : Option (Int32 × ZH) := (z_gu (z_is h l0 5) ((xX5_heardBits l0 l1 h).bind fun r2 => ((xJ6_bitCount_0f7a4 r2.1 r2.2).bind fun r5 => some (r5.1, r5.2))))
set_option maxHeartbeats 4000000 in
set_option maxRecDepth 100000 in
theorem lX5_othersHeard {Γ : ZG} {l : Launch} (hO : z_OK Γ) {l0 : Nat} {l1 : Int32} {h : ZH} {r : (Int32 × ZH)} (hX : xX5_othersHeard l0 l1 h = some r) : z_M Γ l yX5_othersHeard (z_ws1 yX5_othersHeard cX5_othersHeard 2 (some .int)) rmX5_othersHeard [.ref l0, .int l1] h (some (.int r.1)) r.2 := by
  refine z_start hO (plainFor_of_name (by decide)) (Nat.le_of_ble_eq_true rfl) ?_
  intro p e s m args below meth c G hr hnm
  refine z_lvc (lv2 := [(0, .ref l0), (1, .int l1)]) rfl ?_
  refine z_aload_n (pc := 0) G 0 dX5_othersHeard_0 rfl rfl ?_
  refine z_iload_n (pc := 1) G 1 dX5_othersHeard_1 rfl rfl ?_
  obtain ⟨hi2, hX⟩ := z_gu_s hX
  obtain ⟨r2, hv2, hX⟩ := z_bd hX
  refine z_cVI (pc := 2) (As := [.int l1]) (c2 := 0) (s2 := 0) G kK5 (lX5_heardBits hO hv2) hi2 kt_744 kt_4 kt_741 kt_742 kt_743 ydX5_heardBits ⟨by decide, by decide⟩ rfl (Nat.le_of_ble_eq_true rfl) ⟨rfl, rfl⟩ ⟨by decide, by decide⟩ rfl dX5_othersHeard_2 ?_
  obtain ⟨r5, hv5, hX⟩ := z_bd hX
  refine z_cSI (pc := 5) (As := [.int r2.1]) (c2 := 0) (s2 := 0) G (lJ6_bitCount_0f7a4 hO hv5) kt_751 kt_18 kt_749 kt_750 ydJ6_bitCount_0f7a4 ⟨by decide, by decide⟩ rfl (Nat.le_of_ble_eq_true rfl) ⟨rfl, rfl⟩ ⟨by decide, by decide⟩ rfl dX5_othersHeard_5 ?_
  exact z_iretX (pc := 8) hX G hr dX5_othersHeard_8 (by decide) (by decide)
theorem dX5_howOften_0 : decode cX5_howOften 0 = .ok (.aload_n 0, 1) := by decide +kernel
theorem dX5_howOften_1 : decode cX5_howOften 1 = .ok (.getfield 48, 3) := by decide +kernel
theorem dX5_howOften_4 : decode cX5_howOften 4 = .ok (.getfield 139, 3) := by decide +kernel
theorem dX5_howOften_7 : decode cX5_howOften 7 = .ok (.ifCond .ne 16, 3) := by decide +kernel
theorem dX5_howOften_10 : decode cX5_howOften 10 = .ok (.iconst 1, 1) := by decide +kernel
theorem dX5_howOften_11 : decode cX5_howOften 11 = .ok (.aload_n 0, 1) := by decide +kernel
theorem dX5_howOften_12 : decode cX5_howOften 12 = .ok (.iload_n 1, 1) := by decide +kernel
theorem dX5_howOften_13 : decode cX5_howOften 13 = .ok (.invokevirtual 142, 3) := by decide +kernel
theorem dX5_howOften_16 : decode cX5_howOften 16 = .ok (.bipush 8, 2) := by decide +kernel
theorem dX5_howOften_18 : decode cX5_howOften 18 = .ok (.idiv, 1) := by decide +kernel
theorem dX5_howOften_19 : decode cX5_howOften 19 = .ok (.iadd, 1) := by decide +kernel
theorem dX5_howOften_20 : decode cX5_howOften 20 = .ok (.goto 25, 3) := by decide +kernel
theorem dX5_howOften_23 : decode cX5_howOften 23 = .ok (.aload_n 0, 1) := by decide +kernel
theorem dX5_howOften_24 : decode cX5_howOften 24 = .ok (.getfield 48, 3) := by decide +kernel
theorem dX5_howOften_27 : decode cX5_howOften 27 = .ok (.aload_n 0, 1) := by decide +kernel
theorem dX5_howOften_28 : decode cX5_howOften 28 = .ok (.iload_n 1, 1) := by decide +kernel
theorem dX5_howOften_29 : decode cX5_howOften 29 = .ok (.invokevirtual 142, 3) := by decide +kernel
theorem dX5_howOften_32 : decode cX5_howOften 32 = .ok (.aload_n 0, 1) := by decide +kernel
theorem dX5_howOften_33 : decode cX5_howOften 33 = .ok (.iload_n 1, 1) := by decide +kernel
theorem dX5_howOften_34 : decode cX5_howOften 34 = .ok (.invokevirtual 145, 3) := by decide +kernel
theorem dX5_howOften_37 : decode cX5_howOften 37 = .ok (.iload_n 1, 1) := by decide +kernel
theorem dX5_howOften_38 : decode cX5_howOften 38 = .ok (.aload_n 0, 1) := by decide +kernel
theorem dX5_howOften_39 : decode cX5_howOften 39 = .ok (.getfield 75, 3) := by decide +kernel
theorem dX5_howOften_42 : decode cX5_howOften 42 = .ok (.invokevirtual 148, 3) := by decide +kernel
theorem dX5_howOften_45 : decode cX5_howOften 45 = .ok (.istore_n 2, 1) := by decide +kernel
theorem dX5_howOften_46 : decode cX5_howOften 46 = .ok (.iconst 1, 1) := by decide +kernel
theorem dX5_howOften_47 : decode cX5_howOften 47 = .ok (.iconst 3, 1) := by decide +kernel
theorem dX5_howOften_48 : decode cX5_howOften 48 = .ok (.iload_n 2, 1) := by decide +kernel
theorem dX5_howOften_49 : decode cX5_howOften 49 = .ok (.invokestatic 118, 3) := by decide +kernel
theorem dX5_howOften_52 : decode cX5_howOften 52 = .ok (.invokestatic 152, 3) := by decide +kernel
theorem dX5_howOften_55 : decode cX5_howOften 55 = .ok (.ireturn, 1) := by decide +kernel
theorem ydX5_howOften : z_yd yX5_howOften 1 := ⟨by decide, by decide, by decide +kernel⟩
abbrev rmX5_howOften : Room := { frames := 3, cells := 0, slots := 0, locals := 69 }
noncomputable def xX5_howOften_B45 (s0 : Int32) (h : ZH) : Option (Int32 × ZH) := ((xJ9_min_7cf53 (3 : Int32) s0 h).bind fun r49 => ((xJ9_max_7cf53 (1 : Int32) r49.1 r49.2).bind fun r52 => some (r52.1, r52.2)))
set_option maxHeartbeats 4000000 in
set_option maxRecDepth 100000 in
theorem wX5_howOften_B45 {Γ : ZG} {p : Program} {l : Launch} {e : Env} {s : State} {m : MethodId} {args : Array Value} {below : List Frame} {meth : Method} {c : Code} (hO : z_OK Γ) (G : z_GG Γ p s m args meth c cX5_howOften 3 RX5) (hr : meth.sig.returnType = (some .int)) (hnm : meth.name = "howOften") {r : (Int32 × ZH)} : ∀ (s0 : Int32) (h : ZH), xX5_howOften_B45  s0 h = some r → z_W Γ p l e rmX5_howOften s m args below meth c 3 0 0 (MQ below (z_Qc Γ (some (.int r.1)) r.2) args s rmX5_howOften.cells rmX5_howOften.slots (z_A Γ)) 45 [] [.int s0] h := by
  intro s0 h hX
  refine z_istore_n (pc := 45) (lv2 := [(2, .int s0)]) G dX5_howOften_45 rfl (by decide) rfl rfl ?_
  refine z_iconst (pc := 46) (v := 1) G dX5_howOften_46 (by decide) ?_
  refine z_iconst (pc := 47) (v := 3) G dX5_howOften_47 (by decide) ?_
  refine z_iload_n (pc := 48) G 0 dX5_howOften_48 rfl rfl ?_
  obtain ⟨r49, hv49, hX⟩ := z_bd hX
  refine z_cSI (pc := 49) (As := [.int (3 : Int32), .int s0]) (c2 := 0) (s2 := 0) G (lJ9_min_7cf53 hO hv49) kt_501 kt_12 kt_732 kt_500 ydJ9_min_7cf53 ⟨by decide, by decide⟩ rfl (Nat.le_of_ble_eq_true rfl) ⟨rfl, rfl⟩ ⟨by decide, by decide⟩ rfl dX5_howOften_49 ?_
  obtain ⟨r52, hv52, hX⟩ := z_bd hX
  refine z_cSI (pc := 52) (As := [.int (1 : Int32), .int r49.1]) (c2 := 0) (s2 := 0) G (lJ9_max_7cf53 hO hv52) kt_504 kt_12 kt_847 kt_503 ydJ9_max_7cf53 ⟨by decide, by decide⟩ rfl (Nat.le_of_ble_eq_true rfl) ⟨rfl, rfl⟩ ⟨by decide, by decide⟩ rfl dX5_howOften_52 ?_
  exact z_iretX (pc := 55) hX G hr dX5_howOften_55 (by decide) (by decide)
noncomputable def xX5_howOften (l0 : Nat) (l1 : Int32) (h : ZH) : Option (Int32 × ZH) := ((z_gR h l0 5 0).bind fun x1 => ((z_gI h x1 2 15).bind fun x4 => (if x4 = 0 then (z_gu (z_is h l0 5) ((xX5_speedOf l0 l1 h).bind fun r13 => xX5_howOften_B45 ((1 : Int32) + (r13.1 / (8 : Int32))) r13.2)) else ((z_gR h l0 5 0).bind fun x24 => (z_gu (z_is h l0 5) ((xX5_speedOf l0 l1 h).bind fun r29 => (z_gu (z_is r29.2 l0 5) ((xX5_othersHeard l0 l1 r29.2).bind fun r34 => ((z_gI r34.2 l0 5 15).bind fun x39 => (z_gu (z_is r34.2 x24 2) ((xX2_workOut x24 r29.1 r34.1 l1 x39 r34.2).bind fun r42 => xX5_howOften_B45 r42.1 r42.2)))))))))))
set_option maxHeartbeats 4000000 in
set_option maxRecDepth 100000 in
theorem lX5_howOften {Γ : ZG} {l : Launch} (hO : z_OK Γ) {l0 : Nat} {l1 : Int32} {h : ZH} {r : (Int32 × ZH)} (hX : xX5_howOften l0 l1 h = some r) : z_M Γ l yX5_howOften (z_ws1 yX5_howOften cX5_howOften 3 (some .int)) rmX5_howOften [.ref l0, .int l1] h (some (.int r.1)) r.2 := by
  refine z_start hO (plainFor_of_name (by decide)) (Nat.le_of_ble_eq_true rfl) ?_
  intro p e s m args below meth c G hr hnm
  refine z_lvc (lv2 := [(0, .ref l0), (1, .int l1)]) rfl ?_
  refine z_aload_n (pc := 0) G 0 dX5_howOften_0 rfl rfl ?_
  obtain ⟨x1, hv1, hX⟩ := z_bd hX
  refine z_getR (pc := 1) G kK5 (k := 0) (by decide) kt_188 dX5_howOften_1 hv1 ?_
  obtain ⟨x4, hv4, hX⟩ := z_bd hX
  refine z_getI (pc := 4) G kK2 (k := 15) (by decide) kt_98 dX5_howOften_4 hv4 ?_
  refine z_if_ne (pc := 7) (tgt := 23) G dX5_howOften_7 (by decide) (fun hc7 => ?_) (fun hc7 => ?_)
  · have hX := z_if hc7 hX
    refine z_aload_n (pc := 23) G 0 dX5_howOften_23 rfl rfl ?_
    obtain ⟨x24, hv24, hX⟩ := z_bd hX
    refine z_getR (pc := 24) G kK5 (k := 0) (by decide) kt_188 dX5_howOften_24 hv24 ?_
    refine z_aload_n (pc := 27) G 0 dX5_howOften_27 rfl rfl ?_
    refine z_iload_n (pc := 28) G 1 dX5_howOften_28 rfl rfl ?_
    obtain ⟨hi29, hX⟩ := z_gu_s hX
    obtain ⟨r29, hv29, hX⟩ := z_bd hX
    refine z_cVI (pc := 29) (As := [.int l1]) (c2 := 0) (s2 := 0) G kK5 (lX5_speedOf hO hv29) hi29 kt_731 kt_4 kt_832 kt_729 kt_730 ydX5_speedOf ⟨by decide, by decide⟩ rfl (Nat.le_of_ble_eq_true rfl) ⟨rfl, rfl⟩ ⟨by decide, by decide⟩ rfl dX5_howOften_29 ?_
    refine z_aload_n (pc := 32) G 0 dX5_howOften_32 rfl rfl ?_
    refine z_iload_n (pc := 33) G 1 dX5_howOften_33 rfl rfl ?_
    obtain ⟨hi34, hX⟩ := z_gu_s hX
    obtain ⟨r34, hv34, hX⟩ := z_bd hX
    refine z_cVI (pc := 34) (As := [.int l1]) (c2 := 0) (s2 := 0) G kK5 (lX5_othersHeard hO hv34) hi34 kt_740 kt_4 kt_833 kt_738 kt_739 ydX5_othersHeard ⟨by decide, by decide⟩ rfl (Nat.le_of_ble_eq_true rfl) ⟨rfl, rfl⟩ ⟨by decide, by decide⟩ rfl dX5_howOften_34 ?_
    refine z_iload_n (pc := 37) G 1 dX5_howOften_37 rfl rfl ?_
    refine z_aload_n (pc := 38) G 0 dX5_howOften_38 rfl rfl ?_
    obtain ⟨x39, hv39, hX⟩ := z_bd hX
    refine z_getI (pc := 39) G kK5 (k := 15) (by decide) kt_232 dX5_howOften_39 hv39 ?_
    obtain ⟨hi42, hX⟩ := z_gu_s hX
    obtain ⟨r42, hv42, hX⟩ := z_bd hX
    refine z_cVI (pc := 42) (As := [.int r29.1, .int r34.1, .int l1, .int x39]) (c2 := 0) (s2 := 0) G kK2 (lX2_workOut hO hv42) hi42 kt_837 kt_3 kt_834 kt_835 kt_836 ydX2_workOut ⟨by decide, by decide⟩ rfl (Nat.le_of_ble_eq_true rfl) ⟨rfl, rfl⟩ ⟨by decide, by decide⟩ rfl dX5_howOften_42 ?_
    refine z_drop (lv2 := []) [] rfl ?_
    exact wX5_howOften_B45 hO G hr hnm _ _ hX
  · have hX := z_it hc7 hX
    refine z_iconst (pc := 10) (v := 1) G dX5_howOften_10 (by decide) ?_
    refine z_aload_n (pc := 11) G 0 dX5_howOften_11 rfl rfl ?_
    refine z_iload_n (pc := 12) G 1 dX5_howOften_12 rfl rfl ?_
    obtain ⟨hi13, hX⟩ := z_gu_s hX
    obtain ⟨r13, hv13, hX⟩ := z_bd hX
    refine z_cVI (pc := 13) (As := [.int l1]) (c2 := 0) (s2 := 0) G kK5 (lX5_speedOf hO hv13) hi13 kt_731 kt_4 kt_832 kt_729 kt_730 ydX5_speedOf ⟨by decide, by decide⟩ rfl (Nat.le_of_ble_eq_true rfl) ⟨rfl, rfl⟩ ⟨by decide, by decide⟩ rfl dX5_howOften_13 ?_
    refine z_bipush (pc := 16) (v := 8) G dX5_howOften_16 (by decide) ?_
    refine z_idiv (pc := 18) G dX5_howOften_18 (by decide) ?_
    refine z_iadd (pc := 19) G dX5_howOften_19 ?_
    refine z_goto (pc := 20) (tgt := 45) G dX5_howOften_20 (by decide) ?_
    refine z_drop (lv2 := []) [] rfl ?_
    exact wX5_howOften_B45 hO G hr hnm _ _ hX
theorem dX5_moveAll_0 : decode cX5_moveAll 0 = .ok (.iconst 0, 1) := by decide +kernel
theorem dX5_moveAll_1 : decode cX5_moveAll 1 = .ok (.istore_n 1, 1) := by decide +kernel
theorem dX5_moveAll_2 : decode cX5_moveAll 2 = .ok (.iload_n 1, 1) := by decide +kernel
theorem dX5_moveAll_3 : decode cX5_moveAll 3 = .ok (.aload_n 0, 1) := by decide +kernel
theorem dX5_moveAll_4 : decode cX5_moveAll 4 = .ok (.getfield 48, 3) := by decide +kernel
theorem dX5_moveAll_7 : decode cX5_moveAll 7 = .ok (.getfield 94, 3) := by decide +kernel
theorem dX5_moveAll_10 : decode cX5_moveAll 10 = .ok (.if_icmp .ge 53, 3) := by decide +kernel
theorem dX5_moveAll_13 : decode cX5_moveAll 13 = .ok (.aload_n 0, 1) := by decide +kernel
theorem dX5_moveAll_14 : decode cX5_moveAll 14 = .ok (.getfield 9, 3) := by decide +kernel
theorem dX5_moveAll_17 : decode cX5_moveAll 17 = .ok (.iload_n 1, 1) := by decide +kernel
theorem dX5_moveAll_18 : decode cX5_moveAll 18 = .ok (.aload_n 0, 1) := by decide +kernel
theorem dX5_moveAll_19 : decode cX5_moveAll 19 = .ok (.getfield 9, 3) := by decide +kernel
theorem dX5_moveAll_22 : decode cX5_moveAll 22 = .ok (.iload_n 1, 1) := by decide +kernel
theorem dX5_moveAll_23 : decode cX5_moveAll 23 = .ok (.iaload, 1) := by decide +kernel
theorem dX5_moveAll_24 : decode cX5_moveAll 24 = .ok (.aload_n 0, 1) := by decide +kernel
theorem dX5_moveAll_25 : decode cX5_moveAll 25 = .ok (.getfield 18, 3) := by decide +kernel
theorem dX5_moveAll_28 : decode cX5_moveAll 28 = .ok (.iload_n 1, 1) := by decide +kernel
theorem dX5_moveAll_29 : decode cX5_moveAll 29 = .ok (.iaload, 1) := by decide +kernel
theorem dX5_moveAll_30 : decode cX5_moveAll 30 = .ok (.iconst 1, 1) := by decide +kernel
theorem dX5_moveAll_31 : decode cX5_moveAll 31 = .ok (.invokestatic 114, 3) := by decide +kernel
theorem dX5_moveAll_34 : decode cX5_moveAll 34 = .ok (.iastore, 1) := by decide +kernel
theorem dX5_moveAll_35 : decode cX5_moveAll 35 = .ok (.aload_n 0, 1) := by decide +kernel
theorem dX5_moveAll_36 : decode cX5_moveAll 36 = .ok (.getfield 15, 3) := by decide +kernel
theorem dX5_moveAll_39 : decode cX5_moveAll 39 = .ok (.iload_n 1, 1) := by decide +kernel
theorem dX5_moveAll_40 : decode cX5_moveAll 40 = .ok (.aload_n 0, 1) := by decide +kernel
theorem dX5_moveAll_41 : decode cX5_moveAll 41 = .ok (.getfield 15, 3) := by decide +kernel
theorem dX5_moveAll_44 : decode cX5_moveAll 44 = .ok (.iload_n 1, 1) := by decide +kernel
theorem dX5_moveAll_45 : decode cX5_moveAll 45 = .ok (.iaload, 1) := by decide +kernel
theorem dX5_moveAll_46 : decode cX5_moveAll 46 = .ok (.aload_n 0, 1) := by decide +kernel
theorem dX5_moveAll_47 : decode cX5_moveAll 47 = .ok (.getfield 21, 3) := by decide +kernel
theorem dX5_moveAll_50 : decode cX5_moveAll 50 = .ok (.iload_n 1, 1) := by decide +kernel
theorem dX5_moveAll_51 : decode cX5_moveAll 51 = .ok (.iaload, 1) := by decide +kernel
theorem dX5_moveAll_52 : decode cX5_moveAll 52 = .ok (.iconst 1, 1) := by decide +kernel
theorem dX5_moveAll_53 : decode cX5_moveAll 53 = .ok (.invokestatic 114, 3) := by decide +kernel
theorem dX5_moveAll_56 : decode cX5_moveAll 56 = .ok (.iastore, 1) := by decide +kernel
theorem dX5_moveAll_57 : decode cX5_moveAll 57 = .ok (.iinc 1 1, 3) := by decide +kernel
theorem dX5_moveAll_60 : decode cX5_moveAll 60 = .ok (.goto (-58), 3) := by decide +kernel
theorem dX5_moveAll_63 : decode cX5_moveAll 63 = .ok (.return_, 1) := by decide +kernel
theorem ydX5_moveAll : z_yd yX5_moveAll 0 := ⟨by decide, by decide, by decide +kernel⟩
abbrev rmX5_moveAll : Room := { frames := 1, cells := 0, slots := 0, locals := 22 }
noncomputable def xX5_moveAll_B2 (r2 : Nat → Int32 → ZH → Option ZH) (l0 : Nat) (l1 : Int32) (h : ZH) : Option ZH := ((z_gR h l0 5 0).bind fun x4 => ((z_gI h x4 2 7).bind fun x7 => (if x7 ≤ l1 then some h else ((z_gR h l0 5 1).bind fun x14 => ((z_gR h l0 5 1).bind fun x19 => ((z_aI h x19 l1).bind fun x23 => ((z_gR h l0 5 3).bind fun x25 => ((z_aI h x25 l1).bind fun x29 => ((xX5_placeAfter x23 x29 (1 : Int32) h).bind fun r31 => ((z_uI r31.2 x14 l1 r31.1).bind fun h34 => ((z_gR h34 l0 5 2).bind fun x36 => ((z_gR h34 l0 5 2).bind fun x41 => ((z_aI h34 x41 l1).bind fun x45 => ((z_gR h34 l0 5 4).bind fun x47 => ((z_aI h34 x47 l1).bind fun x51 => ((xX5_placeAfter x45 x51 (1 : Int32) h34).bind fun r53 => ((z_uI r53.2 x36 l1 r53.1).bind fun h56 => r2 l0 (l1 + 1) h56)))))))))))))))))
noncomputable def xX5_moveAll_L2 (n : Nat) : Nat → Int32 → ZH → Option ZH := Nat.rec (motive := fun _ => Nat → Int32 → ZH → Option ZH) (fun _ _ _ => none) (fun _ rec => xX5_moveAll_B2  rec) n
set_option maxHeartbeats 4000000 in
set_option maxRecDepth 100000 in
theorem wX5_moveAll_B2 {Γ : ZG} {p : Program} {l : Launch} {e : Env} {s : State} {m : MethodId} {args : Array Value} {below : List Frame} {meth : Method} {c : Code} (hO : z_OK Γ) (G : z_GG Γ p s m args meth c cX5_moveAll 2 RX5) (hr : meth.sig.returnType = none) (hnm : meth.name = "moveAll") {r : ZH} {r2 : Nat → Int32 → ZH → Option ZH} (H2 : ∀ (l0 : Nat) (l1 : Int32) (h : ZH), r2 l0 l1 h = some r → z_W Γ p l e rmX5_moveAll s m args below meth c 2 0 0 (MQ below (z_Qc Γ none r) args s rmX5_moveAll.cells rmX5_moveAll.slots (z_A Γ)) 2 [(0, .ref l0), (1, .int l1)] [] h) : ∀ (l0 : Nat) (l1 : Int32) (h : ZH), xX5_moveAll_B2  r2 l0 l1 h = some r → z_W Γ p l e rmX5_moveAll s m args below meth c 2 0 0 (MQ below (z_Qc Γ none r) args s rmX5_moveAll.cells rmX5_moveAll.slots (z_A Γ)) 2 [(0, .ref l0), (1, .int l1)] [] h := by
  intro l0 l1 h hX
  refine z_iload_n (pc := 2) G 1 dX5_moveAll_2 rfl rfl ?_
  refine z_aload_n (pc := 3) G 0 dX5_moveAll_3 rfl rfl ?_
  obtain ⟨x4, hv4, hX⟩ := z_bd hX
  refine z_getR (pc := 4) G kK5 (k := 0) (by decide) kt_188 dX5_moveAll_4 hv4 ?_
  obtain ⟨x7, hv7, hX⟩ := z_bd hX
  refine z_getI (pc := 7) G kK2 (k := 7) (by decide) kt_72 dX5_moveAll_7 hv7 ?_
  refine z_icmp_ge (pc := 10) (tgt := 63) G dX5_moveAll_10 (by decide) (fun hc10 => ?_) (fun hc10 => ?_)
  · have hX := z_it hc10 hX
    exact z_vretX (pc := 63) hX G hr dX5_moveAll_63 (by decide) (by decide)
  · have hX := z_if hc10 hX
    refine z_aload_n (pc := 13) G 0 dX5_moveAll_13 rfl rfl ?_
    obtain ⟨x14, hv14, hX⟩ := z_bd hX
    refine z_getR (pc := 14) G kK5 (k := 1) (by decide) kt_191 dX5_moveAll_14 hv14 ?_
    refine z_iload_n (pc := 17) G 1 dX5_moveAll_17 rfl rfl ?_
    refine z_aload_n (pc := 18) G 0 dX5_moveAll_18 rfl rfl ?_
    obtain ⟨x19, hv19, hX⟩ := z_bd hX
    refine z_getR (pc := 19) G kK5 (k := 1) (by decide) kt_191 dX5_moveAll_19 hv19 ?_
    refine z_iload_n (pc := 22) G 1 dX5_moveAll_22 rfl rfl ?_
    obtain ⟨x23, hv23, hX⟩ := z_bd hX
    refine z_iald (pc := 23) G dX5_moveAll_23 hv23 ?_
    refine z_aload_n (pc := 24) G 0 dX5_moveAll_24 rfl rfl ?_
    obtain ⟨x25, hv25, hX⟩ := z_bd hX
    refine z_getR (pc := 25) G kK5 (k := 3) (by decide) kt_199 dX5_moveAll_25 hv25 ?_
    refine z_iload_n (pc := 28) G 1 dX5_moveAll_28 rfl rfl ?_
    obtain ⟨x29, hv29, hX⟩ := z_bd hX
    refine z_iald (pc := 29) G dX5_moveAll_29 hv29 ?_
    refine z_iconst (pc := 30) (v := 1) G dX5_moveAll_30 (by decide) ?_
    obtain ⟨r31, hv31, hX⟩ := z_bd hX
    refine z_cSI (pc := 31) (As := [.int x23, .int x29, .int (1 : Int32)]) (c2 := 0) (s2 := 0) G (lX5_placeAfter hO hv31) kt_818 kt_4 kt_816 kt_817 ydX5_placeAfter ⟨by decide, by decide⟩ rfl (Nat.le_of_ble_eq_true rfl) ⟨rfl, rfl⟩ ⟨by decide, by decide⟩ rfl dX5_moveAll_31 ?_
    obtain ⟨h34, hv34, hX⟩ := z_bd hX
    refine z_iast (pc := 34) G dX5_moveAll_34 hv34 ?_
    refine z_aload_n (pc := 35) G 0 dX5_moveAll_35 rfl rfl ?_
    obtain ⟨x36, hv36, hX⟩ := z_bd hX
    refine z_getR (pc := 36) G kK5 (k := 2) (by decide) kt_195 dX5_moveAll_36 hv36 ?_
    refine z_iload_n (pc := 39) G 1 dX5_moveAll_39 rfl rfl ?_
    refine z_aload_n (pc := 40) G 0 dX5_moveAll_40 rfl rfl ?_
    obtain ⟨x41, hv41, hX⟩ := z_bd hX
    refine z_getR (pc := 41) G kK5 (k := 2) (by decide) kt_195 dX5_moveAll_41 hv41 ?_
    refine z_iload_n (pc := 44) G 1 dX5_moveAll_44 rfl rfl ?_
    obtain ⟨x45, hv45, hX⟩ := z_bd hX
    refine z_iald (pc := 45) G dX5_moveAll_45 hv45 ?_
    refine z_aload_n (pc := 46) G 0 dX5_moveAll_46 rfl rfl ?_
    obtain ⟨x47, hv47, hX⟩ := z_bd hX
    refine z_getR (pc := 47) G kK5 (k := 4) (by decide) kt_201 dX5_moveAll_47 hv47 ?_
    refine z_iload_n (pc := 50) G 1 dX5_moveAll_50 rfl rfl ?_
    obtain ⟨x51, hv51, hX⟩ := z_bd hX
    refine z_iald (pc := 51) G dX5_moveAll_51 hv51 ?_
    refine z_iconst (pc := 52) (v := 1) G dX5_moveAll_52 (by decide) ?_
    obtain ⟨r53, hv53, hX⟩ := z_bd hX
    refine z_cSI (pc := 53) (As := [.int x45, .int x51, .int (1 : Int32)]) (c2 := 0) (s2 := 0) G (lX5_placeAfter hO hv53) kt_818 kt_4 kt_816 kt_817 ydX5_placeAfter ⟨by decide, by decide⟩ rfl (Nat.le_of_ble_eq_true rfl) ⟨rfl, rfl⟩ ⟨by decide, by decide⟩ rfl dX5_moveAll_53 ?_
    obtain ⟨h56, hv56, hX⟩ := z_bd hX
    refine z_iast (pc := 56) G dX5_moveAll_56 hv56 ?_
    refine z_iincw (pc := 57) (w := 1) (lv2 := [(0, .ref l0), (1, .int (l1 + 1))]) G 1 dX5_moveAll_57 rfl (by decide) (by decide) rfl rfl ?_
    refine z_goto (pc := 60) (tgt := 2) G dX5_moveAll_60 (by decide) ?_
    exact H2 _ _ _ hX
set_option maxHeartbeats 4000000 in
set_option maxRecDepth 100000 in
theorem wX5_moveAll_L2 {Γ : ZG} {p : Program} {l : Launch} {e : Env} {s : State} {m : MethodId} {args : Array Value} {below : List Frame} {meth : Method} {c : Code} (hO : z_OK Γ) (G : z_GG Γ p s m args meth c cX5_moveAll 2 RX5) (hr : meth.sig.returnType = none) (hnm : meth.name = "moveAll") {r : ZH} : ∀ (nn : Nat) (l0 : Nat) (l1 : Int32) (h : ZH), xX5_moveAll_L2  nn l0 l1 h = some r → z_W Γ p l e rmX5_moveAll s m args below meth c 2 0 0 (MQ below (z_Qc Γ none r) args s rmX5_moveAll.cells rmX5_moveAll.slots (z_A Γ)) 2 [(0, .ref l0), (1, .int l1)] [] h := by
  intro nn
  induction nn with
  | zero => intro l0 l1 h hX; cases hX
  | succ nn ih => intro l0 l1 h hX; exact wX5_moveAll_B2 hO G hr hnm  ih l0 l1 h hX
noncomputable def xX5_moveAll (l0 : Nat) (h : ZH) : Option ZH := xX5_moveAll_L2 zFU l0 (0 : Int32) h
set_option maxHeartbeats 4000000 in
set_option maxRecDepth 100000 in
theorem lX5_moveAll {Γ : ZG} {l : Launch} (hO : z_OK Γ) {l0 : Nat} {h : ZH} {r : ZH} (hX : xX5_moveAll l0 h = some r) : z_M Γ l yX5_moveAll (z_ws1 yX5_moveAll cX5_moveAll 2 none) rmX5_moveAll [.ref l0] h none r := by
  refine z_start hO (plainFor_of_name (by decide)) (Nat.le_of_ble_eq_true rfl) ?_
  intro p e s m args below meth c G hr hnm
  refine z_lvc (lv2 := [(0, .ref l0)]) rfl ?_
  refine z_iconst (pc := 0) (v := 0) G dX5_moveAll_0 (by decide) ?_
  refine z_istore_n (pc := 1) (lv2 := [(0, .ref l0), (1, .int (0 : Int32))]) G dX5_moveAll_1 rfl (by decide) rfl rfl ?_
  exact wX5_moveAll_L2 hO G hr hnm zFU _ _ _ hX
theorem dX5_ageMaps_0 : decode cX5_ageMaps 0 = .ok (.iconst 0, 1) := by decide +kernel
theorem dX5_ageMaps_1 : decode cX5_ageMaps 1 = .ok (.istore_n 1, 1) := by decide +kernel
theorem dX5_ageMaps_2 : decode cX5_ageMaps 2 = .ok (.iload_n 1, 1) := by decide +kernel
theorem dX5_ageMaps_3 : decode cX5_ageMaps 3 = .ok (.sipush 180, 3) := by decide +kernel
theorem dX5_ageMaps_6 : decode cX5_ageMaps 6 = .ok (.if_icmp .ge 52, 3) := by decide +kernel
theorem dX5_ageMaps_9 : decode cX5_ageMaps 9 = .ok (.aload_n 0, 1) := by decide +kernel
theorem dX5_ageMaps_10 : decode cX5_ageMaps 10 = .ok (.getfield 36, 3) := by decide +kernel
theorem dX5_ageMaps_13 : decode cX5_ageMaps 13 = .ok (.iload_n 1, 1) := by decide +kernel
theorem dX5_ageMaps_14 : decode cX5_ageMaps 14 = .ok (.iaload, 1) := by decide +kernel
theorem dX5_ageMaps_15 : decode cX5_ageMaps 15 = .ok (.iconst (-1), 1) := by decide +kernel
theorem dX5_ageMaps_16 : decode cX5_ageMaps 16 = .ok (.if_icmp .eq 36, 3) := by decide +kernel
theorem dX5_ageMaps_19 : decode cX5_ageMaps 19 = .ok (.aload_n 0, 1) := by decide +kernel
theorem dX5_ageMaps_20 : decode cX5_ageMaps 20 = .ok (.getfield 39, 3) := by decide +kernel
theorem dX5_ageMaps_23 : decode cX5_ageMaps 23 = .ok (.iload_n 1, 1) := by decide +kernel
theorem dX5_ageMaps_24 : decode cX5_ageMaps 24 = .ok (.dup2, 1) := by decide +kernel
theorem dX5_ageMaps_25 : decode cX5_ageMaps 25 = .ok (.iaload, 1) := by decide +kernel
theorem dX5_ageMaps_26 : decode cX5_ageMaps 26 = .ok (.iconst 1, 1) := by decide +kernel
theorem dX5_ageMaps_27 : decode cX5_ageMaps 27 = .ok (.isub, 1) := by decide +kernel
theorem dX5_ageMaps_28 : decode cX5_ageMaps 28 = .ok (.iastore, 1) := by decide +kernel
theorem dX5_ageMaps_29 : decode cX5_ageMaps 29 = .ok (.aload_n 0, 1) := by decide +kernel
theorem dX5_ageMaps_30 : decode cX5_ageMaps 30 = .ok (.getfield 39, 3) := by decide +kernel
theorem dX5_ageMaps_33 : decode cX5_ageMaps 33 = .ok (.iload_n 1, 1) := by decide +kernel
theorem dX5_ageMaps_34 : decode cX5_ageMaps 34 = .ok (.iaload, 1) := by decide +kernel
theorem dX5_ageMaps_35 : decode cX5_ageMaps 35 = .ok (.ifCond .gt 17, 3) := by decide +kernel
theorem dX5_ageMaps_38 : decode cX5_ageMaps 38 = .ok (.aload_n 0, 1) := by decide +kernel
theorem dX5_ageMaps_39 : decode cX5_ageMaps 39 = .ok (.getfield 39, 3) := by decide +kernel
theorem dX5_ageMaps_42 : decode cX5_ageMaps 42 = .ok (.iload_n 1, 1) := by decide +kernel
theorem dX5_ageMaps_43 : decode cX5_ageMaps 43 = .ok (.iconst 0, 1) := by decide +kernel
theorem dX5_ageMaps_44 : decode cX5_ageMaps 44 = .ok (.iastore, 1) := by decide +kernel
theorem dX5_ageMaps_45 : decode cX5_ageMaps 45 = .ok (.aload_n 0, 1) := by decide +kernel
theorem dX5_ageMaps_46 : decode cX5_ageMaps 46 = .ok (.getfield 36, 3) := by decide +kernel
theorem dX5_ageMaps_49 : decode cX5_ageMaps 49 = .ok (.iload_n 1, 1) := by decide +kernel
theorem dX5_ageMaps_50 : decode cX5_ageMaps 50 = .ok (.iconst (-1), 1) := by decide +kernel
theorem dX5_ageMaps_51 : decode cX5_ageMaps 51 = .ok (.iastore, 1) := by decide +kernel
theorem dX5_ageMaps_52 : decode cX5_ageMaps 52 = .ok (.iinc 1 1, 3) := by decide +kernel
theorem dX5_ageMaps_55 : decode cX5_ageMaps 55 = .ok (.goto (-53), 3) := by decide +kernel
theorem dX5_ageMaps_58 : decode cX5_ageMaps 58 = .ok (.return_, 1) := by decide +kernel
theorem ydX5_ageMaps : z_yd yX5_ageMaps 0 := ⟨by decide, by decide, by decide +kernel⟩
abbrev rmX5_ageMaps : Room := { frames := 0, cells := 0, slots := 0, locals := 0 }
noncomputable def xX5_ageMaps_B2 (r2 : Nat → Int32 → ZH → Option ZH) (l0 : Nat) (l1 : Int32) (h : ZH) : Option ZH := (if (180 : Int32) ≤ l1 then some h else ((z_gR h l0 5 9).bind fun x10 => ((z_aI h x10 l1).bind fun x14 => (if x14 = (-1 : Int32) then r2 l0 (l1 + 1) h else ((z_gR h l0 5 10).bind fun x20 => ((z_aI h x20 l1).bind fun x25 => ((z_uI h x20 l1 (x25 - (1 : Int32))).bind fun h28 => ((z_gR h28 l0 5 10).bind fun x30 => ((z_aI h28 x30 l1).bind fun x34 => (if 0 < x34 then r2 l0 (l1 + 1) h28 else ((z_gR h28 l0 5 10).bind fun x39 => ((z_uI h28 x39 l1 (0 : Int32)).bind fun h44 => ((z_gR h44 l0 5 9).bind fun x46 => ((z_uI h44 x46 l1 (-1 : Int32)).bind fun h51 => r2 l0 (l1 + 1) h51))))))))))))))
noncomputable def xX5_ageMaps_L2 (n : Nat) : Nat → Int32 → ZH → Option ZH := Nat.rec (motive := fun _ => Nat → Int32 → ZH → Option ZH) (fun _ _ _ => none) (fun _ rec => xX5_ageMaps_B2  rec) n
set_option maxHeartbeats 4000000 in
set_option maxRecDepth 100000 in
theorem wX5_ageMaps_B2 {Γ : ZG} {p : Program} {l : Launch} {e : Env} {s : State} {m : MethodId} {args : Array Value} {below : List Frame} {meth : Method} {c : Code} (hO : z_OK Γ) (G : z_GG Γ p s m args meth c cX5_ageMaps 2 RX5) (hr : meth.sig.returnType = none) (hnm : meth.name = "ageMaps") {r : ZH} {r2 : Nat → Int32 → ZH → Option ZH} (H2 : ∀ (l0 : Nat) (l1 : Int32) (h : ZH), r2 l0 l1 h = some r → z_W Γ p l e rmX5_ageMaps s m args below meth c 2 0 0 (MQ below (z_Qc Γ none r) args s rmX5_ageMaps.cells rmX5_ageMaps.slots (z_A Γ)) 2 [(0, .ref l0), (1, .int l1)] [] h) : ∀ (l0 : Nat) (l1 : Int32) (h : ZH), xX5_ageMaps_B2  r2 l0 l1 h = some r → z_W Γ p l e rmX5_ageMaps s m args below meth c 2 0 0 (MQ below (z_Qc Γ none r) args s rmX5_ageMaps.cells rmX5_ageMaps.slots (z_A Γ)) 2 [(0, .ref l0), (1, .int l1)] [] h := by
  intro l0 l1 h hX
  refine z_iload_n (pc := 2) G 1 dX5_ageMaps_2 rfl rfl ?_
  refine z_sipush (pc := 3) (v := 180) G dX5_ageMaps_3 (by decide) ?_
  refine z_icmp_ge (pc := 6) (tgt := 58) G dX5_ageMaps_6 (by decide) (fun hc6 => ?_) (fun hc6 => ?_)
  · have hX := z_it hc6 hX
    exact z_vretX (pc := 58) hX G hr dX5_ageMaps_58 (by decide) (by decide)
  · have hX := z_if hc6 hX
    refine z_aload_n (pc := 9) G 0 dX5_ageMaps_9 rfl rfl ?_
    obtain ⟨x10, hv10, hX⟩ := z_bd hX
    refine z_getR (pc := 10) G kK5 (k := 9) (by decide) kt_215 dX5_ageMaps_10 hv10 ?_
    refine z_iload_n (pc := 13) G 1 dX5_ageMaps_13 rfl rfl ?_
    obtain ⟨x14, hv14, hX⟩ := z_bd hX
    refine z_iald (pc := 14) G dX5_ageMaps_14 hv14 ?_
    refine z_iconst (pc := 15) (v := (-1)) G dX5_ageMaps_15 (by decide) ?_
    refine z_icmp_eq (pc := 16) (tgt := 52) G dX5_ageMaps_16 (by decide) (fun hc16 => ?_) (fun hc16 => ?_)
    · have hX := z_it hc16 hX
      refine z_iincw (pc := 52) (w := 1) (lv2 := [(0, .ref l0), (1, .int (l1 + 1))]) G 1 dX5_ageMaps_52 rfl (by decide) (by decide) rfl rfl ?_
      refine z_goto (pc := 55) (tgt := 2) G dX5_ageMaps_55 (by decide) ?_
      exact H2 _ _ _ hX
    · have hX := z_if hc16 hX
      refine z_aload_n (pc := 19) G 0 dX5_ageMaps_19 rfl rfl ?_
      obtain ⟨x20, hv20, hX⟩ := z_bd hX
      refine z_getR (pc := 20) G kK5 (k := 10) (by decide) kt_217 dX5_ageMaps_20 hv20 ?_
      refine z_iload_n (pc := 23) G 1 dX5_ageMaps_23 rfl rfl ?_
      refine z_dup2 (pc := 24) G dX5_ageMaps_24 rfl rfl ?_
      obtain ⟨x25, hv25, hX⟩ := z_bd hX
      refine z_iald (pc := 25) G dX5_ageMaps_25 hv25 ?_
      refine z_iconst (pc := 26) (v := 1) G dX5_ageMaps_26 (by decide) ?_
      refine z_isub (pc := 27) G dX5_ageMaps_27 ?_
      obtain ⟨h28, hv28, hX⟩ := z_bd hX
      refine z_iast (pc := 28) G dX5_ageMaps_28 hv28 ?_
      refine z_aload_n (pc := 29) G 0 dX5_ageMaps_29 rfl rfl ?_
      obtain ⟨x30, hv30, hX⟩ := z_bd hX
      refine z_getR (pc := 30) G kK5 (k := 10) (by decide) kt_217 dX5_ageMaps_30 hv30 ?_
      refine z_iload_n (pc := 33) G 1 dX5_ageMaps_33 rfl rfl ?_
      obtain ⟨x34, hv34, hX⟩ := z_bd hX
      refine z_iald (pc := 34) G dX5_ageMaps_34 hv34 ?_
      refine z_if_gt (pc := 35) (tgt := 52) G dX5_ageMaps_35 (by decide) (fun hc35 => ?_) (fun hc35 => ?_)
      · have hX := z_it hc35 hX
        refine z_iincw (pc := 52) (w := 1) (lv2 := [(0, .ref l0), (1, .int (l1 + 1))]) G 1 dX5_ageMaps_52 rfl (by decide) (by decide) rfl rfl ?_
        refine z_goto (pc := 55) (tgt := 2) G dX5_ageMaps_55 (by decide) ?_
        exact H2 _ _ _ hX
      · have hX := z_if hc35 hX
        refine z_aload_n (pc := 38) G 0 dX5_ageMaps_38 rfl rfl ?_
        obtain ⟨x39, hv39, hX⟩ := z_bd hX
        refine z_getR (pc := 39) G kK5 (k := 10) (by decide) kt_217 dX5_ageMaps_39 hv39 ?_
        refine z_iload_n (pc := 42) G 1 dX5_ageMaps_42 rfl rfl ?_
        refine z_iconst (pc := 43) (v := 0) G dX5_ageMaps_43 (by decide) ?_
        obtain ⟨h44, hv44, hX⟩ := z_bd hX
        refine z_iast (pc := 44) G dX5_ageMaps_44 hv44 ?_
        refine z_aload_n (pc := 45) G 0 dX5_ageMaps_45 rfl rfl ?_
        obtain ⟨x46, hv46, hX⟩ := z_bd hX
        refine z_getR (pc := 46) G kK5 (k := 9) (by decide) kt_215 dX5_ageMaps_46 hv46 ?_
        refine z_iload_n (pc := 49) G 1 dX5_ageMaps_49 rfl rfl ?_
        refine z_iconst (pc := 50) (v := (-1)) G dX5_ageMaps_50 (by decide) ?_
        obtain ⟨h51, hv51, hX⟩ := z_bd hX
        refine z_iast (pc := 51) G dX5_ageMaps_51 hv51 ?_
        refine z_iincw (pc := 52) (w := 1) (lv2 := [(0, .ref l0), (1, .int (l1 + 1))]) G 1 dX5_ageMaps_52 rfl (by decide) (by decide) rfl rfl ?_
        refine z_goto (pc := 55) (tgt := 2) G dX5_ageMaps_55 (by decide) ?_
        exact H2 _ _ _ hX
set_option maxHeartbeats 4000000 in
set_option maxRecDepth 100000 in
theorem wX5_ageMaps_L2 {Γ : ZG} {p : Program} {l : Launch} {e : Env} {s : State} {m : MethodId} {args : Array Value} {below : List Frame} {meth : Method} {c : Code} (hO : z_OK Γ) (G : z_GG Γ p s m args meth c cX5_ageMaps 2 RX5) (hr : meth.sig.returnType = none) (hnm : meth.name = "ageMaps") {r : ZH} : ∀ (nn : Nat) (l0 : Nat) (l1 : Int32) (h : ZH), xX5_ageMaps_L2  nn l0 l1 h = some r → z_W Γ p l e rmX5_ageMaps s m args below meth c 2 0 0 (MQ below (z_Qc Γ none r) args s rmX5_ageMaps.cells rmX5_ageMaps.slots (z_A Γ)) 2 [(0, .ref l0), (1, .int l1)] [] h := by
  intro nn
  induction nn with
  | zero => intro l0 l1 h hX; cases hX
  | succ nn ih => intro l0 l1 h hX; exact wX5_ageMaps_B2 hO G hr hnm  ih l0 l1 h hX
noncomputable def xX5_ageMaps (l0 : Nat) (h : ZH) : Option ZH := xX5_ageMaps_L2 zFU l0 (0 : Int32) h
set_option maxHeartbeats 4000000 in
set_option maxRecDepth 100000 in
theorem lX5_ageMaps {Γ : ZG} {l : Launch} (hO : z_OK Γ) {l0 : Nat} {h : ZH} {r : ZH} (hX : xX5_ageMaps l0 h = some r) : z_M Γ l yX5_ageMaps (z_ws1 yX5_ageMaps cX5_ageMaps 2 none) rmX5_ageMaps [.ref l0] h none r := by
  refine z_start hO (plainFor_of_name (by decide)) (Nat.le_of_ble_eq_true rfl) ?_
  intro p e s m args below meth c G hr hnm
  refine z_lvc (lv2 := [(0, .ref l0)]) rfl ?_
  refine z_iconst (pc := 0) (v := 0) G dX5_ageMaps_0 (by decide) ?_
  refine z_istore_n (pc := 1) (lv2 := [(0, .ref l0), (1, .int (0 : Int32))]) G dX5_ageMaps_1 rfl (by decide) rfl rfl ?_
  exact wX5_ageMaps_L2 hO G hr hnm zFU _ _ _ hX
theorem dX5_goOn_0 : decode cX5_goOn 0 = .ok (.aload_n 0, 1) := by decide +kernel
theorem dX5_goOn_1 : decode cX5_goOn 1 = .ok (.dup, 1) := by decide +kernel
theorem dX5_goOn_2 : decode cX5_goOn 2 = .ok (.getfield 78, 3) := by decide +kernel
theorem dX5_goOn_5 : decode cX5_goOn 5 = .ok (.iconst 1, 1) := by decide +kernel
theorem dX5_goOn_6 : decode cX5_goOn 6 = .ok (.iadd, 1) := by decide +kernel
theorem dX5_goOn_7 : decode cX5_goOn 7 = .ok (.putfield 78, 3) := by decide +kernel
theorem dX5_goOn_10 : decode cX5_goOn 10 = .ok (.aload_n 0, 1) := by decide +kernel
theorem dX5_goOn_11 : decode cX5_goOn 11 = .ok (.getfield 78, 3) := by decide +kernel
theorem dX5_goOn_14 : decode cX5_goOn 14 = .ok (.aload_n 0, 1) := by decide +kernel
theorem dX5_goOn_15 : decode cX5_goOn 15 = .ok (.getfield 48, 3) := by decide +kernel
theorem dX5_goOn_18 : decode cX5_goOn 18 = .ok (.getfield 125, 3) := by decide +kernel
theorem dX5_goOn_21 : decode cX5_goOn 21 = .ok (.if_icmp .lt 18, 3) := by decide +kernel
theorem dX5_goOn_24 : decode cX5_goOn 24 = .ok (.aload_n 0, 1) := by decide +kernel
theorem dX5_goOn_25 : decode cX5_goOn 25 = .ok (.iconst 0, 1) := by decide +kernel
theorem dX5_goOn_26 : decode cX5_goOn 26 = .ok (.putfield 78, 3) := by decide +kernel
theorem dX5_goOn_29 : decode cX5_goOn 29 = .ok (.aload_n 0, 1) := by decide +kernel
theorem dX5_goOn_30 : decode cX5_goOn 30 = .ok (.dup, 1) := by decide +kernel
theorem dX5_goOn_31 : decode cX5_goOn 31 = .ok (.getfield 75, 3) := by decide +kernel
theorem dX5_goOn_34 : decode cX5_goOn 34 = .ok (.iconst 1, 1) := by decide +kernel
theorem dX5_goOn_35 : decode cX5_goOn 35 = .ok (.iadd, 1) := by decide +kernel
theorem dX5_goOn_36 : decode cX5_goOn 36 = .ok (.putfield 75, 3) := by decide +kernel
theorem dX5_goOn_39 : decode cX5_goOn 39 = .ok (.return_, 1) := by decide +kernel
theorem ydX5_goOn : z_yd yX5_goOn 0 := ⟨by decide, by decide, by decide +kernel⟩
abbrev rmX5_goOn : Room := { frames := 0, cells := 0, slots := 0, locals := 0 }
noncomputable def xX5_goOn (l0 : Nat) (h : ZH) : Option ZH := ((z_gI h l0 5 16).bind fun x2 => ((z_sF h l0 5 16 (.int (x2 + (1 : Int32)))).bind fun h7 => ((z_gI h7 l0 5 16).bind fun x11 => ((z_gR h7 l0 5 0).bind fun x15 => ((z_gI h7 x15 2 0).bind fun x18 => (if x11 < x18 then some h7 else ((z_sF h7 l0 5 16 (.int (0 : Int32))).bind fun h26 => ((z_gI h26 l0 5 15).bind fun x31 => ((z_sF h26 l0 5 15 (.int (x31 + (1 : Int32)))).bind fun h36 => some h36)))))))))
set_option maxHeartbeats 4000000 in
set_option maxRecDepth 100000 in
theorem lX5_goOn {Γ : ZG} {l : Launch} (hO : z_OK Γ) {l0 : Nat} {h : ZH} {r : ZH} (hX : xX5_goOn l0 h = some r) : z_M Γ l yX5_goOn (z_ws1 yX5_goOn cX5_goOn 1 none) rmX5_goOn [.ref l0] h none r := by
  refine z_start hO (plainFor_of_name (by decide)) (Nat.le_of_ble_eq_true rfl) ?_
  intro p e s m args below meth c G hr hnm
  refine z_lvc (lv2 := [(0, .ref l0)]) rfl ?_
  refine z_aload_n (pc := 0) G 0 dX5_goOn_0 rfl rfl ?_
  refine z_dup (pc := 1) G dX5_goOn_1 rfl ?_
  obtain ⟨x2, hv2, hX⟩ := z_bd hX
  refine z_getI (pc := 2) G kK5 (k := 16) (by decide) kt_236 dX5_goOn_2 hv2 ?_
  refine z_iconst (pc := 5) (v := 1) G dX5_goOn_5 (by decide) ?_
  refine z_iadd (pc := 6) G dX5_goOn_6 ?_
  obtain ⟨h7, hv7, hX⟩ := z_bd hX
  refine z_putF (pc := 7) G kK5 (k := 16) (by decide) kt_236 (Or.inl rfl) rfl rfl dX5_goOn_7 hv7 ?_
  refine z_aload_n (pc := 10) G 0 dX5_goOn_10 rfl rfl ?_
  obtain ⟨x11, hv11, hX⟩ := z_bd hX
  refine z_getI (pc := 11) G kK5 (k := 16) (by decide) kt_236 dX5_goOn_11 hv11 ?_
  refine z_aload_n (pc := 14) G 0 dX5_goOn_14 rfl rfl ?_
  obtain ⟨x15, hv15, hX⟩ := z_bd hX
  refine z_getR (pc := 15) G kK5 (k := 0) (by decide) kt_188 dX5_goOn_15 hv15 ?_
  obtain ⟨x18, hv18, hX⟩ := z_bd hX
  refine z_getI (pc := 18) G kK2 (k := 0) (by decide) kt_43 dX5_goOn_18 hv18 ?_
  refine z_icmp_lt (pc := 21) (tgt := 39) G dX5_goOn_21 (by decide) (fun hc21 => ?_) (fun hc21 => ?_)
  · have hX := z_it hc21 hX
    exact z_vretX (pc := 39) hX G hr dX5_goOn_39 (by decide) (by decide)
  · have hX := z_if hc21 hX
    refine z_aload_n (pc := 24) G 0 dX5_goOn_24 rfl rfl ?_
    refine z_iconst (pc := 25) (v := 0) G dX5_goOn_25 (by decide) ?_
    obtain ⟨h26, hv26, hX⟩ := z_bd hX
    refine z_putF (pc := 26) G kK5 (k := 16) (by decide) kt_236 (Or.inl rfl) rfl rfl dX5_goOn_26 hv26 ?_
    refine z_aload_n (pc := 29) G 0 dX5_goOn_29 rfl rfl ?_
    refine z_dup (pc := 30) G dX5_goOn_30 rfl ?_
    obtain ⟨x31, hv31, hX⟩ := z_bd hX
    refine z_getI (pc := 31) G kK5 (k := 15) (by decide) kt_232 dX5_goOn_31 hv31 ?_
    refine z_iconst (pc := 34) (v := 1) G dX5_goOn_34 (by decide) ?_
    refine z_iadd (pc := 35) G dX5_goOn_35 ?_
    obtain ⟨h36, hv36, hX⟩ := z_bd hX
    refine z_putF (pc := 36) G kK5 (k := 15) (by decide) kt_232 (Or.inl rfl) rfl rfl dX5_goOn_36 hv36 ?_
    exact z_vretX (pc := 39) hX G hr dX5_goOn_39 (by decide) (by decide)
theorem dX6_init_0 : decode cX6_init 0 = .ok (.aload_n 0, 1) := by decide +kernel
theorem dX6_init_1 : decode cX6_init 1 = .ok (.invokespecial 3, 3) := by decide +kernel
theorem dX6_init_4 : decode cX6_init 4 = .ok (.aload_n 0, 1) := by decide +kernel
theorem dX6_init_5 : decode cX6_init 5 = .ok (.new 9, 3) := by decide +kernel
theorem dX6_init_8 : decode cX6_init 8 = .ok (.dup, 1) := by decide +kernel
theorem dX6_init_9 : decode cX6_init 9 = .ok (.invokespecial 11, 3) := by decide +kernel
theorem dX6_init_12 : decode cX6_init 12 = .ok (.putfield 12, 3) := by decide +kernel
theorem dX6_init_15 : decode cX6_init 15 = .ok (.aload_n 0, 1) := by decide +kernel
theorem dX6_init_16 : decode cX6_init 16 = .ok (.bipush 6, 2) := by decide +kernel
theorem dX6_init_18 : decode cX6_init 18 = .ok (.newarray .int, 2) := by decide +kernel
theorem dX6_init_20 : decode cX6_init 20 = .ok (.putfield 18, 3) := by decide +kernel
theorem dX6_init_23 : decode cX6_init 23 = .ok (.aload_n 0, 1) := by decide +kernel
theorem dX6_init_24 : decode cX6_init 24 = .ok (.bipush 6, 2) := by decide +kernel
theorem dX6_init_26 : decode cX6_init 26 = .ok (.newarray .int, 2) := by decide +kernel
theorem dX6_init_28 : decode cX6_init 28 = .ok (.putfield 22, 3) := by decide +kernel
theorem dX6_init_31 : decode cX6_init 31 = .ok (.return_, 1) := by decide +kernel
theorem ydX6_init : z_yd yX6_init 0 := ⟨by decide, by decide, by decide +kernel⟩
abbrev rmX6_init : Room := { frames := 2, cells := 4, slots := 47, locals := 32 }
noncomputable def xX6_init (l0 : Nat) (h : ZH) : Option ZH := ((z_nw h (.inl (0, [.int 0, .int 0, .int 0, .null, .int 0]))).bind fun q5 => ((xX0_init q5.1 q5.2).bind fun h9 => ((z_sF h9 l0 6 0 (.ref q5.1)).bind fun h12 => ((z_nw h12 (.inr (.inl (0, List.replicate 6 0)))).bind fun q18 => ((z_sF q18.2 l0 6 1 (.ref q18.1)).bind fun h20 => ((z_nw h20 (.inr (.inl (0, List.replicate 6 0)))).bind fun q26 => ((z_sF q26.2 l0 6 2 (.ref q26.1)).bind fun h28 => some h28)))))))
set_option maxHeartbeats 4000000 in
set_option maxRecDepth 100000 in
theorem lX6_init {Γ : ZG} {l : Launch} (hO : z_OK Γ) {l0 : Nat} {h : ZH} {r : ZH} (hX : xX6_init l0 h = some r) : z_M Γ l yX6_init (z_ws1 yX6_init cX6_init 1 none) rmX6_init [.ref l0] h none r := by
  refine z_start hO (plainFor_of_name (by decide)) (Nat.le_of_ble_eq_true rfl) ?_
  intro p e s m args below meth c G hr hnm
  refine z_lvc (lv2 := [(0, .ref l0)]) rfl ?_
  refine z_aload_n (pc := 0) G 0 dX6_init_0 rfl rfl ?_
  refine z_obj (pc := 1) G kt_307 kt_25 kt_26 (by decide) (Nat.le_of_ble_eq_true rfl) dX6_init_1 ?_
  refine z_aload_n (pc := 4) G 0 dX6_init_4 rfl rfl ?_
  obtain ⟨q5, hv5, hX⟩ := z_bd hX
  refine z_nO (pc := 5) (c2 := 1) (s2 := 5) G kK0 kt_308 kt_278 kt_5 (fun j hj => by rcases (show j = 0 ∨ j = 1 ∨ j = 2 ∨ j = 3 ∨ j = 4 by omega) with rfl | rfl | rfl | rfl | rfl <;> rfl) ⟨rfl, rfl⟩ ⟨by decide, by decide⟩ dX6_init_5 hv5 ?_
  refine z_dup (pc := 8) G dX6_init_8 rfl ?_
  obtain ⟨h9, hv9, hX⟩ := z_bd hX
  refine z_cIN (pc := 9) (As := []) (c2 := 2) (s2 := 35) G (lX0_init hO hv9) kt_281 kt_5 kt_309 kt_280 rfl ydX0_init ⟨by decide, by decide⟩ rfl (Nat.le_of_ble_eq_true rfl) ⟨rfl, rfl⟩ ⟨by decide, by decide⟩ rfl dX6_init_9 ?_
  obtain ⟨h12, hv12, hX⟩ := z_bd hX
  refine z_putF (pc := 12) G kK6 (k := 0) (by decide) kt_310 (Or.inr ⟨rfl, hnm, rfl⟩) rfl rfl dX6_init_12 hv12 ?_
  refine z_aload_n (pc := 15) G 0 dX6_init_15 rfl rfl ?_
  refine z_bipush (pc := 16) (v := 6) G dX6_init_16 (by decide) ?_
  obtain ⟨q18, hv18, hX⟩ := z_bd hX
  refine z_nI (pc := 18) (atype := .int) (t := 0) (N := 6) (c2 := 3) (s2 := 41) G kt_136 rfl (by decide) rfl (fun _ z => by cases z) (by decide) (by decide) (by decide) ⟨rfl, rfl⟩ ⟨by decide, by decide⟩ dX6_init_18 hv18 ?_
  obtain ⟨h20, hv20, hX⟩ := z_bd hX
  refine z_putF (pc := 20) G kK6 (k := 1) (by decide) kt_311 (Or.inr ⟨rfl, hnm, rfl⟩) rfl rfl dX6_init_20 hv20 ?_
  refine z_aload_n (pc := 23) G 0 dX6_init_23 rfl rfl ?_
  refine z_bipush (pc := 24) (v := 6) G dX6_init_24 (by decide) ?_
  obtain ⟨q26, hv26, hX⟩ := z_bd hX
  refine z_nI (pc := 26) (atype := .int) (t := 0) (N := 6) (c2 := 4) (s2 := 47) G kt_136 rfl (by decide) rfl (fun _ z => by cases z) (by decide) (by decide) (by decide) ⟨rfl, rfl⟩ ⟨by decide, by decide⟩ dX6_init_26 hv26 ?_
  obtain ⟨h28, hv28, hX⟩ := z_bd hX
  refine z_putF (pc := 28) G kK6 (k := 2) (by decide) kt_312 (Or.inr ⟨rfl, hnm, rfl⟩) rfl rfl dX6_init_28 hv28 ?_
  exact z_vretX (pc := 31) hX G hr dX6_init_31 (by decide) (by decide)
theorem dX6_fillUp_0 : decode cX6_fillUp 0 = .ok (.aload_n 1, 1) := by decide +kernel
theorem dX6_fillUp_1 : decode cX6_fillUp 1 = .ok (.iload_n 2, 1) := by decide +kernel
theorem dX6_fillUp_2 : decode cX6_fillUp 2 = .ok (.invokevirtual 74, 3) := by decide +kernel
theorem dX6_fillUp_5 : decode cX6_fillUp 5 = .ok (.istore_n 3, 1) := by decide +kernel
theorem dX6_fillUp_6 : decode cX6_fillUp 6 = .ok (.aload_n 1, 1) := by decide +kernel
theorem dX6_fillUp_7 : decode cX6_fillUp 7 = .ok (.getfield 55, 3) := by decide +kernel
theorem dX6_fillUp_10 : decode cX6_fillUp 10 = .ok (.getfield 78, 3) := by decide +kernel
theorem dX6_fillUp_13 : decode cX6_fillUp 13 = .ok (.istore 4, 2) := by decide +kernel
theorem dX6_fillUp_15 : decode cX6_fillUp 15 = .ok (.iload 4, 2) := by decide +kernel
theorem dX6_fillUp_17 : decode cX6_fillUp 17 = .ok (.iconst 1, 1) := by decide +kernel
theorem dX6_fillUp_18 : decode cX6_fillUp 18 = .ok (.if_icmp .lt 8, 3) := by decide +kernel
theorem dX6_fillUp_21 : decode cX6_fillUp 21 = .ok (.iload_n 3, 1) := by decide +kernel
theorem dX6_fillUp_22 : decode cX6_fillUp 22 = .ok (.iconst 1, 1) := by decide +kernel
theorem dX6_fillUp_23 : decode cX6_fillUp 23 = .ok (.if_icmp .ge 4, 3) := by decide +kernel
theorem dX6_fillUp_26 : decode cX6_fillUp 26 = .ok (.return_, 1) := by decide +kernel
theorem dX6_fillUp_27 : decode cX6_fillUp 27 = .ok (.aload_n 1, 1) := by decide +kernel
theorem dX6_fillUp_28 : decode cX6_fillUp 28 = .ok (.getfield 81, 3) := by decide +kernel
theorem dX6_fillUp_31 : decode cX6_fillUp 31 = .ok (.iload_n 2, 1) := by decide +kernel
theorem dX6_fillUp_32 : decode cX6_fillUp 32 = .ok (.iaload, 1) := by decide +kernel
theorem dX6_fillUp_33 : decode cX6_fillUp 33 = .ok (.iload_n 3, 1) := by decide +kernel
theorem dX6_fillUp_34 : decode cX6_fillUp 34 = .ok (.if_icmp .le 10, 3) := by decide +kernel
theorem dX6_fillUp_37 : decode cX6_fillUp 37 = .ok (.aload_n 1, 1) := by decide +kernel
theorem dX6_fillUp_38 : decode cX6_fillUp 38 = .ok (.getfield 81, 3) := by decide +kernel
theorem dX6_fillUp_41 : decode cX6_fillUp 41 = .ok (.iload_n 2, 1) := by decide +kernel
theorem dX6_fillUp_42 : decode cX6_fillUp 42 = .ok (.iload_n 3, 1) := by decide +kernel
theorem dX6_fillUp_43 : decode cX6_fillUp 43 = .ok (.iastore, 1) := by decide +kernel
theorem dX6_fillUp_44 : decode cX6_fillUp 44 = .ok (.iload 4, 2) := by decide +kernel
theorem dX6_fillUp_46 : decode cX6_fillUp 46 = .ok (.iload_n 3, 1) := by decide +kernel
theorem dX6_fillUp_47 : decode cX6_fillUp 47 = .ok (.idiv, 1) := by decide +kernel
theorem dX6_fillUp_48 : decode cX6_fillUp 48 = .ok (.istore 5, 2) := by decide +kernel
theorem dX6_fillUp_50 : decode cX6_fillUp 50 = .ok (.aload_n 1, 1) := by decide +kernel
theorem dX6_fillUp_51 : decode cX6_fillUp 51 = .ok (.getfield 81, 3) := by decide +kernel
theorem dX6_fillUp_54 : decode cX6_fillUp 54 = .ok (.iload_n 2, 1) := by decide +kernel
theorem dX6_fillUp_55 : decode cX6_fillUp 55 = .ok (.iaload, 1) := by decide +kernel
theorem dX6_fillUp_56 : decode cX6_fillUp 56 = .ok (.istore 6, 2) := by decide +kernel
theorem dX6_fillUp_58 : decode cX6_fillUp 58 = .ok (.iload 6, 2) := by decide +kernel
theorem dX6_fillUp_60 : decode cX6_fillUp 60 = .ok (.iload_n 3, 1) := by decide +kernel
theorem dX6_fillUp_61 : decode cX6_fillUp 61 = .ok (.if_icmp .ge 115, 3) := by decide +kernel
theorem dX6_fillUp_64 : decode cX6_fillUp 64 = .ok (.iload 6, 2) := by decide +kernel
theorem dX6_fillUp_66 : decode cX6_fillUp 66 = .ok (.ifCond .ne 13, 3) := by decide +kernel
theorem dX6_fillUp_69 : decode cX6_fillUp 69 = .ok (.aload_n 1, 1) := by decide +kernel
theorem dX6_fillUp_70 : decode cX6_fillUp 70 = .ok (.invokevirtual 84, 3) := by decide +kernel
theorem dX6_fillUp_73 : decode cX6_fillUp 73 = .ok (.iload 4, 2) := by decide +kernel
theorem dX6_fillUp_75 : decode cX6_fillUp 75 = .ok (.irem, 1) := by decide +kernel
theorem dX6_fillUp_76 : decode cX6_fillUp 76 = .ok (.goto 11, 3) := by decide +kernel
theorem dX6_fillUp_79 : decode cX6_fillUp 79 = .ok (.aload_n 1, 1) := by decide +kernel
theorem dX6_fillUp_80 : decode cX6_fillUp 80 = .ok (.getfield 88, 3) := by decide +kernel
theorem dX6_fillUp_83 : decode cX6_fillUp 83 = .ok (.iload_n 2, 1) := by decide +kernel
theorem dX6_fillUp_84 : decode cX6_fillUp 84 = .ok (.iconst 3, 1) := by decide +kernel
theorem dX6_fillUp_85 : decode cX6_fillUp 85 = .ok (.imul, 1) := by decide +kernel
theorem dX6_fillUp_86 : decode cX6_fillUp 86 = .ok (.iaload, 1) := by decide +kernel
theorem dX6_fillUp_87 : decode cX6_fillUp 87 = .ok (.istore 7, 2) := by decide +kernel
theorem dX6_fillUp_89 : decode cX6_fillUp 89 = .ok (.aload_n 0, 1) := by decide +kernel
theorem dX6_fillUp_90 : decode cX6_fillUp 90 = .ok (.getfield 12, 3) := by decide +kernel
theorem dX6_fillUp_93 : decode cX6_fillUp 93 = .ok (.aload_n 1, 1) := by decide +kernel
theorem dX6_fillUp_94 : decode cX6_fillUp 94 = .ok (.iload_n 2, 1) := by decide +kernel
theorem dX6_fillUp_95 : decode cX6_fillUp 95 = .ok (.iload 7, 2) := by decide +kernel
theorem dX6_fillUp_97 : decode cX6_fillUp 97 = .ok (.iload 6, 2) := by decide +kernel
theorem dX6_fillUp_99 : decode cX6_fillUp 99 = .ok (.iload 5, 2) := by decide +kernel
theorem dX6_fillUp_101 : decode cX6_fillUp 101 = .ok (.imul, 1) := by decide +kernel
theorem dX6_fillUp_102 : decode cX6_fillUp 102 = .ok (.iadd, 1) := by decide +kernel
theorem dX6_fillUp_103 : decode cX6_fillUp 103 = .ok (.iload 4, 2) := by decide +kernel
theorem dX6_fillUp_105 : decode cX6_fillUp 105 = .ok (.irem, 1) := by decide +kernel
theorem dX6_fillUp_106 : decode cX6_fillUp 106 = .ok (.invokevirtual 91, 3) := by decide +kernel
theorem dX6_fillUp_109 : decode cX6_fillUp 109 = .ok (.ifCond .ne 4, 3) := by decide +kernel
theorem dX6_fillUp_112 : decode cX6_fillUp 112 = .ok (.return_, 1) := by decide +kernel
theorem dX6_fillUp_113 : decode cX6_fillUp 113 = .ok (.iload_n 2, 1) := by decide +kernel
theorem dX6_fillUp_114 : decode cX6_fillUp 114 = .ok (.iconst 3, 1) := by decide +kernel
theorem dX6_fillUp_115 : decode cX6_fillUp 115 = .ok (.imul, 1) := by decide +kernel
theorem dX6_fillUp_116 : decode cX6_fillUp 116 = .ok (.iload 6, 2) := by decide +kernel
theorem dX6_fillUp_118 : decode cX6_fillUp 118 = .ok (.iadd, 1) := by decide +kernel
theorem dX6_fillUp_119 : decode cX6_fillUp 119 = .ok (.istore 8, 2) := by decide +kernel
theorem dX6_fillUp_121 : decode cX6_fillUp 121 = .ok (.aload_n 1, 1) := by decide +kernel
theorem dX6_fillUp_122 : decode cX6_fillUp 122 = .ok (.getfield 88, 3) := by decide +kernel
theorem dX6_fillUp_125 : decode cX6_fillUp 125 = .ok (.iload 8, 2) := by decide +kernel
theorem dX6_fillUp_127 : decode cX6_fillUp 127 = .ok (.aload_n 0, 1) := by decide +kernel
theorem dX6_fillUp_128 : decode cX6_fillUp 128 = .ok (.getfield 12, 3) := by decide +kernel
theorem dX6_fillUp_131 : decode cX6_fillUp 131 = .ok (.getfield 95, 3) := by decide +kernel
theorem dX6_fillUp_134 : decode cX6_fillUp 134 = .ok (.iastore, 1) := by decide +kernel
theorem dX6_fillUp_135 : decode cX6_fillUp 135 = .ok (.aload_n 1, 1) := by decide +kernel
theorem dX6_fillUp_136 : decode cX6_fillUp 136 = .ok (.getfield 96, 3) := by decide +kernel
theorem dX6_fillUp_139 : decode cX6_fillUp 139 = .ok (.iload 8, 2) := by decide +kernel
theorem dX6_fillUp_141 : decode cX6_fillUp 141 = .ok (.aload_n 0, 1) := by decide +kernel
theorem dX6_fillUp_142 : decode cX6_fillUp 142 = .ok (.getfield 12, 3) := by decide +kernel
theorem dX6_fillUp_145 : decode cX6_fillUp 145 = .ok (.getfield 99, 3) := by decide +kernel
theorem dX6_fillUp_148 : decode cX6_fillUp 148 = .ok (.iastore, 1) := by decide +kernel
theorem dX6_fillUp_149 : decode cX6_fillUp 149 = .ok (.aload_n 1, 1) := by decide +kernel
theorem dX6_fillUp_150 : decode cX6_fillUp 150 = .ok (.getfield 102, 3) := by decide +kernel
theorem dX6_fillUp_153 : decode cX6_fillUp 153 = .ok (.iload 8, 2) := by decide +kernel
theorem dX6_fillUp_155 : decode cX6_fillUp 155 = .ok (.aload_n 1, 1) := by decide +kernel
theorem dX6_fillUp_156 : decode cX6_fillUp 156 = .ok (.getfield 46, 3) := by decide +kernel
theorem dX6_fillUp_159 : decode cX6_fillUp 159 = .ok (.iastore, 1) := by decide +kernel
theorem dX6_fillUp_160 : decode cX6_fillUp 160 = .ok (.aload_n 1, 1) := by decide +kernel
theorem dX6_fillUp_161 : decode cX6_fillUp 161 = .ok (.getfield 81, 3) := by decide +kernel
theorem dX6_fillUp_164 : decode cX6_fillUp 164 = .ok (.iload_n 2, 1) := by decide +kernel
theorem dX6_fillUp_165 : decode cX6_fillUp 165 = .ok (.iload 6, 2) := by decide +kernel
theorem dX6_fillUp_167 : decode cX6_fillUp 167 = .ok (.iconst 1, 1) := by decide +kernel
theorem dX6_fillUp_168 : decode cX6_fillUp 168 = .ok (.iadd, 1) := by decide +kernel
theorem dX6_fillUp_169 : decode cX6_fillUp 169 = .ok (.iastore, 1) := by decide +kernel
theorem dX6_fillUp_170 : decode cX6_fillUp 170 = .ok (.iinc 6 1, 3) := by decide +kernel
theorem dX6_fillUp_173 : decode cX6_fillUp 173 = .ok (.goto (-115), 3) := by decide +kernel
theorem dX6_fillUp_176 : decode cX6_fillUp 176 = .ok (.return_, 1) := by decide +kernel
theorem ydX6_fillUp : z_yd yX6_fillUp 2 := ⟨by decide, by decide, by decide +kernel⟩
abbrev rmX6_fillUp : Room := { frames := 4, cells := 0, slots := 0, locals := 105 }
noncomputable def xX6_fillUp_B87 (r58 : Nat → Nat → Int32 → Int32 → Int32 → Int32 → Int32 → ZH → Option ZH) (l0 : Nat) (l1 : Nat) (l2 : Int32) (l3 : Int32) (l4 : Int32) (l5 : Int32) (l6 : Int32) (s0 : Int32) (h : ZH) : Option ZH := ((z_gR h l0 6 0).bind fun x90 => (if l4 = 0 then none else (z_gu (z_is h x90 0) ((xX0_choose x90 l1 l2 ((s0 + (l6 * l5)) - (s0 + (l6 * l5)) / l4 * l4) h).bind fun r106 => (if r106.1 = 0 then some r106.2 else ((z_gR r106.2 l1 5 6).bind fun x122 => ((z_gR r106.2 l0 6 0).bind fun x128 => ((z_gI r106.2 x128 0 1).bind fun x131 => ((z_uI r106.2 x122 ((l2 * (3 : Int32)) + l6) x131).bind fun h134 => ((z_gR h134 l1 5 7).bind fun x136 => ((z_gR h134 l0 6 0).bind fun x142 => ((z_gI h134 x142 0 2).bind fun x145 => ((z_uI h134 x136 ((l2 * (3 : Int32)) + l6) x145).bind fun h148 => ((z_gR h148 l1 5 8).bind fun x150 => ((z_gI h148 l1 5 15).bind fun x156 => ((z_uI h148 x150 ((l2 * (3 : Int32)) + l6) x156).bind fun h159 => ((z_gR h159 l1 5 5).bind fun x161 => ((z_uI h159 x161 l2 (l6 + (1 : Int32))).bind fun h169 => r58 l0 l1 l2 l3 l4 l5 (l6 + 1) h169))))))))))))))))))
set_option maxHeartbeats 4000000 in
set_option maxRecDepth 100000 in
theorem wX6_fillUp_B87 {Γ : ZG} {p : Program} {l : Launch} {e : Env} {s : State} {m : MethodId} {args : Array Value} {below : List Frame} {meth : Method} {c : Code} (hO : z_OK Γ) (G : z_GG Γ p s m args meth c cX6_fillUp 9 RX6) (hr : meth.sig.returnType = none) (hnm : meth.name = "fillUp") {r : ZH} {r58 : Nat → Nat → Int32 → Int32 → Int32 → Int32 → Int32 → ZH → Option ZH} (H58 : ∀ (l0 : Nat) (l1 : Nat) (l2 : Int32) (l3 : Int32) (l4 : Int32) (l5 : Int32) (l6 : Int32) (h : ZH), r58 l0 l1 l2 l3 l4 l5 l6 h = some r → z_W Γ p l e rmX6_fillUp s m args below meth c 9 0 0 (MQ below (z_Qc Γ none r) args s rmX6_fillUp.cells rmX6_fillUp.slots (z_A Γ)) 58 [(0, .ref l0), (1, .ref l1), (2, .int l2), (3, .int l3), (4, .int l4), (5, .int l5), (6, .int l6)] [] h) : ∀ (l0 : Nat) (l1 : Nat) (l2 : Int32) (l3 : Int32) (l4 : Int32) (l5 : Int32) (l6 : Int32) (s0 : Int32) (h : ZH), xX6_fillUp_B87  r58 l0 l1 l2 l3 l4 l5 l6 s0 h = some r → z_W Γ p l e rmX6_fillUp s m args below meth c 9 0 0 (MQ below (z_Qc Γ none r) args s rmX6_fillUp.cells rmX6_fillUp.slots (z_A Γ)) 87 [(0, .ref l0), (1, .ref l1), (2, .int l2), (3, .int l3), (4, .int l4), (5, .int l5), (6, .int l6)] [.int s0] h := by
  intro l0 l1 l2 l3 l4 l5 l6 s0 h hX
  refine z_istore (pc := 87) (lv2 := [(0, .ref l0), (1, .ref l1), (2, .int l2), (3, .int l3), (4, .int l4), (5, .int l5), (6, .int l6), (7, .int s0)]) G dX6_fillUp_87 (by decide) rfl rfl ?_
  refine z_aload_n (pc := 89) G 0 dX6_fillUp_89 rfl rfl ?_
  obtain ⟨x90, hv90, hX⟩ := z_bd hX
  refine z_getR (pc := 90) G kK6 (k := 0) (by decide) kt_310 dX6_fillUp_90 hv90 ?_
  refine z_aload_n (pc := 93) G 1 dX6_fillUp_93 rfl rfl ?_
  refine z_iload_n (pc := 94) G 2 dX6_fillUp_94 rfl rfl ?_
  refine z_iload (pc := 95) G 7 dX6_fillUp_95 rfl ?_
  refine z_iload (pc := 97) G 6 dX6_fillUp_97 rfl ?_
  refine z_iload (pc := 99) G 5 dX6_fillUp_99 rfl ?_
  refine z_imul (pc := 101) G dX6_fillUp_101 ?_
  refine z_iadd (pc := 102) G dX6_fillUp_102 ?_
  refine z_iload (pc := 103) G 4 dX6_fillUp_103 rfl ?_
  obtain ⟨hn105, hX⟩ := z_ng hX
  refine z_irem (pc := 105) G dX6_fillUp_105 hn105 ?_
  obtain ⟨hi106, hX⟩ := z_gu_s hX
  obtain ⟨r106, hv106, hX⟩ := z_bd hX
  refine z_cVI (pc := 106) (As := [.ref l1, .int l2, .int ((s0 + (l6 * l5)) - (s0 + (l6 * l5)) / l4 * l4)]) (c2 := 0) (s2 := 0) G kK0 (lX0_choose hO hv106) hi106 kt_855 kt_5 kt_852 kt_853 kt_854 ydX0_choose ⟨by decide, by decide⟩ rfl (Nat.le_of_ble_eq_true rfl) ⟨rfl, rfl⟩ ⟨by decide, by decide⟩ rfl dX6_fillUp_106 ?_
  refine z_if_ne (pc := 109) (tgt := 113) G dX6_fillUp_109 (by decide) (fun hc109 => ?_) (fun hc109 => ?_)
  · have hX := z_if hc109 hX
    refine z_iload_n (pc := 113) G 2 dX6_fillUp_113 rfl rfl ?_
    refine z_iconst (pc := 114) (v := 3) G dX6_fillUp_114 (by decide) ?_
    refine z_imul (pc := 115) G dX6_fillUp_115 ?_
    refine z_iload (pc := 116) G 6 dX6_fillUp_116 rfl ?_
    refine z_iadd (pc := 118) G dX6_fillUp_118 ?_
    refine z_istore (pc := 119) (lv2 := [(0, .ref l0), (1, .ref l1), (2, .int l2), (3, .int l3), (4, .int l4), (5, .int l5), (6, .int l6), (7, .int s0), (8, .int ((l2 * (3 : Int32)) + l6))]) G dX6_fillUp_119 (by decide) rfl rfl ?_
    refine z_aload_n (pc := 121) G 1 dX6_fillUp_121 rfl rfl ?_
    obtain ⟨x122, hv122, hX⟩ := z_bd hX
    refine z_getR (pc := 122) G kK5 (k := 6) (by decide) kt_207 dX6_fillUp_122 hv122 ?_
    refine z_iload (pc := 125) G 8 dX6_fillUp_125 rfl ?_
    refine z_aload_n (pc := 127) G 0 dX6_fillUp_127 rfl rfl ?_
    obtain ⟨x128, hv128, hX⟩ := z_bd hX
    refine z_getR (pc := 128) G kK6 (k := 0) (by decide) kt_310 dX6_fillUp_128 hv128 ?_
    obtain ⟨x131, hv131, hX⟩ := z_bd hX
    refine z_getI (pc := 131) G kK0 (k := 1) (by decide) kt_285 dX6_fillUp_131 hv131 ?_
    obtain ⟨h134, hv134, hX⟩ := z_bd hX
    refine z_iast (pc := 134) G dX6_fillUp_134 hv134 ?_
    refine z_aload_n (pc := 135) G 1 dX6_fillUp_135 rfl rfl ?_
    obtain ⟨x136, hv136, hX⟩ := z_bd hX
    refine z_getR (pc := 136) G kK5 (k := 7) (by decide) kt_210 dX6_fillUp_136 hv136 ?_
    refine z_iload (pc := 139) G 8 dX6_fillUp_139 rfl ?_
    refine z_aload_n (pc := 141) G 0 dX6_fillUp_141 rfl rfl ?_
    obtain ⟨x142, hv142, hX⟩ := z_bd hX
    refine z_getR (pc := 142) G kK6 (k := 0) (by decide) kt_310 dX6_fillUp_142 hv142 ?_
    obtain ⟨x145, hv145, hX⟩ := z_bd hX
    refine z_getI (pc := 145) G kK0 (k := 2) (by decide) kt_287 dX6_fillUp_145 hv145 ?_
    obtain ⟨h148, hv148, hX⟩ := z_bd hX
    refine z_iast (pc := 148) G dX6_fillUp_148 hv148 ?_
    refine z_aload_n (pc := 149) G 1 dX6_fillUp_149 rfl rfl ?_
    obtain ⟨x150, hv150, hX⟩ := z_bd hX
    refine z_getR (pc := 150) G kK5 (k := 8) (by decide) kt_213 dX6_fillUp_150 hv150 ?_
    refine z_iload (pc := 153) G 8 dX6_fillUp_153 rfl ?_
    refine z_aload_n (pc := 155) G 1 dX6_fillUp_155 rfl rfl ?_
    obtain ⟨x156, hv156, hX⟩ := z_bd hX
    refine z_getI (pc := 156) G kK5 (k := 15) (by decide) kt_233 dX6_fillUp_156 hv156 ?_
    obtain ⟨h159, hv159, hX⟩ := z_bd hX
    refine z_iast (pc := 159) G dX6_fillUp_159 hv159 ?_
    refine z_aload_n (pc := 160) G 1 dX6_fillUp_160 rfl rfl ?_
    obtain ⟨x161, hv161, hX⟩ := z_bd hX
    refine z_getR (pc := 161) G kK5 (k := 5) (by decide) kt_204 dX6_fillUp_161 hv161 ?_
    refine z_iload_n (pc := 164) G 2 dX6_fillUp_164 rfl rfl ?_
    refine z_iload (pc := 165) G 6 dX6_fillUp_165 rfl ?_
    refine z_iconst (pc := 167) (v := 1) G dX6_fillUp_167 (by decide) ?_
    refine z_iadd (pc := 168) G dX6_fillUp_168 ?_
    obtain ⟨h169, hv169, hX⟩ := z_bd hX
    refine z_iast (pc := 169) G dX6_fillUp_169 hv169 ?_
    refine z_iincw (pc := 170) (w := 1) (lv2 := [(0, .ref l0), (1, .ref l1), (2, .int l2), (3, .int l3), (4, .int l4), (5, .int l5), (6, .int (l6 + 1)), (7, .int s0), (8, .int ((l2 * (3 : Int32)) + l6))]) G 6 dX6_fillUp_170 rfl (by decide) (by decide) rfl rfl ?_
    refine z_goto (pc := 173) (tgt := 58) G dX6_fillUp_173 (by decide) ?_
    refine z_drop (lv2 := [(0, .ref l0), (1, .ref l1), (2, .int l2), (3, .int l3), (4, .int l4), (5, .int l5), (6, .int (l6 + 1))]) [0, 1, 2, 3, 4, 5, 6] rfl ?_
    exact H58 _ _ _ _ _ _ _ _ hX
  · have hX := z_it hc109 hX
    exact z_vretX (pc := 112) hX G hr dX6_fillUp_112 (by decide) (by decide)
noncomputable def xX6_fillUp_B58 (r58 : Nat → Nat → Int32 → Int32 → Int32 → Int32 → Int32 → ZH → Option ZH) (l0 : Nat) (l1 : Nat) (l2 : Int32) (l3 : Int32) (l4 : Int32) (l5 : Int32) (l6 : Int32) (h : ZH) : Option ZH := (if l3 ≤ l6 then some h else (if l6 = 0 then (z_gu (z_is h l1 5) ((xX5_drawSeed l1 h).bind fun r70 => (if l4 = 0 then none else xX6_fillUp_B87 r58 l0 l1 l2 l3 l4 l5 l6 (r70.1 - r70.1 / l4 * l4) r70.2))) else ((z_gR h l1 5 6).bind fun x80 => ((z_aI h x80 (l2 * (3 : Int32))).bind fun x86 => xX6_fillUp_B87 r58 l0 l1 l2 l3 l4 l5 l6 x86 h))))
noncomputable def xX6_fillUp_L58 (n : Nat) : Nat → Nat → Int32 → Int32 → Int32 → Int32 → Int32 → ZH → Option ZH := Nat.rec (motive := fun _ => Nat → Nat → Int32 → Int32 → Int32 → Int32 → Int32 → ZH → Option ZH) (fun _ _ _ _ _ _ _ _ => none) (fun _ rec => xX6_fillUp_B58  rec) n
set_option maxHeartbeats 4000000 in
set_option maxRecDepth 100000 in
theorem wX6_fillUp_B58 {Γ : ZG} {p : Program} {l : Launch} {e : Env} {s : State} {m : MethodId} {args : Array Value} {below : List Frame} {meth : Method} {c : Code} (hO : z_OK Γ) (G : z_GG Γ p s m args meth c cX6_fillUp 9 RX6) (hr : meth.sig.returnType = none) (hnm : meth.name = "fillUp") {r : ZH} {r58 : Nat → Nat → Int32 → Int32 → Int32 → Int32 → Int32 → ZH → Option ZH} (H58 : ∀ (l0 : Nat) (l1 : Nat) (l2 : Int32) (l3 : Int32) (l4 : Int32) (l5 : Int32) (l6 : Int32) (h : ZH), r58 l0 l1 l2 l3 l4 l5 l6 h = some r → z_W Γ p l e rmX6_fillUp s m args below meth c 9 0 0 (MQ below (z_Qc Γ none r) args s rmX6_fillUp.cells rmX6_fillUp.slots (z_A Γ)) 58 [(0, .ref l0), (1, .ref l1), (2, .int l2), (3, .int l3), (4, .int l4), (5, .int l5), (6, .int l6)] [] h) : ∀ (l0 : Nat) (l1 : Nat) (l2 : Int32) (l3 : Int32) (l4 : Int32) (l5 : Int32) (l6 : Int32) (h : ZH), xX6_fillUp_B58  r58 l0 l1 l2 l3 l4 l5 l6 h = some r → z_W Γ p l e rmX6_fillUp s m args below meth c 9 0 0 (MQ below (z_Qc Γ none r) args s rmX6_fillUp.cells rmX6_fillUp.slots (z_A Γ)) 58 [(0, .ref l0), (1, .ref l1), (2, .int l2), (3, .int l3), (4, .int l4), (5, .int l5), (6, .int l6)] [] h := by
  intro l0 l1 l2 l3 l4 l5 l6 h hX
  refine z_iload (pc := 58) G 6 dX6_fillUp_58 rfl ?_
  refine z_iload_n (pc := 60) G 3 dX6_fillUp_60 rfl rfl ?_
  refine z_icmp_ge (pc := 61) (tgt := 176) G dX6_fillUp_61 (by decide) (fun hc61 => ?_) (fun hc61 => ?_)
  · have hX := z_it hc61 hX
    exact z_vretX (pc := 176) hX G hr dX6_fillUp_176 (by decide) (by decide)
  · have hX := z_if hc61 hX
    refine z_iload (pc := 64) G 6 dX6_fillUp_64 rfl ?_
    refine z_if_ne (pc := 66) (tgt := 79) G dX6_fillUp_66 (by decide) (fun hc66 => ?_) (fun hc66 => ?_)
    · have hX := z_if hc66 hX
      refine z_aload_n (pc := 79) G 1 dX6_fillUp_79 rfl rfl ?_
      obtain ⟨x80, hv80, hX⟩ := z_bd hX
      refine z_getR (pc := 80) G kK5 (k := 6) (by decide) kt_207 dX6_fillUp_80 hv80 ?_
      refine z_iload_n (pc := 83) G 2 dX6_fillUp_83 rfl rfl ?_
      refine z_iconst (pc := 84) (v := 3) G dX6_fillUp_84 (by decide) ?_
      refine z_imul (pc := 85) G dX6_fillUp_85 ?_
      obtain ⟨x86, hv86, hX⟩ := z_bd hX
      refine z_iald (pc := 86) G dX6_fillUp_86 hv86 ?_
      exact wX6_fillUp_B87 hO G hr hnm H58 _ _ _ _ _ _ _ _ _ hX
    · have hX := z_it hc66 hX
      refine z_aload_n (pc := 69) G 1 dX6_fillUp_69 rfl rfl ?_
      obtain ⟨hi70, hX⟩ := z_gu_s hX
      obtain ⟨r70, hv70, hX⟩ := z_bd hX
      refine z_cVI (pc := 70) (As := []) (c2 := 0) (s2 := 0) G kK5 (lX5_drawSeed hO hv70) hi70 kt_851 kt_4 kt_848 kt_849 kt_850 ydX5_drawSeed ⟨by decide, by decide⟩ rfl (Nat.le_of_ble_eq_true rfl) ⟨rfl, rfl⟩ ⟨by decide, by decide⟩ rfl dX6_fillUp_70 ?_
      refine z_iload (pc := 73) G 4 dX6_fillUp_73 rfl ?_
      obtain ⟨hn75, hX⟩ := z_ng hX
      refine z_irem (pc := 75) G dX6_fillUp_75 hn75 ?_
      refine z_goto (pc := 76) (tgt := 87) G dX6_fillUp_76 (by decide) ?_
      exact wX6_fillUp_B87 hO G hr hnm H58 _ _ _ _ _ _ _ _ _ hX
set_option maxHeartbeats 4000000 in
set_option maxRecDepth 100000 in
theorem wX6_fillUp_L58 {Γ : ZG} {p : Program} {l : Launch} {e : Env} {s : State} {m : MethodId} {args : Array Value} {below : List Frame} {meth : Method} {c : Code} (hO : z_OK Γ) (G : z_GG Γ p s m args meth c cX6_fillUp 9 RX6) (hr : meth.sig.returnType = none) (hnm : meth.name = "fillUp") {r : ZH} : ∀ (nn : Nat) (l0 : Nat) (l1 : Nat) (l2 : Int32) (l3 : Int32) (l4 : Int32) (l5 : Int32) (l6 : Int32) (h : ZH), xX6_fillUp_L58  nn l0 l1 l2 l3 l4 l5 l6 h = some r → z_W Γ p l e rmX6_fillUp s m args below meth c 9 0 0 (MQ below (z_Qc Γ none r) args s rmX6_fillUp.cells rmX6_fillUp.slots (z_A Γ)) 58 [(0, .ref l0), (1, .ref l1), (2, .int l2), (3, .int l3), (4, .int l4), (5, .int l5), (6, .int l6)] [] h := by
  intro nn
  induction nn with
  | zero => intro l0 l1 l2 l3 l4 l5 l6 h hX; cases hX
  | succ nn ih => intro l0 l1 l2 l3 l4 l5 l6 h hX; exact wX6_fillUp_B58 hO G hr hnm  ih l0 l1 l2 l3 l4 l5 l6 h hX
noncomputable def xX6_fillUp_B44 (l0 : Nat) (l1 : Nat) (l2 : Int32) (l3 : Int32) (l4 : Int32) (h : ZH) : Option ZH := (if l3 = 0 then none else ((z_gR h l1 5 5).bind fun x51 => ((z_aI h x51 l2).bind fun x55 => xX6_fillUp_L58 zFU l0 l1 l2 l3 l4 (l4 / l3) x55 h)))
set_option maxHeartbeats 4000000 in
set_option maxRecDepth 100000 in
theorem wX6_fillUp_B44 {Γ : ZG} {p : Program} {l : Launch} {e : Env} {s : State} {m : MethodId} {args : Array Value} {below : List Frame} {meth : Method} {c : Code} (hO : z_OK Γ) (G : z_GG Γ p s m args meth c cX6_fillUp 9 RX6) (hr : meth.sig.returnType = none) (hnm : meth.name = "fillUp") {r : ZH} : ∀ (l0 : Nat) (l1 : Nat) (l2 : Int32) (l3 : Int32) (l4 : Int32) (h : ZH), xX6_fillUp_B44  l0 l1 l2 l3 l4 h = some r → z_W Γ p l e rmX6_fillUp s m args below meth c 9 0 0 (MQ below (z_Qc Γ none r) args s rmX6_fillUp.cells rmX6_fillUp.slots (z_A Γ)) 44 [(0, .ref l0), (1, .ref l1), (2, .int l2), (3, .int l3), (4, .int l4)] [] h := by
  intro l0 l1 l2 l3 l4 h hX
  refine z_iload (pc := 44) G 4 dX6_fillUp_44 rfl ?_
  refine z_iload_n (pc := 46) G 3 dX6_fillUp_46 rfl rfl ?_
  obtain ⟨hn47, hX⟩ := z_ng hX
  refine z_idiv (pc := 47) G dX6_fillUp_47 hn47 ?_
  refine z_istore (pc := 48) (lv2 := [(0, .ref l0), (1, .ref l1), (2, .int l2), (3, .int l3), (4, .int l4), (5, .int (l4 / l3))]) G dX6_fillUp_48 (by decide) rfl rfl ?_
  refine z_aload_n (pc := 50) G 1 dX6_fillUp_50 rfl rfl ?_
  obtain ⟨x51, hv51, hX⟩ := z_bd hX
  refine z_getR (pc := 51) G kK5 (k := 5) (by decide) kt_204 dX6_fillUp_51 hv51 ?_
  refine z_iload_n (pc := 54) G 2 dX6_fillUp_54 rfl rfl ?_
  obtain ⟨x55, hv55, hX⟩ := z_bd hX
  refine z_iald (pc := 55) G dX6_fillUp_55 hv55 ?_
  refine z_istore (pc := 56) (lv2 := [(0, .ref l0), (1, .ref l1), (2, .int l2), (3, .int l3), (4, .int l4), (5, .int (l4 / l3)), (6, .int x55)]) G dX6_fillUp_56 (by decide) rfl rfl ?_
  exact wX6_fillUp_L58 hO G hr hnm zFU _ _ _ _ _ _ _ _ hX
noncomputable def xX6_fillUp (l0 : Nat) (l1 : Nat) (l2 : Int32) (h : ZH) : Option ZH := (z_gu (z_is h l1 5) ((xX5_howOften l1 l2 h).bind fun r2 => ((z_gR r2.2 l1 5 0).bind fun x7 => ((z_gI r2.2 x7 2 0).bind fun x10 => (if x10 < (1 : Int32) then some r2.2 else (if (1 : Int32) ≤ r2.1 then ((z_gR r2.2 l1 5 5).bind fun x28 => ((z_aI r2.2 x28 l2).bind fun x32 => (if x32 ≤ r2.1 then xX6_fillUp_B44 l0 l1 l2 r2.1 x10 r2.2 else ((z_gR r2.2 l1 5 5).bind fun x38 => ((z_uI r2.2 x38 l2 r2.1).bind fun h43 => xX6_fillUp_B44 l0 l1 l2 r2.1 x10 h43))))) else some r2.2))))))
set_option maxHeartbeats 4000000 in
set_option maxRecDepth 100000 in
theorem lX6_fillUp {Γ : ZG} {l : Launch} (hO : z_OK Γ) {l0 : Nat} {l1 : Nat} {l2 : Int32} {h : ZH} {r : ZH} (hX : xX6_fillUp l0 l1 l2 h = some r) : z_M Γ l yX6_fillUp (z_ws1 yX6_fillUp cX6_fillUp 9 none) rmX6_fillUp [.ref l0, .ref l1, .int l2] h none r := by
  refine z_start hO (plainFor_of_name (by decide)) (Nat.le_of_ble_eq_true rfl) ?_
  intro p e s m args below meth c G hr hnm
  refine z_lvc (lv2 := [(0, .ref l0), (1, .ref l1), (2, .int l2)]) rfl ?_
  refine z_aload_n (pc := 0) G 1 dX6_fillUp_0 rfl rfl ?_
  refine z_iload_n (pc := 1) G 2 dX6_fillUp_1 rfl rfl ?_
  obtain ⟨hi2, hX⟩ := z_gu_s hX
  obtain ⟨r2, hv2, hX⟩ := z_bd hX
  refine z_cVI (pc := 2) (As := [.int l2]) (c2 := 0) (s2 := 0) G kK5 (lX5_howOften hO hv2) hi2 kt_831 kt_4 kt_828 kt_829 kt_830 ydX5_howOften ⟨by decide, by decide⟩ rfl (Nat.le_of_ble_eq_true rfl) ⟨rfl, rfl⟩ ⟨by decide, by decide⟩ rfl dX6_fillUp_2 ?_
  refine z_istore_n (pc := 5) (lv2 := [(0, .ref l0), (1, .ref l1), (2, .int l2), (3, .int r2.1)]) G dX6_fillUp_5 rfl (by decide) rfl rfl ?_
  refine z_aload_n (pc := 6) G 1 dX6_fillUp_6 rfl rfl ?_
  obtain ⟨x7, hv7, hX⟩ := z_bd hX
  refine z_getR (pc := 7) G kK5 (k := 0) (by decide) kt_190 dX6_fillUp_7 hv7 ?_
  obtain ⟨x10, hv10, hX⟩ := z_bd hX
  refine z_getI (pc := 10) G kK2 (k := 0) (by decide) kt_41 dX6_fillUp_10 hv10 ?_
  refine z_istore (pc := 13) (lv2 := [(0, .ref l0), (1, .ref l1), (2, .int l2), (3, .int r2.1), (4, .int x10)]) G dX6_fillUp_13 (by decide) rfl rfl ?_
  refine z_iload (pc := 15) G 4 dX6_fillUp_15 rfl ?_
  refine z_iconst (pc := 17) (v := 1) G dX6_fillUp_17 (by decide) ?_
  refine z_icmp_lt (pc := 18) (tgt := 26) G dX6_fillUp_18 (by decide) (fun hc18 => ?_) (fun hc18 => ?_)
  · have hX := z_it hc18 hX
    exact z_vretX (pc := 26) hX G hr dX6_fillUp_26 (by decide) (by decide)
  · have hX := z_if hc18 hX
    refine z_iload_n (pc := 21) G 3 dX6_fillUp_21 rfl rfl ?_
    refine z_iconst (pc := 22) (v := 1) G dX6_fillUp_22 (by decide) ?_
    refine z_icmp_ge (pc := 23) (tgt := 27) G dX6_fillUp_23 (by decide) (fun hc23 => ?_) (fun hc23 => ?_)
    · have hX := z_it hc23 hX
      refine z_aload_n (pc := 27) G 1 dX6_fillUp_27 rfl rfl ?_
      obtain ⟨x28, hv28, hX⟩ := z_bd hX
      refine z_getR (pc := 28) G kK5 (k := 5) (by decide) kt_204 dX6_fillUp_28 hv28 ?_
      refine z_iload_n (pc := 31) G 2 dX6_fillUp_31 rfl rfl ?_
      obtain ⟨x32, hv32, hX⟩ := z_bd hX
      refine z_iald (pc := 32) G dX6_fillUp_32 hv32 ?_
      refine z_iload_n (pc := 33) G 3 dX6_fillUp_33 rfl rfl ?_
      refine z_icmp_le (pc := 34) (tgt := 44) G dX6_fillUp_34 (by decide) (fun hc34 => ?_) (fun hc34 => ?_)
      · have hX := z_it hc34 hX
        exact wX6_fillUp_B44 hO G hr hnm _ _ _ _ _ _ hX
      · have hX := z_if hc34 hX
        refine z_aload_n (pc := 37) G 1 dX6_fillUp_37 rfl rfl ?_
        obtain ⟨x38, hv38, hX⟩ := z_bd hX
        refine z_getR (pc := 38) G kK5 (k := 5) (by decide) kt_204 dX6_fillUp_38 hv38 ?_
        refine z_iload_n (pc := 41) G 2 dX6_fillUp_41 rfl rfl ?_
        refine z_iload_n (pc := 42) G 3 dX6_fillUp_42 rfl rfl ?_
        obtain ⟨h43, hv43, hX⟩ := z_bd hX
        refine z_iast (pc := 43) G dX6_fillUp_43 hv43 ?_
        exact wX6_fillUp_B44 hO G hr hnm _ _ _ _ _ _ hX
    · have hX := z_if hc23 hX
      exact z_vretX (pc := 26) hX G hr dX6_fillUp_26 (by decide) (by decide)
theorem dX6_beginFrame_0 : decode cX6_beginFrame 0 = .ok (.aload_n 1, 1) := by decide +kernel
theorem dX6_beginFrame_1 : decode cX6_beginFrame 1 = .ok (.getfield 46, 3) := by decide +kernel
theorem dX6_beginFrame_4 : decode cX6_beginFrame 4 = .ok (.ifCond .le 11, 3) := by decide +kernel
theorem dX6_beginFrame_7 : decode cX6_beginFrame 7 = .ok (.aload_n 1, 1) := by decide +kernel
theorem dX6_beginFrame_8 : decode cX6_beginFrame 8 = .ok (.invokevirtual 49, 3) := by decide +kernel
theorem dX6_beginFrame_11 : decode cX6_beginFrame 11 = .ok (.aload_n 1, 1) := by decide +kernel
theorem dX6_beginFrame_12 : decode cX6_beginFrame 12 = .ok (.invokevirtual 52, 3) := by decide +kernel
theorem dX6_beginFrame_15 : decode cX6_beginFrame 15 = .ok (.iconst 0, 1) := by decide +kernel
theorem dX6_beginFrame_16 : decode cX6_beginFrame 16 = .ok (.istore_n 2, 1) := by decide +kernel
theorem dX6_beginFrame_17 : decode cX6_beginFrame 17 = .ok (.iload_n 2, 1) := by decide +kernel
theorem dX6_beginFrame_18 : decode cX6_beginFrame 18 = .ok (.aload_n 1, 1) := by decide +kernel
theorem dX6_beginFrame_19 : decode cX6_beginFrame 19 = .ok (.getfield 55, 3) := by decide +kernel
theorem dX6_beginFrame_22 : decode cX6_beginFrame 22 = .ok (.getfield 59, 3) := by decide +kernel
theorem dX6_beginFrame_25 : decode cX6_beginFrame 25 = .ok (.if_icmp .ge 39, 3) := by decide +kernel
theorem dX6_beginFrame_28 : decode cX6_beginFrame 28 = .ok (.aload_n 1, 1) := by decide +kernel
theorem dX6_beginFrame_29 : decode cX6_beginFrame 29 = .ok (.iload_n 2, 1) := by decide +kernel
theorem dX6_beginFrame_30 : decode cX6_beginFrame 30 = .ok (.invokevirtual 64, 3) := by decide +kernel
theorem dX6_beginFrame_33 : decode cX6_beginFrame 33 = .ok (.ifCond .eq 25, 3) := by decide +kernel
theorem dX6_beginFrame_36 : decode cX6_beginFrame 36 = .ok (.aload_n 1, 1) := by decide +kernel
theorem dX6_beginFrame_37 : decode cX6_beginFrame 37 = .ok (.getfield 46, 3) := by decide +kernel
theorem dX6_beginFrame_40 : decode cX6_beginFrame 40 = .ok (.aload_n 1, 1) := by decide +kernel
theorem dX6_beginFrame_41 : decode cX6_beginFrame 41 = .ok (.getfield 55, 3) := by decide +kernel
theorem dX6_beginFrame_44 : decode cX6_beginFrame 44 = .ok (.getfield 68, 3) := by decide +kernel
theorem dX6_beginFrame_47 : decode cX6_beginFrame 47 = .ok (.iload_n 2, 1) := by decide +kernel
theorem dX6_beginFrame_48 : decode cX6_beginFrame 48 = .ok (.iaload, 1) := by decide +kernel
theorem dX6_beginFrame_49 : decode cX6_beginFrame 49 = .ok (.if_icmp .le 9, 3) := by decide +kernel
theorem dX6_beginFrame_52 : decode cX6_beginFrame 52 = .ok (.aload_n 0, 1) := by decide +kernel
theorem dX6_beginFrame_53 : decode cX6_beginFrame 53 = .ok (.aload_n 1, 1) := by decide +kernel
theorem dX6_beginFrame_54 : decode cX6_beginFrame 54 = .ok (.iload_n 2, 1) := by decide +kernel
theorem dX6_beginFrame_55 : decode cX6_beginFrame 55 = .ok (.invokevirtual 71, 3) := by decide +kernel
theorem dX6_beginFrame_58 : decode cX6_beginFrame 58 = .ok (.iinc 2 1, 3) := by decide +kernel
theorem dX6_beginFrame_61 : decode cX6_beginFrame 61 = .ok (.goto (-44), 3) := by decide +kernel
theorem dX6_beginFrame_64 : decode cX6_beginFrame 64 = .ok (.return_, 1) := by decide +kernel
theorem ydX6_beginFrame : z_yd yX6_beginFrame 1 := ⟨by decide, by decide, by decide +kernel⟩
abbrev rmX6_beginFrame : Room := { frames := 5, cells := 0, slots := 0, locals := 133 }
noncomputable def xX6_beginFrame_B17 (r17 : Nat → Nat → Int32 → ZH → Option ZH) (l0 : Nat) (l1 : Nat) (l2 : Int32) (h : ZH) : Option ZH := ((z_gR h l1 5 0).bind fun x19 => ((z_gI h x19 2 7).bind fun x22 => (if x22 ≤ l2 then some h else (z_gu (z_is h l1 5) ((xX5_isOn l1 l2 h).bind fun r30 => (if r30.1 = 0 then r17 l0 l1 (l2 + 1) r30.2 else ((z_gI r30.2 l1 5 15).bind fun x37 => ((z_gR r30.2 l1 5 0).bind fun x41 => ((z_gR r30.2 x41 2 13).bind fun x44 => ((z_aI r30.2 x44 l2).bind fun x48 => (if x37 ≤ x48 then r17 l0 l1 (l2 + 1) r30.2 else (z_gu (z_is r30.2 l0 6) ((xX6_fillUp l0 l1 l2 r30.2).bind fun h55 => r17 l0 l1 (l2 + 1) h55)))))))))))))
noncomputable def xX6_beginFrame_L17 (n : Nat) : Nat → Nat → Int32 → ZH → Option ZH := Nat.rec (motive := fun _ => Nat → Nat → Int32 → ZH → Option ZH) (fun _ _ _ _ => none) (fun _ rec => xX6_beginFrame_B17  rec) n
set_option maxHeartbeats 4000000 in
set_option maxRecDepth 100000 in
theorem wX6_beginFrame_B17 {Γ : ZG} {p : Program} {l : Launch} {e : Env} {s : State} {m : MethodId} {args : Array Value} {below : List Frame} {meth : Method} {c : Code} (hO : z_OK Γ) (G : z_GG Γ p s m args meth c cX6_beginFrame 3 RX6) (hr : meth.sig.returnType = none) (hnm : meth.name = "beginFrame") {r : ZH} {r17 : Nat → Nat → Int32 → ZH → Option ZH} (H17 : ∀ (l0 : Nat) (l1 : Nat) (l2 : Int32) (h : ZH), r17 l0 l1 l2 h = some r → z_W Γ p l e rmX6_beginFrame s m args below meth c 3 0 0 (MQ below (z_Qc Γ none r) args s rmX6_beginFrame.cells rmX6_beginFrame.slots (z_A Γ)) 17 [(0, .ref l0), (1, .ref l1), (2, .int l2)] [] h) : ∀ (l0 : Nat) (l1 : Nat) (l2 : Int32) (h : ZH), xX6_beginFrame_B17  r17 l0 l1 l2 h = some r → z_W Γ p l e rmX6_beginFrame s m args below meth c 3 0 0 (MQ below (z_Qc Γ none r) args s rmX6_beginFrame.cells rmX6_beginFrame.slots (z_A Γ)) 17 [(0, .ref l0), (1, .ref l1), (2, .int l2)] [] h := by
  intro l0 l1 l2 h hX
  refine z_iload_n (pc := 17) G 2 dX6_beginFrame_17 rfl rfl ?_
  refine z_aload_n (pc := 18) G 1 dX6_beginFrame_18 rfl rfl ?_
  obtain ⟨x19, hv19, hX⟩ := z_bd hX
  refine z_getR (pc := 19) G kK5 (k := 0) (by decide) kt_190 dX6_beginFrame_19 hv19 ?_
  obtain ⟨x22, hv22, hX⟩ := z_bd hX
  refine z_getI (pc := 22) G kK2 (k := 7) (by decide) kt_68 dX6_beginFrame_22 hv22 ?_
  refine z_icmp_ge (pc := 25) (tgt := 64) G dX6_beginFrame_25 (by decide) (fun hc25 => ?_) (fun hc25 => ?_)
  · have hX := z_it hc25 hX
    exact z_vretX (pc := 64) hX G hr dX6_beginFrame_64 (by decide) (by decide)
  · have hX := z_if hc25 hX
    refine z_aload_n (pc := 28) G 1 dX6_beginFrame_28 rfl rfl ?_
    refine z_iload_n (pc := 29) G 2 dX6_beginFrame_29 rfl rfl ?_
    obtain ⟨hi30, hX⟩ := z_gu_s hX
    obtain ⟨r30, hv30, hX⟩ := z_bd hX
    refine z_cVI (pc := 30) (As := [.int l2]) (c2 := 0) (s2 := 0) G kK5 (lX5_isOn hO hv30) hi30 kt_736 kt_4 kt_823 kt_734 kt_735 ydX5_isOn ⟨by decide, by decide⟩ rfl (Nat.le_of_ble_eq_true rfl) ⟨rfl, rfl⟩ ⟨by decide, by decide⟩ rfl dX6_beginFrame_30 ?_
    refine z_if_eq (pc := 33) (tgt := 58) G dX6_beginFrame_33 (by decide) (fun hc33 => ?_) (fun hc33 => ?_)
    · have hX := z_it hc33 hX
      refine z_iincw (pc := 58) (w := 1) (lv2 := [(0, .ref l0), (1, .ref l1), (2, .int (l2 + 1))]) G 2 dX6_beginFrame_58 rfl (by decide) (by decide) rfl rfl ?_
      refine z_goto (pc := 61) (tgt := 17) G dX6_beginFrame_61 (by decide) ?_
      exact H17 _ _ _ _ hX
    · have hX := z_if hc33 hX
      refine z_aload_n (pc := 36) G 1 dX6_beginFrame_36 rfl rfl ?_
      obtain ⟨x37, hv37, hX⟩ := z_bd hX
      refine z_getI (pc := 37) G kK5 (k := 15) (by decide) kt_233 dX6_beginFrame_37 hv37 ?_
      refine z_aload_n (pc := 40) G 1 dX6_beginFrame_40 rfl rfl ?_
      obtain ⟨x41, hv41, hX⟩ := z_bd hX
      refine z_getR (pc := 41) G kK5 (k := 0) (by decide) kt_190 dX6_beginFrame_41 hv41 ?_
      obtain ⟨x44, hv44, hX⟩ := z_bd hX
      refine z_getR (pc := 44) G kK2 (k := 13) (by decide) kt_93 dX6_beginFrame_44 hv44 ?_
      refine z_iload_n (pc := 47) G 2 dX6_beginFrame_47 rfl rfl ?_
      obtain ⟨x48, hv48, hX⟩ := z_bd hX
      refine z_iald (pc := 48) G dX6_beginFrame_48 hv48 ?_
      refine z_icmp_le (pc := 49) (tgt := 58) G dX6_beginFrame_49 (by decide) (fun hc49 => ?_) (fun hc49 => ?_)
      · have hX := z_it hc49 hX
        refine z_iincw (pc := 58) (w := 1) (lv2 := [(0, .ref l0), (1, .ref l1), (2, .int (l2 + 1))]) G 2 dX6_beginFrame_58 rfl (by decide) (by decide) rfl rfl ?_
        refine z_goto (pc := 61) (tgt := 17) G dX6_beginFrame_61 (by decide) ?_
        exact H17 _ _ _ _ hX
      · have hX := z_if hc49 hX
        refine z_aload_n (pc := 52) G 0 dX6_beginFrame_52 rfl rfl ?_
        refine z_aload_n (pc := 53) G 1 dX6_beginFrame_53 rfl rfl ?_
        refine z_iload_n (pc := 54) G 2 dX6_beginFrame_54 rfl rfl ?_
        obtain ⟨hi55, hX⟩ := z_gu_s hX
        obtain ⟨h55, hv55, hX⟩ := z_bd hX
        refine z_cVV (pc := 55) (As := [.ref l1, .int l2]) (c2 := 0) (s2 := 0) G kK6 (lX6_fillUp hO hv55) hi55 kt_827 kt_6 kt_824 kt_826 ks_21 ydX6_fillUp ⟨by decide, by decide⟩ rfl (Nat.le_of_ble_eq_true rfl) ⟨rfl, rfl⟩ ⟨by decide, by decide⟩ rfl dX6_beginFrame_55 ?_
        refine z_iincw (pc := 58) (w := 1) (lv2 := [(0, .ref l0), (1, .ref l1), (2, .int (l2 + 1))]) G 2 dX6_beginFrame_58 rfl (by decide) (by decide) rfl rfl ?_
        refine z_goto (pc := 61) (tgt := 17) G dX6_beginFrame_61 (by decide) ?_
        exact H17 _ _ _ _ hX
set_option maxHeartbeats 4000000 in
set_option maxRecDepth 100000 in
theorem wX6_beginFrame_L17 {Γ : ZG} {p : Program} {l : Launch} {e : Env} {s : State} {m : MethodId} {args : Array Value} {below : List Frame} {meth : Method} {c : Code} (hO : z_OK Γ) (G : z_GG Γ p s m args meth c cX6_beginFrame 3 RX6) (hr : meth.sig.returnType = none) (hnm : meth.name = "beginFrame") {r : ZH} : ∀ (nn : Nat) (l0 : Nat) (l1 : Nat) (l2 : Int32) (h : ZH), xX6_beginFrame_L17  nn l0 l1 l2 h = some r → z_W Γ p l e rmX6_beginFrame s m args below meth c 3 0 0 (MQ below (z_Qc Γ none r) args s rmX6_beginFrame.cells rmX6_beginFrame.slots (z_A Γ)) 17 [(0, .ref l0), (1, .ref l1), (2, .int l2)] [] h := by
  intro nn
  induction nn with
  | zero => intro l0 l1 l2 h hX; cases hX
  | succ nn ih => intro l0 l1 l2 h hX; exact wX6_beginFrame_B17 hO G hr hnm  ih l0 l1 l2 h hX
noncomputable def xX6_beginFrame (l0 : Nat) (l1 : Nat) (h : ZH) : Option ZH := ((z_gI h l1 5 15).bind fun x1 => (if x1 ≤ 0 then xX6_beginFrame_L17 zFU l0 l1 (0 : Int32) h else (z_gu (z_is h l1 5) ((xX5_moveAll l1 h).bind fun h8 => (z_gu (z_is h8 l1 5) ((xX5_ageMaps l1 h8).bind fun h12 => xX6_beginFrame_L17 zFU l0 l1 (0 : Int32) h12))))))
set_option maxHeartbeats 4000000 in
set_option maxRecDepth 100000 in
theorem lX6_beginFrame {Γ : ZG} {l : Launch} (hO : z_OK Γ) {l0 : Nat} {l1 : Nat} {h : ZH} {r : ZH} (hX : xX6_beginFrame l0 l1 h = some r) : z_M Γ l yX6_beginFrame (z_ws1 yX6_beginFrame cX6_beginFrame 3 none) rmX6_beginFrame [.ref l0, .ref l1] h none r := by
  refine z_start hO (plainFor_of_name (by decide)) (Nat.le_of_ble_eq_true rfl) ?_
  intro p e s m args below meth c G hr hnm
  refine z_lvc (lv2 := [(0, .ref l0), (1, .ref l1)]) rfl ?_
  refine z_aload_n (pc := 0) G 1 dX6_beginFrame_0 rfl rfl ?_
  obtain ⟨x1, hv1, hX⟩ := z_bd hX
  refine z_getI (pc := 1) G kK5 (k := 15) (by decide) kt_233 dX6_beginFrame_1 hv1 ?_
  refine z_if_le (pc := 4) (tgt := 15) G dX6_beginFrame_4 (by decide) (fun hc4 => ?_) (fun hc4 => ?_)
  · have hX := z_it hc4 hX
    refine z_iconst (pc := 15) (v := 0) G dX6_beginFrame_15 (by decide) ?_
    refine z_istore_n (pc := 16) (lv2 := [(0, .ref l0), (1, .ref l1), (2, .int (0 : Int32))]) G dX6_beginFrame_16 rfl (by decide) rfl rfl ?_
    exact wX6_beginFrame_L17 hO G hr hnm zFU _ _ _ _ hX
  · have hX := z_if hc4 hX
    refine z_aload_n (pc := 7) G 1 dX6_beginFrame_7 rfl rfl ?_
    obtain ⟨hi8, hX⟩ := z_gu_s hX
    obtain ⟨h8, hv8, hX⟩ := z_bd hX
    refine z_cVV (pc := 8) (As := []) (c2 := 0) (s2 := 0) G kK5 (lX5_moveAll hO hv8) hi8 kt_815 kt_4 kt_812 kt_813 kt_814 ydX5_moveAll ⟨by decide, by decide⟩ rfl (Nat.le_of_ble_eq_true rfl) ⟨rfl, rfl⟩ ⟨by decide, by decide⟩ rfl dX6_beginFrame_8 ?_
    refine z_aload_n (pc := 11) G 1 dX6_beginFrame_11 rfl rfl ?_
    obtain ⟨hi12, hX⟩ := z_gu_s hX
    obtain ⟨h12, hv12, hX⟩ := z_bd hX
    refine z_cVV (pc := 12) (As := []) (c2 := 0) (s2 := 0) G kK5 (lX5_ageMaps hO hv12) hi12 kt_822 kt_4 kt_819 kt_820 kt_821 ydX5_ageMaps ⟨by decide, by decide⟩ rfl (Nat.le_of_ble_eq_true rfl) ⟨rfl, rfl⟩ ⟨by decide, by decide⟩ rfl dX6_beginFrame_12 ?_
    refine z_iconst (pc := 15) (v := 0) G dX6_beginFrame_15 (by decide) ?_
    refine z_istore_n (pc := 16) (lv2 := [(0, .ref l0), (1, .ref l1), (2, .int (0 : Int32))]) G dX6_beginFrame_16 rfl (by decide) rfl rfl ?_
    exact wX6_beginFrame_L17 hO G hr hnm zFU _ _ _ _ hX
