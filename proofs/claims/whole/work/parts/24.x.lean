theorem dX9_doesFit_0 : decode cX9_doesFit 0 = .ok (.iconst 0, 1) := by decide +kernel
theorem dX9_doesFit_1 : decode cX9_doesFit 1 = .ok (.istore_n 3, 1) := by decide +kernel
theorem dX9_doesFit_2 : decode cX9_doesFit 2 = .ok (.iload_n 3, 1) := by decide +kernel
theorem dX9_doesFit_3 : decode cX9_doesFit 3 = .ok (.aload_n 0, 1) := by decide +kernel
theorem dX9_doesFit_4 : decode cX9_doesFit 4 = .ok (.getfield 377, 3) := by decide +kernel
theorem dX9_doesFit_7 : decode cX9_doesFit 7 = .ok (.if_icmp .ge 78, 3) := by decide +kernel
theorem dX9_doesFit_10 : decode cX9_doesFit 10 = .ok (.aload_n 0, 1) := by decide +kernel
theorem dX9_doesFit_11 : decode cX9_doesFit 11 = .ok (.getfield 124, 3) := by decide +kernel
theorem dX9_doesFit_14 : decode cX9_doesFit 14 = .ok (.iload_n 3, 1) := by decide +kernel
theorem dX9_doesFit_15 : decode cX9_doesFit 15 = .ok (.iaload, 1) := by decide +kernel
theorem dX9_doesFit_16 : decode cX9_doesFit 16 = .ok (.iload_n 2, 1) := by decide +kernel
theorem dX9_doesFit_17 : decode cX9_doesFit 17 = .ok (.if_icmp .gt 62, 3) := by decide +kernel
theorem dX9_doesFit_20 : decode cX9_doesFit 20 = .ok (.aload_n 0, 1) := by decide +kernel
theorem dX9_doesFit_21 : decode cX9_doesFit 21 = .ok (.getfield 127, 3) := by decide +kernel
theorem dX9_doesFit_24 : decode cX9_doesFit 24 = .ok (.iload_n 3, 1) := by decide +kernel
theorem dX9_doesFit_25 : decode cX9_doesFit 25 = .ok (.iaload, 1) := by decide +kernel
theorem dX9_doesFit_26 : decode cX9_doesFit 26 = .ok (.ifCond .lt 16, 3) := by decide +kernel
theorem dX9_doesFit_29 : decode cX9_doesFit 29 = .ok (.aload_n 0, 1) := by decide +kernel
theorem dX9_doesFit_30 : decode cX9_doesFit 30 = .ok (.getfield 127, 3) := by decide +kernel
theorem dX9_doesFit_33 : decode cX9_doesFit 33 = .ok (.iload_n 3, 1) := by decide +kernel
theorem dX9_doesFit_34 : decode cX9_doesFit 34 = .ok (.iaload, 1) := by decide +kernel
theorem dX9_doesFit_35 : decode cX9_doesFit 35 = .ok (.iload_n 2, 1) := by decide +kernel
theorem dX9_doesFit_36 : decode cX9_doesFit 36 = .ok (.if_icmp .gt 6, 3) := by decide +kernel
theorem dX9_doesFit_39 : decode cX9_doesFit 39 = .ok (.goto 40, 3) := by decide +kernel
theorem dX9_doesFit_42 : decode cX9_doesFit 42 = .ok (.aload_n 0, 1) := by decide +kernel
theorem dX9_doesFit_43 : decode cX9_doesFit 43 = .ok (.iload_n 1, 1) := by decide +kernel
theorem dX9_doesFit_44 : decode cX9_doesFit 44 = .ok (.aload_n 0, 1) := by decide +kernel
theorem dX9_doesFit_45 : decode cX9_doesFit 45 = .ok (.getfield 115, 3) := by decide +kernel
theorem dX9_doesFit_48 : decode cX9_doesFit 48 = .ok (.iload_n 3, 1) := by decide +kernel
theorem dX9_doesFit_49 : decode cX9_doesFit 49 = .ok (.iaload, 1) := by decide +kernel
theorem dX9_doesFit_50 : decode cX9_doesFit 50 = .ok (.aload_n 0, 1) := by decide +kernel
theorem dX9_doesFit_51 : decode cX9_doesFit 51 = .ok (.getfield 118, 3) := by decide +kernel
theorem dX9_doesFit_54 : decode cX9_doesFit 54 = .ok (.iload_n 3, 1) := by decide +kernel
theorem dX9_doesFit_55 : decode cX9_doesFit 55 = .ok (.iaload, 1) := by decide +kernel
theorem dX9_doesFit_56 : decode cX9_doesFit 56 = .ok (.invokevirtual 508, 3) := by decide +kernel
theorem dX9_doesFit_59 : decode cX9_doesFit 59 = .ok (.aload_n 0, 1) := by decide +kernel
theorem dX9_doesFit_60 : decode cX9_doesFit 60 = .ok (.getfield 121, 3) := by decide +kernel
theorem dX9_doesFit_63 : decode cX9_doesFit 63 = .ok (.iload_n 3, 1) := by decide +kernel
theorem dX9_doesFit_64 : decode cX9_doesFit 64 = .ok (.iaload, 1) := by decide +kernel
theorem dX9_doesFit_65 : decode cX9_doesFit 65 = .ok (.iconst 1, 1) := by decide +kernel
theorem dX9_doesFit_66 : decode cX9_doesFit 66 = .ok (.if_icmp .ne 7, 3) := by decide +kernel
theorem dX9_doesFit_69 : decode cX9_doesFit 69 = .ok (.iconst 1, 1) := by decide +kernel
theorem dX9_doesFit_70 : decode cX9_doesFit 70 = .ok (.goto 4, 3) := by decide +kernel
theorem dX9_doesFit_73 : decode cX9_doesFit 73 = .ok (.iconst 0, 1) := by decide +kernel
theorem dX9_doesFit_74 : decode cX9_doesFit 74 = .ok (.if_icmp .eq 5, 3) := by decide +kernel
theorem dX9_doesFit_77 : decode cX9_doesFit 77 = .ok (.iconst 0, 1) := by decide +kernel
theorem dX9_doesFit_78 : decode cX9_doesFit 78 = .ok (.ireturn, 1) := by decide +kernel
theorem dX9_doesFit_79 : decode cX9_doesFit 79 = .ok (.iinc 3 1, 3) := by decide +kernel
theorem dX9_doesFit_82 : decode cX9_doesFit 82 = .ok (.goto (-80), 3) := by decide +kernel
theorem dX9_doesFit_85 : decode cX9_doesFit 85 = .ok (.iconst 1, 1) := by decide +kernel
theorem dX9_doesFit_86 : decode cX9_doesFit 86 = .ok (.ireturn, 1) := by decide +kernel
theorem ydX9_doesFit : z_yd yX9_doesFit 2 := ⟨by decide, by decide, by decide +kernel⟩
abbrev rmX9_doesFit : Room := { frames := 2, cells := 0, slots := 0, locals := 47 }
noncomputable def xX9_doesFit_B42 (r2 : Nat → Int32 → Int32 → Int32 → ZH → Option (Int32 × ZH)) (l0 : Nat) (l1 : Int32) (l2 : Int32) (l3 : Int32) (h : ZH) : Option (Int32 × ZH) := ((z_gR h l0 9 52).bind fun x45 => ((z_aI h x45 l3).bind fun x49 => ((z_gR h l0 9 53).bind fun x51 => ((z_aI h x51 l3).bind fun x55 => (z_gu (z_is h l0 9) ((xX9_wasNear l0 l1 x49 x55 h).bind fun r56 => ((z_gR r56.2 l0 9 54).bind fun x60 => ((z_aI r56.2 x60 l3).bind fun x64 => (if x64 = (1 : Int32) then (if r56.1 = (1 : Int32) then r2 l0 l1 l2 (l3 + 1) r56.2 else some ((0 : Int32), r56.2)) else (if r56.1 = (0 : Int32) then r2 l0 l1 l2 (l3 + 1) r56.2 else some ((0 : Int32), r56.2)))))))))))
set_option maxHeartbeats 4000000 in
set_option maxRecDepth 100000 in
theorem wX9_doesFit_B42 {Γ : ZG} {p : Program} {l : Launch} {e : Env} {s : State} {m : MethodId} {args : Array Value} {below : List Frame} {meth : Method} {c : Code} (hO : z_OK Γ) (G : z_GG Γ p s m args meth c cX9_doesFit 4 RX9) (hr : meth.sig.returnType = (some .boolean)) (hnm : meth.name = "doesFit") {r : (Int32 × ZH)} {r2 : Nat → Int32 → Int32 → Int32 → ZH → Option (Int32 × ZH)} (H2 : ∀ (l0 : Nat) (l1 : Int32) (l2 : Int32) (l3 : Int32) (h : ZH), r2 l0 l1 l2 l3 h = some r → z_W Γ p l e rmX9_doesFit s m args below meth c 4 0 0 (MQ below (z_Qc Γ (some (.int r.1)) r.2) args s rmX9_doesFit.cells rmX9_doesFit.slots (z_A Γ)) 2 [(0, .ref l0), (1, .int l1), (2, .int l2), (3, .int l3)] [] h) : ∀ (l0 : Nat) (l1 : Int32) (l2 : Int32) (l3 : Int32) (h : ZH), xX9_doesFit_B42  r2 l0 l1 l2 l3 h = some r → z_W Γ p l e rmX9_doesFit s m args below meth c 4 0 0 (MQ below (z_Qc Γ (some (.int r.1)) r.2) args s rmX9_doesFit.cells rmX9_doesFit.slots (z_A Γ)) 42 [(0, .ref l0), (1, .int l1), (2, .int l2), (3, .int l3)] [] h := by
  intro l0 l1 l2 l3 h hX
  refine z_aload_n (pc := 42) G 0 dX9_doesFit_42 rfl rfl ?_
  refine z_iload_n (pc := 43) G 1 dX9_doesFit_43 rfl rfl ?_
  refine z_aload_n (pc := 44) G 0 dX9_doesFit_44 rfl rfl ?_
  obtain ⟨x45, hv45, hX⟩ := z_bd hX
  refine z_getR (pc := 45) G kK9 (k := 52) (by decide) kt_1278 dX9_doesFit_45 hv45 ?_
  refine z_iload_n (pc := 48) G 3 dX9_doesFit_48 rfl rfl ?_
  obtain ⟨x49, hv49, hX⟩ := z_bd hX
  refine z_iald (pc := 49) G dX9_doesFit_49 hv49 ?_
  refine z_aload_n (pc := 50) G 0 dX9_doesFit_50 rfl rfl ?_
  obtain ⟨x51, hv51, hX⟩ := z_bd hX
  refine z_getR (pc := 51) G kK9 (k := 53) (by decide) kt_1279 dX9_doesFit_51 hv51 ?_
  refine z_iload_n (pc := 54) G 3 dX9_doesFit_54 rfl rfl ?_
  obtain ⟨x55, hv55, hX⟩ := z_bd hX
  refine z_iald (pc := 55) G dX9_doesFit_55 hv55 ?_
  obtain ⟨hi56, hX⟩ := z_gu_s hX
  obtain ⟨r56, hv56, hX⟩ := z_bd hX
  refine z_cVI (pc := 56) (As := [.int l1, .int x49, .int x55]) (c2 := 0) (s2 := 0) G kK9 (lX9_wasNear hO hv56) hi56 kt_1909 kt_11 kt_1906 kt_1908 ks_106 ydX9_wasNear ⟨by decide, by decide⟩ rfl (Nat.le_of_ble_eq_true rfl) ⟨rfl, rfl⟩ ⟨by decide, by decide⟩ rfl dX9_doesFit_56 ?_
  refine z_aload_n (pc := 59) G 0 dX9_doesFit_59 rfl rfl ?_
  obtain ⟨x60, hv60, hX⟩ := z_bd hX
  refine z_getR (pc := 60) G kK9 (k := 54) (by decide) kt_1280 dX9_doesFit_60 hv60 ?_
  refine z_iload_n (pc := 63) G 3 dX9_doesFit_63 rfl rfl ?_
  obtain ⟨x64, hv64, hX⟩ := z_bd hX
  refine z_iald (pc := 64) G dX9_doesFit_64 hv64 ?_
  refine z_iconst (pc := 65) (v := 1) G dX9_doesFit_65 (by decide) ?_
  refine z_icmp_ne (pc := 66) (tgt := 73) G dX9_doesFit_66 (by decide) (fun hc66 => ?_) (fun hc66 => ?_)
  · have hX := z_if hc66 hX
    refine z_iconst (pc := 73) (v := 0) G dX9_doesFit_73 (by decide) ?_
    refine z_icmp_eq (pc := 74) (tgt := 79) G dX9_doesFit_74 (by decide) (fun hc74 => ?_) (fun hc74 => ?_)
    · have hX := z_it hc74 hX
      refine z_iincw (pc := 79) (w := 1) (lv2 := [(0, .ref l0), (1, .int l1), (2, .int l2), (3, .int (l3 + 1))]) G 3 dX9_doesFit_79 rfl (by decide) (by decide) rfl rfl ?_
      refine z_goto (pc := 82) (tgt := 2) G dX9_doesFit_82 (by decide) ?_
      exact H2 _ _ _ _ _ hX
    · have hX := z_if hc74 hX
      refine z_iconst (pc := 77) (v := 0) G dX9_doesFit_77 (by decide) ?_
      exact z_zretX (pc := 78) hX G hr rfl dX9_doesFit_78 (by decide) (by decide)
  · have hX := z_it hc66 hX
    refine z_iconst (pc := 69) (v := 1) G dX9_doesFit_69 (by decide) ?_
    refine z_goto (pc := 70) (tgt := 74) G dX9_doesFit_70 (by decide) ?_
    refine z_icmp_eq (pc := 74) (tgt := 79) G dX9_doesFit_74 (by decide) (fun hc74 => ?_) (fun hc74 => ?_)
    · have hX := z_it hc74 hX
      refine z_iincw (pc := 79) (w := 1) (lv2 := [(0, .ref l0), (1, .int l1), (2, .int l2), (3, .int (l3 + 1))]) G 3 dX9_doesFit_79 rfl (by decide) (by decide) rfl rfl ?_
      refine z_goto (pc := 82) (tgt := 2) G dX9_doesFit_82 (by decide) ?_
      exact H2 _ _ _ _ _ hX
    · have hX := z_if hc74 hX
      refine z_iconst (pc := 77) (v := 0) G dX9_doesFit_77 (by decide) ?_
      exact z_zretX (pc := 78) hX G hr rfl dX9_doesFit_78 (by decide) (by decide)
noncomputable def xX9_doesFit_B2 (r2 : Nat → Int32 → Int32 → Int32 → ZH → Option (Int32 × ZH)) (l0 : Nat) (l1 : Int32) (l2 : Int32) (l3 : Int32) (h : ZH) : Option (Int32 × ZH) := ((z_gI h l0 9 57).bind fun x4 => (if x4 ≤ l3 then some ((1 : Int32), h) else ((z_gR h l0 9 55).bind fun x11 => ((z_aI h x11 l3).bind fun x15 => (if l2 < x15 then r2 l0 l1 l2 (l3 + 1) h else ((z_gR h l0 9 56).bind fun x21 => ((z_aI h x21 l3).bind fun x25 => (if x25 < 0 then xX9_doesFit_B42 r2 l0 l1 l2 l3 h else ((z_gR h l0 9 56).bind fun x30 => ((z_aI h x30 l3).bind fun x34 => (if l2 < x34 then xX9_doesFit_B42 r2 l0 l1 l2 l3 h else r2 l0 l1 l2 (l3 + 1) h)))))))))))
noncomputable def xX9_doesFit_L2 (n : Nat) : Nat → Int32 → Int32 → Int32 → ZH → Option (Int32 × ZH) := Nat.rec (motive := fun _ => Nat → Int32 → Int32 → Int32 → ZH → Option (Int32 × ZH)) (fun _ _ _ _ _ => none) (fun _ rec => xX9_doesFit_B2  rec) n
set_option maxHeartbeats 4000000 in
set_option maxRecDepth 100000 in
theorem wX9_doesFit_B2 {Γ : ZG} {p : Program} {l : Launch} {e : Env} {s : State} {m : MethodId} {args : Array Value} {below : List Frame} {meth : Method} {c : Code} (hO : z_OK Γ) (G : z_GG Γ p s m args meth c cX9_doesFit 4 RX9) (hr : meth.sig.returnType = (some .boolean)) (hnm : meth.name = "doesFit") {r : (Int32 × ZH)} {r2 : Nat → Int32 → Int32 → Int32 → ZH → Option (Int32 × ZH)} (H2 : ∀ (l0 : Nat) (l1 : Int32) (l2 : Int32) (l3 : Int32) (h : ZH), r2 l0 l1 l2 l3 h = some r → z_W Γ p l e rmX9_doesFit s m args below meth c 4 0 0 (MQ below (z_Qc Γ (some (.int r.1)) r.2) args s rmX9_doesFit.cells rmX9_doesFit.slots (z_A Γ)) 2 [(0, .ref l0), (1, .int l1), (2, .int l2), (3, .int l3)] [] h) : ∀ (l0 : Nat) (l1 : Int32) (l2 : Int32) (l3 : Int32) (h : ZH), xX9_doesFit_B2  r2 l0 l1 l2 l3 h = some r → z_W Γ p l e rmX9_doesFit s m args below meth c 4 0 0 (MQ below (z_Qc Γ (some (.int r.1)) r.2) args s rmX9_doesFit.cells rmX9_doesFit.slots (z_A Γ)) 2 [(0, .ref l0), (1, .int l1), (2, .int l2), (3, .int l3)] [] h := by
  intro l0 l1 l2 l3 h hX
  refine z_iload_n (pc := 2) G 3 dX9_doesFit_2 rfl rfl ?_
  refine z_aload_n (pc := 3) G 0 dX9_doesFit_3 rfl rfl ?_
  obtain ⟨x4, hv4, hX⟩ := z_bd hX
  refine z_getI (pc := 4) G kK9 (k := 57) (by decide) kt_1283 dX9_doesFit_4 hv4 ?_
  refine z_icmp_ge (pc := 7) (tgt := 85) G dX9_doesFit_7 (by decide) (fun hc7 => ?_) (fun hc7 => ?_)
  · have hX := z_it hc7 hX
    refine z_iconst (pc := 85) (v := 1) G dX9_doesFit_85 (by decide) ?_
    exact z_zretX (pc := 86) hX G hr rfl dX9_doesFit_86 (by decide) (by decide)
  · have hX := z_if hc7 hX
    refine z_aload_n (pc := 10) G 0 dX9_doesFit_10 rfl rfl ?_
    obtain ⟨x11, hv11, hX⟩ := z_bd hX
    refine z_getR (pc := 11) G kK9 (k := 55) (by decide) kt_1281 dX9_doesFit_11 hv11 ?_
    refine z_iload_n (pc := 14) G 3 dX9_doesFit_14 rfl rfl ?_
    obtain ⟨x15, hv15, hX⟩ := z_bd hX
    refine z_iald (pc := 15) G dX9_doesFit_15 hv15 ?_
    refine z_iload_n (pc := 16) G 2 dX9_doesFit_16 rfl rfl ?_
    refine z_icmp_gt (pc := 17) (tgt := 79) G dX9_doesFit_17 (by decide) (fun hc17 => ?_) (fun hc17 => ?_)
    · have hX := z_it hc17 hX
      refine z_iincw (pc := 79) (w := 1) (lv2 := [(0, .ref l0), (1, .int l1), (2, .int l2), (3, .int (l3 + 1))]) G 3 dX9_doesFit_79 rfl (by decide) (by decide) rfl rfl ?_
      refine z_goto (pc := 82) (tgt := 2) G dX9_doesFit_82 (by decide) ?_
      exact H2 _ _ _ _ _ hX
    · have hX := z_if hc17 hX
      refine z_aload_n (pc := 20) G 0 dX9_doesFit_20 rfl rfl ?_
      obtain ⟨x21, hv21, hX⟩ := z_bd hX
      refine z_getR (pc := 21) G kK9 (k := 56) (by decide) kt_1282 dX9_doesFit_21 hv21 ?_
      refine z_iload_n (pc := 24) G 3 dX9_doesFit_24 rfl rfl ?_
      obtain ⟨x25, hv25, hX⟩ := z_bd hX
      refine z_iald (pc := 25) G dX9_doesFit_25 hv25 ?_
      refine z_if_lt (pc := 26) (tgt := 42) G dX9_doesFit_26 (by decide) (fun hc26 => ?_) (fun hc26 => ?_)
      · have hX := z_it hc26 hX
        exact wX9_doesFit_B42 hO G hr hnm H2 _ _ _ _ _ hX
      · have hX := z_if hc26 hX
        refine z_aload_n (pc := 29) G 0 dX9_doesFit_29 rfl rfl ?_
        obtain ⟨x30, hv30, hX⟩ := z_bd hX
        refine z_getR (pc := 30) G kK9 (k := 56) (by decide) kt_1282 dX9_doesFit_30 hv30 ?_
        refine z_iload_n (pc := 33) G 3 dX9_doesFit_33 rfl rfl ?_
        obtain ⟨x34, hv34, hX⟩ := z_bd hX
        refine z_iald (pc := 34) G dX9_doesFit_34 hv34 ?_
        refine z_iload_n (pc := 35) G 2 dX9_doesFit_35 rfl rfl ?_
        refine z_icmp_gt (pc := 36) (tgt := 42) G dX9_doesFit_36 (by decide) (fun hc36 => ?_) (fun hc36 => ?_)
        · have hX := z_it hc36 hX
          exact wX9_doesFit_B42 hO G hr hnm H2 _ _ _ _ _ hX
        · have hX := z_if hc36 hX
          refine z_goto (pc := 39) (tgt := 79) G dX9_doesFit_39 (by decide) ?_
          refine z_iincw (pc := 79) (w := 1) (lv2 := [(0, .ref l0), (1, .int l1), (2, .int l2), (3, .int (l3 + 1))]) G 3 dX9_doesFit_79 rfl (by decide) (by decide) rfl rfl ?_
          refine z_goto (pc := 82) (tgt := 2) G dX9_doesFit_82 (by decide) ?_
          exact H2 _ _ _ _ _ hX
set_option maxHeartbeats 4000000 in
set_option maxRecDepth 100000 in
theorem wX9_doesFit_L2 {Γ : ZG} {p : Program} {l : Launch} {e : Env} {s : State} {m : MethodId} {args : Array Value} {below : List Frame} {meth : Method} {c : Code} (hO : z_OK Γ) (G : z_GG Γ p s m args meth c cX9_doesFit 4 RX9) (hr : meth.sig.returnType = (some .boolean)) (hnm : meth.name = "doesFit") {r : (Int32 × ZH)} : ∀ (nn : Nat) (l0 : Nat) (l1 : Int32) (l2 : Int32) (l3 : Int32) (h : ZH), xX9_doesFit_L2  nn l0 l1 l2 l3 h = some r → z_W Γ p l e rmX9_doesFit s m args below meth c 4 0 0 (MQ below (z_Qc Γ (some (.int r.1)) r.2) args s rmX9_doesFit.cells rmX9_doesFit.slots (z_A Γ)) 2 [(0, .ref l0), (1, .int l1), (2, .int l2), (3, .int l3)] [] h := by
  intro nn
  induction nn with
  | zero => intro l0 l1 l2 l3 h hX; cases hX
  | succ nn ih => intro l0 l1 l2 l3 h hX; exact wX9_doesFit_B2 hO G hr hnm  ih l0 l1 l2 l3 h hX
noncomputable def xX9_doesFit (l0 : Nat) (l1 : Int32) (l2 : Int32) (h : ZH) : Option (Int32 × ZH) := xX9_doesFit_L2 zFU l0 l1 l2 (0 : Int32) h
set_option maxHeartbeats 4000000 in
set_option maxRecDepth 100000 in
theorem lX9_doesFit {Γ : ZG} {l : Launch} (hO : z_OK Γ) {l0 : Nat} {l1 : Int32} {l2 : Int32} {h : ZH} {r : (Int32 × ZH)} (hX : xX9_doesFit l0 l1 l2 h = some r) : z_M Γ l yX9_doesFit (z_ws1 yX9_doesFit cX9_doesFit 4 (some .boolean)) rmX9_doesFit [.ref l0, .int l1, .int l2] h (some (.int r.1)) r.2 := by
  refine z_start hO (plainFor_of_name (by decide)) (Nat.le_of_ble_eq_true rfl) ?_
  intro p e s m args below meth c G hr hnm
  refine z_lvc (lv2 := [(0, .ref l0), (1, .int l1), (2, .int l2)]) rfl ?_
  refine z_iconst (pc := 0) (v := 0) G dX9_doesFit_0 (by decide) ?_
  refine z_istore_n (pc := 1) (lv2 := [(0, .ref l0), (1, .int l1), (2, .int l2), (3, .int (0 : Int32))]) G dX9_doesFit_1 rfl (by decide) rfl rfl ?_
  exact wX9_doesFit_L2 hO G hr hnm zFU _ _ _ _ _ hX
theorem dX9_fits_0 : decode cX9_fits 0 = .ok (.iconst 0, 1) := by decide +kernel
theorem dX9_fits_1 : decode cX9_fits 1 = .ok (.istore_n 2, 1) := by decide +kernel
theorem dX9_fits_2 : decode cX9_fits 2 = .ok (.iconst 0, 1) := by decide +kernel
theorem dX9_fits_3 : decode cX9_fits 3 = .ok (.istore_n 3, 1) := by decide +kernel
theorem dX9_fits_4 : decode cX9_fits 4 = .ok (.iload_n 3, 1) := by decide +kernel
theorem dX9_fits_5 : decode cX9_fits 5 = .ok (.bipush 100, 2) := by decide +kernel
theorem dX9_fits_7 : decode cX9_fits 7 = .ok (.if_icmp .ge 33, 3) := by decide +kernel
theorem dX9_fits_10 : decode cX9_fits 10 = .ok (.aload_n 0, 1) := by decide +kernel
theorem dX9_fits_11 : decode cX9_fits 11 = .ok (.invokevirtual 337, 3) := by decide +kernel
theorem dX9_fits_14 : decode cX9_fits 14 = .ok (.ifCond .le 26, 3) := by decide +kernel
theorem dX9_fits_17 : decode cX9_fits 17 = .ok (.iload_n 2, 1) := by decide +kernel
theorem dX9_fits_18 : decode cX9_fits 18 = .ok (.aload_n 0, 1) := by decide +kernel
theorem dX9_fits_19 : decode cX9_fits 19 = .ok (.iload_n 3, 1) := by decide +kernel
theorem dX9_fits_20 : decode cX9_fits 20 = .ok (.iload_n 1, 1) := by decide +kernel
theorem dX9_fits_21 : decode cX9_fits 21 = .ok (.invokevirtual 511, 3) := by decide +kernel
theorem dX9_fits_24 : decode cX9_fits 24 = .ok (.ifCond .eq 7, 3) := by decide +kernel
theorem dX9_fits_27 : decode cX9_fits 27 = .ok (.iconst 1, 1) := by decide +kernel
theorem dX9_fits_28 : decode cX9_fits 28 = .ok (.goto 4, 3) := by decide +kernel
theorem dX9_fits_31 : decode cX9_fits 31 = .ok (.iconst 0, 1) := by decide +kernel
theorem dX9_fits_32 : decode cX9_fits 32 = .ok (.iadd, 1) := by decide +kernel
theorem dX9_fits_33 : decode cX9_fits 33 = .ok (.istore_n 2, 1) := by decide +kernel
theorem dX9_fits_34 : decode cX9_fits 34 = .ok (.iinc 3 1, 3) := by decide +kernel
theorem dX9_fits_37 : decode cX9_fits 37 = .ok (.goto (-33), 3) := by decide +kernel
theorem dX9_fits_40 : decode cX9_fits 40 = .ok (.iload_n 2, 1) := by decide +kernel
theorem dX9_fits_41 : decode cX9_fits 41 = .ok (.ireturn, 1) := by decide +kernel
theorem ydX9_fits : z_yd yX9_fits 1 := ⟨by decide, by decide, by decide +kernel⟩
abbrev rmX9_fits : Room := { frames := 3, cells := 0, slots := 0, locals := 70 }
noncomputable def xX9_fits_B4 (r4 : Nat → Int32 → Int32 → Int32 → ZH → Option (Int32 × ZH)) (l0 : Nat) (l1 : Int32) (l2 : Int32) (l3 : Int32) (h : ZH) : Option (Int32 × ZH) := (if (100 : Int32) ≤ l3 then some (l2, h) else (z_gu (z_is h l0 9) ((xX9_lots l0 h).bind fun r11 => (if r11.1 ≤ 0 then some (l2, r11.2) else (z_gu (z_is r11.2 l0 9) ((xX9_doesFit l0 l3 l1 r11.2).bind fun r21 => (if r21.1 = 0 then r4 l0 l1 (l2 + (0 : Int32)) (l3 + 1) r21.2 else r4 l0 l1 (l2 + (1 : Int32)) (l3 + 1) r21.2)))))))
noncomputable def xX9_fits_L4 (n : Nat) : Nat → Int32 → Int32 → Int32 → ZH → Option (Int32 × ZH) := Nat.rec (motive := fun _ => Nat → Int32 → Int32 → Int32 → ZH → Option (Int32 × ZH)) (fun _ _ _ _ _ => none) (fun _ rec => xX9_fits_B4  rec) n
set_option maxHeartbeats 4000000 in
set_option maxRecDepth 100000 in
theorem wX9_fits_B4 {Γ : ZG} {p : Program} {l : Launch} {e : Env} {s : State} {m : MethodId} {args : Array Value} {below : List Frame} {meth : Method} {c : Code} (hO : z_OK Γ) (G : z_GG Γ p s m args meth c cX9_fits 4 RX9) (hr : meth.sig.returnType = (some .int)) (hnm : meth.name = "fits") {r : (Int32 × ZH)} {r4 : Nat → Int32 → Int32 → Int32 → ZH → Option (Int32 × ZH)} (H4 : ∀ (l0 : Nat) (l1 : Int32) (l2 : Int32) (l3 : Int32) (h : ZH), r4 l0 l1 l2 l3 h = some r → z_W Γ p l e rmX9_fits s m args below meth c 4 0 0 (MQ below (z_Qc Γ (some (.int r.1)) r.2) args s rmX9_fits.cells rmX9_fits.slots (z_A Γ)) 4 [(0, .ref l0), (1, .int l1), (2, .int l2), (3, .int l3)] [] h) : ∀ (l0 : Nat) (l1 : Int32) (l2 : Int32) (l3 : Int32) (h : ZH), xX9_fits_B4  r4 l0 l1 l2 l3 h = some r → z_W Γ p l e rmX9_fits s m args below meth c 4 0 0 (MQ below (z_Qc Γ (some (.int r.1)) r.2) args s rmX9_fits.cells rmX9_fits.slots (z_A Γ)) 4 [(0, .ref l0), (1, .int l1), (2, .int l2), (3, .int l3)] [] h := by
  intro l0 l1 l2 l3 h hX
  refine z_iload_n (pc := 4) G 3 dX9_fits_4 rfl rfl ?_
  refine z_bipush (pc := 5) (v := 100) G dX9_fits_5 (by decide) ?_
  refine z_icmp_ge (pc := 7) (tgt := 40) G dX9_fits_7 (by decide) (fun hc7 => ?_) (fun hc7 => ?_)
  · have hX := z_it hc7 hX
    refine z_iload_n (pc := 40) G 2 dX9_fits_40 rfl rfl ?_
    exact z_iretX (pc := 41) hX G hr dX9_fits_41 (by decide) (by decide)
  · have hX := z_if hc7 hX
    refine z_aload_n (pc := 10) G 0 dX9_fits_10 rfl rfl ?_
    obtain ⟨hi11, hX⟩ := z_gu_s hX
    obtain ⟨r11, hv11, hX⟩ := z_bd hX
    refine z_cVI (pc := 11) (As := []) (c2 := 0) (s2 := 0) G kK9 (lX9_lots hO hv11) hi11 kt_1221 kt_11 kt_1218 kt_1220 ks_36 ydX9_lots ⟨by decide, by decide⟩ rfl (Nat.le_of_ble_eq_true rfl) ⟨rfl, rfl⟩ ⟨by decide, by decide⟩ rfl dX9_fits_11 ?_
    refine z_if_le (pc := 14) (tgt := 40) G dX9_fits_14 (by decide) (fun hc14 => ?_) (fun hc14 => ?_)
    · have hX := z_it hc14 hX
      refine z_iload_n (pc := 40) G 2 dX9_fits_40 rfl rfl ?_
      exact z_iretX (pc := 41) hX G hr dX9_fits_41 (by decide) (by decide)
    · have hX := z_if hc14 hX
      refine z_iload_n (pc := 17) G 2 dX9_fits_17 rfl rfl ?_
      refine z_aload_n (pc := 18) G 0 dX9_fits_18 rfl rfl ?_
      refine z_iload_n (pc := 19) G 3 dX9_fits_19 rfl rfl ?_
      refine z_iload_n (pc := 20) G 1 dX9_fits_20 rfl rfl ?_
      obtain ⟨hi21, hX⟩ := z_gu_s hX
      obtain ⟨r21, hv21, hX⟩ := z_bd hX
      refine z_cVI (pc := 21) (As := [.int l3, .int l1]) (c2 := 0) (s2 := 0) G kK9 (lX9_doesFit hO hv21) hi21 kt_1905 kt_11 kt_1902 kt_1904 ks_105 ydX9_doesFit ⟨by decide, by decide⟩ rfl (Nat.le_of_ble_eq_true rfl) ⟨rfl, rfl⟩ ⟨by decide, by decide⟩ rfl dX9_fits_21 ?_
      refine z_if_eq (pc := 24) (tgt := 31) G dX9_fits_24 (by decide) (fun hc24 => ?_) (fun hc24 => ?_)
      · have hX := z_it hc24 hX
        refine z_iconst (pc := 31) (v := 0) G dX9_fits_31 (by decide) ?_
        refine z_iadd (pc := 32) G dX9_fits_32 ?_
        refine z_istore_n (pc := 33) (lv2 := [(0, .ref l0), (1, .int l1), (2, .int (l2 + (0 : Int32))), (3, .int l3)]) G dX9_fits_33 rfl (by decide) rfl rfl ?_
        refine z_iincw (pc := 34) (w := 1) (lv2 := [(0, .ref l0), (1, .int l1), (2, .int (l2 + (0 : Int32))), (3, .int (l3 + 1))]) G 3 dX9_fits_34 rfl (by decide) (by decide) rfl rfl ?_
        refine z_goto (pc := 37) (tgt := 4) G dX9_fits_37 (by decide) ?_
        exact H4 _ _ _ _ _ hX
      · have hX := z_if hc24 hX
        refine z_iconst (pc := 27) (v := 1) G dX9_fits_27 (by decide) ?_
        refine z_goto (pc := 28) (tgt := 32) G dX9_fits_28 (by decide) ?_
        refine z_iadd (pc := 32) G dX9_fits_32 ?_
        refine z_istore_n (pc := 33) (lv2 := [(0, .ref l0), (1, .int l1), (2, .int (l2 + (1 : Int32))), (3, .int l3)]) G dX9_fits_33 rfl (by decide) rfl rfl ?_
        refine z_iincw (pc := 34) (w := 1) (lv2 := [(0, .ref l0), (1, .int l1), (2, .int (l2 + (1 : Int32))), (3, .int (l3 + 1))]) G 3 dX9_fits_34 rfl (by decide) (by decide) rfl rfl ?_
        refine z_goto (pc := 37) (tgt := 4) G dX9_fits_37 (by decide) ?_
        exact H4 _ _ _ _ _ hX
set_option maxHeartbeats 4000000 in
set_option maxRecDepth 100000 in
theorem wX9_fits_L4 {Γ : ZG} {p : Program} {l : Launch} {e : Env} {s : State} {m : MethodId} {args : Array Value} {below : List Frame} {meth : Method} {c : Code} (hO : z_OK Γ) (G : z_GG Γ p s m args meth c cX9_fits 4 RX9) (hr : meth.sig.returnType = (some .int)) (hnm : meth.name = "fits") {r : (Int32 × ZH)} : ∀ (nn : Nat) (l0 : Nat) (l1 : Int32) (l2 : Int32) (l3 : Int32) (h : ZH), xX9_fits_L4  nn l0 l1 l2 l3 h = some r → z_W Γ p l e rmX9_fits s m args below meth c 4 0 0 (MQ below (z_Qc Γ (some (.int r.1)) r.2) args s rmX9_fits.cells rmX9_fits.slots (z_A Γ)) 4 [(0, .ref l0), (1, .int l1), (2, .int l2), (3, .int l3)] [] h := by
  intro nn
  induction nn with
  | zero => intro l0 l1 l2 l3 h hX; cases hX
  | succ nn ih => intro l0 l1 l2 l3 h hX; exact wX9_fits_B4 hO G hr hnm  ih l0 l1 l2 l3 h hX
noncomputable def xX9_fits (l0 : Nat) (l1 : Int32) (h : ZH) : Option (Int32 × ZH) := xX9_fits_L4 zFU l0 l1 (0 : Int32) (0 : Int32) h
set_option maxHeartbeats 4000000 in
set_option maxRecDepth 100000 in
theorem lX9_fits {Γ : ZG} {l : Launch} (hO : z_OK Γ) {l0 : Nat} {l1 : Int32} {h : ZH} {r : (Int32 × ZH)} (hX : xX9_fits l0 l1 h = some r) : z_M Γ l yX9_fits (z_ws1 yX9_fits cX9_fits 4 (some .int)) rmX9_fits [.ref l0, .int l1] h (some (.int r.1)) r.2 := by
  refine z_start hO (plainFor_of_name (by decide)) (Nat.le_of_ble_eq_true rfl) ?_
  intro p e s m args below meth c G hr hnm
  refine z_lvc (lv2 := [(0, .ref l0), (1, .int l1)]) rfl ?_
  refine z_iconst (pc := 0) (v := 0) G dX9_fits_0 (by decide) ?_
  refine z_istore_n (pc := 1) (lv2 := [(0, .ref l0), (1, .int l1), (2, .int (0 : Int32))]) G dX9_fits_1 rfl (by decide) rfl rfl ?_
  refine z_iconst (pc := 2) (v := 0) G dX9_fits_2 (by decide) ?_
  refine z_istore_n (pc := 3) (lv2 := [(0, .ref l0), (1, .int l1), (2, .int (0 : Int32)), (3, .int (0 : Int32))]) G dX9_fits_3 rfl (by decide) rfl rfl ?_
  exact wX9_fits_L4 hO G hr hnm zFU _ _ _ _ _ hX
theorem dX9_sure_0 : decode cX9_sure 0 = .ok (.iload_n 1, 1) := by decide +kernel
theorem dX9_sure_1 : decode cX9_sure 1 = .ok (.iconst 0, 1) := by decide +kernel
theorem dX9_sure_2 : decode cX9_sure 2 = .ok (.iconst 1, 1) := by decide +kernel
theorem dX9_sure_3 : decode cX9_sure 3 = .ok (.invokestatic 340, 3) := by decide +kernel
theorem dX9_sure_6 : decode cX9_sure 6 = .ok (.ifCond .eq 11, 3) := by decide +kernel
theorem dX9_sure_9 : decode cX9_sure 9 = .ok (.aload_n 0, 1) := by decide +kernel
theorem dX9_sure_10 : decode cX9_sure 10 = .ok (.iload_n 2, 1) := by decide +kernel
theorem dX9_sure_11 : decode cX9_sure 11 = .ok (.invokevirtual 514, 3) := by decide +kernel
theorem dX9_sure_14 : decode cX9_sure 14 = .ok (.ifCond .ne 5, 3) := by decide +kernel
theorem dX9_sure_17 : decode cX9_sure 17 = .ok (.iconst (-1), 1) := by decide +kernel
theorem dX9_sure_18 : decode cX9_sure 18 = .ok (.ireturn, 1) := by decide +kernel
theorem dX9_sure_19 : decode cX9_sure 19 = .ok (.iload_n 1, 1) := by decide +kernel
theorem dX9_sure_20 : decode cX9_sure 20 = .ok (.ifCond .ne 7, 3) := by decide +kernel
theorem dX9_sure_23 : decode cX9_sure 23 = .ok (.iconst 0, 1) := by decide +kernel
theorem dX9_sure_24 : decode cX9_sure 24 = .ok (.goto 5, 3) := by decide +kernel
theorem dX9_sure_27 : decode cX9_sure 27 = .ok (.bipush 99, 2) := by decide +kernel
theorem dX9_sure_29 : decode cX9_sure 29 = .ok (.istore_n 3, 1) := by decide +kernel
theorem dX9_sure_30 : decode cX9_sure 30 = .ok (.aload_n 0, 1) := by decide +kernel
theorem dX9_sure_31 : decode cX9_sure 31 = .ok (.iload_n 3, 1) := by decide +kernel
theorem dX9_sure_32 : decode cX9_sure 32 = .ok (.iload_n 2, 1) := by decide +kernel
theorem dX9_sure_33 : decode cX9_sure 33 = .ok (.invokevirtual 511, 3) := by decide +kernel
theorem dX9_sure_36 : decode cX9_sure 36 = .ok (.ifCond .ne 18, 3) := by decide +kernel
theorem dX9_sure_39 : decode cX9_sure 39 = .ok (.iload_n 3, 1) := by decide +kernel
theorem dX9_sure_40 : decode cX9_sure 40 = .ok (.iload_n 1, 1) := by decide +kernel
theorem dX9_sure_41 : decode cX9_sure 41 = .ok (.ifCond .ne 7, 3) := by decide +kernel
theorem dX9_sure_44 : decode cX9_sure 44 = .ok (.iconst 1, 1) := by decide +kernel
theorem dX9_sure_45 : decode cX9_sure 45 = .ok (.goto 4, 3) := by decide +kernel
theorem dX9_sure_48 : decode cX9_sure 48 = .ok (.iconst (-1), 1) := by decide +kernel
theorem dX9_sure_49 : decode cX9_sure 49 = .ok (.iadd, 1) := by decide +kernel
theorem dX9_sure_50 : decode cX9_sure 50 = .ok (.istore_n 3, 1) := by decide +kernel
theorem dX9_sure_51 : decode cX9_sure 51 = .ok (.goto (-21), 3) := by decide +kernel
theorem dX9_sure_54 : decode cX9_sure 54 = .ok (.iload_n 3, 1) := by decide +kernel
theorem dX9_sure_55 : decode cX9_sure 55 = .ok (.ireturn, 1) := by decide +kernel
theorem ydX9_sure : z_yd yX9_sure 2 := ⟨by decide, by decide, by decide +kernel⟩
abbrev rmX9_sure : Room := { frames := 4, cells := 0, slots := 0, locals := 93 }
noncomputable def xX9_sure_B30 (r30 : Nat → Int32 → Int32 → Int32 → ZH → Option (Int32 × ZH)) (l0 : Nat) (l1 : Int32) (l2 : Int32) (l3 : Int32) (h : ZH) : Option (Int32 × ZH) := (z_gu (z_is h l0 9) ((xX9_doesFit l0 l3 l2 h).bind fun r33 => (if r33.1 = 0 then (if l1 = 0 then r30 l0 l1 l2 (l3 + (1 : Int32)) r33.2 else r30 l0 l1 l2 (l3 + (-1 : Int32)) r33.2) else some (l3, r33.2))))
noncomputable def xX9_sure_L30 (n : Nat) : Nat → Int32 → Int32 → Int32 → ZH → Option (Int32 × ZH) := Nat.rec (motive := fun _ => Nat → Int32 → Int32 → Int32 → ZH → Option (Int32 × ZH)) (fun _ _ _ _ _ => none) (fun _ rec => xX9_sure_B30  rec) n
set_option maxHeartbeats 4000000 in
set_option maxRecDepth 100000 in
theorem wX9_sure_B30 {Γ : ZG} {p : Program} {l : Launch} {e : Env} {s : State} {m : MethodId} {args : Array Value} {below : List Frame} {meth : Method} {c : Code} (hO : z_OK Γ) (G : z_GG Γ p s m args meth c cX9_sure 4 RX9) (hr : meth.sig.returnType = (some .int)) (hnm : meth.name = "sure") {r : (Int32 × ZH)} {r30 : Nat → Int32 → Int32 → Int32 → ZH → Option (Int32 × ZH)} (H30 : ∀ (l0 : Nat) (l1 : Int32) (l2 : Int32) (l3 : Int32) (h : ZH), r30 l0 l1 l2 l3 h = some r → z_W Γ p l e rmX9_sure s m args below meth c 4 0 0 (MQ below (z_Qc Γ (some (.int r.1)) r.2) args s rmX9_sure.cells rmX9_sure.slots (z_A Γ)) 30 [(0, .ref l0), (1, .int l1), (2, .int l2), (3, .int l3)] [] h) : ∀ (l0 : Nat) (l1 : Int32) (l2 : Int32) (l3 : Int32) (h : ZH), xX9_sure_B30  r30 l0 l1 l2 l3 h = some r → z_W Γ p l e rmX9_sure s m args below meth c 4 0 0 (MQ below (z_Qc Γ (some (.int r.1)) r.2) args s rmX9_sure.cells rmX9_sure.slots (z_A Γ)) 30 [(0, .ref l0), (1, .int l1), (2, .int l2), (3, .int l3)] [] h := by
  intro l0 l1 l2 l3 h hX
  refine z_aload_n (pc := 30) G 0 dX9_sure_30 rfl rfl ?_
  refine z_iload_n (pc := 31) G 3 dX9_sure_31 rfl rfl ?_
  refine z_iload_n (pc := 32) G 2 dX9_sure_32 rfl rfl ?_
  obtain ⟨hi33, hX⟩ := z_gu_s hX
  obtain ⟨r33, hv33, hX⟩ := z_bd hX
  refine z_cVI (pc := 33) (As := [.int l3, .int l2]) (c2 := 0) (s2 := 0) G kK9 (lX9_doesFit hO hv33) hi33 kt_1905 kt_11 kt_1902 kt_1904 ks_105 ydX9_doesFit ⟨by decide, by decide⟩ rfl (Nat.le_of_ble_eq_true rfl) ⟨rfl, rfl⟩ ⟨by decide, by decide⟩ rfl dX9_sure_33 ?_
  refine z_if_ne (pc := 36) (tgt := 54) G dX9_sure_36 (by decide) (fun hc36 => ?_) (fun hc36 => ?_)
  · have hX := z_if hc36 hX
    refine z_iload_n (pc := 54) G 3 dX9_sure_54 rfl rfl ?_
    exact z_iretX (pc := 55) hX G hr dX9_sure_55 (by decide) (by decide)
  · have hX := z_it hc36 hX
    refine z_iload_n (pc := 39) G 3 dX9_sure_39 rfl rfl ?_
    refine z_iload_n (pc := 40) G 1 dX9_sure_40 rfl rfl ?_
    refine z_if_ne (pc := 41) (tgt := 48) G dX9_sure_41 (by decide) (fun hc41 => ?_) (fun hc41 => ?_)
    · have hX := z_if hc41 hX
      refine z_iconst (pc := 48) (v := (-1)) G dX9_sure_48 (by decide) ?_
      refine z_iadd (pc := 49) G dX9_sure_49 ?_
      refine z_istore_n (pc := 50) (lv2 := [(0, .ref l0), (1, .int l1), (2, .int l2), (3, .int (l3 + (-1 : Int32)))]) G dX9_sure_50 rfl (by decide) rfl rfl ?_
      refine z_goto (pc := 51) (tgt := 30) G dX9_sure_51 (by decide) ?_
      exact H30 _ _ _ _ _ hX
    · have hX := z_it hc41 hX
      refine z_iconst (pc := 44) (v := 1) G dX9_sure_44 (by decide) ?_
      refine z_goto (pc := 45) (tgt := 49) G dX9_sure_45 (by decide) ?_
      refine z_iadd (pc := 49) G dX9_sure_49 ?_
      refine z_istore_n (pc := 50) (lv2 := [(0, .ref l0), (1, .int l1), (2, .int l2), (3, .int (l3 + (1 : Int32)))]) G dX9_sure_50 rfl (by decide) rfl rfl ?_
      refine z_goto (pc := 51) (tgt := 30) G dX9_sure_51 (by decide) ?_
      exact H30 _ _ _ _ _ hX
set_option maxHeartbeats 4000000 in
set_option maxRecDepth 100000 in
theorem wX9_sure_L30 {Γ : ZG} {p : Program} {l : Launch} {e : Env} {s : State} {m : MethodId} {args : Array Value} {below : List Frame} {meth : Method} {c : Code} (hO : z_OK Γ) (G : z_GG Γ p s m args meth c cX9_sure 4 RX9) (hr : meth.sig.returnType = (some .int)) (hnm : meth.name = "sure") {r : (Int32 × ZH)} : ∀ (nn : Nat) (l0 : Nat) (l1 : Int32) (l2 : Int32) (l3 : Int32) (h : ZH), xX9_sure_L30  nn l0 l1 l2 l3 h = some r → z_W Γ p l e rmX9_sure s m args below meth c 4 0 0 (MQ below (z_Qc Γ (some (.int r.1)) r.2) args s rmX9_sure.cells rmX9_sure.slots (z_A Γ)) 30 [(0, .ref l0), (1, .int l1), (2, .int l2), (3, .int l3)] [] h := by
  intro nn
  induction nn with
  | zero => intro l0 l1 l2 l3 h hX; cases hX
  | succ nn ih => intro l0 l1 l2 l3 h hX; exact wX9_sure_B30 hO G hr hnm  ih l0 l1 l2 l3 h hX
noncomputable def xX9_sure (l0 : Nat) (l1 : Int32) (l2 : Int32) (h : ZH) : Option (Int32 × ZH) := ((xX9_isIn l1 (0 : Int32) (1 : Int32) h).bind fun r3 => (if r3.1 = 0 then some ((-1 : Int32), r3.2) else (z_gu (z_is r3.2 l0 9) ((xX9_fits l0 l2 r3.2).bind fun r11 => (if r11.1 = 0 then some ((-1 : Int32), r11.2) else (if l1 = 0 then xX9_sure_L30 zFU l0 l1 l2 (0 : Int32) r11.2 else xX9_sure_L30 zFU l0 l1 l2 (99 : Int32) r11.2))))))
set_option maxHeartbeats 4000000 in
set_option maxRecDepth 100000 in
theorem lX9_sure {Γ : ZG} {l : Launch} (hO : z_OK Γ) {l0 : Nat} {l1 : Int32} {l2 : Int32} {h : ZH} {r : (Int32 × ZH)} (hX : xX9_sure l0 l1 l2 h = some r) : z_M Γ l yX9_sure (z_ws1 yX9_sure cX9_sure 4 (some .int)) rmX9_sure [.ref l0, .int l1, .int l2] h (some (.int r.1)) r.2 := by
  refine z_start hO (plainFor_of_name (by decide)) (Nat.le_of_ble_eq_true rfl) ?_
  intro p e s m args below meth c G hr hnm
  refine z_lvc (lv2 := [(0, .ref l0), (1, .int l1), (2, .int l2)]) rfl ?_
  refine z_iload_n (pc := 0) G 1 dX9_sure_0 rfl rfl ?_
  refine z_iconst (pc := 1) (v := 0) G dX9_sure_1 (by decide) ?_
  refine z_iconst (pc := 2) (v := 1) G dX9_sure_2 (by decide) ?_
  obtain ⟨r3, hv3, hX⟩ := z_bd hX
  refine z_cSI (pc := 3) (As := [.int l1, .int (0 : Int32), .int (1 : Int32)]) (c2 := 0) (s2 := 0) G (lX9_isIn hO hv3) kt_1559 kt_11 kt_1557 kt_1558 ydX9_isIn ⟨by decide, by decide⟩ rfl (Nat.le_of_ble_eq_true rfl) ⟨rfl, rfl⟩ ⟨by decide, by decide⟩ rfl dX9_sure_3 ?_
  refine z_if_eq (pc := 6) (tgt := 17) G dX9_sure_6 (by decide) (fun hc6 => ?_) (fun hc6 => ?_)
  · have hX := z_it hc6 hX
    refine z_iconst (pc := 17) (v := (-1)) G dX9_sure_17 (by decide) ?_
    exact z_iretX (pc := 18) hX G hr dX9_sure_18 (by decide) (by decide)
  · have hX := z_if hc6 hX
    refine z_aload_n (pc := 9) G 0 dX9_sure_9 rfl rfl ?_
    refine z_iload_n (pc := 10) G 2 dX9_sure_10 rfl rfl ?_
    obtain ⟨hi11, hX⟩ := z_gu_s hX
    obtain ⟨r11, hv11, hX⟩ := z_bd hX
    refine z_cVI (pc := 11) (As := [.int l2]) (c2 := 0) (s2 := 0) G kK9 (lX9_fits hO hv11) hi11 kt_1901 kt_11 kt_1914 kt_1899 kt_1900 ydX9_fits ⟨by decide, by decide⟩ rfl (Nat.le_of_ble_eq_true rfl) ⟨rfl, rfl⟩ ⟨by decide, by decide⟩ rfl dX9_sure_11 ?_
    refine z_if_ne (pc := 14) (tgt := 19) G dX9_sure_14 (by decide) (fun hc14 => ?_) (fun hc14 => ?_)
    · have hX := z_if hc14 hX
      refine z_iload_n (pc := 19) G 1 dX9_sure_19 rfl rfl ?_
      refine z_if_ne (pc := 20) (tgt := 27) G dX9_sure_20 (by decide) (fun hc20 => ?_) (fun hc20 => ?_)
      · have hX := z_if hc20 hX
        refine z_bipush (pc := 27) (v := 99) G dX9_sure_27 (by decide) ?_
        refine z_istore_n (pc := 29) (lv2 := [(0, .ref l0), (1, .int l1), (2, .int l2), (3, .int (99 : Int32))]) G dX9_sure_29 rfl (by decide) rfl rfl ?_
        exact wX9_sure_L30 hO G hr hnm zFU _ _ _ _ _ hX
      · have hX := z_it hc20 hX
        refine z_iconst (pc := 23) (v := 0) G dX9_sure_23 (by decide) ?_
        refine z_goto (pc := 24) (tgt := 29) G dX9_sure_24 (by decide) ?_
        refine z_istore_n (pc := 29) (lv2 := [(0, .ref l0), (1, .int l1), (2, .int l2), (3, .int (0 : Int32))]) G dX9_sure_29 rfl (by decide) rfl rfl ?_
        exact wX9_sure_L30 hO G hr hnm zFU _ _ _ _ _ hX
    · have hX := z_it hc14 hX
      refine z_iconst (pc := 17) (v := (-1)) G dX9_sure_17 (by decide) ?_
      exact z_iretX (pc := 18) hX G hr dX9_sure_18 (by decide) (by decide)
theorem dX9_mostBy_0 : decode cX9_mostBy 0 = .ok (.iconst 0, 1) := by decide +kernel
theorem dX9_mostBy_1 : decode cX9_mostBy 1 = .ok (.istore 4, 2) := by decide +kernel
theorem dX9_mostBy_3 : decode cX9_mostBy 3 = .ok (.iconst 0, 1) := by decide +kernel
theorem dX9_mostBy_4 : decode cX9_mostBy 4 = .ok (.istore 5, 2) := by decide +kernel
theorem dX9_mostBy_6 : decode cX9_mostBy 6 = .ok (.iconst 0, 1) := by decide +kernel
theorem dX9_mostBy_7 : decode cX9_mostBy 7 = .ok (.istore 6, 2) := by decide +kernel
theorem dX9_mostBy_9 : decode cX9_mostBy 9 = .ok (.iload 6, 2) := by decide +kernel
theorem dX9_mostBy_11 : decode cX9_mostBy 11 = .ok (.bipush 100, 2) := by decide +kernel
theorem dX9_mostBy_13 : decode cX9_mostBy 13 = .ok (.if_icmp .ge 42, 3) := by decide +kernel
theorem dX9_mostBy_16 : decode cX9_mostBy 16 = .ok (.aload_n 0, 1) := by decide +kernel
theorem dX9_mostBy_17 : decode cX9_mostBy 17 = .ok (.iload 6, 2) := by decide +kernel
theorem dX9_mostBy_19 : decode cX9_mostBy 19 = .ok (.iload_n 3, 1) := by decide +kernel
theorem dX9_mostBy_20 : decode cX9_mostBy 20 = .ok (.invokevirtual 511, 3) := by decide +kernel
theorem dX9_mostBy_23 : decode cX9_mostBy 23 = .ok (.ifCond .ne 6, 3) := by decide +kernel
theorem dX9_mostBy_26 : decode cX9_mostBy 26 = .ok (.goto 23, 3) := by decide +kernel
theorem dX9_mostBy_29 : decode cX9_mostBy 29 = .ok (.aload_n 0, 1) := by decide +kernel
theorem dX9_mostBy_30 : decode cX9_mostBy 30 = .ok (.iload 6, 2) := by decide +kernel
theorem dX9_mostBy_32 : decode cX9_mostBy 32 = .ok (.iload_n 1, 1) := by decide +kernel
theorem dX9_mostBy_33 : decode cX9_mostBy 33 = .ok (.iload_n 2, 1) := by decide +kernel
theorem dX9_mostBy_34 : decode cX9_mostBy 34 = .ok (.invokevirtual 508, 3) := by decide +kernel
theorem dX9_mostBy_37 : decode cX9_mostBy 37 = .ok (.ifCond .eq 9, 3) := by decide +kernel
theorem dX9_mostBy_40 : decode cX9_mostBy 40 = .ok (.iinc 4 1, 3) := by decide +kernel
theorem dX9_mostBy_43 : decode cX9_mostBy 43 = .ok (.goto 6, 3) := by decide +kernel
theorem dX9_mostBy_46 : decode cX9_mostBy 46 = .ok (.iinc 5 1, 3) := by decide +kernel
theorem dX9_mostBy_49 : decode cX9_mostBy 49 = .ok (.iinc 6 1, 3) := by decide +kernel
theorem dX9_mostBy_52 : decode cX9_mostBy 52 = .ok (.goto (-43), 3) := by decide +kernel
theorem dX9_mostBy_55 : decode cX9_mostBy 55 = .ok (.iload 4, 2) := by decide +kernel
theorem dX9_mostBy_57 : decode cX9_mostBy 57 = .ok (.iload 5, 2) := by decide +kernel
theorem dX9_mostBy_59 : decode cX9_mostBy 59 = .ok (.if_icmp .le 8, 3) := by decide +kernel
theorem dX9_mostBy_62 : decode cX9_mostBy 62 = .ok (.iload 4, 2) := by decide +kernel
theorem dX9_mostBy_64 : decode cX9_mostBy 64 = .ok (.goto 5, 3) := by decide +kernel
theorem dX9_mostBy_67 : decode cX9_mostBy 67 = .ok (.iload 5, 2) := by decide +kernel
theorem dX9_mostBy_69 : decode cX9_mostBy 69 = .ok (.ireturn, 1) := by decide +kernel
theorem ydX9_mostBy : z_yd yX9_mostBy 3 := ⟨by decide, by decide, by decide +kernel⟩
abbrev rmX9_mostBy : Room := { frames := 3, cells := 0, slots := 0, locals := 70 }
noncomputable def xX9_mostBy_B55 (l4 : Int32) (l5 : Int32) (h : ZH) : Option (Int32 × ZH) := (if l4 ≤ l5 then some (l5, h) else some (l4, h))
set_option maxHeartbeats 4000000 in
set_option maxRecDepth 100000 in
theorem wX9_mostBy_B55 {Γ : ZG} {p : Program} {l : Launch} {e : Env} {s : State} {m : MethodId} {args : Array Value} {below : List Frame} {meth : Method} {c : Code} (hO : z_OK Γ) (G : z_GG Γ p s m args meth c cX9_mostBy 7 RX9) (hr : meth.sig.returnType = (some .int)) (hnm : meth.name = "mostBy") {r : (Int32 × ZH)} : ∀ (l4 : Int32) (l5 : Int32) (h : ZH), xX9_mostBy_B55  l4 l5 h = some r → z_W Γ p l e rmX9_mostBy s m args below meth c 7 0 0 (MQ below (z_Qc Γ (some (.int r.1)) r.2) args s rmX9_mostBy.cells rmX9_mostBy.slots (z_A Γ)) 55 [(4, .int l4), (5, .int l5)] [] h := by
  intro l4 l5 h hX
  refine z_iload (pc := 55) G 0 dX9_mostBy_55 rfl ?_
  refine z_iload (pc := 57) G 1 dX9_mostBy_57 rfl ?_
  refine z_icmp_le (pc := 59) (tgt := 67) G dX9_mostBy_59 (by decide) (fun hc59 => ?_) (fun hc59 => ?_)
  · have hX := z_it hc59 hX
    refine z_iload (pc := 67) G 1 dX9_mostBy_67 rfl ?_
    exact z_iretX (pc := 69) hX G hr dX9_mostBy_69 (by decide) (by decide)
  · have hX := z_if hc59 hX
    refine z_iload (pc := 62) G 0 dX9_mostBy_62 rfl ?_
    refine z_goto (pc := 64) (tgt := 69) G dX9_mostBy_64 (by decide) ?_
    exact z_iretX (pc := 69) hX G hr dX9_mostBy_69 (by decide) (by decide)
noncomputable def xX9_mostBy_B9 (r9 : Nat → Int32 → Int32 → Int32 → Int32 → Int32 → Int32 → ZH → Option (Int32 × ZH)) (l0 : Nat) (l1 : Int32) (l2 : Int32) (l3 : Int32) (l4 : Int32) (l5 : Int32) (l6 : Int32) (h : ZH) : Option (Int32 × ZH) := (if (100 : Int32) ≤ l6 then xX9_mostBy_B55 l4 l5 h else (z_gu (z_is h l0 9) ((xX9_doesFit l0 l6 l3 h).bind fun r20 => (if r20.1 = 0 then r9 l0 l1 l2 l3 l4 l5 (l6 + 1) r20.2 else (z_gu (z_is r20.2 l0 9) ((xX9_wasNear l0 l6 l1 l2 r20.2).bind fun r34 => (if r34.1 = 0 then r9 l0 l1 l2 l3 l4 (l5 + 1) (l6 + 1) r34.2 else r9 l0 l1 l2 l3 (l4 + 1) l5 (l6 + 1) r34.2)))))))
noncomputable def xX9_mostBy_L9 (n : Nat) : Nat → Int32 → Int32 → Int32 → Int32 → Int32 → Int32 → ZH → Option (Int32 × ZH) := Nat.rec (motive := fun _ => Nat → Int32 → Int32 → Int32 → Int32 → Int32 → Int32 → ZH → Option (Int32 × ZH)) (fun _ _ _ _ _ _ _ _ => none) (fun _ rec => xX9_mostBy_B9  rec) n
set_option maxHeartbeats 4000000 in
set_option maxRecDepth 100000 in
theorem wX9_mostBy_B9 {Γ : ZG} {p : Program} {l : Launch} {e : Env} {s : State} {m : MethodId} {args : Array Value} {below : List Frame} {meth : Method} {c : Code} (hO : z_OK Γ) (G : z_GG Γ p s m args meth c cX9_mostBy 7 RX9) (hr : meth.sig.returnType = (some .int)) (hnm : meth.name = "mostBy") {r : (Int32 × ZH)} {r9 : Nat → Int32 → Int32 → Int32 → Int32 → Int32 → Int32 → ZH → Option (Int32 × ZH)} (H9 : ∀ (l0 : Nat) (l1 : Int32) (l2 : Int32) (l3 : Int32) (l4 : Int32) (l5 : Int32) (l6 : Int32) (h : ZH), r9 l0 l1 l2 l3 l4 l5 l6 h = some r → z_W Γ p l e rmX9_mostBy s m args below meth c 7 0 0 (MQ below (z_Qc Γ (some (.int r.1)) r.2) args s rmX9_mostBy.cells rmX9_mostBy.slots (z_A Γ)) 9 [(0, .ref l0), (1, .int l1), (2, .int l2), (3, .int l3), (4, .int l4), (5, .int l5), (6, .int l6)] [] h) : ∀ (l0 : Nat) (l1 : Int32) (l2 : Int32) (l3 : Int32) (l4 : Int32) (l5 : Int32) (l6 : Int32) (h : ZH), xX9_mostBy_B9  r9 l0 l1 l2 l3 l4 l5 l6 h = some r → z_W Γ p l e rmX9_mostBy s m args below meth c 7 0 0 (MQ below (z_Qc Γ (some (.int r.1)) r.2) args s rmX9_mostBy.cells rmX9_mostBy.slots (z_A Γ)) 9 [(0, .ref l0), (1, .int l1), (2, .int l2), (3, .int l3), (4, .int l4), (5, .int l5), (6, .int l6)] [] h := by
  intro l0 l1 l2 l3 l4 l5 l6 h hX
  refine z_iload (pc := 9) G 6 dX9_mostBy_9 rfl ?_
  refine z_bipush (pc := 11) (v := 100) G dX9_mostBy_11 (by decide) ?_
  refine z_icmp_ge (pc := 13) (tgt := 55) G dX9_mostBy_13 (by decide) (fun hc13 => ?_) (fun hc13 => ?_)
  · have hX := z_it hc13 hX
    refine z_drop (lv2 := [(4, .int l4), (5, .int l5)]) [4, 5] rfl ?_
    exact wX9_mostBy_B55 hO G hr hnm _ _ _ hX
  · have hX := z_if hc13 hX
    refine z_aload_n (pc := 16) G 0 dX9_mostBy_16 rfl rfl ?_
    refine z_iload (pc := 17) G 6 dX9_mostBy_17 rfl ?_
    refine z_iload_n (pc := 19) G 3 dX9_mostBy_19 rfl rfl ?_
    obtain ⟨hi20, hX⟩ := z_gu_s hX
    obtain ⟨r20, hv20, hX⟩ := z_bd hX
    refine z_cVI (pc := 20) (As := [.int l6, .int l3]) (c2 := 0) (s2 := 0) G kK9 (lX9_doesFit hO hv20) hi20 kt_1905 kt_11 kt_1902 kt_1904 ks_105 ydX9_doesFit ⟨by decide, by decide⟩ rfl (Nat.le_of_ble_eq_true rfl) ⟨rfl, rfl⟩ ⟨by decide, by decide⟩ rfl dX9_mostBy_20 ?_
    refine z_if_ne (pc := 23) (tgt := 29) G dX9_mostBy_23 (by decide) (fun hc23 => ?_) (fun hc23 => ?_)
    · have hX := z_if hc23 hX
      refine z_aload_n (pc := 29) G 0 dX9_mostBy_29 rfl rfl ?_
      refine z_iload (pc := 30) G 6 dX9_mostBy_30 rfl ?_
      refine z_iload_n (pc := 32) G 1 dX9_mostBy_32 rfl rfl ?_
      refine z_iload_n (pc := 33) G 2 dX9_mostBy_33 rfl rfl ?_
      obtain ⟨hi34, hX⟩ := z_gu_s hX
      obtain ⟨r34, hv34, hX⟩ := z_bd hX
      refine z_cVI (pc := 34) (As := [.int l6, .int l1, .int l2]) (c2 := 0) (s2 := 0) G kK9 (lX9_wasNear hO hv34) hi34 kt_1909 kt_11 kt_1906 kt_1908 ks_106 ydX9_wasNear ⟨by decide, by decide⟩ rfl (Nat.le_of_ble_eq_true rfl) ⟨rfl, rfl⟩ ⟨by decide, by decide⟩ rfl dX9_mostBy_34 ?_
      refine z_if_eq (pc := 37) (tgt := 46) G dX9_mostBy_37 (by decide) (fun hc37 => ?_) (fun hc37 => ?_)
      · have hX := z_it hc37 hX
        refine z_iincw (pc := 46) (w := 1) (lv2 := [(0, .ref l0), (1, .int l1), (2, .int l2), (3, .int l3), (4, .int l4), (5, .int (l5 + 1)), (6, .int l6)]) G 5 dX9_mostBy_46 rfl (by decide) (by decide) rfl rfl ?_
        refine z_iincw (pc := 49) (w := 1) (lv2 := [(0, .ref l0), (1, .int l1), (2, .int l2), (3, .int l3), (4, .int l4), (5, .int (l5 + 1)), (6, .int (l6 + 1))]) G 6 dX9_mostBy_49 rfl (by decide) (by decide) rfl rfl ?_
        refine z_goto (pc := 52) (tgt := 9) G dX9_mostBy_52 (by decide) ?_
        exact H9 _ _ _ _ _ _ _ _ hX
      · have hX := z_if hc37 hX
        refine z_iincw (pc := 40) (w := 1) (lv2 := [(0, .ref l0), (1, .int l1), (2, .int l2), (3, .int l3), (4, .int (l4 + 1)), (5, .int l5), (6, .int l6)]) G 4 dX9_mostBy_40 rfl (by decide) (by decide) rfl rfl ?_
        refine z_goto (pc := 43) (tgt := 49) G dX9_mostBy_43 (by decide) ?_
        refine z_iincw (pc := 49) (w := 1) (lv2 := [(0, .ref l0), (1, .int l1), (2, .int l2), (3, .int l3), (4, .int (l4 + 1)), (5, .int l5), (6, .int (l6 + 1))]) G 6 dX9_mostBy_49 rfl (by decide) (by decide) rfl rfl ?_
        refine z_goto (pc := 52) (tgt := 9) G dX9_mostBy_52 (by decide) ?_
        exact H9 _ _ _ _ _ _ _ _ hX
    · have hX := z_it hc23 hX
      refine z_goto (pc := 26) (tgt := 49) G dX9_mostBy_26 (by decide) ?_
      refine z_iincw (pc := 49) (w := 1) (lv2 := [(0, .ref l0), (1, .int l1), (2, .int l2), (3, .int l3), (4, .int l4), (5, .int l5), (6, .int (l6 + 1))]) G 6 dX9_mostBy_49 rfl (by decide) (by decide) rfl rfl ?_
      refine z_goto (pc := 52) (tgt := 9) G dX9_mostBy_52 (by decide) ?_
      exact H9 _ _ _ _ _ _ _ _ hX
set_option maxHeartbeats 4000000 in
set_option maxRecDepth 100000 in
theorem wX9_mostBy_L9 {Γ : ZG} {p : Program} {l : Launch} {e : Env} {s : State} {m : MethodId} {args : Array Value} {below : List Frame} {meth : Method} {c : Code} (hO : z_OK Γ) (G : z_GG Γ p s m args meth c cX9_mostBy 7 RX9) (hr : meth.sig.returnType = (some .int)) (hnm : meth.name = "mostBy") {r : (Int32 × ZH)} : ∀ (nn : Nat) (l0 : Nat) (l1 : Int32) (l2 : Int32) (l3 : Int32) (l4 : Int32) (l5 : Int32) (l6 : Int32) (h : ZH), xX9_mostBy_L9  nn l0 l1 l2 l3 l4 l5 l6 h = some r → z_W Γ p l e rmX9_mostBy s m args below meth c 7 0 0 (MQ below (z_Qc Γ (some (.int r.1)) r.2) args s rmX9_mostBy.cells rmX9_mostBy.slots (z_A Γ)) 9 [(0, .ref l0), (1, .int l1), (2, .int l2), (3, .int l3), (4, .int l4), (5, .int l5), (6, .int l6)] [] h := by
  intro nn
  induction nn with
  | zero => intro l0 l1 l2 l3 l4 l5 l6 h hX; cases hX
  | succ nn ih => intro l0 l1 l2 l3 l4 l5 l6 h hX; exact wX9_mostBy_B9 hO G hr hnm  ih l0 l1 l2 l3 l4 l5 l6 h hX
noncomputable def xX9_mostBy (l0 : Nat) (l1 : Int32) (l2 : Int32) (l3 : Int32) (h : ZH) : Option (Int32 × ZH) := xX9_mostBy_L9 zFU l0 l1 l2 l3 (0 : Int32) (0 : Int32) (0 : Int32) h
set_option maxHeartbeats 4000000 in
set_option maxRecDepth 100000 in
theorem lX9_mostBy {Γ : ZG} {l : Launch} (hO : z_OK Γ) {l0 : Nat} {l1 : Int32} {l2 : Int32} {l3 : Int32} {h : ZH} {r : (Int32 × ZH)} (hX : xX9_mostBy l0 l1 l2 l3 h = some r) : z_M Γ l yX9_mostBy (z_ws1 yX9_mostBy cX9_mostBy 7 (some .int)) rmX9_mostBy [.ref l0, .int l1, .int l2, .int l3] h (some (.int r.1)) r.2 := by
  refine z_start hO (plainFor_of_name (by decide)) (Nat.le_of_ble_eq_true rfl) ?_
  intro p e s m args below meth c G hr hnm
  refine z_lvc (lv2 := [(0, .ref l0), (1, .int l1), (2, .int l2), (3, .int l3)]) rfl ?_
  refine z_iconst (pc := 0) (v := 0) G dX9_mostBy_0 (by decide) ?_
  refine z_istore (pc := 1) (lv2 := [(0, .ref l0), (1, .int l1), (2, .int l2), (3, .int l3), (4, .int (0 : Int32))]) G dX9_mostBy_1 (by decide) rfl rfl ?_
  refine z_iconst (pc := 3) (v := 0) G dX9_mostBy_3 (by decide) ?_
  refine z_istore (pc := 4) (lv2 := [(0, .ref l0), (1, .int l1), (2, .int l2), (3, .int l3), (4, .int (0 : Int32)), (5, .int (0 : Int32))]) G dX9_mostBy_4 (by decide) rfl rfl ?_
  refine z_iconst (pc := 6) (v := 0) G dX9_mostBy_6 (by decide) ?_
  refine z_istore (pc := 7) (lv2 := [(0, .ref l0), (1, .int l1), (2, .int l2), (3, .int l3), (4, .int (0 : Int32)), (5, .int (0 : Int32)), (6, .int (0 : Int32))]) G dX9_mostBy_7 (by decide) rfl rfl ?_
  exact wX9_mostBy_L9 hO G hr hnm zFU _ _ _ _ _ _ _ _ hX
theorem dX9_ask_0 : decode cX9_ask 0 = .ok (.iload_n 1, 1) := by decide +kernel
theorem dX9_ask_1 : decode cX9_ask 1 = .ok (.iconst 0, 1) := by decide +kernel
theorem dX9_ask_2 : decode cX9_ask 2 = .ok (.aload_n 0, 1) := by decide +kernel
theorem dX9_ask_3 : decode cX9_ask 3 = .ok (.invokevirtual 337, 3) := by decide +kernel
theorem dX9_ask_6 : decode cX9_ask 6 = .ok (.iconst 2, 1) := by decide +kernel
theorem dX9_ask_7 : decode cX9_ask 7 = .ok (.isub, 1) := by decide +kernel
theorem dX9_ask_8 : decode cX9_ask 8 = .ok (.invokestatic 340, 3) := by decide +kernel
theorem dX9_ask_11 : decode cX9_ask 11 = .ok (.ifCond .eq 20, 3) := by decide +kernel
theorem dX9_ask_14 : decode cX9_ask 14 = .ok (.iload_n 2, 1) := by decide +kernel
theorem dX9_ask_15 : decode cX9_ask 15 = .ok (.iconst 0, 1) := by decide +kernel
theorem dX9_ask_16 : decode cX9_ask 16 = .ok (.iconst 1, 1) := by decide +kernel
theorem dX9_ask_17 : decode cX9_ask 17 = .ok (.invokestatic 340, 3) := by decide +kernel
theorem dX9_ask_20 : decode cX9_ask 20 = .ok (.ifCond .eq 11, 3) := by decide +kernel
theorem dX9_ask_23 : decode cX9_ask 23 = .ok (.aload_n 0, 1) := by decide +kernel
theorem dX9_ask_24 : decode cX9_ask 24 = .ok (.iload_n 3, 1) := by decide +kernel
theorem dX9_ask_25 : decode cX9_ask 25 = .ok (.invokevirtual 514, 3) := by decide +kernel
theorem dX9_ask_28 : decode cX9_ask 28 = .ok (.ifCond .ne 5, 3) := by decide +kernel
theorem dX9_ask_31 : decode cX9_ask 31 = .ok (.iconst (-1), 1) := by decide +kernel
theorem dX9_ask_32 : decode cX9_ask 32 = .ok (.ireturn, 1) := by decide +kernel
theorem dX9_ask_33 : decode cX9_ask 33 = .ok (.iconst (-1), 1) := by decide +kernel
theorem dX9_ask_34 : decode cX9_ask 34 = .ok (.istore 4, 2) := by decide +kernel
theorem dX9_ask_36 : decode cX9_ask 36 = .ok (.ldc_w 507, 3) := by decide +kernel
theorem dX9_ask_39 : decode cX9_ask 39 = .ok (.istore 5, 2) := by decide +kernel
theorem dX9_ask_41 : decode cX9_ask 41 = .ok (.iconst 0, 1) := by decide +kernel
theorem dX9_ask_42 : decode cX9_ask 42 = .ok (.istore 6, 2) := by decide +kernel
theorem dX9_ask_44 : decode cX9_ask 44 = .ok (.iload 6, 2) := by decide +kernel
theorem dX9_ask_46 : decode cX9_ask 46 = .ok (.bipush 40, 2) := by decide +kernel
theorem dX9_ask_48 : decode cX9_ask 48 = .ok (.if_icmp .gt 37, 3) := by decide +kernel
theorem dX9_ask_51 : decode cX9_ask 51 = .ok (.aload_n 0, 1) := by decide +kernel
theorem dX9_ask_52 : decode cX9_ask 52 = .ok (.iload 6, 2) := by decide +kernel
theorem dX9_ask_54 : decode cX9_ask 54 = .ok (.iload_n 1, 1) := by decide +kernel
theorem dX9_ask_55 : decode cX9_ask 55 = .ok (.iload_n 3, 1) := by decide +kernel
theorem dX9_ask_56 : decode cX9_ask 56 = .ok (.invokevirtual 517, 3) := by decide +kernel
theorem dX9_ask_59 : decode cX9_ask 59 = .ok (.istore 7, 2) := by decide +kernel
theorem dX9_ask_61 : decode cX9_ask 61 = .ok (.iload 7, 2) := by decide +kernel
theorem dX9_ask_63 : decode cX9_ask 63 = .ok (.iload 5, 2) := by decide +kernel
theorem dX9_ask_65 : decode cX9_ask 65 = .ok (.if_icmp .lt 6, 3) := by decide +kernel
theorem dX9_ask_68 : decode cX9_ask 68 = .ok (.goto 11, 3) := by decide +kernel
theorem dX9_ask_71 : decode cX9_ask 71 = .ok (.iload 6, 2) := by decide +kernel
theorem dX9_ask_73 : decode cX9_ask 73 = .ok (.istore 4, 2) := by decide +kernel
theorem dX9_ask_75 : decode cX9_ask 75 = .ok (.iload 7, 2) := by decide +kernel
theorem dX9_ask_77 : decode cX9_ask 77 = .ok (.istore 5, 2) := by decide +kernel
theorem dX9_ask_79 : decode cX9_ask 79 = .ok (.iinc 6 1, 3) := by decide +kernel
theorem dX9_ask_82 : decode cX9_ask 82 = .ok (.goto (-38), 3) := by decide +kernel
theorem dX9_ask_85 : decode cX9_ask 85 = .ok (.iload_n 2, 1) := by decide +kernel
theorem dX9_ask_86 : decode cX9_ask 86 = .ok (.ifCond .ne 8, 3) := by decide +kernel
theorem dX9_ask_89 : decode cX9_ask 89 = .ok (.iload 4, 2) := by decide +kernel
theorem dX9_ask_91 : decode cX9_ask 91 = .ok (.goto 5, 3) := by decide +kernel
theorem dX9_ask_94 : decode cX9_ask 94 = .ok (.iload 5, 2) := by decide +kernel
theorem dX9_ask_96 : decode cX9_ask 96 = .ok (.ireturn, 1) := by decide +kernel
theorem ydX9_ask : z_yd yX9_ask 3 := ⟨by decide, by decide, by decide +kernel⟩
abbrev rmX9_ask : Room := { frames := 4, cells := 0, slots := 0, locals := 96 }
noncomputable def xX9_ask_B44 (r44 : Nat → Int32 → Int32 → Int32 → Int32 → Int32 → Int32 → ZH → Option (Int32 × ZH)) (l0 : Nat) (l1 : Int32) (l2 : Int32) (l3 : Int32) (l4 : Int32) (l5 : Int32) (l6 : Int32) (h : ZH) : Option (Int32 × ZH) := (if (40 : Int32) < l6 then (if l2 = 0 then some (l4, h) else some (l5, h)) else (z_gu (z_is h l0 9) ((xX9_mostBy l0 l6 l1 l3 h).bind fun r56 => (if r56.1 < l5 then r44 l0 l1 l2 l3 l6 r56.1 (l6 + 1) r56.2 else r44 l0 l1 l2 l3 l4 l5 (l6 + 1) r56.2))))
noncomputable def xX9_ask_L44 (n : Nat) : Nat → Int32 → Int32 → Int32 → Int32 → Int32 → Int32 → ZH → Option (Int32 × ZH) := Nat.rec (motive := fun _ => Nat → Int32 → Int32 → Int32 → Int32 → Int32 → Int32 → ZH → Option (Int32 × ZH)) (fun _ _ _ _ _ _ _ _ => none) (fun _ rec => xX9_ask_B44  rec) n
set_option maxHeartbeats 4000000 in
set_option maxRecDepth 100000 in
theorem wX9_ask_B44 {Γ : ZG} {p : Program} {l : Launch} {e : Env} {s : State} {m : MethodId} {args : Array Value} {below : List Frame} {meth : Method} {c : Code} (hO : z_OK Γ) (G : z_GG Γ p s m args meth c cX9_ask 8 RX9) (hr : meth.sig.returnType = (some .int)) (hnm : meth.name = "ask") {r : (Int32 × ZH)} {r44 : Nat → Int32 → Int32 → Int32 → Int32 → Int32 → Int32 → ZH → Option (Int32 × ZH)} (H44 : ∀ (l0 : Nat) (l1 : Int32) (l2 : Int32) (l3 : Int32) (l4 : Int32) (l5 : Int32) (l6 : Int32) (h : ZH), r44 l0 l1 l2 l3 l4 l5 l6 h = some r → z_W Γ p l e rmX9_ask s m args below meth c 8 0 0 (MQ below (z_Qc Γ (some (.int r.1)) r.2) args s rmX9_ask.cells rmX9_ask.slots (z_A Γ)) 44 [(0, .ref l0), (1, .int l1), (2, .int l2), (3, .int l3), (4, .int l4), (5, .int l5), (6, .int l6)] [] h) : ∀ (l0 : Nat) (l1 : Int32) (l2 : Int32) (l3 : Int32) (l4 : Int32) (l5 : Int32) (l6 : Int32) (h : ZH), xX9_ask_B44  r44 l0 l1 l2 l3 l4 l5 l6 h = some r → z_W Γ p l e rmX9_ask s m args below meth c 8 0 0 (MQ below (z_Qc Γ (some (.int r.1)) r.2) args s rmX9_ask.cells rmX9_ask.slots (z_A Γ)) 44 [(0, .ref l0), (1, .int l1), (2, .int l2), (3, .int l3), (4, .int l4), (5, .int l5), (6, .int l6)] [] h := by
  intro l0 l1 l2 l3 l4 l5 l6 h hX
  refine z_iload (pc := 44) G 6 dX9_ask_44 rfl ?_
  refine z_bipush (pc := 46) (v := 40) G dX9_ask_46 (by decide) ?_
  refine z_icmp_gt (pc := 48) (tgt := 85) G dX9_ask_48 (by decide) (fun hc48 => ?_) (fun hc48 => ?_)
  · have hX := z_it hc48 hX
    refine z_iload_n (pc := 85) G 2 dX9_ask_85 rfl rfl ?_
    refine z_if_ne (pc := 86) (tgt := 94) G dX9_ask_86 (by decide) (fun hc86 => ?_) (fun hc86 => ?_)
    · have hX := z_if hc86 hX
      refine z_iload (pc := 94) G 5 dX9_ask_94 rfl ?_
      exact z_iretX (pc := 96) hX G hr dX9_ask_96 (by decide) (by decide)
    · have hX := z_it hc86 hX
      refine z_iload (pc := 89) G 4 dX9_ask_89 rfl ?_
      refine z_goto (pc := 91) (tgt := 96) G dX9_ask_91 (by decide) ?_
      exact z_iretX (pc := 96) hX G hr dX9_ask_96 (by decide) (by decide)
  · have hX := z_if hc48 hX
    refine z_aload_n (pc := 51) G 0 dX9_ask_51 rfl rfl ?_
    refine z_iload (pc := 52) G 6 dX9_ask_52 rfl ?_
    refine z_iload_n (pc := 54) G 1 dX9_ask_54 rfl rfl ?_
    refine z_iload_n (pc := 55) G 3 dX9_ask_55 rfl rfl ?_
    obtain ⟨hi56, hX⟩ := z_gu_s hX
    obtain ⟨r56, hv56, hX⟩ := z_bd hX
    refine z_cVI (pc := 56) (As := [.int l6, .int l1, .int l3]) (c2 := 0) (s2 := 0) G kK9 (lX9_mostBy hO hv56) hi56 kt_1922 kt_11 kt_1919 kt_1921 ks_107 ydX9_mostBy ⟨by decide, by decide⟩ rfl (Nat.le_of_ble_eq_true rfl) ⟨rfl, rfl⟩ ⟨by decide, by decide⟩ rfl dX9_ask_56 ?_
    refine z_istore (pc := 59) (lv2 := [(0, .ref l0), (1, .int l1), (2, .int l2), (3, .int l3), (4, .int l4), (5, .int l5), (6, .int l6), (7, .int r56.1)]) G dX9_ask_59 (by decide) rfl rfl ?_
    refine z_iload (pc := 61) G 7 dX9_ask_61 rfl ?_
    refine z_iload (pc := 63) G 5 dX9_ask_63 rfl ?_
    refine z_icmp_lt (pc := 65) (tgt := 71) G dX9_ask_65 (by decide) (fun hc65 => ?_) (fun hc65 => ?_)
    · have hX := z_it hc65 hX
      refine z_iload (pc := 71) G 6 dX9_ask_71 rfl ?_
      refine z_istore (pc := 73) (lv2 := [(0, .ref l0), (1, .int l1), (2, .int l2), (3, .int l3), (4, .int l6), (5, .int l5), (6, .int l6), (7, .int r56.1)]) G dX9_ask_73 (by decide) rfl rfl ?_
      refine z_iload (pc := 75) G 7 dX9_ask_75 rfl ?_
      refine z_istore (pc := 77) (lv2 := [(0, .ref l0), (1, .int l1), (2, .int l2), (3, .int l3), (4, .int l6), (5, .int r56.1), (6, .int l6), (7, .int r56.1)]) G dX9_ask_77 (by decide) rfl rfl ?_
      refine z_iincw (pc := 79) (w := 1) (lv2 := [(0, .ref l0), (1, .int l1), (2, .int l2), (3, .int l3), (4, .int l6), (5, .int r56.1), (6, .int (l6 + 1)), (7, .int r56.1)]) G 6 dX9_ask_79 rfl (by decide) (by decide) rfl rfl ?_
      refine z_goto (pc := 82) (tgt := 44) G dX9_ask_82 (by decide) ?_
      refine z_drop (lv2 := [(0, .ref l0), (1, .int l1), (2, .int l2), (3, .int l3), (4, .int l6), (5, .int r56.1), (6, .int (l6 + 1))]) [0, 1, 2, 3, 4, 5, 6] rfl ?_
      exact H44 _ _ _ _ _ _ _ _ hX
    · have hX := z_if hc65 hX
      refine z_goto (pc := 68) (tgt := 79) G dX9_ask_68 (by decide) ?_
      refine z_iincw (pc := 79) (w := 1) (lv2 := [(0, .ref l0), (1, .int l1), (2, .int l2), (3, .int l3), (4, .int l4), (5, .int l5), (6, .int (l6 + 1)), (7, .int r56.1)]) G 6 dX9_ask_79 rfl (by decide) (by decide) rfl rfl ?_
      refine z_goto (pc := 82) (tgt := 44) G dX9_ask_82 (by decide) ?_
      refine z_drop (lv2 := [(0, .ref l0), (1, .int l1), (2, .int l2), (3, .int l3), (4, .int l4), (5, .int l5), (6, .int (l6 + 1))]) [0, 1, 2, 3, 4, 5, 6] rfl ?_
      exact H44 _ _ _ _ _ _ _ _ hX
set_option maxHeartbeats 4000000 in
set_option maxRecDepth 100000 in
theorem wX9_ask_L44 {Γ : ZG} {p : Program} {l : Launch} {e : Env} {s : State} {m : MethodId} {args : Array Value} {below : List Frame} {meth : Method} {c : Code} (hO : z_OK Γ) (G : z_GG Γ p s m args meth c cX9_ask 8 RX9) (hr : meth.sig.returnType = (some .int)) (hnm : meth.name = "ask") {r : (Int32 × ZH)} : ∀ (nn : Nat) (l0 : Nat) (l1 : Int32) (l2 : Int32) (l3 : Int32) (l4 : Int32) (l5 : Int32) (l6 : Int32) (h : ZH), xX9_ask_L44  nn l0 l1 l2 l3 l4 l5 l6 h = some r → z_W Γ p l e rmX9_ask s m args below meth c 8 0 0 (MQ below (z_Qc Γ (some (.int r.1)) r.2) args s rmX9_ask.cells rmX9_ask.slots (z_A Γ)) 44 [(0, .ref l0), (1, .int l1), (2, .int l2), (3, .int l3), (4, .int l4), (5, .int l5), (6, .int l6)] [] h := by
  intro nn
  induction nn with
  | zero => intro l0 l1 l2 l3 l4 l5 l6 h hX; cases hX
  | succ nn ih => intro l0 l1 l2 l3 l4 l5 l6 h hX; exact wX9_ask_B44 hO G hr hnm  ih l0 l1 l2 l3 l4 l5 l6 h hX
noncomputable def xX9_ask (l0 : Nat) (l1 : Int32) (l2 : Int32) (l3 : Int32) (h : ZH) : Option (Int32 × ZH) := (z_gu (z_is h l0 9) ((xX9_lots l0 h).bind fun r3 => ((xX9_isIn l1 (0 : Int32) (r3.1 - (2 : Int32)) r3.2).bind fun r8 => (if r8.1 = 0 then some ((-1 : Int32), r8.2) else ((xX9_isIn l2 (0 : Int32) (1 : Int32) r8.2).bind fun r17 => (if r17.1 = 0 then some ((-1 : Int32), r17.2) else (z_gu (z_is r17.2 l0 9) ((xX9_fits l0 l3 r17.2).bind fun r25 => (if r25.1 = 0 then some ((-1 : Int32), r25.2) else xX9_ask_L44 zFU l0 l1 l2 l3 (-1 : Int32) (100000 : Int32) (0 : Int32) r25.2)))))))))
set_option maxHeartbeats 4000000 in
set_option maxRecDepth 100000 in
theorem lX9_ask {Γ : ZG} {l : Launch} (hO : z_OK Γ) {l0 : Nat} {l1 : Int32} {l2 : Int32} {l3 : Int32} {h : ZH} {r : (Int32 × ZH)} (hX : xX9_ask l0 l1 l2 l3 h = some r) : z_M Γ l yX9_ask (z_ws1 yX9_ask cX9_ask 8 (some .int)) rmX9_ask [.ref l0, .int l1, .int l2, .int l3] h (some (.int r.1)) r.2 := by
  refine z_start hO (plainFor_of_name (by decide)) (Nat.le_of_ble_eq_true rfl) ?_
  intro p e s m args below meth c G hr hnm
  refine z_lvc (lv2 := [(0, .ref l0), (1, .int l1), (2, .int l2), (3, .int l3)]) rfl ?_
  refine z_iload_n (pc := 0) G 1 dX9_ask_0 rfl rfl ?_
  refine z_iconst (pc := 1) (v := 0) G dX9_ask_1 (by decide) ?_
  refine z_aload_n (pc := 2) G 0 dX9_ask_2 rfl rfl ?_
  obtain ⟨hi3, hX⟩ := z_gu_s hX
  obtain ⟨r3, hv3, hX⟩ := z_bd hX
  refine z_cVI (pc := 3) (As := []) (c2 := 0) (s2 := 0) G kK9 (lX9_lots hO hv3) hi3 kt_1221 kt_11 kt_1218 kt_1220 ks_36 ydX9_lots ⟨by decide, by decide⟩ rfl (Nat.le_of_ble_eq_true rfl) ⟨rfl, rfl⟩ ⟨by decide, by decide⟩ rfl dX9_ask_3 ?_
  refine z_iconst (pc := 6) (v := 2) G dX9_ask_6 (by decide) ?_
  refine z_isub (pc := 7) G dX9_ask_7 ?_
  obtain ⟨r8, hv8, hX⟩ := z_bd hX
  refine z_cSI (pc := 8) (As := [.int l1, .int (0 : Int32), .int (r3.1 - (2 : Int32))]) (c2 := 0) (s2 := 0) G (lX9_isIn hO hv8) kt_1559 kt_11 kt_1557 kt_1558 ydX9_isIn ⟨by decide, by decide⟩ rfl (Nat.le_of_ble_eq_true rfl) ⟨rfl, rfl⟩ ⟨by decide, by decide⟩ rfl dX9_ask_8 ?_
  refine z_if_eq (pc := 11) (tgt := 31) G dX9_ask_11 (by decide) (fun hc11 => ?_) (fun hc11 => ?_)
  · have hX := z_it hc11 hX
    refine z_iconst (pc := 31) (v := (-1)) G dX9_ask_31 (by decide) ?_
    exact z_iretX (pc := 32) hX G hr dX9_ask_32 (by decide) (by decide)
  · have hX := z_if hc11 hX
    refine z_iload_n (pc := 14) G 2 dX9_ask_14 rfl rfl ?_
    refine z_iconst (pc := 15) (v := 0) G dX9_ask_15 (by decide) ?_
    refine z_iconst (pc := 16) (v := 1) G dX9_ask_16 (by decide) ?_
    obtain ⟨r17, hv17, hX⟩ := z_bd hX
    refine z_cSI (pc := 17) (As := [.int l2, .int (0 : Int32), .int (1 : Int32)]) (c2 := 0) (s2 := 0) G (lX9_isIn hO hv17) kt_1559 kt_11 kt_1557 kt_1558 ydX9_isIn ⟨by decide, by decide⟩ rfl (Nat.le_of_ble_eq_true rfl) ⟨rfl, rfl⟩ ⟨by decide, by decide⟩ rfl dX9_ask_17 ?_
    refine z_if_eq (pc := 20) (tgt := 31) G dX9_ask_20 (by decide) (fun hc20 => ?_) (fun hc20 => ?_)
    · have hX := z_it hc20 hX
      refine z_iconst (pc := 31) (v := (-1)) G dX9_ask_31 (by decide) ?_
      exact z_iretX (pc := 32) hX G hr dX9_ask_32 (by decide) (by decide)
    · have hX := z_if hc20 hX
      refine z_aload_n (pc := 23) G 0 dX9_ask_23 rfl rfl ?_
      refine z_iload_n (pc := 24) G 3 dX9_ask_24 rfl rfl ?_
      obtain ⟨hi25, hX⟩ := z_gu_s hX
      obtain ⟨r25, hv25, hX⟩ := z_bd hX
      refine z_cVI (pc := 25) (As := [.int l3]) (c2 := 0) (s2 := 0) G kK9 (lX9_fits hO hv25) hi25 kt_1901 kt_11 kt_1914 kt_1899 kt_1900 ydX9_fits ⟨by decide, by decide⟩ rfl (Nat.le_of_ble_eq_true rfl) ⟨rfl, rfl⟩ ⟨by decide, by decide⟩ rfl dX9_ask_25 ?_
      refine z_if_ne (pc := 28) (tgt := 33) G dX9_ask_28 (by decide) (fun hc28 => ?_) (fun hc28 => ?_)
      · have hX := z_if hc28 hX
        refine z_iconst (pc := 33) (v := (-1)) G dX9_ask_33 (by decide) ?_
        refine z_istore (pc := 34) (lv2 := [(0, .ref l0), (1, .int l1), (2, .int l2), (3, .int l3), (4, .int (-1 : Int32))]) G dX9_ask_34 (by decide) rfl rfl ?_
        refine z_ldcw (pc := 36) G kt_1897 dX9_ask_36 ?_
        refine z_istore (pc := 39) (lv2 := [(0, .ref l0), (1, .int l1), (2, .int l2), (3, .int l3), (4, .int (-1 : Int32)), (5, .int (100000 : Int32))]) G dX9_ask_39 (by decide) rfl rfl ?_
        refine z_iconst (pc := 41) (v := 0) G dX9_ask_41 (by decide) ?_
        refine z_istore (pc := 42) (lv2 := [(0, .ref l0), (1, .int l1), (2, .int l2), (3, .int l3), (4, .int (-1 : Int32)), (5, .int (100000 : Int32)), (6, .int (0 : Int32))]) G dX9_ask_42 (by decide) rfl rfl ?_
        exact wX9_ask_L44 hO G hr hnm zFU _ _ _ _ _ _ _ _ hX
      · have hX := z_it hc28 hX
        refine z_iconst (pc := 31) (v := (-1)) G dX9_ask_31 (by decide) ?_
        exact z_iretX (pc := 32) hX G hr dX9_ask_32 (by decide) (by decide)
theorem dX9_image_0 : decode cX9_image 0 = .ok (.iload_n 1, 1) := by decide +kernel
theorem dX9_image_1 : decode cX9_image 1 = .ok (.iconst 0, 1) := by decide +kernel
theorem dX9_image_2 : decode cX9_image 2 = .ok (.iconst 2, 1) := by decide +kernel
theorem dX9_image_3 : decode cX9_image 3 = .ok (.invokestatic 340, 3) := by decide +kernel
theorem dX9_image_6 : decode cX9_image 6 = .ok (.ifCond .ne 5, 3) := by decide +kernel
theorem dX9_image_9 : decode cX9_image 9 = .ok (.iconst (-1), 1) := by decide +kernel
theorem dX9_image_10 : decode cX9_image 10 = .ok (.ireturn, 1) := by decide +kernel
theorem dX9_image_11 : decode cX9_image 11 = .ok (.iconst 0, 1) := by decide +kernel
theorem dX9_image_12 : decode cX9_image 12 = .ok (.istore_n 2, 1) := by decide +kernel
theorem dX9_image_13 : decode cX9_image 13 = .ok (.iload_n 2, 1) := by decide +kernel
theorem dX9_image_14 : decode cX9_image 14 = .ok (.sipush 521, 3) := by decide +kernel
theorem dX9_image_17 : decode cX9_image 17 = .ok (.if_icmp .ge 27, 3) := by decide +kernel
theorem dX9_image_20 : decode cX9_image 20 = .ok (.aload_n 0, 1) := by decide +kernel
theorem dX9_image_21 : decode cX9_image 21 = .ok (.getfield 130, 3) := by decide +kernel
theorem dX9_image_24 : decode cX9_image 24 = .ok (.sipush 521, 3) := by decide +kernel
theorem dX9_image_27 : decode cX9_image 27 = .ok (.iload_n 1, 1) := by decide +kernel
theorem dX9_image_28 : decode cX9_image 28 = .ok (.imul, 1) := by decide +kernel
theorem dX9_image_29 : decode cX9_image 29 = .ok (.iload_n 2, 1) := by decide +kernel
theorem dX9_image_30 : decode cX9_image 30 = .ok (.iadd, 1) := by decide +kernel
theorem dX9_image_31 : decode cX9_image 31 = .ok (.aload_n 0, 1) := by decide +kernel
theorem dX9_image_32 : decode cX9_image 32 = .ok (.getfield 91, 3) := by decide +kernel
theorem dX9_image_35 : decode cX9_image 35 = .ok (.iload_n 2, 1) := by decide +kernel
theorem dX9_image_36 : decode cX9_image 36 = .ok (.iaload, 1) := by decide +kernel
theorem dX9_image_37 : decode cX9_image 37 = .ok (.iastore, 1) := by decide +kernel
theorem dX9_image_38 : decode cX9_image 38 = .ok (.iinc 2 1, 3) := by decide +kernel
theorem dX9_image_41 : decode cX9_image 41 = .ok (.goto (-28), 3) := by decide +kernel
theorem dX9_image_44 : decode cX9_image 44 = .ok (.aload_n 0, 1) := by decide +kernel
theorem dX9_image_45 : decode cX9_image 45 = .ok (.getfield 133, 3) := by decide +kernel
theorem dX9_image_48 : decode cX9_image 48 = .ok (.iload_n 1, 1) := by decide +kernel
theorem dX9_image_49 : decode cX9_image 49 = .ok (.iconst 1, 1) := by decide +kernel
theorem dX9_image_50 : decode cX9_image 50 = .ok (.bastore, 1) := by decide +kernel
theorem dX9_image_51 : decode cX9_image 51 = .ok (.aload_n 0, 1) := by decide +kernel
theorem dX9_image_52 : decode cX9_image 52 = .ok (.getfield 91, 3) := by decide +kernel
theorem dX9_image_55 : decode cX9_image 55 = .ok (.sipush 517, 3) := by decide +kernel
theorem dX9_image_58 : decode cX9_image 58 = .ok (.iaload, 1) := by decide +kernel
theorem dX9_image_59 : decode cX9_image 59 = .ok (.ireturn, 1) := by decide +kernel
theorem ydX9_image : z_yd yX9_image 1 := ⟨by decide, by decide, by decide +kernel⟩
abbrev rmX9_image : Room := { frames := 1, cells := 0, slots := 0, locals := 22 }
noncomputable def xX9_image_B44 (l0 : Nat) (l1 : Int32) (h : ZH) : Option (Int32 × ZH) := ((z_gR h l0 9 60).bind fun x45 => ((z_uB h x45 l1 (1 : Int32)).bind fun h50 => ((z_gR h50 l0 9 41).bind fun x52 => ((z_aI h50 x52 (517 : Int32)).bind fun x58 => some (x58, h50)))))
set_option maxHeartbeats 4000000 in
set_option maxRecDepth 100000 in
theorem wX9_image_B44 {Γ : ZG} {p : Program} {l : Launch} {e : Env} {s : State} {m : MethodId} {args : Array Value} {below : List Frame} {meth : Method} {c : Code} (hO : z_OK Γ) (G : z_GG Γ p s m args meth c cX9_image 3 RX9) (hr : meth.sig.returnType = (some .int)) (hnm : meth.name = "image") {r : (Int32 × ZH)} : ∀ (l0 : Nat) (l1 : Int32) (h : ZH), xX9_image_B44  l0 l1 h = some r → z_W Γ p l e rmX9_image s m args below meth c 3 0 0 (MQ below (z_Qc Γ (some (.int r.1)) r.2) args s rmX9_image.cells rmX9_image.slots (z_A Γ)) 44 [(0, .ref l0), (1, .int l1)] [] h := by
  intro l0 l1 h hX
  refine z_aload_n (pc := 44) G 0 dX9_image_44 rfl rfl ?_
  obtain ⟨x45, hv45, hX⟩ := z_bd hX
  refine z_getR (pc := 45) G kK9 (k := 60) (by decide) kt_1286 dX9_image_45 hv45 ?_
  refine z_iload_n (pc := 48) G 1 dX9_image_48 rfl rfl ?_
  refine z_iconst (pc := 49) (v := 1) G dX9_image_49 (by decide) ?_
  obtain ⟨h50, hv50, hX⟩ := z_bd hX
  refine z_bast (pc := 50) G dX9_image_50 hv50 ?_
  refine z_aload_n (pc := 51) G 0 dX9_image_51 rfl rfl ?_
  obtain ⟨x52, hv52, hX⟩ := z_bd hX
  refine z_getR (pc := 52) G kK9 (k := 41) (by decide) kt_1267 dX9_image_52 hv52 ?_
  refine z_sipush (pc := 55) (v := 517) G dX9_image_55 (by decide) ?_
  obtain ⟨x58, hv58, hX⟩ := z_bd hX
  refine z_iald (pc := 58) G dX9_image_58 hv58 ?_
  exact z_iretX (pc := 59) hX G hr dX9_image_59 (by decide) (by decide)
noncomputable def xX9_image_B13 (r13 : Nat → Int32 → Int32 → ZH → Option (Int32 × ZH)) (l0 : Nat) (l1 : Int32) (l2 : Int32) (h : ZH) : Option (Int32 × ZH) := (if (521 : Int32) ≤ l2 then xX9_image_B44 l0 l1 h else ((z_gR h l0 9 59).bind fun x21 => ((z_gR h l0 9 41).bind fun x32 => ((z_aI h x32 l2).bind fun x36 => ((z_uI h x21 (((521 : Int32) * l1) + l2) x36).bind fun h37 => r13 l0 l1 (l2 + 1) h37)))))
noncomputable def xX9_image_L13 (n : Nat) : Nat → Int32 → Int32 → ZH → Option (Int32 × ZH) := Nat.rec (motive := fun _ => Nat → Int32 → Int32 → ZH → Option (Int32 × ZH)) (fun _ _ _ _ => none) (fun _ rec => xX9_image_B13  rec) n
set_option maxHeartbeats 4000000 in
set_option maxRecDepth 100000 in
theorem wX9_image_B13 {Γ : ZG} {p : Program} {l : Launch} {e : Env} {s : State} {m : MethodId} {args : Array Value} {below : List Frame} {meth : Method} {c : Code} (hO : z_OK Γ) (G : z_GG Γ p s m args meth c cX9_image 3 RX9) (hr : meth.sig.returnType = (some .int)) (hnm : meth.name = "image") {r : (Int32 × ZH)} {r13 : Nat → Int32 → Int32 → ZH → Option (Int32 × ZH)} (H13 : ∀ (l0 : Nat) (l1 : Int32) (l2 : Int32) (h : ZH), r13 l0 l1 l2 h = some r → z_W Γ p l e rmX9_image s m args below meth c 3 0 0 (MQ below (z_Qc Γ (some (.int r.1)) r.2) args s rmX9_image.cells rmX9_image.slots (z_A Γ)) 13 [(0, .ref l0), (1, .int l1), (2, .int l2)] [] h) : ∀ (l0 : Nat) (l1 : Int32) (l2 : Int32) (h : ZH), xX9_image_B13  r13 l0 l1 l2 h = some r → z_W Γ p l e rmX9_image s m args below meth c 3 0 0 (MQ below (z_Qc Γ (some (.int r.1)) r.2) args s rmX9_image.cells rmX9_image.slots (z_A Γ)) 13 [(0, .ref l0), (1, .int l1), (2, .int l2)] [] h := by
  intro l0 l1 l2 h hX
  refine z_iload_n (pc := 13) G 2 dX9_image_13 rfl rfl ?_
  refine z_sipush (pc := 14) (v := 521) G dX9_image_14 (by decide) ?_
  refine z_icmp_ge (pc := 17) (tgt := 44) G dX9_image_17 (by decide) (fun hc17 => ?_) (fun hc17 => ?_)
  · have hX := z_it hc17 hX
    refine z_drop (lv2 := [(0, .ref l0), (1, .int l1)]) [0, 1] rfl ?_
    exact wX9_image_B44 hO G hr hnm _ _ _ hX
  · have hX := z_if hc17 hX
    refine z_aload_n (pc := 20) G 0 dX9_image_20 rfl rfl ?_
    obtain ⟨x21, hv21, hX⟩ := z_bd hX
    refine z_getR (pc := 21) G kK9 (k := 59) (by decide) kt_1285 dX9_image_21 hv21 ?_
    refine z_sipush (pc := 24) (v := 521) G dX9_image_24 (by decide) ?_
    refine z_iload_n (pc := 27) G 1 dX9_image_27 rfl rfl ?_
    refine z_imul (pc := 28) G dX9_image_28 ?_
    refine z_iload_n (pc := 29) G 2 dX9_image_29 rfl rfl ?_
    refine z_iadd (pc := 30) G dX9_image_30 ?_
    refine z_aload_n (pc := 31) G 0 dX9_image_31 rfl rfl ?_
    obtain ⟨x32, hv32, hX⟩ := z_bd hX
    refine z_getR (pc := 32) G kK9 (k := 41) (by decide) kt_1267 dX9_image_32 hv32 ?_
    refine z_iload_n (pc := 35) G 2 dX9_image_35 rfl rfl ?_
    obtain ⟨x36, hv36, hX⟩ := z_bd hX
    refine z_iald (pc := 36) G dX9_image_36 hv36 ?_
    obtain ⟨h37, hv37, hX⟩ := z_bd hX
    refine z_iast (pc := 37) G dX9_image_37 hv37 ?_
    refine z_iincw (pc := 38) (w := 1) (lv2 := [(0, .ref l0), (1, .int l1), (2, .int (l2 + 1))]) G 2 dX9_image_38 rfl (by decide) (by decide) rfl rfl ?_
    refine z_goto (pc := 41) (tgt := 13) G dX9_image_41 (by decide) ?_
    exact H13 _ _ _ _ hX
set_option maxHeartbeats 4000000 in
set_option maxRecDepth 100000 in
theorem wX9_image_L13 {Γ : ZG} {p : Program} {l : Launch} {e : Env} {s : State} {m : MethodId} {args : Array Value} {below : List Frame} {meth : Method} {c : Code} (hO : z_OK Γ) (G : z_GG Γ p s m args meth c cX9_image 3 RX9) (hr : meth.sig.returnType = (some .int)) (hnm : meth.name = "image") {r : (Int32 × ZH)} : ∀ (nn : Nat) (l0 : Nat) (l1 : Int32) (l2 : Int32) (h : ZH), xX9_image_L13  nn l0 l1 l2 h = some r → z_W Γ p l e rmX9_image s m args below meth c 3 0 0 (MQ below (z_Qc Γ (some (.int r.1)) r.2) args s rmX9_image.cells rmX9_image.slots (z_A Γ)) 13 [(0, .ref l0), (1, .int l1), (2, .int l2)] [] h := by
  intro nn
  induction nn with
  | zero => intro l0 l1 l2 h hX; cases hX
  | succ nn ih => intro l0 l1 l2 h hX; exact wX9_image_B13 hO G hr hnm  ih l0 l1 l2 h hX
noncomputable def xX9_image (l0 : Nat) (l1 : Int32) (h : ZH) : Option (Int32 × ZH) := ((xX9_isIn l1 (0 : Int32) (2 : Int32) h).bind fun r3 => (if r3.1 = 0 then some ((-1 : Int32), r3.2) else xX9_image_L13 zFU l0 l1 (0 : Int32) r3.2))
set_option maxHeartbeats 4000000 in
set_option maxRecDepth 100000 in
theorem lX9_image {Γ : ZG} {l : Launch} (hO : z_OK Γ) {l0 : Nat} {l1 : Int32} {h : ZH} {r : (Int32 × ZH)} (hX : xX9_image l0 l1 h = some r) : z_M Γ l yX9_image (z_ws1 yX9_image cX9_image 3 (some .int)) rmX9_image [.ref l0, .int l1] h (some (.int r.1)) r.2 := by
  refine z_start hO (plainFor_of_name (by decide)) (Nat.le_of_ble_eq_true rfl) ?_
  intro p e s m args below meth c G hr hnm
  refine z_lvc (lv2 := [(0, .ref l0), (1, .int l1)]) rfl ?_
  refine z_iload_n (pc := 0) G 1 dX9_image_0 rfl rfl ?_
  refine z_iconst (pc := 1) (v := 0) G dX9_image_1 (by decide) ?_
  refine z_iconst (pc := 2) (v := 2) G dX9_image_2 (by decide) ?_
  obtain ⟨r3, hv3, hX⟩ := z_bd hX
  refine z_cSI (pc := 3) (As := [.int l1, .int (0 : Int32), .int (2 : Int32)]) (c2 := 0) (s2 := 0) G (lX9_isIn hO hv3) kt_1559 kt_11 kt_1557 kt_1558 ydX9_isIn ⟨by decide, by decide⟩ rfl (Nat.le_of_ble_eq_true rfl) ⟨rfl, rfl⟩ ⟨by decide, by decide⟩ rfl dX9_image_3 ?_
  refine z_if_ne (pc := 6) (tgt := 11) G dX9_image_6 (by decide) (fun hc6 => ?_) (fun hc6 => ?_)
  · have hX := z_if hc6 hX
    refine z_iconst (pc := 11) (v := 0) G dX9_image_11 (by decide) ?_
    refine z_istore_n (pc := 12) (lv2 := [(0, .ref l0), (1, .int l1), (2, .int (0 : Int32))]) G dX9_image_12 rfl (by decide) rfl rfl ?_
    exact wX9_image_L13 hO G hr hnm zFU _ _ _ _ hX
  · have hX := z_it hc6 hX
    refine z_iconst (pc := 9) (v := (-1)) G dX9_image_9 (by decide) ?_
    exact z_iretX (pc := 10) hX G hr dX9_image_10 (by decide) (by decide)
theorem dX9_back_0 : decode cX9_back 0 = .ok (.iload_n 1, 1) := by decide +kernel
theorem dX9_back_1 : decode cX9_back 1 = .ok (.iconst 0, 1) := by decide +kernel
theorem dX9_back_2 : decode cX9_back 2 = .ok (.iconst 2, 1) := by decide +kernel
theorem dX9_back_3 : decode cX9_back 3 = .ok (.invokestatic 340, 3) := by decide +kernel
theorem dX9_back_6 : decode cX9_back 6 = .ok (.ifCond .eq 12, 3) := by decide +kernel
theorem dX9_back_9 : decode cX9_back 9 = .ok (.aload_n 0, 1) := by decide +kernel
theorem dX9_back_10 : decode cX9_back 10 = .ok (.getfield 133, 3) := by decide +kernel
theorem dX9_back_13 : decode cX9_back 13 = .ok (.iload_n 1, 1) := by decide +kernel
theorem dX9_back_14 : decode cX9_back 14 = .ok (.baload, 1) := by decide +kernel
theorem dX9_back_15 : decode cX9_back 15 = .ok (.ifCond .ne 5, 3) := by decide +kernel
theorem dX9_back_18 : decode cX9_back 18 = .ok (.iconst (-1), 1) := by decide +kernel
theorem dX9_back_19 : decode cX9_back 19 = .ok (.ireturn, 1) := by decide +kernel
theorem dX9_back_20 : decode cX9_back 20 = .ok (.iconst 0, 1) := by decide +kernel
theorem dX9_back_21 : decode cX9_back 21 = .ok (.istore_n 2, 1) := by decide +kernel
theorem dX9_back_22 : decode cX9_back 22 = .ok (.iload_n 2, 1) := by decide +kernel
theorem dX9_back_23 : decode cX9_back 23 = .ok (.sipush 521, 3) := by decide +kernel
theorem dX9_back_26 : decode cX9_back 26 = .ok (.if_icmp .ge 27, 3) := by decide +kernel
theorem dX9_back_29 : decode cX9_back 29 = .ok (.aload_n 0, 1) := by decide +kernel
theorem dX9_back_30 : decode cX9_back 30 = .ok (.getfield 91, 3) := by decide +kernel
theorem dX9_back_33 : decode cX9_back 33 = .ok (.iload_n 2, 1) := by decide +kernel
theorem dX9_back_34 : decode cX9_back 34 = .ok (.aload_n 0, 1) := by decide +kernel
theorem dX9_back_35 : decode cX9_back 35 = .ok (.getfield 130, 3) := by decide +kernel
theorem dX9_back_38 : decode cX9_back 38 = .ok (.sipush 521, 3) := by decide +kernel
theorem dX9_back_41 : decode cX9_back 41 = .ok (.iload_n 1, 1) := by decide +kernel
theorem dX9_back_42 : decode cX9_back 42 = .ok (.imul, 1) := by decide +kernel
theorem dX9_back_43 : decode cX9_back 43 = .ok (.iload_n 2, 1) := by decide +kernel
theorem dX9_back_44 : decode cX9_back 44 = .ok (.iadd, 1) := by decide +kernel
theorem dX9_back_45 : decode cX9_back 45 = .ok (.iaload, 1) := by decide +kernel
theorem dX9_back_46 : decode cX9_back 46 = .ok (.iastore, 1) := by decide +kernel
theorem dX9_back_47 : decode cX9_back 47 = .ok (.iinc 2 1, 3) := by decide +kernel
theorem dX9_back_50 : decode cX9_back 50 = .ok (.goto (-28), 3) := by decide +kernel
theorem dX9_back_53 : decode cX9_back 53 = .ok (.aload_n 0, 1) := by decide +kernel
theorem dX9_back_54 : decode cX9_back 54 = .ok (.iconst 0, 1) := by decide +kernel
theorem dX9_back_55 : decode cX9_back 55 = .ok (.putfield 371, 3) := by decide +kernel
theorem dX9_back_58 : decode cX9_back 58 = .ok (.aload_n 0, 1) := by decide +kernel
theorem dX9_back_59 : decode cX9_back 59 = .ok (.iconst 0, 1) := by decide +kernel
theorem dX9_back_60 : decode cX9_back 60 = .ok (.putfield 374, 3) := by decide +kernel
theorem dX9_back_63 : decode cX9_back 63 = .ok (.aload_n 0, 1) := by decide +kernel
theorem dX9_back_64 : decode cX9_back 64 = .ok (.getfield 91, 3) := by decide +kernel
theorem dX9_back_67 : decode cX9_back 67 = .ok (.sipush 517, 3) := by decide +kernel
theorem dX9_back_70 : decode cX9_back 70 = .ok (.iaload, 1) := by decide +kernel
theorem dX9_back_71 : decode cX9_back 71 = .ok (.ireturn, 1) := by decide +kernel
theorem ydX9_back : z_yd yX9_back 1 := ⟨by decide, by decide, by decide +kernel⟩
abbrev rmX9_back : Room := { frames := 1, cells := 0, slots := 0, locals := 22 }
noncomputable def xX9_back_B53 (l0 : Nat) (h : ZH) : Option (Int32 × ZH) := ((z_sF h l0 9 48 (.int (0 : Int32))).bind fun h55 => ((z_sF h55 l0 9 49 (.int (0 : Int32))).bind fun h60 => ((z_gR h60 l0 9 41).bind fun x64 => ((z_aI h60 x64 (517 : Int32)).bind fun x70 => some (x70, h60)))))
set_option maxHeartbeats 4000000 in
set_option maxRecDepth 100000 in
theorem wX9_back_B53 {Γ : ZG} {p : Program} {l : Launch} {e : Env} {s : State} {m : MethodId} {args : Array Value} {below : List Frame} {meth : Method} {c : Code} (hO : z_OK Γ) (G : z_GG Γ p s m args meth c cX9_back 3 RX9) (hr : meth.sig.returnType = (some .int)) (hnm : meth.name = "back") {r : (Int32 × ZH)} : ∀ (l0 : Nat) (h : ZH), xX9_back_B53  l0 h = some r → z_W Γ p l e rmX9_back s m args below meth c 3 0 0 (MQ below (z_Qc Γ (some (.int r.1)) r.2) args s rmX9_back.cells rmX9_back.slots (z_A Γ)) 53 [(0, .ref l0)] [] h := by
  intro l0 h hX
  refine z_aload_n (pc := 53) G 0 dX9_back_53 rfl rfl ?_
  refine z_iconst (pc := 54) (v := 0) G dX9_back_54 (by decide) ?_
  obtain ⟨h55, hv55, hX⟩ := z_bd hX
  refine z_putF (pc := 55) G kK9 (k := 48) (by decide) kt_1274 (Or.inl rfl) rfl rfl dX9_back_55 hv55 ?_
  refine z_aload_n (pc := 58) G 0 dX9_back_58 rfl rfl ?_
  refine z_iconst (pc := 59) (v := 0) G dX9_back_59 (by decide) ?_
  obtain ⟨h60, hv60, hX⟩ := z_bd hX
  refine z_putF (pc := 60) G kK9 (k := 49) (by decide) kt_1275 (Or.inl rfl) rfl rfl dX9_back_60 hv60 ?_
  refine z_aload_n (pc := 63) G 0 dX9_back_63 rfl rfl ?_
  obtain ⟨x64, hv64, hX⟩ := z_bd hX
  refine z_getR (pc := 64) G kK9 (k := 41) (by decide) kt_1267 dX9_back_64 hv64 ?_
  refine z_sipush (pc := 67) (v := 517) G dX9_back_67 (by decide) ?_
  obtain ⟨x70, hv70, hX⟩ := z_bd hX
  refine z_iald (pc := 70) G dX9_back_70 hv70 ?_
  exact z_iretX (pc := 71) hX G hr dX9_back_71 (by decide) (by decide)
noncomputable def xX9_back_B22 (r22 : Nat → Int32 → Int32 → ZH → Option (Int32 × ZH)) (l0 : Nat) (l1 : Int32) (l2 : Int32) (h : ZH) : Option (Int32 × ZH) := (if (521 : Int32) ≤ l2 then xX9_back_B53 l0 h else ((z_gR h l0 9 41).bind fun x30 => ((z_gR h l0 9 59).bind fun x35 => ((z_aI h x35 (((521 : Int32) * l1) + l2)).bind fun x45 => ((z_uI h x30 l2 x45).bind fun h46 => r22 l0 l1 (l2 + 1) h46)))))
noncomputable def xX9_back_L22 (n : Nat) : Nat → Int32 → Int32 → ZH → Option (Int32 × ZH) := Nat.rec (motive := fun _ => Nat → Int32 → Int32 → ZH → Option (Int32 × ZH)) (fun _ _ _ _ => none) (fun _ rec => xX9_back_B22  rec) n
set_option maxHeartbeats 4000000 in
set_option maxRecDepth 100000 in
theorem wX9_back_B22 {Γ : ZG} {p : Program} {l : Launch} {e : Env} {s : State} {m : MethodId} {args : Array Value} {below : List Frame} {meth : Method} {c : Code} (hO : z_OK Γ) (G : z_GG Γ p s m args meth c cX9_back 3 RX9) (hr : meth.sig.returnType = (some .int)) (hnm : meth.name = "back") {r : (Int32 × ZH)} {r22 : Nat → Int32 → Int32 → ZH → Option (Int32 × ZH)} (H22 : ∀ (l0 : Nat) (l1 : Int32) (l2 : Int32) (h : ZH), r22 l0 l1 l2 h = some r → z_W Γ p l e rmX9_back s m args below meth c 3 0 0 (MQ below (z_Qc Γ (some (.int r.1)) r.2) args s rmX9_back.cells rmX9_back.slots (z_A Γ)) 22 [(0, .ref l0), (1, .int l1), (2, .int l2)] [] h) : ∀ (l0 : Nat) (l1 : Int32) (l2 : Int32) (h : ZH), xX9_back_B22  r22 l0 l1 l2 h = some r → z_W Γ p l e rmX9_back s m args below meth c 3 0 0 (MQ below (z_Qc Γ (some (.int r.1)) r.2) args s rmX9_back.cells rmX9_back.slots (z_A Γ)) 22 [(0, .ref l0), (1, .int l1), (2, .int l2)] [] h := by
  intro l0 l1 l2 h hX
  refine z_iload_n (pc := 22) G 2 dX9_back_22 rfl rfl ?_
  refine z_sipush (pc := 23) (v := 521) G dX9_back_23 (by decide) ?_
  refine z_icmp_ge (pc := 26) (tgt := 53) G dX9_back_26 (by decide) (fun hc26 => ?_) (fun hc26 => ?_)
  · have hX := z_it hc26 hX
    refine z_drop (lv2 := [(0, .ref l0)]) [0] rfl ?_
    exact wX9_back_B53 hO G hr hnm _ _ hX
  · have hX := z_if hc26 hX
    refine z_aload_n (pc := 29) G 0 dX9_back_29 rfl rfl ?_
    obtain ⟨x30, hv30, hX⟩ := z_bd hX
    refine z_getR (pc := 30) G kK9 (k := 41) (by decide) kt_1267 dX9_back_30 hv30 ?_
    refine z_iload_n (pc := 33) G 2 dX9_back_33 rfl rfl ?_
    refine z_aload_n (pc := 34) G 0 dX9_back_34 rfl rfl ?_
    obtain ⟨x35, hv35, hX⟩ := z_bd hX
    refine z_getR (pc := 35) G kK9 (k := 59) (by decide) kt_1285 dX9_back_35 hv35 ?_
    refine z_sipush (pc := 38) (v := 521) G dX9_back_38 (by decide) ?_
    refine z_iload_n (pc := 41) G 1 dX9_back_41 rfl rfl ?_
    refine z_imul (pc := 42) G dX9_back_42 ?_
    refine z_iload_n (pc := 43) G 2 dX9_back_43 rfl rfl ?_
    refine z_iadd (pc := 44) G dX9_back_44 ?_
    obtain ⟨x45, hv45, hX⟩ := z_bd hX
    refine z_iald (pc := 45) G dX9_back_45 hv45 ?_
    obtain ⟨h46, hv46, hX⟩ := z_bd hX
    refine z_iast (pc := 46) G dX9_back_46 hv46 ?_
    refine z_iincw (pc := 47) (w := 1) (lv2 := [(0, .ref l0), (1, .int l1), (2, .int (l2 + 1))]) G 2 dX9_back_47 rfl (by decide) (by decide) rfl rfl ?_
    refine z_goto (pc := 50) (tgt := 22) G dX9_back_50 (by decide) ?_
    exact H22 _ _ _ _ hX
set_option maxHeartbeats 4000000 in
set_option maxRecDepth 100000 in
theorem wX9_back_L22 {Γ : ZG} {p : Program} {l : Launch} {e : Env} {s : State} {m : MethodId} {args : Array Value} {below : List Frame} {meth : Method} {c : Code} (hO : z_OK Γ) (G : z_GG Γ p s m args meth c cX9_back 3 RX9) (hr : meth.sig.returnType = (some .int)) (hnm : meth.name = "back") {r : (Int32 × ZH)} : ∀ (nn : Nat) (l0 : Nat) (l1 : Int32) (l2 : Int32) (h : ZH), xX9_back_L22  nn l0 l1 l2 h = some r → z_W Γ p l e rmX9_back s m args below meth c 3 0 0 (MQ below (z_Qc Γ (some (.int r.1)) r.2) args s rmX9_back.cells rmX9_back.slots (z_A Γ)) 22 [(0, .ref l0), (1, .int l1), (2, .int l2)] [] h := by
  intro nn
  induction nn with
  | zero => intro l0 l1 l2 h hX; cases hX
  | succ nn ih => intro l0 l1 l2 h hX; exact wX9_back_B22 hO G hr hnm  ih l0 l1 l2 h hX
noncomputable def xX9_back (l0 : Nat) (l1 : Int32) (h : ZH) : Option (Int32 × ZH) := ((xX9_isIn l1 (0 : Int32) (2 : Int32) h).bind fun r3 => (if r3.1 = 0 then some ((-1 : Int32), r3.2) else ((z_gR r3.2 l0 9 60).bind fun x10 => ((z_aB r3.2 x10 l1).bind fun x14 => (if x14 = 0 then some ((-1 : Int32), r3.2) else xX9_back_L22 zFU l0 l1 (0 : Int32) r3.2)))))
set_option maxHeartbeats 4000000 in
set_option maxRecDepth 100000 in
theorem lX9_back {Γ : ZG} {l : Launch} (hO : z_OK Γ) {l0 : Nat} {l1 : Int32} {h : ZH} {r : (Int32 × ZH)} (hX : xX9_back l0 l1 h = some r) : z_M Γ l yX9_back (z_ws1 yX9_back cX9_back 3 (some .int)) rmX9_back [.ref l0, .int l1] h (some (.int r.1)) r.2 := by
  refine z_start hO (plainFor_of_name (by decide)) (Nat.le_of_ble_eq_true rfl) ?_
  intro p e s m args below meth c G hr hnm
  refine z_lvc (lv2 := [(0, .ref l0), (1, .int l1)]) rfl ?_
  refine z_iload_n (pc := 0) G 1 dX9_back_0 rfl rfl ?_
  refine z_iconst (pc := 1) (v := 0) G dX9_back_1 (by decide) ?_
  refine z_iconst (pc := 2) (v := 2) G dX9_back_2 (by decide) ?_
  obtain ⟨r3, hv3, hX⟩ := z_bd hX
  refine z_cSI (pc := 3) (As := [.int l1, .int (0 : Int32), .int (2 : Int32)]) (c2 := 0) (s2 := 0) G (lX9_isIn hO hv3) kt_1559 kt_11 kt_1557 kt_1558 ydX9_isIn ⟨by decide, by decide⟩ rfl (Nat.le_of_ble_eq_true rfl) ⟨rfl, rfl⟩ ⟨by decide, by decide⟩ rfl dX9_back_3 ?_
  refine z_if_eq (pc := 6) (tgt := 18) G dX9_back_6 (by decide) (fun hc6 => ?_) (fun hc6 => ?_)
  · have hX := z_it hc6 hX
    refine z_iconst (pc := 18) (v := (-1)) G dX9_back_18 (by decide) ?_
    exact z_iretX (pc := 19) hX G hr dX9_back_19 (by decide) (by decide)
  · have hX := z_if hc6 hX
    refine z_aload_n (pc := 9) G 0 dX9_back_9 rfl rfl ?_
    obtain ⟨x10, hv10, hX⟩ := z_bd hX
    refine z_getR (pc := 10) G kK9 (k := 60) (by decide) kt_1286 dX9_back_10 hv10 ?_
    refine z_iload_n (pc := 13) G 1 dX9_back_13 rfl rfl ?_
    obtain ⟨x14, hv14, hX⟩ := z_bd hX
    refine z_bald (pc := 14) G dX9_back_14 hv14 ?_
    refine z_if_ne (pc := 15) (tgt := 20) G dX9_back_15 (by decide) (fun hc15 => ?_) (fun hc15 => ?_)
    · have hX := z_if hc15 hX
      refine z_iconst (pc := 20) (v := 0) G dX9_back_20 (by decide) ?_
      refine z_istore_n (pc := 21) (lv2 := [(0, .ref l0), (1, .int l1), (2, .int (0 : Int32))]) G dX9_back_21 rfl (by decide) rfl rfl ?_
      exact wX9_back_L22 hO G hr hnm zFU _ _ _ _ hX
    · have hX := z_it hc15 hX
      refine z_iconst (pc := 18) (v := (-1)) G dX9_back_18 (by decide) ?_
      exact z_iretX (pc := 19) hX G hr dX9_back_19 (by decide) (by decide)
theorem dX9_about_0 : decode cX9_about 0 = .ok (.iload_n 1, 1) := by decide +kernel
theorem dX9_about_1 : decode cX9_about 1 = .ok (.tableswitch 194 0 15 #[79, 84, 89, 99, 108, 117, 126, 135, 144, 149, 154, 159, 164, 169, 179, 184], 79) := by decide +kernel
theorem dX9_about_80 : decode cX9_about 80 = .ok (.aload_n 0, 1) := by decide +kernel
theorem dX9_about_81 : decode cX9_about 81 = .ok (.invokevirtual 337, 3) := by decide +kernel
theorem dX9_about_84 : decode cX9_about 84 = .ok (.ireturn, 1) := by decide +kernel
theorem dX9_about_85 : decode cX9_about 85 = .ok (.aload_n 0, 1) := by decide +kernel
theorem dX9_about_86 : decode cX9_about 86 = .ok (.invokevirtual 344, 3) := by decide +kernel
theorem dX9_about_89 : decode cX9_about 89 = .ok (.ireturn, 1) := by decide +kernel
theorem dX9_about_90 : decode cX9_about 90 = .ok (.aload_n 0, 1) := by decide +kernel
theorem dX9_about_91 : decode cX9_about 91 = .ok (.getfield 27, 3) := by decide +kernel
theorem dX9_about_94 : decode cX9_about 94 = .ok (.aload_n 0, 1) := by decide +kernel
theorem dX9_about_95 : decode cX9_about 95 = .ok (.getfield 255, 3) := by decide +kernel
theorem dX9_about_98 : decode cX9_about 98 = .ok (.iaload, 1) := by decide +kernel
theorem dX9_about_99 : decode cX9_about 99 = .ok (.ireturn, 1) := by decide +kernel
theorem dX9_about_100 : decode cX9_about 100 = .ok (.aload_n 0, 1) := by decide +kernel
theorem dX9_about_101 : decode cX9_about 101 = .ok (.getfield 91, 3) := by decide +kernel
theorem dX9_about_104 : decode cX9_about 104 = .ok (.sipush 517, 3) := by decide +kernel
theorem dX9_about_107 : decode cX9_about 107 = .ok (.iaload, 1) := by decide +kernel
theorem dX9_about_108 : decode cX9_about 108 = .ok (.ireturn, 1) := by decide +kernel
theorem dX9_about_109 : decode cX9_about 109 = .ok (.aload_n 0, 1) := by decide +kernel
theorem dX9_about_110 : decode cX9_about 110 = .ok (.getfield 91, 3) := by decide +kernel
theorem dX9_about_113 : decode cX9_about 113 = .ok (.sipush 518, 3) := by decide +kernel
theorem dX9_about_116 : decode cX9_about 116 = .ok (.iaload, 1) := by decide +kernel
theorem dX9_about_117 : decode cX9_about 117 = .ok (.ireturn, 1) := by decide +kernel
theorem dX9_about_118 : decode cX9_about 118 = .ok (.aload_n 0, 1) := by decide +kernel
theorem dX9_about_119 : decode cX9_about 119 = .ok (.getfield 91, 3) := by decide +kernel
theorem dX9_about_122 : decode cX9_about 122 = .ok (.sipush 519, 3) := by decide +kernel
theorem dX9_about_125 : decode cX9_about 125 = .ok (.iaload, 1) := by decide +kernel
theorem dX9_about_126 : decode cX9_about 126 = .ok (.ireturn, 1) := by decide +kernel
theorem dX9_about_127 : decode cX9_about 127 = .ok (.aload_n 0, 1) := by decide +kernel
theorem dX9_about_128 : decode cX9_about 128 = .ok (.getfield 91, 3) := by decide +kernel
theorem dX9_about_131 : decode cX9_about 131 = .ok (.sipush 520, 3) := by decide +kernel
theorem dX9_about_134 : decode cX9_about 134 = .ok (.iaload, 1) := by decide +kernel
theorem dX9_about_135 : decode cX9_about 135 = .ok (.ireturn, 1) := by decide +kernel
theorem dX9_about_136 : decode cX9_about 136 = .ok (.aload_n 0, 1) := by decide +kernel
theorem dX9_about_137 : decode cX9_about 137 = .ok (.getfield 91, 3) := by decide +kernel
theorem dX9_about_140 : decode cX9_about 140 = .ok (.sipush 516, 3) := by decide +kernel
theorem dX9_about_143 : decode cX9_about 143 = .ok (.iaload, 1) := by decide +kernel
theorem dX9_about_144 : decode cX9_about 144 = .ok (.ireturn, 1) := by decide +kernel
theorem dX9_about_145 : decode cX9_about 145 = .ok (.aload_n 0, 1) := by decide +kernel
theorem dX9_about_146 : decode cX9_about 146 = .ok (.getfield 371, 3) := by decide +kernel
theorem dX9_about_149 : decode cX9_about 149 = .ok (.ireturn, 1) := by decide +kernel
theorem dX9_about_150 : decode cX9_about 150 = .ok (.aload_n 0, 1) := by decide +kernel
theorem dX9_about_151 : decode cX9_about 151 = .ok (.getfield 374, 3) := by decide +kernel
theorem dX9_about_154 : decode cX9_about 154 = .ok (.ireturn, 1) := by decide +kernel
theorem dX9_about_155 : decode cX9_about 155 = .ok (.aload_n 0, 1) := by decide +kernel
theorem dX9_about_156 : decode cX9_about 156 = .ok (.getfield 377, 3) := by decide +kernel
theorem dX9_about_159 : decode cX9_about 159 = .ok (.ireturn, 1) := by decide +kernel
theorem dX9_about_160 : decode cX9_about 160 = .ok (.aload_n 0, 1) := by decide +kernel
theorem dX9_about_161 : decode cX9_about 161 = .ok (.getfield 504, 3) := by decide +kernel
theorem dX9_about_164 : decode cX9_about 164 = .ok (.ireturn, 1) := by decide +kernel
theorem dX9_about_165 : decode cX9_about 165 = .ok (.aload_n 0, 1) := by decide +kernel
theorem dX9_about_166 : decode cX9_about 166 = .ok (.getfield 252, 3) := by decide +kernel
theorem dX9_about_169 : decode cX9_about 169 = .ok (.ireturn, 1) := by decide +kernel
theorem dX9_about_170 : decode cX9_about 170 = .ok (.aload_n 0, 1) := by decide +kernel
theorem dX9_about_171 : decode cX9_about 171 = .ok (.getfield 39, 3) := by decide +kernel
theorem dX9_about_174 : decode cX9_about 174 = .ok (.aload_n 0, 1) := by decide +kernel
theorem dX9_about_175 : decode cX9_about 175 = .ok (.getfield 255, 3) := by decide +kernel
theorem dX9_about_178 : decode cX9_about 178 = .ok (.iaload, 1) := by decide +kernel
theorem dX9_about_179 : decode cX9_about 179 = .ok (.ireturn, 1) := by decide +kernel
theorem dX9_about_180 : decode cX9_about 180 = .ok (.aload_n 0, 1) := by decide +kernel
theorem dX9_about_181 : decode cX9_about 181 = .ok (.getfield 380, 3) := by decide +kernel
theorem dX9_about_184 : decode cX9_about 184 = .ok (.ireturn, 1) := by decide +kernel
theorem dX9_about_185 : decode cX9_about 185 = .ok (.aload_n 0, 1) := by decide +kernel
theorem dX9_about_186 : decode cX9_about 186 = .ok (.getfield 42, 3) := by decide +kernel
theorem dX9_about_189 : decode cX9_about 189 = .ok (.aload_n 0, 1) := by decide +kernel
theorem dX9_about_190 : decode cX9_about 190 = .ok (.getfield 255, 3) := by decide +kernel
theorem dX9_about_193 : decode cX9_about 193 = .ok (.iaload, 1) := by decide +kernel
theorem dX9_about_194 : decode cX9_about 194 = .ok (.ireturn, 1) := by decide +kernel
theorem dX9_about_195 : decode cX9_about 195 = .ok (.iconst (-1), 1) := by decide +kernel
theorem dX9_about_196 : decode cX9_about 196 = .ok (.ireturn, 1) := by decide +kernel
theorem ydX9_about : z_yd yX9_about 1 := ⟨by decide, by decide, by decide +kernel⟩
abbrev rmX9_about : Room := { frames := 1, cells := 0, slots := 0, locals := 20 }
noncomputable def xX9_about (l0 : Nat) (l1 : Int32) (h : ZH) : Option (Int32 × ZH) := (if l1 = 0 then (z_gu (z_is h l0 9) ((xX9_lots l0 h).bind fun r81 => some (r81.1, r81.2))) else (if l1 = 1 then (z_gu (z_is h l0 9) ((xX9_round l0 h).bind fun r86 => some (r86.1, r86.2))) else (if l1 = 2 then ((z_gR h l0 9 13).bind fun x91 => ((z_gI h l0 9 34).bind fun x95 => ((z_aI h x91 x95).bind fun x98 => some (x98, h)))) else (if l1 = 3 then ((z_gR h l0 9 41).bind fun x101 => ((z_aI h x101 (517 : Int32)).bind fun x107 => some (x107, h))) else (if l1 = 4 then ((z_gR h l0 9 41).bind fun x110 => ((z_aI h x110 (518 : Int32)).bind fun x116 => some (x116, h))) else (if l1 = 5 then ((z_gR h l0 9 41).bind fun x119 => ((z_aI h x119 (519 : Int32)).bind fun x125 => some (x125, h))) else (if l1 = 6 then ((z_gR h l0 9 41).bind fun x128 => ((z_aI h x128 (520 : Int32)).bind fun x134 => some (x134, h))) else (if l1 = 7 then ((z_gR h l0 9 41).bind fun x137 => ((z_aI h x137 (516 : Int32)).bind fun x143 => some (x143, h))) else (if l1 = 8 then ((z_gI h l0 9 48).bind fun x146 => some (x146, h)) else (if l1 = 9 then ((z_gI h l0 9 49).bind fun x151 => some (x151, h)) else (if l1 = 10 then ((z_gI h l0 9 57).bind fun x156 => some (x156, h)) else (if l1 = 11 then ((z_gI h l0 9 58).bind fun x161 => some (x161, h)) else (if l1 = 12 then ((z_gI h l0 9 2).bind fun x166 => some (x166, h)) else (if l1 = 13 then ((z_gR h l0 9 17).bind fun x171 => ((z_gI h l0 9 34).bind fun x175 => ((z_aI h x171 x175).bind fun x178 => some (x178, h)))) else (if l1 = 14 then ((z_gI h l0 9 51).bind fun x181 => some (x181, h)) else (if l1 = 15 then ((z_gR h l0 9 18).bind fun x186 => ((z_gI h l0 9 34).bind fun x190 => ((z_aI h x186 x190).bind fun x193 => some (x193, h)))) else some ((-1 : Int32), h)))))))))))))))))
set_option maxHeartbeats 4000000 in
set_option maxRecDepth 100000 in
theorem lX9_about {Γ : ZG} {l : Launch} (hO : z_OK Γ) {l0 : Nat} {l1 : Int32} {h : ZH} {r : (Int32 × ZH)} (hX : xX9_about l0 l1 h = some r) : z_M Γ l yX9_about (z_ws1 yX9_about cX9_about 2 (some .int)) rmX9_about [.ref l0, .int l1] h (some (.int r.1)) r.2 := by
  refine z_start hO (plainFor_of_name (by decide)) (Nat.le_of_ble_eq_true rfl) ?_
  intro p e s m args below meth c G hr hnm
  refine z_lvc (lv2 := [(0, .ref l0), (1, .int l1)]) rfl ?_
  refine z_iload_n (pc := 0) G 1 dX9_about_0 rfl rfl ?_
  by_cases hs1_0 : l1 = 0
  · have hX := z_it hs1_0 hX
    refine z_tableIn (pc := 1) (off := 79) (tgt := 80) G dX9_about_1 (by rw [hs1_0]; decide) (by rw [hs1_0]; decide) (by rw [hs1_0]; decide) (by decide) ?_
    refine z_aload_n (pc := 80) G 0 dX9_about_80 rfl rfl ?_
    obtain ⟨hi81, hX⟩ := z_gu_s hX
    obtain ⟨r81, hv81, hX⟩ := z_bd hX
    refine z_cVI (pc := 81) (As := []) (c2 := 0) (s2 := 0) G kK9 (lX9_lots hO hv81) hi81 kt_1221 kt_11 kt_1218 kt_1220 ks_36 ydX9_lots ⟨by decide, by decide⟩ rfl (Nat.le_of_ble_eq_true rfl) ⟨rfl, rfl⟩ ⟨by decide, by decide⟩ rfl dX9_about_81 ?_
    exact z_iretX (pc := 84) hX G hr dX9_about_84 (by decide) (by decide)
  have hX := z_if hs1_0 hX
  by_cases hs1_1 : l1 = 1
  · have hX := z_it hs1_1 hX
    refine z_tableIn (pc := 1) (off := 84) (tgt := 85) G dX9_about_1 (by rw [hs1_1]; decide) (by rw [hs1_1]; decide) (by rw [hs1_1]; decide) (by decide) ?_
    refine z_aload_n (pc := 85) G 0 dX9_about_85 rfl rfl ?_
    obtain ⟨hi86, hX⟩ := z_gu_s hX
    obtain ⟨r86, hv86, hX⟩ := z_bd hX
    refine z_cVI (pc := 86) (As := []) (c2 := 0) (s2 := 0) G kK9 (lX9_round hO hv86) hi86 kt_1575 kt_11 kt_1572 kt_1574 ks_66 ydX9_round ⟨by decide, by decide⟩ rfl (Nat.le_of_ble_eq_true rfl) ⟨rfl, rfl⟩ ⟨by decide, by decide⟩ rfl dX9_about_86 ?_
    exact z_iretX (pc := 89) hX G hr dX9_about_89 (by decide) (by decide)
  have hX := z_if hs1_1 hX
  by_cases hs1_2 : l1 = 2
  · have hX := z_it hs1_2 hX
    refine z_tableIn (pc := 1) (off := 89) (tgt := 90) G dX9_about_1 (by rw [hs1_2]; decide) (by rw [hs1_2]; decide) (by rw [hs1_2]; decide) (by decide) ?_
    refine z_aload_n (pc := 90) G 0 dX9_about_90 rfl rfl ?_
    obtain ⟨x91, hv91, hX⟩ := z_bd hX
    refine z_getR (pc := 91) G kK9 (k := 13) (by decide) kt_1239 dX9_about_91 hv91 ?_
    refine z_aload_n (pc := 94) G 0 dX9_about_94 rfl rfl ?_
    obtain ⟨x95, hv95, hX⟩ := z_bd hX
    refine z_getI (pc := 95) G kK9 (k := 34) (by decide) kt_1260 dX9_about_95 hv95 ?_
    obtain ⟨x98, hv98, hX⟩ := z_bd hX
    refine z_iald (pc := 98) G dX9_about_98 hv98 ?_
    exact z_iretX (pc := 99) hX G hr dX9_about_99 (by decide) (by decide)
  have hX := z_if hs1_2 hX
  by_cases hs1_3 : l1 = 3
  · have hX := z_it hs1_3 hX
    refine z_tableIn (pc := 1) (off := 99) (tgt := 100) G dX9_about_1 (by rw [hs1_3]; decide) (by rw [hs1_3]; decide) (by rw [hs1_3]; decide) (by decide) ?_
    refine z_aload_n (pc := 100) G 0 dX9_about_100 rfl rfl ?_
    obtain ⟨x101, hv101, hX⟩ := z_bd hX
    refine z_getR (pc := 101) G kK9 (k := 41) (by decide) kt_1267 dX9_about_101 hv101 ?_
    refine z_sipush (pc := 104) (v := 517) G dX9_about_104 (by decide) ?_
    obtain ⟨x107, hv107, hX⟩ := z_bd hX
    refine z_iald (pc := 107) G dX9_about_107 hv107 ?_
    exact z_iretX (pc := 108) hX G hr dX9_about_108 (by decide) (by decide)
  have hX := z_if hs1_3 hX
  by_cases hs1_4 : l1 = 4
  · have hX := z_it hs1_4 hX
    refine z_tableIn (pc := 1) (off := 108) (tgt := 109) G dX9_about_1 (by rw [hs1_4]; decide) (by rw [hs1_4]; decide) (by rw [hs1_4]; decide) (by decide) ?_
    refine z_aload_n (pc := 109) G 0 dX9_about_109 rfl rfl ?_
    obtain ⟨x110, hv110, hX⟩ := z_bd hX
    refine z_getR (pc := 110) G kK9 (k := 41) (by decide) kt_1267 dX9_about_110 hv110 ?_
    refine z_sipush (pc := 113) (v := 518) G dX9_about_113 (by decide) ?_
    obtain ⟨x116, hv116, hX⟩ := z_bd hX
    refine z_iald (pc := 116) G dX9_about_116 hv116 ?_
    exact z_iretX (pc := 117) hX G hr dX9_about_117 (by decide) (by decide)
  have hX := z_if hs1_4 hX
  by_cases hs1_5 : l1 = 5
  · have hX := z_it hs1_5 hX
    refine z_tableIn (pc := 1) (off := 117) (tgt := 118) G dX9_about_1 (by rw [hs1_5]; decide) (by rw [hs1_5]; decide) (by rw [hs1_5]; decide) (by decide) ?_
    refine z_aload_n (pc := 118) G 0 dX9_about_118 rfl rfl ?_
    obtain ⟨x119, hv119, hX⟩ := z_bd hX
    refine z_getR (pc := 119) G kK9 (k := 41) (by decide) kt_1267 dX9_about_119 hv119 ?_
    refine z_sipush (pc := 122) (v := 519) G dX9_about_122 (by decide) ?_
    obtain ⟨x125, hv125, hX⟩ := z_bd hX
    refine z_iald (pc := 125) G dX9_about_125 hv125 ?_
    exact z_iretX (pc := 126) hX G hr dX9_about_126 (by decide) (by decide)
  have hX := z_if hs1_5 hX
  by_cases hs1_6 : l1 = 6
  · have hX := z_it hs1_6 hX
    refine z_tableIn (pc := 1) (off := 126) (tgt := 127) G dX9_about_1 (by rw [hs1_6]; decide) (by rw [hs1_6]; decide) (by rw [hs1_6]; decide) (by decide) ?_
    refine z_aload_n (pc := 127) G 0 dX9_about_127 rfl rfl ?_
    obtain ⟨x128, hv128, hX⟩ := z_bd hX
    refine z_getR (pc := 128) G kK9 (k := 41) (by decide) kt_1267 dX9_about_128 hv128 ?_
    refine z_sipush (pc := 131) (v := 520) G dX9_about_131 (by decide) ?_
    obtain ⟨x134, hv134, hX⟩ := z_bd hX
    refine z_iald (pc := 134) G dX9_about_134 hv134 ?_
    exact z_iretX (pc := 135) hX G hr dX9_about_135 (by decide) (by decide)
  have hX := z_if hs1_6 hX
  by_cases hs1_7 : l1 = 7
  · have hX := z_it hs1_7 hX
    refine z_tableIn (pc := 1) (off := 135) (tgt := 136) G dX9_about_1 (by rw [hs1_7]; decide) (by rw [hs1_7]; decide) (by rw [hs1_7]; decide) (by decide) ?_
    refine z_aload_n (pc := 136) G 0 dX9_about_136 rfl rfl ?_
    obtain ⟨x137, hv137, hX⟩ := z_bd hX
    refine z_getR (pc := 137) G kK9 (k := 41) (by decide) kt_1267 dX9_about_137 hv137 ?_
    refine z_sipush (pc := 140) (v := 516) G dX9_about_140 (by decide) ?_
    obtain ⟨x143, hv143, hX⟩ := z_bd hX
    refine z_iald (pc := 143) G dX9_about_143 hv143 ?_
    exact z_iretX (pc := 144) hX G hr dX9_about_144 (by decide) (by decide)
  have hX := z_if hs1_7 hX
  by_cases hs1_8 : l1 = 8
  · have hX := z_it hs1_8 hX
    refine z_tableIn (pc := 1) (off := 144) (tgt := 145) G dX9_about_1 (by rw [hs1_8]; decide) (by rw [hs1_8]; decide) (by rw [hs1_8]; decide) (by decide) ?_
    refine z_aload_n (pc := 145) G 0 dX9_about_145 rfl rfl ?_
    obtain ⟨x146, hv146, hX⟩ := z_bd hX
    refine z_getI (pc := 146) G kK9 (k := 48) (by decide) kt_1274 dX9_about_146 hv146 ?_
    exact z_iretX (pc := 149) hX G hr dX9_about_149 (by decide) (by decide)
  have hX := z_if hs1_8 hX
  by_cases hs1_9 : l1 = 9
  · have hX := z_it hs1_9 hX
    refine z_tableIn (pc := 1) (off := 149) (tgt := 150) G dX9_about_1 (by rw [hs1_9]; decide) (by rw [hs1_9]; decide) (by rw [hs1_9]; decide) (by decide) ?_
    refine z_aload_n (pc := 150) G 0 dX9_about_150 rfl rfl ?_
    obtain ⟨x151, hv151, hX⟩ := z_bd hX
    refine z_getI (pc := 151) G kK9 (k := 49) (by decide) kt_1275 dX9_about_151 hv151 ?_
    exact z_iretX (pc := 154) hX G hr dX9_about_154 (by decide) (by decide)
  have hX := z_if hs1_9 hX
  by_cases hs1_10 : l1 = 10
  · have hX := z_it hs1_10 hX
    refine z_tableIn (pc := 1) (off := 154) (tgt := 155) G dX9_about_1 (by rw [hs1_10]; decide) (by rw [hs1_10]; decide) (by rw [hs1_10]; decide) (by decide) ?_
    refine z_aload_n (pc := 155) G 0 dX9_about_155 rfl rfl ?_
    obtain ⟨x156, hv156, hX⟩ := z_bd hX
    refine z_getI (pc := 156) G kK9 (k := 57) (by decide) kt_1283 dX9_about_156 hv156 ?_
    exact z_iretX (pc := 159) hX G hr dX9_about_159 (by decide) (by decide)
  have hX := z_if hs1_10 hX
  by_cases hs1_11 : l1 = 11
  · have hX := z_it hs1_11 hX
    refine z_tableIn (pc := 1) (off := 159) (tgt := 160) G dX9_about_1 (by rw [hs1_11]; decide) (by rw [hs1_11]; decide) (by rw [hs1_11]; decide) (by decide) ?_
    refine z_aload_n (pc := 160) G 0 dX9_about_160 rfl rfl ?_
    obtain ⟨x161, hv161, hX⟩ := z_bd hX
    refine z_getI (pc := 161) G kK9 (k := 58) (by decide) kt_1284 dX9_about_161 hv161 ?_
    exact z_iretX (pc := 164) hX G hr dX9_about_164 (by decide) (by decide)
  have hX := z_if hs1_11 hX
  by_cases hs1_12 : l1 = 12
  · have hX := z_it hs1_12 hX
    refine z_tableIn (pc := 1) (off := 164) (tgt := 165) G dX9_about_1 (by rw [hs1_12]; decide) (by rw [hs1_12]; decide) (by rw [hs1_12]; decide) (by decide) ?_
    refine z_aload_n (pc := 165) G 0 dX9_about_165 rfl rfl ?_
    obtain ⟨x166, hv166, hX⟩ := z_bd hX
    refine z_getI (pc := 166) G kK9 (k := 2) (by decide) kt_1228 dX9_about_166 hv166 ?_
    exact z_iretX (pc := 169) hX G hr dX9_about_169 (by decide) (by decide)
  have hX := z_if hs1_12 hX
  by_cases hs1_13 : l1 = 13
  · have hX := z_it hs1_13 hX
    refine z_tableIn (pc := 1) (off := 169) (tgt := 170) G dX9_about_1 (by rw [hs1_13]; decide) (by rw [hs1_13]; decide) (by rw [hs1_13]; decide) (by decide) ?_
    refine z_aload_n (pc := 170) G 0 dX9_about_170 rfl rfl ?_
    obtain ⟨x171, hv171, hX⟩ := z_bd hX
    refine z_getR (pc := 171) G kK9 (k := 17) (by decide) kt_1243 dX9_about_171 hv171 ?_
    refine z_aload_n (pc := 174) G 0 dX9_about_174 rfl rfl ?_
    obtain ⟨x175, hv175, hX⟩ := z_bd hX
    refine z_getI (pc := 175) G kK9 (k := 34) (by decide) kt_1260 dX9_about_175 hv175 ?_
    obtain ⟨x178, hv178, hX⟩ := z_bd hX
    refine z_iald (pc := 178) G dX9_about_178 hv178 ?_
    exact z_iretX (pc := 179) hX G hr dX9_about_179 (by decide) (by decide)
  have hX := z_if hs1_13 hX
  by_cases hs1_14 : l1 = 14
  · have hX := z_it hs1_14 hX
    refine z_tableIn (pc := 1) (off := 179) (tgt := 180) G dX9_about_1 (by rw [hs1_14]; decide) (by rw [hs1_14]; decide) (by rw [hs1_14]; decide) (by decide) ?_
    refine z_aload_n (pc := 180) G 0 dX9_about_180 rfl rfl ?_
    obtain ⟨x181, hv181, hX⟩ := z_bd hX
    refine z_getI (pc := 181) G kK9 (k := 51) (by decide) kt_1277 dX9_about_181 hv181 ?_
    exact z_iretX (pc := 184) hX G hr dX9_about_184 (by decide) (by decide)
  have hX := z_if hs1_14 hX
  by_cases hs1_15 : l1 = 15
  · have hX := z_it hs1_15 hX
    refine z_tableIn (pc := 1) (off := 184) (tgt := 185) G dX9_about_1 (by rw [hs1_15]; decide) (by rw [hs1_15]; decide) (by rw [hs1_15]; decide) (by decide) ?_
    refine z_aload_n (pc := 185) G 0 dX9_about_185 rfl rfl ?_
    obtain ⟨x186, hv186, hX⟩ := z_bd hX
    refine z_getR (pc := 186) G kK9 (k := 18) (by decide) kt_1244 dX9_about_186 hv186 ?_
    refine z_aload_n (pc := 189) G 0 dX9_about_189 rfl rfl ?_
    obtain ⟨x190, hv190, hX⟩ := z_bd hX
    refine z_getI (pc := 190) G kK9 (k := 34) (by decide) kt_1260 dX9_about_190 hv190 ?_
    obtain ⟨x193, hv193, hX⟩ := z_bd hX
    refine z_iald (pc := 193) G dX9_about_193 hv193 ?_
    exact z_iretX (pc := 194) hX G hr dX9_about_194 (by decide) (by decide)
  have hX := z_if hs1_15 hX
  refine z_tableOut (pc := 1) (tgt := 195) G dX9_about_1 (z_tout 16 (by decide) (fun j hj => by
    rcases (show j = 0 ∨ j = 1 ∨ j = 2 ∨ j = 3 ∨ j = 4 ∨ j = 5 ∨ j = 6 ∨ j = 7 ∨ j = 8 ∨ j = 9 ∨ j = 10 ∨ j = 11 ∨ j = 12 ∨ j = 13 ∨ j = 14 ∨ j = 15 by omega) with rfl | rfl | rfl | rfl | rfl | rfl | rfl | rfl | rfl | rfl | rfl | rfl | rfl | rfl | rfl | rfl
    · exact fun z => hs1_0 (z.trans (by decide))
    · exact fun z => hs1_1 (z.trans (by decide))
    · exact fun z => hs1_2 (z.trans (by decide))
    · exact fun z => hs1_3 (z.trans (by decide))
    · exact fun z => hs1_4 (z.trans (by decide))
    · exact fun z => hs1_5 (z.trans (by decide))
    · exact fun z => hs1_6 (z.trans (by decide))
    · exact fun z => hs1_7 (z.trans (by decide))
    · exact fun z => hs1_8 (z.trans (by decide))
    · exact fun z => hs1_9 (z.trans (by decide))
    · exact fun z => hs1_10 (z.trans (by decide))
    · exact fun z => hs1_11 (z.trans (by decide))
    · exact fun z => hs1_12 (z.trans (by decide))
    · exact fun z => hs1_13 (z.trans (by decide))
    · exact fun z => hs1_14 (z.trans (by decide))
    · exact fun z => hs1_15 (z.trans (by decide)))) (by decide) ?_
  refine z_iconst (pc := 195) (v := (-1)) G dX9_about_195 (by decide) ?_
  exact z_iretX (pc := 196) hX G hr dX9_about_196 (by decide) (by decide)
theorem dX9_feed_0 : decode cX9_feed 0 = .ok (.aload_n 0, 1) := by decide +kernel
theorem dX9_feed_1 : decode cX9_feed 1 = .ok (.getfield 252, 3) := by decide +kernel
theorem dX9_feed_4 : decode cX9_feed 4 = .ok (.bipush 20, 2) := by decide +kernel
theorem dX9_feed_6 : decode cX9_feed 6 = .ok (.iadd, 1) := by decide +kernel
theorem dX9_feed_7 : decode cX9_feed 7 = .ok (.sipush 1600, 3) := by decide +kernel
theorem dX9_feed_10 : decode cX9_feed 10 = .ok (.if_icmp .le 5, 3) := by decide +kernel
theorem dX9_feed_13 : decode cX9_feed 13 = .ok (.iconst (-1), 1) := by decide +kernel
theorem dX9_feed_14 : decode cX9_feed 14 = .ok (.ireturn, 1) := by decide +kernel
theorem dX9_feed_15 : decode cX9_feed 15 = .ok (.iconst 0, 1) := by decide +kernel
theorem dX9_feed_16 : decode cX9_feed 16 = .ok (.istore 6, 2) := by decide +kernel
theorem dX9_feed_18 : decode cX9_feed 18 = .ok (.iload 6, 2) := by decide +kernel
theorem dX9_feed_20 : decode cX9_feed 20 = .ok (.bipush 20, 2) := by decide +kernel
theorem dX9_feed_22 : decode cX9_feed 22 = .ok (.if_icmp .ge 83, 3) := by decide +kernel
theorem dX9_feed_25 : decode cX9_feed 25 = .ok (.iload 6, 2) := by decide +kernel
theorem dX9_feed_27 : decode cX9_feed 27 = .ok (.iconst 4, 1) := by decide +kernel
theorem dX9_feed_28 : decode cX9_feed 28 = .ok (.if_icmp .ge 7, 3) := by decide +kernel
theorem dX9_feed_31 : decode cX9_feed 31 = .ok (.iload_n 1, 1) := by decide +kernel
theorem dX9_feed_32 : decode cX9_feed 32 = .ok (.goto 39, 3) := by decide +kernel
theorem dX9_feed_35 : decode cX9_feed 35 = .ok (.iload 6, 2) := by decide +kernel
theorem dX9_feed_37 : decode cX9_feed 37 = .ok (.bipush 8, 2) := by decide +kernel
theorem dX9_feed_39 : decode cX9_feed 39 = .ok (.if_icmp .ge 7, 3) := by decide +kernel
theorem dX9_feed_42 : decode cX9_feed 42 = .ok (.iload_n 2, 1) := by decide +kernel
theorem dX9_feed_43 : decode cX9_feed 43 = .ok (.goto 28, 3) := by decide +kernel
theorem dX9_feed_46 : decode cX9_feed 46 = .ok (.iload 6, 2) := by decide +kernel
theorem dX9_feed_48 : decode cX9_feed 48 = .ok (.bipush 12, 2) := by decide +kernel
theorem dX9_feed_50 : decode cX9_feed 50 = .ok (.if_icmp .ge 7, 3) := by decide +kernel
theorem dX9_feed_53 : decode cX9_feed 53 = .ok (.iload_n 3, 1) := by decide +kernel
theorem dX9_feed_54 : decode cX9_feed 54 = .ok (.goto 17, 3) := by decide +kernel
theorem dX9_feed_57 : decode cX9_feed 57 = .ok (.iload 6, 2) := by decide +kernel
theorem dX9_feed_59 : decode cX9_feed 59 = .ok (.bipush 16, 2) := by decide +kernel
theorem dX9_feed_61 : decode cX9_feed 61 = .ok (.if_icmp .ge 8, 3) := by decide +kernel
theorem dX9_feed_64 : decode cX9_feed 64 = .ok (.iload 4, 2) := by decide +kernel
theorem dX9_feed_66 : decode cX9_feed 66 = .ok (.goto 5, 3) := by decide +kernel
theorem dX9_feed_69 : decode cX9_feed 69 = .ok (.iload 5, 2) := by decide +kernel
theorem dX9_feed_71 : decode cX9_feed 71 = .ok (.istore 7, 2) := by decide +kernel
theorem dX9_feed_73 : decode cX9_feed 73 = .ok (.aload_n 0, 1) := by decide +kernel
theorem dX9_feed_74 : decode cX9_feed 74 = .ok (.getfield 7, 3) := by decide +kernel
theorem dX9_feed_77 : decode cX9_feed 77 = .ok (.aload_n 0, 1) := by decide +kernel
theorem dX9_feed_78 : decode cX9_feed 78 = .ok (.getfield 252, 3) := by decide +kernel
theorem dX9_feed_81 : decode cX9_feed 81 = .ok (.iload 6, 2) := by decide +kernel
theorem dX9_feed_83 : decode cX9_feed 83 = .ok (.iadd, 1) := by decide +kernel
theorem dX9_feed_84 : decode cX9_feed 84 = .ok (.iload 7, 2) := by decide +kernel
theorem dX9_feed_86 : decode cX9_feed 86 = .ok (.bipush 24, 2) := by decide +kernel
theorem dX9_feed_88 : decode cX9_feed 88 = .ok (.bipush 8, 2) := by decide +kernel
theorem dX9_feed_90 : decode cX9_feed 90 = .ok (.iload 6, 2) := by decide +kernel
theorem dX9_feed_92 : decode cX9_feed 92 = .ok (.iconst 3, 1) := by decide +kernel
theorem dX9_feed_93 : decode cX9_feed 93 = .ok (.iand, 1) := by decide +kernel
theorem dX9_feed_94 : decode cX9_feed 94 = .ok (.imul, 1) := by decide +kernel
theorem dX9_feed_95 : decode cX9_feed 95 = .ok (.isub, 1) := by decide +kernel
theorem dX9_feed_96 : decode cX9_feed 96 = .ok (.ishr, 1) := by decide +kernel
theorem dX9_feed_97 : decode cX9_feed 97 = .ok (.i2b, 1) := by decide +kernel
theorem dX9_feed_98 : decode cX9_feed 98 = .ok (.bastore, 1) := by decide +kernel
theorem dX9_feed_99 : decode cX9_feed 99 = .ok (.iinc 6 1, 3) := by decide +kernel
theorem dX9_feed_102 : decode cX9_feed 102 = .ok (.goto (-84), 3) := by decide +kernel
theorem dX9_feed_105 : decode cX9_feed 105 = .ok (.aload_n 0, 1) := by decide +kernel
theorem dX9_feed_106 : decode cX9_feed 106 = .ok (.dup, 1) := by decide +kernel
theorem dX9_feed_107 : decode cX9_feed 107 = .ok (.getfield 252, 3) := by decide +kernel
theorem dX9_feed_110 : decode cX9_feed 110 = .ok (.bipush 20, 2) := by decide +kernel
theorem dX9_feed_112 : decode cX9_feed 112 = .ok (.iadd, 1) := by decide +kernel
theorem dX9_feed_113 : decode cX9_feed 113 = .ok (.putfield 252, 3) := by decide +kernel
theorem dX9_feed_116 : decode cX9_feed 116 = .ok (.aload_n 0, 1) := by decide +kernel
theorem dX9_feed_117 : decode cX9_feed 117 = .ok (.getfield 252, 3) := by decide +kernel
theorem dX9_feed_120 : decode cX9_feed 120 = .ok (.ireturn, 1) := by decide +kernel
theorem ydX9_feed : z_yd yX9_feed 5 := ⟨by decide, by decide, by decide +kernel⟩
abbrev rmX9_feed : Room := { frames := 0, cells := 0, slots := 0, locals := 0 }
noncomputable def xX9_feed_B71 (r18 : Nat → Int32 → Int32 → Int32 → Int32 → Int32 → Int32 → ZH → Option (Int32 × ZH)) (l0 : Nat) (l1 : Int32) (l2 : Int32) (l3 : Int32) (l4 : Int32) (l5 : Int32) (l6 : Int32) (s0 : Int32) (h : ZH) : Option (Int32 × ZH) := ((z_gR h l0 9 0).bind fun x74 => ((z_gI h l0 9 2).bind fun x78 => ((z_uB h x74 (x78 + l6) ((s0 >>> (((24 : Int32) - ((8 : Int32) * (l6 &&& (3 : Int32)))) &&& 31)).toInt8.toInt32)).bind fun h98 => r18 l0 l1 l2 l3 l4 l5 (l6 + 1) h98)))
set_option maxHeartbeats 4000000 in
set_option maxRecDepth 100000 in
theorem wX9_feed_B71 {Γ : ZG} {p : Program} {l : Launch} {e : Env} {s : State} {m : MethodId} {args : Array Value} {below : List Frame} {meth : Method} {c : Code} (hO : z_OK Γ) (G : z_GG Γ p s m args meth c cX9_feed 8 RX9) (hr : meth.sig.returnType = (some .int)) (hnm : meth.name = "feed") {r : (Int32 × ZH)} {r18 : Nat → Int32 → Int32 → Int32 → Int32 → Int32 → Int32 → ZH → Option (Int32 × ZH)} (H18 : ∀ (l0 : Nat) (l1 : Int32) (l2 : Int32) (l3 : Int32) (l4 : Int32) (l5 : Int32) (l6 : Int32) (h : ZH), r18 l0 l1 l2 l3 l4 l5 l6 h = some r → z_W Γ p l e rmX9_feed s m args below meth c 8 0 0 (MQ below (z_Qc Γ (some (.int r.1)) r.2) args s rmX9_feed.cells rmX9_feed.slots (z_A Γ)) 18 [(0, .ref l0), (1, .int l1), (2, .int l2), (3, .int l3), (4, .int l4), (5, .int l5), (6, .int l6)] [] h) : ∀ (l0 : Nat) (l1 : Int32) (l2 : Int32) (l3 : Int32) (l4 : Int32) (l5 : Int32) (l6 : Int32) (s0 : Int32) (h : ZH), xX9_feed_B71  r18 l0 l1 l2 l3 l4 l5 l6 s0 h = some r → z_W Γ p l e rmX9_feed s m args below meth c 8 0 0 (MQ below (z_Qc Γ (some (.int r.1)) r.2) args s rmX9_feed.cells rmX9_feed.slots (z_A Γ)) 71 [(0, .ref l0), (1, .int l1), (2, .int l2), (3, .int l3), (4, .int l4), (5, .int l5), (6, .int l6)] [.int s0] h := by
  intro l0 l1 l2 l3 l4 l5 l6 s0 h hX
  refine z_istore (pc := 71) (lv2 := [(0, .ref l0), (1, .int l1), (2, .int l2), (3, .int l3), (4, .int l4), (5, .int l5), (6, .int l6), (7, .int s0)]) G dX9_feed_71 (by decide) rfl rfl ?_
  refine z_aload_n (pc := 73) G 0 dX9_feed_73 rfl rfl ?_
  obtain ⟨x74, hv74, hX⟩ := z_bd hX
  refine z_getR (pc := 74) G kK9 (k := 0) (by decide) kt_1226 dX9_feed_74 hv74 ?_
  refine z_aload_n (pc := 77) G 0 dX9_feed_77 rfl rfl ?_
  obtain ⟨x78, hv78, hX⟩ := z_bd hX
  refine z_getI (pc := 78) G kK9 (k := 2) (by decide) kt_1228 dX9_feed_78 hv78 ?_
  refine z_iload (pc := 81) G 6 dX9_feed_81 rfl ?_
  refine z_iadd (pc := 83) G dX9_feed_83 ?_
  refine z_iload (pc := 84) G 7 dX9_feed_84 rfl ?_
  refine z_bipush (pc := 86) (v := 24) G dX9_feed_86 (by decide) ?_
  refine z_bipush (pc := 88) (v := 8) G dX9_feed_88 (by decide) ?_
  refine z_iload (pc := 90) G 6 dX9_feed_90 rfl ?_
  refine z_iconst (pc := 92) (v := 3) G dX9_feed_92 (by decide) ?_
  refine z_iand (pc := 93) G dX9_feed_93 ?_
  refine z_imul (pc := 94) G dX9_feed_94 ?_
  refine z_isub (pc := 95) G dX9_feed_95 ?_
  refine z_ishr (pc := 96) G dX9_feed_96 ?_
  refine z_i2b (pc := 97) (v := (s0 >>> (((24 : Int32) - ((8 : Int32) * (l6 &&& (3 : Int32)))) &&& 31)).toInt8.toInt32) G dX9_feed_97 rfl ?_
  obtain ⟨h98, hv98, hX⟩ := z_bd hX
  refine z_bast (pc := 98) G dX9_feed_98 hv98 ?_
  refine z_iincw (pc := 99) (w := 1) (lv2 := [(0, .ref l0), (1, .int l1), (2, .int l2), (3, .int l3), (4, .int l4), (5, .int l5), (6, .int (l6 + 1)), (7, .int s0)]) G 6 dX9_feed_99 rfl (by decide) (by decide) rfl rfl ?_
  refine z_goto (pc := 102) (tgt := 18) G dX9_feed_102 (by decide) ?_
  refine z_drop (lv2 := [(0, .ref l0), (1, .int l1), (2, .int l2), (3, .int l3), (4, .int l4), (5, .int l5), (6, .int (l6 + 1))]) [0, 1, 2, 3, 4, 5, 6] rfl ?_
  exact H18 _ _ _ _ _ _ _ _ hX
noncomputable def xX9_feed_B105 (l0 : Nat) (h : ZH) : Option (Int32 × ZH) := ((z_gI h l0 9 2).bind fun x107 => ((z_sF h l0 9 2 (.int (x107 + (20 : Int32)))).bind fun h113 => ((z_gI h113 l0 9 2).bind fun x117 => some (x117, h113))))
set_option maxHeartbeats 4000000 in
set_option maxRecDepth 100000 in
theorem wX9_feed_B105 {Γ : ZG} {p : Program} {l : Launch} {e : Env} {s : State} {m : MethodId} {args : Array Value} {below : List Frame} {meth : Method} {c : Code} (hO : z_OK Γ) (G : z_GG Γ p s m args meth c cX9_feed 8 RX9) (hr : meth.sig.returnType = (some .int)) (hnm : meth.name = "feed") {r : (Int32 × ZH)} : ∀ (l0 : Nat) (h : ZH), xX9_feed_B105  l0 h = some r → z_W Γ p l e rmX9_feed s m args below meth c 8 0 0 (MQ below (z_Qc Γ (some (.int r.1)) r.2) args s rmX9_feed.cells rmX9_feed.slots (z_A Γ)) 105 [(0, .ref l0)] [] h := by
  intro l0 h hX
  refine z_aload_n (pc := 105) G 0 dX9_feed_105 rfl rfl ?_
  refine z_dup (pc := 106) G dX9_feed_106 rfl ?_
  obtain ⟨x107, hv107, hX⟩ := z_bd hX
  refine z_getI (pc := 107) G kK9 (k := 2) (by decide) kt_1228 dX9_feed_107 hv107 ?_
  refine z_bipush (pc := 110) (v := 20) G dX9_feed_110 (by decide) ?_
  refine z_iadd (pc := 112) G dX9_feed_112 ?_
  obtain ⟨h113, hv113, hX⟩ := z_bd hX
  refine z_putF (pc := 113) G kK9 (k := 2) (by decide) kt_1228 (Or.inl rfl) rfl rfl dX9_feed_113 hv113 ?_
  refine z_aload_n (pc := 116) G 0 dX9_feed_116 rfl rfl ?_
  obtain ⟨x117, hv117, hX⟩ := z_bd hX
  refine z_getI (pc := 117) G kK9 (k := 2) (by decide) kt_1228 dX9_feed_117 hv117 ?_
  exact z_iretX (pc := 120) hX G hr dX9_feed_120 (by decide) (by decide)
noncomputable def xX9_feed_B18 (r18 : Nat → Int32 → Int32 → Int32 → Int32 → Int32 → Int32 → ZH → Option (Int32 × ZH)) (l0 : Nat) (l1 : Int32) (l2 : Int32) (l3 : Int32) (l4 : Int32) (l5 : Int32) (l6 : Int32) (h : ZH) : Option (Int32 × ZH) := (if (20 : Int32) ≤ l6 then xX9_feed_B105 l0 h else (if (4 : Int32) ≤ l6 then (if (8 : Int32) ≤ l6 then (if (12 : Int32) ≤ l6 then (if (16 : Int32) ≤ l6 then xX9_feed_B71 r18 l0 l1 l2 l3 l4 l5 l6 l5 h else xX9_feed_B71 r18 l0 l1 l2 l3 l4 l5 l6 l4 h) else xX9_feed_B71 r18 l0 l1 l2 l3 l4 l5 l6 l3 h) else xX9_feed_B71 r18 l0 l1 l2 l3 l4 l5 l6 l2 h) else xX9_feed_B71 r18 l0 l1 l2 l3 l4 l5 l6 l1 h))
noncomputable def xX9_feed_L18 (n : Nat) : Nat → Int32 → Int32 → Int32 → Int32 → Int32 → Int32 → ZH → Option (Int32 × ZH) := Nat.rec (motive := fun _ => Nat → Int32 → Int32 → Int32 → Int32 → Int32 → Int32 → ZH → Option (Int32 × ZH)) (fun _ _ _ _ _ _ _ _ => none) (fun _ rec => xX9_feed_B18  rec) n
set_option maxHeartbeats 4000000 in
set_option maxRecDepth 100000 in
theorem wX9_feed_B18 {Γ : ZG} {p : Program} {l : Launch} {e : Env} {s : State} {m : MethodId} {args : Array Value} {below : List Frame} {meth : Method} {c : Code} (hO : z_OK Γ) (G : z_GG Γ p s m args meth c cX9_feed 8 RX9) (hr : meth.sig.returnType = (some .int)) (hnm : meth.name = "feed") {r : (Int32 × ZH)} {r18 : Nat → Int32 → Int32 → Int32 → Int32 → Int32 → Int32 → ZH → Option (Int32 × ZH)} (H18 : ∀ (l0 : Nat) (l1 : Int32) (l2 : Int32) (l3 : Int32) (l4 : Int32) (l5 : Int32) (l6 : Int32) (h : ZH), r18 l0 l1 l2 l3 l4 l5 l6 h = some r → z_W Γ p l e rmX9_feed s m args below meth c 8 0 0 (MQ below (z_Qc Γ (some (.int r.1)) r.2) args s rmX9_feed.cells rmX9_feed.slots (z_A Γ)) 18 [(0, .ref l0), (1, .int l1), (2, .int l2), (3, .int l3), (4, .int l4), (5, .int l5), (6, .int l6)] [] h) : ∀ (l0 : Nat) (l1 : Int32) (l2 : Int32) (l3 : Int32) (l4 : Int32) (l5 : Int32) (l6 : Int32) (h : ZH), xX9_feed_B18  r18 l0 l1 l2 l3 l4 l5 l6 h = some r → z_W Γ p l e rmX9_feed s m args below meth c 8 0 0 (MQ below (z_Qc Γ (some (.int r.1)) r.2) args s rmX9_feed.cells rmX9_feed.slots (z_A Γ)) 18 [(0, .ref l0), (1, .int l1), (2, .int l2), (3, .int l3), (4, .int l4), (5, .int l5), (6, .int l6)] [] h := by
  intro l0 l1 l2 l3 l4 l5 l6 h hX
  refine z_iload (pc := 18) G 6 dX9_feed_18 rfl ?_
  refine z_bipush (pc := 20) (v := 20) G dX9_feed_20 (by decide) ?_
  refine z_icmp_ge (pc := 22) (tgt := 105) G dX9_feed_22 (by decide) (fun hc22 => ?_) (fun hc22 => ?_)
  · have hX := z_it hc22 hX
    refine z_drop (lv2 := [(0, .ref l0)]) [0] rfl ?_
    exact wX9_feed_B105 hO G hr hnm _ _ hX
  · have hX := z_if hc22 hX
    refine z_iload (pc := 25) G 6 dX9_feed_25 rfl ?_
    refine z_iconst (pc := 27) (v := 4) G dX9_feed_27 (by decide) ?_
    refine z_icmp_ge (pc := 28) (tgt := 35) G dX9_feed_28 (by decide) (fun hc28 => ?_) (fun hc28 => ?_)
    · have hX := z_it hc28 hX
      refine z_iload (pc := 35) G 6 dX9_feed_35 rfl ?_
      refine z_bipush (pc := 37) (v := 8) G dX9_feed_37 (by decide) ?_
      refine z_icmp_ge (pc := 39) (tgt := 46) G dX9_feed_39 (by decide) (fun hc39 => ?_) (fun hc39 => ?_)
      · have hX := z_it hc39 hX
        refine z_iload (pc := 46) G 6 dX9_feed_46 rfl ?_
        refine z_bipush (pc := 48) (v := 12) G dX9_feed_48 (by decide) ?_
        refine z_icmp_ge (pc := 50) (tgt := 57) G dX9_feed_50 (by decide) (fun hc50 => ?_) (fun hc50 => ?_)
        · have hX := z_it hc50 hX
          refine z_iload (pc := 57) G 6 dX9_feed_57 rfl ?_
          refine z_bipush (pc := 59) (v := 16) G dX9_feed_59 (by decide) ?_
          refine z_icmp_ge (pc := 61) (tgt := 69) G dX9_feed_61 (by decide) (fun hc61 => ?_) (fun hc61 => ?_)
          · have hX := z_it hc61 hX
            refine z_iload (pc := 69) G 5 dX9_feed_69 rfl ?_
            exact wX9_feed_B71 hO G hr hnm H18 _ _ _ _ _ _ _ _ _ hX
          · have hX := z_if hc61 hX
            refine z_iload (pc := 64) G 4 dX9_feed_64 rfl ?_
            refine z_goto (pc := 66) (tgt := 71) G dX9_feed_66 (by decide) ?_
            exact wX9_feed_B71 hO G hr hnm H18 _ _ _ _ _ _ _ _ _ hX
        · have hX := z_if hc50 hX
          refine z_iload_n (pc := 53) G 3 dX9_feed_53 rfl rfl ?_
          refine z_goto (pc := 54) (tgt := 71) G dX9_feed_54 (by decide) ?_
          exact wX9_feed_B71 hO G hr hnm H18 _ _ _ _ _ _ _ _ _ hX
      · have hX := z_if hc39 hX
        refine z_iload_n (pc := 42) G 2 dX9_feed_42 rfl rfl ?_
        refine z_goto (pc := 43) (tgt := 71) G dX9_feed_43 (by decide) ?_
        exact wX9_feed_B71 hO G hr hnm H18 _ _ _ _ _ _ _ _ _ hX
    · have hX := z_if hc28 hX
      refine z_iload_n (pc := 31) G 1 dX9_feed_31 rfl rfl ?_
      refine z_goto (pc := 32) (tgt := 71) G dX9_feed_32 (by decide) ?_
      exact wX9_feed_B71 hO G hr hnm H18 _ _ _ _ _ _ _ _ _ hX
set_option maxHeartbeats 4000000 in
set_option maxRecDepth 100000 in
theorem wX9_feed_L18 {Γ : ZG} {p : Program} {l : Launch} {e : Env} {s : State} {m : MethodId} {args : Array Value} {below : List Frame} {meth : Method} {c : Code} (hO : z_OK Γ) (G : z_GG Γ p s m args meth c cX9_feed 8 RX9) (hr : meth.sig.returnType = (some .int)) (hnm : meth.name = "feed") {r : (Int32 × ZH)} : ∀ (nn : Nat) (l0 : Nat) (l1 : Int32) (l2 : Int32) (l3 : Int32) (l4 : Int32) (l5 : Int32) (l6 : Int32) (h : ZH), xX9_feed_L18  nn l0 l1 l2 l3 l4 l5 l6 h = some r → z_W Γ p l e rmX9_feed s m args below meth c 8 0 0 (MQ below (z_Qc Γ (some (.int r.1)) r.2) args s rmX9_feed.cells rmX9_feed.slots (z_A Γ)) 18 [(0, .ref l0), (1, .int l1), (2, .int l2), (3, .int l3), (4, .int l4), (5, .int l5), (6, .int l6)] [] h := by
  intro nn
  induction nn with
  | zero => intro l0 l1 l2 l3 l4 l5 l6 h hX; cases hX
  | succ nn ih => intro l0 l1 l2 l3 l4 l5 l6 h hX; exact wX9_feed_B18 hO G hr hnm  ih l0 l1 l2 l3 l4 l5 l6 h hX
noncomputable def xX9_feed (l0 : Nat) (l1 : Int32) (l2 : Int32) (l3 : Int32) (l4 : Int32) (l5 : Int32) (h : ZH) : Option (Int32 × ZH) := ((z_gI h l0 9 2).bind fun x1 => (if (x1 + (20 : Int32)) ≤ (1600 : Int32) then xX9_feed_L18 zFU l0 l1 l2 l3 l4 l5 (0 : Int32) h else some ((-1 : Int32), h)))
set_option maxHeartbeats 4000000 in
set_option maxRecDepth 100000 in
theorem lX9_feed {Γ : ZG} {l : Launch} (hO : z_OK Γ) {l0 : Nat} {l1 : Int32} {l2 : Int32} {l3 : Int32} {l4 : Int32} {l5 : Int32} {h : ZH} {r : (Int32 × ZH)} (hX : xX9_feed l0 l1 l2 l3 l4 l5 h = some r) : z_M Γ l yX9_feed (z_ws1 yX9_feed cX9_feed 8 (some .int)) rmX9_feed [.ref l0, .int l1, .int l2, .int l3, .int l4, .int l5] h (some (.int r.1)) r.2 := by
  refine z_start hO (plainFor_of_name (by decide)) (Nat.le_of_ble_eq_true rfl) ?_
  intro p e s m args below meth c G hr hnm
  refine z_lvc (lv2 := [(0, .ref l0), (1, .int l1), (2, .int l2), (3, .int l3), (4, .int l4), (5, .int l5)]) rfl ?_
  refine z_aload_n (pc := 0) G 0 dX9_feed_0 rfl rfl ?_
  obtain ⟨x1, hv1, hX⟩ := z_bd hX
  refine z_getI (pc := 1) G kK9 (k := 2) (by decide) kt_1228 dX9_feed_1 hv1 ?_
  refine z_bipush (pc := 4) (v := 20) G dX9_feed_4 (by decide) ?_
  refine z_iadd (pc := 6) G dX9_feed_6 ?_
  refine z_sipush (pc := 7) (v := 1600) G dX9_feed_7 (by decide) ?_
  refine z_icmp_le (pc := 10) (tgt := 15) G dX9_feed_10 (by decide) (fun hc10 => ?_) (fun hc10 => ?_)
  · have hX := z_it hc10 hX
    refine z_iconst (pc := 15) (v := 0) G dX9_feed_15 (by decide) ?_
    refine z_istore (pc := 16) (lv2 := [(0, .ref l0), (1, .int l1), (2, .int l2), (3, .int l3), (4, .int l4), (5, .int l5), (6, .int (0 : Int32))]) G dX9_feed_16 (by decide) rfl rfl ?_
    exact wX9_feed_L18 hO G hr hnm zFU _ _ _ _ _ _ _ _ hX
  · have hX := z_if hc10 hX
    refine z_iconst (pc := 13) (v := (-1)) G dX9_feed_13 (by decide) ?_
    exact z_iretX (pc := 14) hX G hr dX9_feed_14 (by decide) (by decide)
theorem dX9_end_0 : decode cX9_end 0 = .ok (.iload_n 1, 1) := by decide +kernel
theorem dX9_end_1 : decode cX9_end 1 = .ok (.ifCond .lt 11, 3) := by decide +kernel
theorem dX9_end_4 : decode cX9_end 4 = .ok (.iload_n 1, 1) := by decide +kernel
theorem dX9_end_5 : decode cX9_end 5 = .ok (.aload_n 0, 1) := by decide +kernel
theorem dX9_end_6 : decode cX9_end 6 = .ok (.getfield 252, 3) := by decide +kernel
theorem dX9_end_9 : decode cX9_end 9 = .ok (.if_icmp .le 5, 3) := by decide +kernel
theorem dX9_end_12 : decode cX9_end 12 = .ok (.iconst (-1), 1) := by decide +kernel
theorem dX9_end_13 : decode cX9_end 13 = .ok (.ireturn, 1) := by decide +kernel
theorem dX9_end_14 : decode cX9_end 14 = .ok (.aload_n 0, 1) := by decide +kernel
theorem dX9_end_15 : decode cX9_end 15 = .ok (.iload_n 1, 1) := by decide +kernel
theorem dX9_end_16 : decode cX9_end 16 = .ok (.putfield 252, 3) := by decide +kernel
theorem dX9_end_19 : decode cX9_end 19 = .ok (.iload_n 1, 1) := by decide +kernel
theorem dX9_end_20 : decode cX9_end 20 = .ok (.ireturn, 1) := by decide +kernel
theorem ydX9_end : z_yd yX9_end 1 := ⟨by decide, by decide, by decide +kernel⟩
abbrev rmX9_end : Room := { frames := 0, cells := 0, slots := 0, locals := 0 }
noncomputable def xX9_end (l0 : Nat) (l1 : Int32) (h : ZH) : Option (Int32 × ZH) := (if l1 < 0 then some ((-1 : Int32), h) else ((z_gI h l0 9 2).bind fun x6 => (if l1 ≤ x6 then ((z_sF h l0 9 2 (.int l1)).bind fun h16 => some (l1, h16)) else some ((-1 : Int32), h))))
set_option maxHeartbeats 4000000 in
set_option maxRecDepth 100000 in
theorem lX9_end {Γ : ZG} {l : Launch} (hO : z_OK Γ) {l0 : Nat} {l1 : Int32} {h : ZH} {r : (Int32 × ZH)} (hX : xX9_end l0 l1 h = some r) : z_M Γ l yX9_end (z_ws1 yX9_end cX9_end 2 (some .int)) rmX9_end [.ref l0, .int l1] h (some (.int r.1)) r.2 := by
  refine z_start hO (plainFor_of_name (by decide)) (Nat.le_of_ble_eq_true rfl) ?_
  intro p e s m args below meth c G hr hnm
  refine z_lvc (lv2 := [(0, .ref l0), (1, .int l1)]) rfl ?_
  refine z_iload_n (pc := 0) G 1 dX9_end_0 rfl rfl ?_
  refine z_if_lt (pc := 1) (tgt := 12) G dX9_end_1 (by decide) (fun hc1 => ?_) (fun hc1 => ?_)
  · have hX := z_it hc1 hX
    refine z_iconst (pc := 12) (v := (-1)) G dX9_end_12 (by decide) ?_
    exact z_iretX (pc := 13) hX G hr dX9_end_13 (by decide) (by decide)
  · have hX := z_if hc1 hX
    refine z_iload_n (pc := 4) G 1 dX9_end_4 rfl rfl ?_
    refine z_aload_n (pc := 5) G 0 dX9_end_5 rfl rfl ?_
    obtain ⟨x6, hv6, hX⟩ := z_bd hX
    refine z_getI (pc := 6) G kK9 (k := 2) (by decide) kt_1228 dX9_end_6 hv6 ?_
    refine z_icmp_le (pc := 9) (tgt := 14) G dX9_end_9 (by decide) (fun hc9 => ?_) (fun hc9 => ?_)
    · have hX := z_it hc9 hX
      refine z_aload_n (pc := 14) G 0 dX9_end_14 rfl rfl ?_
      refine z_iload_n (pc := 15) G 1 dX9_end_15 rfl rfl ?_
      obtain ⟨h16, hv16, hX⟩ := z_bd hX
      refine z_putF (pc := 16) G kK9 (k := 2) (by decide) kt_1228 (Or.inl rfl) rfl rfl dX9_end_16 hv16 ?_
      refine z_iload_n (pc := 19) G 1 dX9_end_19 rfl rfl ?_
      exact z_iretX (pc := 20) hX G hr dX9_end_20 (by decide) (by decide)
    · have hX := z_if hc9 hX
      refine z_iconst (pc := 12) (v := (-1)) G dX9_end_12 (by decide) ?_
      exact z_iretX (pc := 13) hX G hr dX9_end_13 (by decide) (by decide)
