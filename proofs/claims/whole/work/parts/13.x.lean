theorem dX3_isSign_0 : decode cX3_isSign 0 = .ok (.aload_n 0, 1) := by decide +kernel
theorem dX3_isSign_1 : decode cX3_isSign 1 = .ok (.getfield 60, 3) := by decide +kernel
theorem dX3_isSign_4 : decode cX3_isSign 4 = .ok (.iconst 3, 1) := by decide +kernel
theorem dX3_isSign_5 : decode cX3_isSign 5 = .ok (.if_icmp .ne 15, 3) := by decide +kernel
theorem dX3_isSign_8 : decode cX3_isSign 8 = .ok (.aload_n 0, 1) := by decide +kernel
theorem dX3_isSign_9 : decode cX3_isSign 9 = .ok (.getfield 67, 3) := by decide +kernel
theorem dX3_isSign_12 : decode cX3_isSign 12 = .ok (.iload_n 1, 1) := by decide +kernel
theorem dX3_isSign_13 : decode cX3_isSign 13 = .ok (.if_icmp .ne 7, 3) := by decide +kernel
theorem dX3_isSign_16 : decode cX3_isSign 16 = .ok (.iconst 1, 1) := by decide +kernel
theorem dX3_isSign_17 : decode cX3_isSign 17 = .ok (.goto 4, 3) := by decide +kernel
theorem dX3_isSign_20 : decode cX3_isSign 20 = .ok (.iconst 0, 1) := by decide +kernel
theorem dX3_isSign_21 : decode cX3_isSign 21 = .ok (.ireturn, 1) := by decide +kernel
theorem ydX3_isSign : z_yd yX3_isSign 1 := ⟨by decide, by decide, by decide +kernel⟩
abbrev rmX3_isSign : Room := { frames := 0, cells := 0, slots := 0, locals := 0 }
noncomputable def xX3_isSign (l0 : Nat) (l1 : Int32) (h : ZH) : Option (Int32 × ZH) := ((z_gI h l0 3 7).bind fun x1 => (if x1 = (3 : Int32) then ((z_gI h l0 3 8).bind fun x9 => (if x9 = l1 then some ((1 : Int32), h) else some ((0 : Int32), h))) else some ((0 : Int32), h)))
set_option maxHeartbeats 4000000 in
set_option maxRecDepth 100000 in
theorem lX3_isSign {Γ : ZG} {l : Launch} (hO : z_OK Γ) {l0 : Nat} {l1 : Int32} {h : ZH} {r : (Int32 × ZH)} (hX : xX3_isSign l0 l1 h = some r) : z_M Γ l yX3_isSign (z_ws1 yX3_isSign cX3_isSign 2 (some .boolean)) rmX3_isSign [.ref l0, .int l1] h (some (.int r.1)) r.2 := by
  refine z_start hO (plainFor_of_name (by decide)) (Nat.le_of_ble_eq_true rfl) ?_
  intro p e s m args below meth c G hr hnm
  refine z_lvc (lv2 := [(0, .ref l0), (1, .int l1)]) rfl ?_
  refine z_aload_n (pc := 0) G 0 dX3_isSign_0 rfl rfl ?_
  obtain ⟨x1, hv1, hX⟩ := z_bd hX
  refine z_getI (pc := 1) G kK3 (k := 7) (by decide) kt_147 dX3_isSign_1 hv1 ?_
  refine z_iconst (pc := 4) (v := 3) G dX3_isSign_4 (by decide) ?_
  refine z_icmp_ne (pc := 5) (tgt := 20) G dX3_isSign_5 (by decide) (fun hc5 => ?_) (fun hc5 => ?_)
  · have hX := z_if hc5 hX
    refine z_iconst (pc := 20) (v := 0) G dX3_isSign_20 (by decide) ?_
    exact z_zretX (pc := 21) hX G hr rfl dX3_isSign_21 (by decide) (by decide)
  · have hX := z_it hc5 hX
    refine z_aload_n (pc := 8) G 0 dX3_isSign_8 rfl rfl ?_
    obtain ⟨x9, hv9, hX⟩ := z_bd hX
    refine z_getI (pc := 9) G kK3 (k := 8) (by decide) kt_148 dX3_isSign_9 hv9 ?_
    refine z_iload_n (pc := 12) G 1 dX3_isSign_12 rfl rfl ?_
    refine z_icmp_ne (pc := 13) (tgt := 20) G dX3_isSign_13 (by decide) (fun hc13 => ?_) (fun hc13 => ?_)
    · have hX := z_if hc13 hX
      refine z_iconst (pc := 20) (v := 0) G dX3_isSign_20 (by decide) ?_
      exact z_zretX (pc := 21) hX G hr rfl dX3_isSign_21 (by decide) (by decide)
    · have hX := z_it hc13 hX
      refine z_iconst (pc := 16) (v := 1) G dX3_isSign_16 (by decide) ?_
      refine z_goto (pc := 17) (tgt := 21) G dX3_isSign_17 (by decide) ?_
      exact z_zretX (pc := 21) hX G hr rfl dX3_isSign_21 (by decide) (by decide)
theorem dX3_fail_0 : decode cX3_fail 0 = .ok (.aload_n 0, 1) := by decide +kernel
theorem dX3_fail_1 : decode cX3_fail 1 = .ok (.iload_n 1, 1) := by decide +kernel
theorem dX3_fail_2 : decode cX3_fail 2 = .ok (.putfield 51, 3) := by decide +kernel
theorem dX3_fail_5 : decode cX3_fail 5 = .ok (.aload_n 0, 1) := by decide +kernel
theorem dX3_fail_6 : decode cX3_fail 6 = .ok (.aload_n 0, 1) := by decide +kernel
theorem dX3_fail_7 : decode cX3_fail 7 = .ok (.getfield 130, 3) := by decide +kernel
theorem dX3_fail_10 : decode cX3_fail 10 = .ok (.putfield 18, 3) := by decide +kernel
theorem dX3_fail_13 : decode cX3_fail 13 = .ok (.iconst 0, 1) := by decide +kernel
theorem dX3_fail_14 : decode cX3_fail 14 = .ok (.ireturn, 1) := by decide +kernel
theorem ydX3_fail : z_yd yX3_fail 1 := ⟨by decide, by decide, by decide +kernel⟩
abbrev rmX3_fail : Room := { frames := 0, cells := 0, slots := 0, locals := 0 }
noncomputable def xX3_fail (l0 : Nat) (l1 : Int32) (h : ZH) : Option (Int32 × ZH) := ((z_sF h l0 3 1 (.int l1)).bind fun h2 => ((z_gI h2 l0 3 5).bind fun x7 => ((z_sF h2 l0 3 2 (.int x7)).bind fun h10 => some ((0 : Int32), h10))))
set_option maxHeartbeats 4000000 in
set_option maxRecDepth 100000 in
theorem lX3_fail {Γ : ZG} {l : Launch} (hO : z_OK Γ) {l0 : Nat} {l1 : Int32} {h : ZH} {r : (Int32 × ZH)} (hX : xX3_fail l0 l1 h = some r) : z_M Γ l yX3_fail (z_ws1 yX3_fail cX3_fail 2 (some .boolean)) rmX3_fail [.ref l0, .int l1] h (some (.int r.1)) r.2 := by
  refine z_start hO (plainFor_of_name (by decide)) (Nat.le_of_ble_eq_true rfl) ?_
  intro p e s m args below meth c G hr hnm
  refine z_lvc (lv2 := [(0, .ref l0), (1, .int l1)]) rfl ?_
  refine z_aload_n (pc := 0) G 0 dX3_fail_0 rfl rfl ?_
  refine z_iload_n (pc := 1) G 1 dX3_fail_1 rfl rfl ?_
  obtain ⟨h2, hv2, hX⟩ := z_bd hX
  refine z_putF (pc := 2) G kK3 (k := 1) (by decide) kt_139 (Or.inl rfl) rfl rfl dX3_fail_2 hv2 ?_
  refine z_aload_n (pc := 5) G 0 dX3_fail_5 rfl rfl ?_
  refine z_aload_n (pc := 6) G 0 dX3_fail_6 rfl rfl ?_
  obtain ⟨x7, hv7, hX⟩ := z_bd hX
  refine z_getI (pc := 7) G kK3 (k := 5) (by decide) kt_145 dX3_fail_7 hv7 ?_
  obtain ⟨h10, hv10, hX⟩ := z_bd hX
  refine z_putF (pc := 10) G kK3 (k := 2) (by decide) kt_141 (Or.inl rfl) rfl rfl dX3_fail_10 hv10 ?_
  refine z_iconst (pc := 13) (v := 0) G dX3_fail_13 (by decide) ?_
  exact z_zretX (pc := 14) hX G hr rfl dX3_fail_14 (by decide) (by decide)
theorem dX3_refuse_0 : decode cX3_refuse 0 = .ok (.aload_n 0, 1) := by decide +kernel
theorem dX3_refuse_1 : decode cX3_refuse 1 = .ok (.aload_n 0, 1) := by decide +kernel
theorem dX3_refuse_2 : decode cX3_refuse 2 = .ok (.getfield 60, 3) := by decide +kernel
theorem dX3_refuse_5 : decode cX3_refuse 5 = .ok (.iconst 4, 1) := by decide +kernel
theorem dX3_refuse_6 : decode cX3_refuse 6 = .ok (.if_icmp .ne 7, 3) := by decide +kernel
theorem dX3_refuse_9 : decode cX3_refuse 9 = .ok (.iconst 1, 1) := by decide +kernel
theorem dX3_refuse_10 : decode cX3_refuse 10 = .ok (.goto 4, 3) := by decide +kernel
theorem dX3_refuse_13 : decode cX3_refuse 13 = .ok (.iconst 2, 1) := by decide +kernel
theorem dX3_refuse_14 : decode cX3_refuse 14 = .ok (.invokevirtual 127, 3) := by decide +kernel
theorem dX3_refuse_17 : decode cX3_refuse 17 = .ok (.ireturn, 1) := by decide +kernel
theorem ydX3_refuse : z_yd yX3_refuse 0 := ⟨by decide, by decide, by decide +kernel⟩
abbrev rmX3_refuse : Room := { frames := 1, cells := 0, slots := 0, locals := 21 }
noncomputable def xX3_refuse (l0 : Nat) (h : ZH) : Option (Int32 × ZH) := ((z_gI h l0 3 7).bind fun x2 => (if x2 = (4 : Int32) then (z_gu (z_is h l0 3) ((xX3_fail l0 (1 : Int32) h).bind fun r14 => z_zr r14.1 r14.2)) else (z_gu (z_is h l0 3) ((xX3_fail l0 (2 : Int32) h).bind fun r14 => z_zr r14.1 r14.2))))
set_option maxHeartbeats 4000000 in
set_option maxRecDepth 100000 in
theorem lX3_refuse {Γ : ZG} {l : Launch} (hO : z_OK Γ) {l0 : Nat} {h : ZH} {r : (Int32 × ZH)} (hX : xX3_refuse l0 h = some r) : z_M Γ l yX3_refuse (z_ws1 yX3_refuse cX3_refuse 1 (some .boolean)) rmX3_refuse [.ref l0] h (some (.int r.1)) r.2 := by
  refine z_start hO (plainFor_of_name (by decide)) (Nat.le_of_ble_eq_true rfl) ?_
  intro p e s m args below meth c G hr hnm
  refine z_lvc (lv2 := [(0, .ref l0)]) rfl ?_
  refine z_aload_n (pc := 0) G 0 dX3_refuse_0 rfl rfl ?_
  refine z_aload_n (pc := 1) G 0 dX3_refuse_1 rfl rfl ?_
  obtain ⟨x2, hv2, hX⟩ := z_bd hX
  refine z_getI (pc := 2) G kK3 (k := 7) (by decide) kt_147 dX3_refuse_2 hv2 ?_
  refine z_iconst (pc := 5) (v := 4) G dX3_refuse_5 (by decide) ?_
  refine z_icmp_ne (pc := 6) (tgt := 13) G dX3_refuse_6 (by decide) (fun hc6 => ?_) (fun hc6 => ?_)
  · have hX := z_if hc6 hX
    refine z_iconst (pc := 13) (v := 2) G dX3_refuse_13 (by decide) ?_
    obtain ⟨hi14, hX⟩ := z_gu_s hX
    obtain ⟨r14, hv14, hX⟩ := z_bd hX
    refine z_cVI (pc := 14) (As := [.int (2 : Int32)]) (c2 := 0) (s2 := 0) G kK3 (lX3_fail hO hv14) hi14 kt_646 kt_2 kt_643 kt_645 ks_6 ydX3_fail ⟨by decide, by decide⟩ rfl (Nat.le_of_ble_eq_true rfl) ⟨rfl, rfl⟩ ⟨by decide, by decide⟩ rfl dX3_refuse_14 ?_
    exact z_zretY (pc := 17) hX G hr dX3_refuse_17 (by decide) (by decide)
  · have hX := z_it hc6 hX
    refine z_iconst (pc := 9) (v := 1) G dX3_refuse_9 (by decide) ?_
    refine z_goto (pc := 10) (tgt := 14) G dX3_refuse_10 (by decide) ?_
    obtain ⟨hi14, hX⟩ := z_gu_s hX
    obtain ⟨r14, hv14, hX⟩ := z_bd hX
    refine z_cVI (pc := 14) (As := [.int (1 : Int32)]) (c2 := 0) (s2 := 0) G kK3 (lX3_fail hO hv14) hi14 kt_646 kt_2 kt_643 kt_645 ks_6 ydX3_fail ⟨by decide, by decide⟩ rfl (Nat.le_of_ble_eq_true rfl) ⟨rfl, rfl⟩ ⟨by decide, by decide⟩ rfl dX3_refuse_14 ?_
    exact z_zretY (pc := 17) hX G hr dX3_refuse_17 (by decide) (by decide)
theorem dX3_sameBytes_0 : decode cX3_sameBytes 0 = .ok (.iconst 0, 1) := by decide +kernel
theorem dX3_sameBytes_1 : decode cX3_sameBytes 1 = .ok (.istore 4, 2) := by decide +kernel
theorem dX3_sameBytes_3 : decode cX3_sameBytes 3 = .ok (.iload 4, 2) := by decide +kernel
theorem dX3_sameBytes_5 : decode cX3_sameBytes 5 = .ok (.iload_n 3, 1) := by decide +kernel
theorem dX3_sameBytes_6 : decode cX3_sameBytes 6 = .ok (.if_icmp .ge 32, 3) := by decide +kernel
theorem dX3_sameBytes_9 : decode cX3_sameBytes 9 = .ok (.aload_n 0, 1) := by decide +kernel
theorem dX3_sameBytes_10 : decode cX3_sameBytes 10 = .ok (.getfield 29, 3) := by decide +kernel
theorem dX3_sameBytes_13 : decode cX3_sameBytes 13 = .ok (.iload_n 1, 1) := by decide +kernel
theorem dX3_sameBytes_14 : decode cX3_sameBytes 14 = .ok (.iload 4, 2) := by decide +kernel
theorem dX3_sameBytes_16 : decode cX3_sameBytes 16 = .ok (.iadd, 1) := by decide +kernel
theorem dX3_sameBytes_17 : decode cX3_sameBytes 17 = .ok (.baload, 1) := by decide +kernel
theorem dX3_sameBytes_18 : decode cX3_sameBytes 18 = .ok (.aload_n 0, 1) := by decide +kernel
theorem dX3_sameBytes_19 : decode cX3_sameBytes 19 = .ok (.getfield 29, 3) := by decide +kernel
theorem dX3_sameBytes_22 : decode cX3_sameBytes 22 = .ok (.iload_n 2, 1) := by decide +kernel
theorem dX3_sameBytes_23 : decode cX3_sameBytes 23 = .ok (.iload 4, 2) := by decide +kernel
theorem dX3_sameBytes_25 : decode cX3_sameBytes 25 = .ok (.iadd, 1) := by decide +kernel
theorem dX3_sameBytes_26 : decode cX3_sameBytes 26 = .ok (.baload, 1) := by decide +kernel
theorem dX3_sameBytes_27 : decode cX3_sameBytes 27 = .ok (.if_icmp .eq 5, 3) := by decide +kernel
theorem dX3_sameBytes_30 : decode cX3_sameBytes 30 = .ok (.iconst 0, 1) := by decide +kernel
theorem dX3_sameBytes_31 : decode cX3_sameBytes 31 = .ok (.ireturn, 1) := by decide +kernel
theorem dX3_sameBytes_32 : decode cX3_sameBytes 32 = .ok (.iinc 4 1, 3) := by decide +kernel
theorem dX3_sameBytes_35 : decode cX3_sameBytes 35 = .ok (.goto (-32), 3) := by decide +kernel
theorem dX3_sameBytes_38 : decode cX3_sameBytes 38 = .ok (.iconst 1, 1) := by decide +kernel
theorem dX3_sameBytes_39 : decode cX3_sameBytes 39 = .ok (.ireturn, 1) := by decide +kernel
theorem ydX3_sameBytes : z_yd yX3_sameBytes 3 := ⟨by decide, by decide, by decide +kernel⟩
abbrev rmX3_sameBytes : Room := { frames := 0, cells := 0, slots := 0, locals := 0 }
noncomputable def xX3_sameBytes_B3 (r3 : Nat → Int32 → Int32 → Int32 → Int32 → ZH → Option (Int32 × ZH)) (l0 : Nat) (l1 : Int32) (l2 : Int32) (l3 : Int32) (l4 : Int32) (h : ZH) : Option (Int32 × ZH) := (if l3 ≤ l4 then some ((1 : Int32), h) else ((z_gR h l0 3 3).bind fun x10 => ((z_aB h x10 (l1 + l4)).bind fun x17 => ((z_gR h l0 3 3).bind fun x19 => ((z_aB h x19 (l2 + l4)).bind fun x26 => (if x17 = x26 then r3 l0 l1 l2 l3 (l4 + 1) h else some ((0 : Int32), h)))))))
noncomputable def xX3_sameBytes_L3 (n : Nat) : Nat → Int32 → Int32 → Int32 → Int32 → ZH → Option (Int32 × ZH) := Nat.rec (motive := fun _ => Nat → Int32 → Int32 → Int32 → Int32 → ZH → Option (Int32 × ZH)) (fun _ _ _ _ _ _ => none) (fun _ rec => xX3_sameBytes_B3  rec) n
set_option maxHeartbeats 4000000 in
set_option maxRecDepth 100000 in
theorem wX3_sameBytes_B3 {Γ : ZG} {p : Program} {l : Launch} {e : Env} {s : State} {m : MethodId} {args : Array Value} {below : List Frame} {meth : Method} {c : Code} (hO : z_OK Γ) (G : z_GG Γ p s m args meth c cX3_sameBytes 5 RX3) (hr : meth.sig.returnType = (some .boolean)) (hnm : meth.name = "sameBytes") {r : (Int32 × ZH)} {r3 : Nat → Int32 → Int32 → Int32 → Int32 → ZH → Option (Int32 × ZH)} (H3 : ∀ (l0 : Nat) (l1 : Int32) (l2 : Int32) (l3 : Int32) (l4 : Int32) (h : ZH), r3 l0 l1 l2 l3 l4 h = some r → z_W Γ p l e rmX3_sameBytes s m args below meth c 5 0 0 (MQ below (z_Qc Γ (some (.int r.1)) r.2) args s rmX3_sameBytes.cells rmX3_sameBytes.slots (z_A Γ)) 3 [(0, .ref l0), (1, .int l1), (2, .int l2), (3, .int l3), (4, .int l4)] [] h) : ∀ (l0 : Nat) (l1 : Int32) (l2 : Int32) (l3 : Int32) (l4 : Int32) (h : ZH), xX3_sameBytes_B3  r3 l0 l1 l2 l3 l4 h = some r → z_W Γ p l e rmX3_sameBytes s m args below meth c 5 0 0 (MQ below (z_Qc Γ (some (.int r.1)) r.2) args s rmX3_sameBytes.cells rmX3_sameBytes.slots (z_A Γ)) 3 [(0, .ref l0), (1, .int l1), (2, .int l2), (3, .int l3), (4, .int l4)] [] h := by
  intro l0 l1 l2 l3 l4 h hX
  refine z_iload (pc := 3) G 4 dX3_sameBytes_3 rfl ?_
  refine z_iload_n (pc := 5) G 3 dX3_sameBytes_5 rfl rfl ?_
  refine z_icmp_ge (pc := 6) (tgt := 38) G dX3_sameBytes_6 (by decide) (fun hc6 => ?_) (fun hc6 => ?_)
  · have hX := z_it hc6 hX
    refine z_iconst (pc := 38) (v := 1) G dX3_sameBytes_38 (by decide) ?_
    exact z_zretX (pc := 39) hX G hr rfl dX3_sameBytes_39 (by decide) (by decide)
  · have hX := z_if hc6 hX
    refine z_aload_n (pc := 9) G 0 dX3_sameBytes_9 rfl rfl ?_
    obtain ⟨x10, hv10, hX⟩ := z_bd hX
    refine z_getR (pc := 10) G kK3 (k := 3) (by decide) kt_143 dX3_sameBytes_10 hv10 ?_
    refine z_iload_n (pc := 13) G 1 dX3_sameBytes_13 rfl rfl ?_
    refine z_iload (pc := 14) G 4 dX3_sameBytes_14 rfl ?_
    refine z_iadd (pc := 16) G dX3_sameBytes_16 ?_
    obtain ⟨x17, hv17, hX⟩ := z_bd hX
    refine z_bald (pc := 17) G dX3_sameBytes_17 hv17 ?_
    refine z_aload_n (pc := 18) G 0 dX3_sameBytes_18 rfl rfl ?_
    obtain ⟨x19, hv19, hX⟩ := z_bd hX
    refine z_getR (pc := 19) G kK3 (k := 3) (by decide) kt_143 dX3_sameBytes_19 hv19 ?_
    refine z_iload_n (pc := 22) G 2 dX3_sameBytes_22 rfl rfl ?_
    refine z_iload (pc := 23) G 4 dX3_sameBytes_23 rfl ?_
    refine z_iadd (pc := 25) G dX3_sameBytes_25 ?_
    obtain ⟨x26, hv26, hX⟩ := z_bd hX
    refine z_bald (pc := 26) G dX3_sameBytes_26 hv26 ?_
    refine z_icmp_eq (pc := 27) (tgt := 32) G dX3_sameBytes_27 (by decide) (fun hc27 => ?_) (fun hc27 => ?_)
    · have hX := z_it hc27 hX
      refine z_iincw (pc := 32) (w := 1) (lv2 := [(0, .ref l0), (1, .int l1), (2, .int l2), (3, .int l3), (4, .int (l4 + 1))]) G 4 dX3_sameBytes_32 rfl (by decide) (by decide) rfl rfl ?_
      refine z_goto (pc := 35) (tgt := 3) G dX3_sameBytes_35 (by decide) ?_
      exact H3 _ _ _ _ _ _ hX
    · have hX := z_if hc27 hX
      refine z_iconst (pc := 30) (v := 0) G dX3_sameBytes_30 (by decide) ?_
      exact z_zretX (pc := 31) hX G hr rfl dX3_sameBytes_31 (by decide) (by decide)
set_option maxHeartbeats 4000000 in
set_option maxRecDepth 100000 in
theorem wX3_sameBytes_L3 {Γ : ZG} {p : Program} {l : Launch} {e : Env} {s : State} {m : MethodId} {args : Array Value} {below : List Frame} {meth : Method} {c : Code} (hO : z_OK Γ) (G : z_GG Γ p s m args meth c cX3_sameBytes 5 RX3) (hr : meth.sig.returnType = (some .boolean)) (hnm : meth.name = "sameBytes") {r : (Int32 × ZH)} : ∀ (nn : Nat) (l0 : Nat) (l1 : Int32) (l2 : Int32) (l3 : Int32) (l4 : Int32) (h : ZH), xX3_sameBytes_L3  nn l0 l1 l2 l3 l4 h = some r → z_W Γ p l e rmX3_sameBytes s m args below meth c 5 0 0 (MQ below (z_Qc Γ (some (.int r.1)) r.2) args s rmX3_sameBytes.cells rmX3_sameBytes.slots (z_A Γ)) 3 [(0, .ref l0), (1, .int l1), (2, .int l2), (3, .int l3), (4, .int l4)] [] h := by
  intro nn
  induction nn with
  | zero => intro l0 l1 l2 l3 l4 h hX; cases hX
  | succ nn ih => intro l0 l1 l2 l3 l4 h hX; exact wX3_sameBytes_B3 hO G hr hnm  ih l0 l1 l2 l3 l4 h hX
noncomputable def xX3_sameBytes (l0 : Nat) (l1 : Int32) (l2 : Int32) (l3 : Int32) (h : ZH) : Option (Int32 × ZH) := xX3_sameBytes_L3 zFU l0 l1 l2 l3 (0 : Int32) h
set_option maxHeartbeats 4000000 in
set_option maxRecDepth 100000 in
theorem lX3_sameBytes {Γ : ZG} {l : Launch} (hO : z_OK Γ) {l0 : Nat} {l1 : Int32} {l2 : Int32} {l3 : Int32} {h : ZH} {r : (Int32 × ZH)} (hX : xX3_sameBytes l0 l1 l2 l3 h = some r) : z_M Γ l yX3_sameBytes (z_ws1 yX3_sameBytes cX3_sameBytes 5 (some .boolean)) rmX3_sameBytes [.ref l0, .int l1, .int l2, .int l3] h (some (.int r.1)) r.2 := by
  refine z_start hO (plainFor_of_name (by decide)) (Nat.le_of_ble_eq_true rfl) ?_
  intro p e s m args below meth c G hr hnm
  refine z_lvc (lv2 := [(0, .ref l0), (1, .int l1), (2, .int l2), (3, .int l3)]) rfl ?_
  refine z_iconst (pc := 0) (v := 0) G dX3_sameBytes_0 (by decide) ?_
  refine z_istore (pc := 1) (lv2 := [(0, .ref l0), (1, .int l1), (2, .int l2), (3, .int l3), (4, .int (0 : Int32))]) G dX3_sameBytes_1 (by decide) rfl rfl ?_
  exact wX3_sameBytes_L3 hO G hr hnm zFU _ _ _ _ _ _ hX
theorem dX3_isToldName_0 : decode cX3_isToldName 0 = .ok (.aload_n 0, 1) := by decide +kernel
theorem dX3_isToldName_1 : decode cX3_isToldName 1 = .ok (.getfield 45, 3) := by decide +kernel
theorem dX3_isToldName_4 : decode cX3_isToldName 4 = .ok (.aload_n 0, 1) := by decide +kernel
theorem dX3_isToldName_5 : decode cX3_isToldName 5 = .ok (.getfield 130, 3) := by decide +kernel
theorem dX3_isToldName_8 : decode cX3_isToldName 8 = .ok (.isub, 1) := by decide +kernel
theorem dX3_isToldName_9 : decode cX3_isToldName 9 = .ok (.istore_n 1, 1) := by decide +kernel
theorem dX3_isToldName_10 : decode cX3_isToldName 10 = .ok (.iconst 0, 1) := by decide +kernel
theorem dX3_isToldName_11 : decode cX3_isToldName 11 = .ok (.istore_n 2, 1) := by decide +kernel
theorem dX3_isToldName_12 : decode cX3_isToldName 12 = .ok (.iload_n 2, 1) := by decide +kernel
theorem dX3_isToldName_13 : decode cX3_isToldName 13 = .ok (.aload_n 0, 1) := by decide +kernel
theorem dX3_isToldName_14 : decode cX3_isToldName 14 = .ok (.getfield 12, 3) := by decide +kernel
theorem dX3_isToldName_17 : decode cX3_isToldName 17 = .ok (.getfield 73, 3) := by decide +kernel
theorem dX3_isToldName_20 : decode cX3_isToldName 20 = .ok (.if_icmp .ge 39, 3) := by decide +kernel
theorem dX3_isToldName_23 : decode cX3_isToldName 23 = .ok (.aload_n 0, 1) := by decide +kernel
theorem dX3_isToldName_24 : decode cX3_isToldName 24 = .ok (.getfield 26, 3) := by decide +kernel
theorem dX3_isToldName_27 : decode cX3_isToldName 27 = .ok (.iload_n 2, 1) := by decide +kernel
theorem dX3_isToldName_28 : decode cX3_isToldName 28 = .ok (.iaload, 1) := by decide +kernel
theorem dX3_isToldName_29 : decode cX3_isToldName 29 = .ok (.iload_n 1, 1) := by decide +kernel
theorem dX3_isToldName_30 : decode cX3_isToldName 30 = .ok (.if_icmp .ne 23, 3) := by decide +kernel
theorem dX3_isToldName_33 : decode cX3_isToldName 33 = .ok (.aload_n 0, 1) := by decide +kernel
theorem dX3_isToldName_34 : decode cX3_isToldName 34 = .ok (.aload_n 0, 1) := by decide +kernel
theorem dX3_isToldName_35 : decode cX3_isToldName 35 = .ok (.getfield 22, 3) := by decide +kernel
theorem dX3_isToldName_38 : decode cX3_isToldName 38 = .ok (.iload_n 2, 1) := by decide +kernel
theorem dX3_isToldName_39 : decode cX3_isToldName 39 = .ok (.iaload, 1) := by decide +kernel
theorem dX3_isToldName_40 : decode cX3_isToldName 40 = .ok (.aload_n 0, 1) := by decide +kernel
theorem dX3_isToldName_41 : decode cX3_isToldName 41 = .ok (.getfield 130, 3) := by decide +kernel
theorem dX3_isToldName_44 : decode cX3_isToldName 44 = .ok (.iload_n 1, 1) := by decide +kernel
theorem dX3_isToldName_45 : decode cX3_isToldName 45 = .ok (.invokevirtual 154, 3) := by decide +kernel
theorem dX3_isToldName_48 : decode cX3_isToldName 48 = .ok (.ifCond .eq 5, 3) := by decide +kernel
theorem dX3_isToldName_51 : decode cX3_isToldName 51 = .ok (.iconst 1, 1) := by decide +kernel
theorem dX3_isToldName_52 : decode cX3_isToldName 52 = .ok (.ireturn, 1) := by decide +kernel
theorem dX3_isToldName_53 : decode cX3_isToldName 53 = .ok (.iinc 2 1, 3) := by decide +kernel
theorem dX3_isToldName_56 : decode cX3_isToldName 56 = .ok (.goto (-44), 3) := by decide +kernel
theorem dX3_isToldName_59 : decode cX3_isToldName 59 = .ok (.iconst 0, 1) := by decide +kernel
theorem dX3_isToldName_60 : decode cX3_isToldName 60 = .ok (.ireturn, 1) := by decide +kernel
theorem ydX3_isToldName : z_yd yX3_isToldName 0 := ⟨by decide, by decide, by decide +kernel⟩
abbrev rmX3_isToldName : Room := { frames := 1, cells := 0, slots := 0, locals := 24 }
noncomputable def xX3_isToldName_B12 (r12 : Nat → Int32 → Int32 → ZH → Option (Int32 × ZH)) (l0 : Nat) (l1 : Int32) (l2 : Int32) (h : ZH) : Option (Int32 × ZH) := ((z_gR h l0 3 0).bind fun x14 => ((z_gI h x14 2 7).bind fun x17 => (if x17 ≤ l2 then some ((0 : Int32), h) else ((z_gR h l0 3 12).bind fun x24 => ((z_aI h x24 l2).bind fun x28 => (if x28 = l1 then ((z_gR h l0 3 11).bind fun x35 => ((z_aI h x35 l2).bind fun x39 => ((z_gI h l0 3 5).bind fun x41 => (z_gu (z_is h l0 3) ((xX3_sameBytes l0 x39 x41 l1 h).bind fun r45 => (if r45.1 = 0 then r12 l0 l1 (l2 + 1) r45.2 else some ((1 : Int32), r45.2))))))) else r12 l0 l1 (l2 + 1) h))))))
noncomputable def xX3_isToldName_L12 (n : Nat) : Nat → Int32 → Int32 → ZH → Option (Int32 × ZH) := Nat.rec (motive := fun _ => Nat → Int32 → Int32 → ZH → Option (Int32 × ZH)) (fun _ _ _ _ => none) (fun _ rec => xX3_isToldName_B12  rec) n
set_option maxHeartbeats 4000000 in
set_option maxRecDepth 100000 in
theorem wX3_isToldName_B12 {Γ : ZG} {p : Program} {l : Launch} {e : Env} {s : State} {m : MethodId} {args : Array Value} {below : List Frame} {meth : Method} {c : Code} (hO : z_OK Γ) (G : z_GG Γ p s m args meth c cX3_isToldName 3 RX3) (hr : meth.sig.returnType = (some .boolean)) (hnm : meth.name = "isToldName") {r : (Int32 × ZH)} {r12 : Nat → Int32 → Int32 → ZH → Option (Int32 × ZH)} (H12 : ∀ (l0 : Nat) (l1 : Int32) (l2 : Int32) (h : ZH), r12 l0 l1 l2 h = some r → z_W Γ p l e rmX3_isToldName s m args below meth c 3 0 0 (MQ below (z_Qc Γ (some (.int r.1)) r.2) args s rmX3_isToldName.cells rmX3_isToldName.slots (z_A Γ)) 12 [(0, .ref l0), (1, .int l1), (2, .int l2)] [] h) : ∀ (l0 : Nat) (l1 : Int32) (l2 : Int32) (h : ZH), xX3_isToldName_B12  r12 l0 l1 l2 h = some r → z_W Γ p l e rmX3_isToldName s m args below meth c 3 0 0 (MQ below (z_Qc Γ (some (.int r.1)) r.2) args s rmX3_isToldName.cells rmX3_isToldName.slots (z_A Γ)) 12 [(0, .ref l0), (1, .int l1), (2, .int l2)] [] h := by
  intro l0 l1 l2 h hX
  refine z_iload_n (pc := 12) G 2 dX3_isToldName_12 rfl rfl ?_
  refine z_aload_n (pc := 13) G 0 dX3_isToldName_13 rfl rfl ?_
  obtain ⟨x14, hv14, hX⟩ := z_bd hX
  refine z_getR (pc := 14) G kK3 (k := 0) (by decide) kt_137 dX3_isToldName_14 hv14 ?_
  obtain ⟨x17, hv17, hX⟩ := z_bd hX
  refine z_getI (pc := 17) G kK2 (k := 7) (by decide) kt_70 dX3_isToldName_17 hv17 ?_
  refine z_icmp_ge (pc := 20) (tgt := 59) G dX3_isToldName_20 (by decide) (fun hc20 => ?_) (fun hc20 => ?_)
  · have hX := z_it hc20 hX
    refine z_iconst (pc := 59) (v := 0) G dX3_isToldName_59 (by decide) ?_
    exact z_zretX (pc := 60) hX G hr rfl dX3_isToldName_60 (by decide) (by decide)
  · have hX := z_if hc20 hX
    refine z_aload_n (pc := 23) G 0 dX3_isToldName_23 rfl rfl ?_
    obtain ⟨x24, hv24, hX⟩ := z_bd hX
    refine z_getR (pc := 24) G kK3 (k := 12) (by decide) kt_152 dX3_isToldName_24 hv24 ?_
    refine z_iload_n (pc := 27) G 2 dX3_isToldName_27 rfl rfl ?_
    obtain ⟨x28, hv28, hX⟩ := z_bd hX
    refine z_iald (pc := 28) G dX3_isToldName_28 hv28 ?_
    refine z_iload_n (pc := 29) G 1 dX3_isToldName_29 rfl rfl ?_
    refine z_icmp_ne (pc := 30) (tgt := 53) G dX3_isToldName_30 (by decide) (fun hc30 => ?_) (fun hc30 => ?_)
    · have hX := z_if hc30 hX
      refine z_iincw (pc := 53) (w := 1) (lv2 := [(0, .ref l0), (1, .int l1), (2, .int (l2 + 1))]) G 2 dX3_isToldName_53 rfl (by decide) (by decide) rfl rfl ?_
      refine z_goto (pc := 56) (tgt := 12) G dX3_isToldName_56 (by decide) ?_
      exact H12 _ _ _ _ hX
    · have hX := z_it hc30 hX
      refine z_aload_n (pc := 33) G 0 dX3_isToldName_33 rfl rfl ?_
      refine z_aload_n (pc := 34) G 0 dX3_isToldName_34 rfl rfl ?_
      obtain ⟨x35, hv35, hX⟩ := z_bd hX
      refine z_getR (pc := 35) G kK3 (k := 11) (by decide) kt_151 dX3_isToldName_35 hv35 ?_
      refine z_iload_n (pc := 38) G 2 dX3_isToldName_38 rfl rfl ?_
      obtain ⟨x39, hv39, hX⟩ := z_bd hX
      refine z_iald (pc := 39) G dX3_isToldName_39 hv39 ?_
      refine z_aload_n (pc := 40) G 0 dX3_isToldName_40 rfl rfl ?_
      obtain ⟨x41, hv41, hX⟩ := z_bd hX
      refine z_getI (pc := 41) G kK3 (k := 5) (by decide) kt_145 dX3_isToldName_41 hv41 ?_
      refine z_iload_n (pc := 44) G 1 dX3_isToldName_44 rfl rfl ?_
      obtain ⟨hi45, hX⟩ := z_gu_s hX
      obtain ⟨r45, hv45, hX⟩ := z_bd hX
      refine z_cVI (pc := 45) (As := [.int x39, .int x41, .int l1]) (c2 := 0) (s2 := 0) G kK3 (lX3_sameBytes hO hv45) hi45 kt_658 kt_2 kt_655 kt_657 ks_9 ydX3_sameBytes ⟨by decide, by decide⟩ rfl (Nat.le_of_ble_eq_true rfl) ⟨rfl, rfl⟩ ⟨by decide, by decide⟩ rfl dX3_isToldName_45 ?_
      refine z_if_eq (pc := 48) (tgt := 53) G dX3_isToldName_48 (by decide) (fun hc48 => ?_) (fun hc48 => ?_)
      · have hX := z_it hc48 hX
        refine z_iincw (pc := 53) (w := 1) (lv2 := [(0, .ref l0), (1, .int l1), (2, .int (l2 + 1))]) G 2 dX3_isToldName_53 rfl (by decide) (by decide) rfl rfl ?_
        refine z_goto (pc := 56) (tgt := 12) G dX3_isToldName_56 (by decide) ?_
        exact H12 _ _ _ _ hX
      · have hX := z_if hc48 hX
        refine z_iconst (pc := 51) (v := 1) G dX3_isToldName_51 (by decide) ?_
        exact z_zretX (pc := 52) hX G hr rfl dX3_isToldName_52 (by decide) (by decide)
set_option maxHeartbeats 4000000 in
set_option maxRecDepth 100000 in
theorem wX3_isToldName_L12 {Γ : ZG} {p : Program} {l : Launch} {e : Env} {s : State} {m : MethodId} {args : Array Value} {below : List Frame} {meth : Method} {c : Code} (hO : z_OK Γ) (G : z_GG Γ p s m args meth c cX3_isToldName 3 RX3) (hr : meth.sig.returnType = (some .boolean)) (hnm : meth.name = "isToldName") {r : (Int32 × ZH)} : ∀ (nn : Nat) (l0 : Nat) (l1 : Int32) (l2 : Int32) (h : ZH), xX3_isToldName_L12  nn l0 l1 l2 h = some r → z_W Γ p l e rmX3_isToldName s m args below meth c 3 0 0 (MQ below (z_Qc Γ (some (.int r.1)) r.2) args s rmX3_isToldName.cells rmX3_isToldName.slots (z_A Γ)) 12 [(0, .ref l0), (1, .int l1), (2, .int l2)] [] h := by
  intro nn
  induction nn with
  | zero => intro l0 l1 l2 h hX; cases hX
  | succ nn ih => intro l0 l1 l2 h hX; exact wX3_isToldName_B12 hO G hr hnm  ih l0 l1 l2 h hX
noncomputable def xX3_isToldName (l0 : Nat) (h : ZH) : Option (Int32 × ZH) := ((z_gI h l0 3 6).bind fun x1 => ((z_gI h l0 3 5).bind fun x5 => xX3_isToldName_L12 zFU l0 (x1 - x5) (0 : Int32) h))
set_option maxHeartbeats 4000000 in
set_option maxRecDepth 100000 in
theorem lX3_isToldName {Γ : ZG} {l : Launch} (hO : z_OK Γ) {l0 : Nat} {h : ZH} {r : (Int32 × ZH)} (hX : xX3_isToldName l0 h = some r) : z_M Γ l yX3_isToldName (z_ws1 yX3_isToldName cX3_isToldName 3 (some .boolean)) rmX3_isToldName [.ref l0] h (some (.int r.1)) r.2 := by
  refine z_start hO (plainFor_of_name (by decide)) (Nat.le_of_ble_eq_true rfl) ?_
  intro p e s m args below meth c G hr hnm
  refine z_lvc (lv2 := [(0, .ref l0)]) rfl ?_
  refine z_aload_n (pc := 0) G 0 dX3_isToldName_0 rfl rfl ?_
  obtain ⟨x1, hv1, hX⟩ := z_bd hX
  refine z_getI (pc := 1) G kK3 (k := 6) (by decide) kt_146 dX3_isToldName_1 hv1 ?_
  refine z_aload_n (pc := 4) G 0 dX3_isToldName_4 rfl rfl ?_
  obtain ⟨x5, hv5, hX⟩ := z_bd hX
  refine z_getI (pc := 5) G kK3 (k := 5) (by decide) kt_145 dX3_isToldName_5 hv5 ?_
  refine z_isub (pc := 8) G dX3_isToldName_8 ?_
  refine z_istore_n (pc := 9) (lv2 := [(0, .ref l0), (1, .int (x1 - x5))]) G dX3_isToldName_9 rfl (by decide) rfl rfl ?_
  refine z_iconst (pc := 10) (v := 0) G dX3_isToldName_10 (by decide) ?_
  refine z_istore_n (pc := 11) (lv2 := [(0, .ref l0), (1, .int (x1 - x5)), (2, .int (0 : Int32))]) G dX3_isToldName_11 rfl (by decide) rfl rfl ?_
  exact wX3_isToldName_L12 hO G hr hnm zFU _ _ _ _ hX
theorem dX3_takeNumber_0 : decode cX3_takeNumber 0 = .ok (.aload_n 0, 1) := by decide +kernel
theorem dX3_takeNumber_1 : decode cX3_takeNumber 1 = .ok (.getfield 60, 3) := by decide +kernel
theorem dX3_takeNumber_4 : decode cX3_takeNumber 4 = .ok (.iconst 2, 1) := by decide +kernel
theorem dX3_takeNumber_5 : decode cX3_takeNumber 5 = .ok (.if_icmp .eq 8, 3) := by decide +kernel
theorem dX3_takeNumber_8 : decode cX3_takeNumber 8 = .ok (.aload_n 0, 1) := by decide +kernel
theorem dX3_takeNumber_9 : decode cX3_takeNumber 9 = .ok (.invokevirtual 70, 3) := by decide +kernel
theorem dX3_takeNumber_12 : decode cX3_takeNumber 12 = .ok (.ireturn, 1) := by decide +kernel
theorem dX3_takeNumber_13 : decode cX3_takeNumber 13 = .ok (.aload_n 0, 1) := by decide +kernel
theorem dX3_takeNumber_14 : decode cX3_takeNumber 14 = .ok (.getfield 67, 3) := by decide +kernel
theorem dX3_takeNumber_17 : decode cX3_takeNumber 17 = .ok (.iload_n 1, 1) := by decide +kernel
theorem dX3_takeNumber_18 : decode cX3_takeNumber 18 = .ok (.if_icmp .lt 11, 3) := by decide +kernel
theorem dX3_takeNumber_21 : decode cX3_takeNumber 21 = .ok (.aload_n 0, 1) := by decide +kernel
theorem dX3_takeNumber_22 : decode cX3_takeNumber 22 = .ok (.getfield 67, 3) := by decide +kernel
theorem dX3_takeNumber_25 : decode cX3_takeNumber 25 = .ok (.iload_n 2, 1) := by decide +kernel
theorem dX3_takeNumber_26 : decode cX3_takeNumber 26 = .ok (.if_icmp .le 9, 3) := by decide +kernel
theorem dX3_takeNumber_29 : decode cX3_takeNumber 29 = .ok (.aload_n 0, 1) := by decide +kernel
theorem dX3_takeNumber_30 : decode cX3_takeNumber 30 = .ok (.iconst 4, 1) := by decide +kernel
theorem dX3_takeNumber_31 : decode cX3_takeNumber 31 = .ok (.invokevirtual 127, 3) := by decide +kernel
theorem dX3_takeNumber_34 : decode cX3_takeNumber 34 = .ok (.ireturn, 1) := by decide +kernel
theorem dX3_takeNumber_35 : decode cX3_takeNumber 35 = .ok (.aload_n 0, 1) := by decide +kernel
theorem dX3_takeNumber_36 : decode cX3_takeNumber 36 = .ok (.aload_n 0, 1) := by decide +kernel
theorem dX3_takeNumber_37 : decode cX3_takeNumber 37 = .ok (.getfield 67, 3) := by decide +kernel
theorem dX3_takeNumber_40 : decode cX3_takeNumber 40 = .ok (.putfield 96, 3) := by decide +kernel
theorem dX3_takeNumber_43 : decode cX3_takeNumber 43 = .ok (.aload_n 0, 1) := by decide +kernel
theorem dX3_takeNumber_44 : decode cX3_takeNumber 44 = .ok (.invokevirtual 57, 3) := by decide +kernel
theorem dX3_takeNumber_47 : decode cX3_takeNumber 47 = .ok (.iconst 1, 1) := by decide +kernel
theorem dX3_takeNumber_48 : decode cX3_takeNumber 48 = .ok (.ireturn, 1) := by decide +kernel
theorem ydX3_takeNumber : z_yd yX3_takeNumber 2 := ⟨by decide, by decide, by decide +kernel⟩
abbrev rmX3_takeNumber : Room := { frames := 6, cells := 0, slots := 0, locals := 130 }
noncomputable def xX3_takeNumber (l0 : Nat) (l1 : Int32) (l2 : Int32) (h : ZH) : Option (Int32 × ZH) := ((z_gI h l0 3 7).bind fun x1 => (if x1 = (2 : Int32) then ((z_gI h l0 3 8).bind fun x14 => (if x14 < l1 then (z_gu (z_is h l0 3) ((xX3_fail l0 (4 : Int32) h).bind fun r31 => z_zr r31.1 r31.2)) else ((z_gI h l0 3 8).bind fun x22 => (if x22 ≤ l2 then ((z_gI h l0 3 8).bind fun x37 => ((z_sF h l0 3 10 (.int x37)).bind fun h40 => (z_gu (z_is h40 l0 3) ((xX3_advance l0 h40).bind fun h44 => some ((1 : Int32), h44))))) else (z_gu (z_is h l0 3) ((xX3_fail l0 (4 : Int32) h).bind fun r31 => z_zr r31.1 r31.2)))))) else (z_gu (z_is h l0 3) ((xX3_refuse l0 h).bind fun r9 => z_zr r9.1 r9.2))))
set_option maxHeartbeats 4000000 in
set_option maxRecDepth 100000 in
theorem lX3_takeNumber {Γ : ZG} {l : Launch} (hO : z_OK Γ) {l0 : Nat} {l1 : Int32} {l2 : Int32} {h : ZH} {r : (Int32 × ZH)} (hX : xX3_takeNumber l0 l1 l2 h = some r) : z_M Γ l yX3_takeNumber (z_ws1 yX3_takeNumber cX3_takeNumber 3 (some .boolean)) rmX3_takeNumber [.ref l0, .int l1, .int l2] h (some (.int r.1)) r.2 := by
  refine z_start hO (plainFor_of_name (by decide)) (Nat.le_of_ble_eq_true rfl) ?_
  intro p e s m args below meth c G hr hnm
  refine z_lvc (lv2 := [(0, .ref l0), (1, .int l1), (2, .int l2)]) rfl ?_
  refine z_aload_n (pc := 0) G 0 dX3_takeNumber_0 rfl rfl ?_
  obtain ⟨x1, hv1, hX⟩ := z_bd hX
  refine z_getI (pc := 1) G kK3 (k := 7) (by decide) kt_147 dX3_takeNumber_1 hv1 ?_
  refine z_iconst (pc := 4) (v := 2) G dX3_takeNumber_4 (by decide) ?_
  refine z_icmp_eq (pc := 5) (tgt := 13) G dX3_takeNumber_5 (by decide) (fun hc5 => ?_) (fun hc5 => ?_)
  · have hX := z_it hc5 hX
    refine z_aload_n (pc := 13) G 0 dX3_takeNumber_13 rfl rfl ?_
    obtain ⟨x14, hv14, hX⟩ := z_bd hX
    refine z_getI (pc := 14) G kK3 (k := 8) (by decide) kt_148 dX3_takeNumber_14 hv14 ?_
    refine z_iload_n (pc := 17) G 1 dX3_takeNumber_17 rfl rfl ?_
    refine z_icmp_lt (pc := 18) (tgt := 29) G dX3_takeNumber_18 (by decide) (fun hc18 => ?_) (fun hc18 => ?_)
    · have hX := z_it hc18 hX
      refine z_aload_n (pc := 29) G 0 dX3_takeNumber_29 rfl rfl ?_
      refine z_iconst (pc := 30) (v := 4) G dX3_takeNumber_30 (by decide) ?_
      obtain ⟨hi31, hX⟩ := z_gu_s hX
      obtain ⟨r31, hv31, hX⟩ := z_bd hX
      refine z_cVI (pc := 31) (As := [.int (4 : Int32)]) (c2 := 0) (s2 := 0) G kK3 (lX3_fail hO hv31) hi31 kt_646 kt_2 kt_643 kt_645 ks_6 ydX3_fail ⟨by decide, by decide⟩ rfl (Nat.le_of_ble_eq_true rfl) ⟨rfl, rfl⟩ ⟨by decide, by decide⟩ rfl dX3_takeNumber_31 ?_
      exact z_zretY (pc := 34) hX G hr dX3_takeNumber_34 (by decide) (by decide)
    · have hX := z_if hc18 hX
      refine z_aload_n (pc := 21) G 0 dX3_takeNumber_21 rfl rfl ?_
      obtain ⟨x22, hv22, hX⟩ := z_bd hX
      refine z_getI (pc := 22) G kK3 (k := 8) (by decide) kt_148 dX3_takeNumber_22 hv22 ?_
      refine z_iload_n (pc := 25) G 2 dX3_takeNumber_25 rfl rfl ?_
      refine z_icmp_le (pc := 26) (tgt := 35) G dX3_takeNumber_26 (by decide) (fun hc26 => ?_) (fun hc26 => ?_)
      · have hX := z_it hc26 hX
        refine z_aload_n (pc := 35) G 0 dX3_takeNumber_35 rfl rfl ?_
        refine z_aload_n (pc := 36) G 0 dX3_takeNumber_36 rfl rfl ?_
        obtain ⟨x37, hv37, hX⟩ := z_bd hX
        refine z_getI (pc := 37) G kK3 (k := 8) (by decide) kt_148 dX3_takeNumber_37 hv37 ?_
        obtain ⟨h40, hv40, hX⟩ := z_bd hX
        refine z_putF (pc := 40) G kK3 (k := 10) (by decide) kt_150 (Or.inl rfl) rfl rfl dX3_takeNumber_40 hv40 ?_
        refine z_aload_n (pc := 43) G 0 dX3_takeNumber_43 rfl rfl ?_
        obtain ⟨hi44, hX⟩ := z_gu_s hX
        obtain ⟨h44, hv44, hX⟩ := z_bd hX
        refine z_cVV (pc := 44) (As := []) (c2 := 0) (s2 := 0) G kK3 (lX3_advance hO hv44) hi44 kt_512 kt_2 kt_509 kt_511 ks_1 ydX3_advance ⟨by decide, by decide⟩ rfl (Nat.le_of_ble_eq_true rfl) ⟨rfl, rfl⟩ ⟨by decide, by decide⟩ rfl dX3_takeNumber_44 ?_
        refine z_iconst (pc := 47) (v := 1) G dX3_takeNumber_47 (by decide) ?_
        exact z_zretX (pc := 48) hX G hr rfl dX3_takeNumber_48 (by decide) (by decide)
      · have hX := z_if hc26 hX
        refine z_aload_n (pc := 29) G 0 dX3_takeNumber_29 rfl rfl ?_
        refine z_iconst (pc := 30) (v := 4) G dX3_takeNumber_30 (by decide) ?_
        obtain ⟨hi31, hX⟩ := z_gu_s hX
        obtain ⟨r31, hv31, hX⟩ := z_bd hX
        refine z_cVI (pc := 31) (As := [.int (4 : Int32)]) (c2 := 0) (s2 := 0) G kK3 (lX3_fail hO hv31) hi31 kt_646 kt_2 kt_643 kt_645 ks_6 ydX3_fail ⟨by decide, by decide⟩ rfl (Nat.le_of_ble_eq_true rfl) ⟨rfl, rfl⟩ ⟨by decide, by decide⟩ rfl dX3_takeNumber_31 ?_
        exact z_zretY (pc := 34) hX G hr dX3_takeNumber_34 (by decide) (by decide)
  · have hX := z_if hc5 hX
    refine z_aload_n (pc := 8) G 0 dX3_takeNumber_8 rfl rfl ?_
    obtain ⟨hi9, hX⟩ := z_gu_s hX
    obtain ⟨r9, hv9, hX⟩ := z_bd hX
    refine z_cVI (pc := 9) (As := []) (c2 := 0) (s2 := 0) G kK3 (lX3_refuse hO hv9) hi9 kt_642 kt_2 kt_639 kt_641 ks_5 ydX3_refuse ⟨by decide, by decide⟩ rfl (Nat.le_of_ble_eq_true rfl) ⟨rfl, rfl⟩ ⟨by decide, by decide⟩ rfl dX3_takeNumber_9 ?_
    exact z_zretY (pc := 12) hX G hr dX3_takeNumber_12 (by decide) (by decide)
theorem dX3_takeWord_0 : decode cX3_takeWord 0 = .ok (.aload_n 0, 1) := by decide +kernel
theorem dX3_takeWord_1 : decode cX3_takeWord 1 = .ok (.iload_n 1, 1) := by decide +kernel
theorem dX3_takeWord_2 : decode cX3_takeWord 2 = .ok (.invokevirtual 151, 3) := by decide +kernel
theorem dX3_takeWord_5 : decode cX3_takeWord 5 = .ok (.ifCond .ne 8, 3) := by decide +kernel
theorem dX3_takeWord_8 : decode cX3_takeWord 8 = .ok (.aload_n 0, 1) := by decide +kernel
theorem dX3_takeWord_9 : decode cX3_takeWord 9 = .ok (.invokevirtual 70, 3) := by decide +kernel
theorem dX3_takeWord_12 : decode cX3_takeWord 12 = .ok (.ireturn, 1) := by decide +kernel
theorem dX3_takeWord_13 : decode cX3_takeWord 13 = .ok (.aload_n 0, 1) := by decide +kernel
theorem dX3_takeWord_14 : decode cX3_takeWord 14 = .ok (.invokevirtual 57, 3) := by decide +kernel
theorem dX3_takeWord_17 : decode cX3_takeWord 17 = .ok (.iconst 1, 1) := by decide +kernel
theorem dX3_takeWord_18 : decode cX3_takeWord 18 = .ok (.ireturn, 1) := by decide +kernel
theorem ydX3_takeWord : z_yd yX3_takeWord 1 := ⟨by decide, by decide, by decide +kernel⟩
abbrev rmX3_takeWord : Room := { frames := 6, cells := 0, slots := 0, locals := 130 }
noncomputable def xX3_takeWord (l0 : Nat) (l1 : Int32) (h : ZH) : Option (Int32 × ZH) := (z_gu (z_is h l0 3) ((xX3_isWord l0 l1 h).bind fun r2 => (if r2.1 = 0 then (z_gu (z_is r2.2 l0 3) ((xX3_refuse l0 r2.2).bind fun r9 => z_zr r9.1 r9.2)) else (z_gu (z_is r2.2 l0 3) ((xX3_advance l0 r2.2).bind fun h14 => some ((1 : Int32), h14))))))
set_option maxHeartbeats 4000000 in
set_option maxRecDepth 100000 in
theorem lX3_takeWord {Γ : ZG} {l : Launch} (hO : z_OK Γ) {l0 : Nat} {l1 : Int32} {h : ZH} {r : (Int32 × ZH)} (hX : xX3_takeWord l0 l1 h = some r) : z_M Γ l yX3_takeWord (z_ws1 yX3_takeWord cX3_takeWord 2 (some .boolean)) rmX3_takeWord [.ref l0, .int l1] h (some (.int r.1)) r.2 := by
  refine z_start hO (plainFor_of_name (by decide)) (Nat.le_of_ble_eq_true rfl) ?_
  intro p e s m args below meth c G hr hnm
  refine z_lvc (lv2 := [(0, .ref l0), (1, .int l1)]) rfl ?_
  refine z_aload_n (pc := 0) G 0 dX3_takeWord_0 rfl rfl ?_
  refine z_iload_n (pc := 1) G 1 dX3_takeWord_1 rfl rfl ?_
  obtain ⟨hi2, hX⟩ := z_gu_s hX
  obtain ⟨r2, hv2, hX⟩ := z_bd hX
  refine z_cVI (pc := 2) (As := [.int l1]) (c2 := 0) (s2 := 0) G kK3 (lX3_isWord hO hv2) hi2 kt_666 kt_2 kt_663 kt_665 ks_11 ydX3_isWord ⟨by decide, by decide⟩ rfl (Nat.le_of_ble_eq_true rfl) ⟨rfl, rfl⟩ ⟨by decide, by decide⟩ rfl dX3_takeWord_2 ?_
  refine z_if_ne (pc := 5) (tgt := 13) G dX3_takeWord_5 (by decide) (fun hc5 => ?_) (fun hc5 => ?_)
  · have hX := z_if hc5 hX
    refine z_aload_n (pc := 13) G 0 dX3_takeWord_13 rfl rfl ?_
    obtain ⟨hi14, hX⟩ := z_gu_s hX
    obtain ⟨h14, hv14, hX⟩ := z_bd hX
    refine z_cVV (pc := 14) (As := []) (c2 := 0) (s2 := 0) G kK3 (lX3_advance hO hv14) hi14 kt_512 kt_2 kt_509 kt_511 ks_1 ydX3_advance ⟨by decide, by decide⟩ rfl (Nat.le_of_ble_eq_true rfl) ⟨rfl, rfl⟩ ⟨by decide, by decide⟩ rfl dX3_takeWord_14 ?_
    refine z_iconst (pc := 17) (v := 1) G dX3_takeWord_17 (by decide) ?_
    exact z_zretX (pc := 18) hX G hr rfl dX3_takeWord_18 (by decide) (by decide)
  · have hX := z_it hc5 hX
    refine z_aload_n (pc := 8) G 0 dX3_takeWord_8 rfl rfl ?_
    obtain ⟨hi9, hX⟩ := z_gu_s hX
    obtain ⟨r9, hv9, hX⟩ := z_bd hX
    refine z_cVI (pc := 9) (As := []) (c2 := 0) (s2 := 0) G kK3 (lX3_refuse hO hv9) hi9 kt_642 kt_2 kt_639 kt_641 ks_5 ydX3_refuse ⟨by decide, by decide⟩ rfl (Nat.le_of_ble_eq_true rfl) ⟨rfl, rfl⟩ ⟨by decide, by decide⟩ rfl dX3_takeWord_9 ?_
    exact z_zretY (pc := 12) hX G hr dX3_takeWord_12 (by decide) (by decide)
theorem dX3_readShip_0 : decode cX3_readShip 0 = .ok (.aload_n 0, 1) := by decide +kernel
theorem dX3_readShip_1 : decode cX3_readShip 1 = .ok (.getfield 12, 3) := by decide +kernel
theorem dX3_readShip_4 : decode cX3_readShip 4 = .ok (.getfield 73, 3) := by decide +kernel
theorem dX3_readShip_7 : decode cX3_readShip 7 = .ok (.istore_n 1, 1) := by decide +kernel
theorem dX3_readShip_8 : decode cX3_readShip 8 = .ok (.iload_n 1, 1) := by decide +kernel
theorem dX3_readShip_9 : decode cX3_readShip 9 = .ok (.bipush 6, 2) := by decide +kernel
theorem dX3_readShip_11 : decode cX3_readShip 11 = .ok (.if_icmp .lt 8, 3) := by decide +kernel
theorem dX3_readShip_14 : decode cX3_readShip 14 = .ok (.aload_n 0, 1) := by decide +kernel
theorem dX3_readShip_15 : decode cX3_readShip 15 = .ok (.invokevirtual 70, 3) := by decide +kernel
theorem dX3_readShip_18 : decode cX3_readShip 18 = .ok (.ireturn, 1) := by decide +kernel
theorem dX3_readShip_19 : decode cX3_readShip 19 = .ok (.aload_n 0, 1) := by decide +kernel
theorem dX3_readShip_20 : decode cX3_readShip 20 = .ok (.getfield 60, 3) := by decide +kernel
theorem dX3_readShip_23 : decode cX3_readShip 23 = .ok (.iconst 1, 1) := by decide +kernel
theorem dX3_readShip_24 : decode cX3_readShip 24 = .ok (.if_icmp .ne 12, 3) := by decide +kernel
theorem dX3_readShip_27 : decode cX3_readShip 27 = .ok (.aload_n 0, 1) := by decide +kernel
theorem dX3_readShip_28 : decode cX3_readShip 28 = .ok (.getfield 67, 3) := by decide +kernel
theorem dX3_readShip_31 : decode cX3_readShip 31 = .ok (.bipush 19, 2) := by decide +kernel
theorem dX3_readShip_33 : decode cX3_readShip 33 = .ok (.if_icmp .eq 8, 3) := by decide +kernel
theorem dX3_readShip_36 : decode cX3_readShip 36 = .ok (.aload_n 0, 1) := by decide +kernel
theorem dX3_readShip_37 : decode cX3_readShip 37 = .ok (.invokevirtual 70, 3) := by decide +kernel
theorem dX3_readShip_40 : decode cX3_readShip 40 = .ok (.ireturn, 1) := by decide +kernel
theorem dX3_readShip_41 : decode cX3_readShip 41 = .ok (.aload_n 0, 1) := by decide +kernel
theorem dX3_readShip_42 : decode cX3_readShip 42 = .ok (.invokevirtual 124, 3) := by decide +kernel
theorem dX3_readShip_45 : decode cX3_readShip 45 = .ok (.ifCond .eq 9, 3) := by decide +kernel
theorem dX3_readShip_48 : decode cX3_readShip 48 = .ok (.aload_n 0, 1) := by decide +kernel
theorem dX3_readShip_49 : decode cX3_readShip 49 = .ok (.iconst 3, 1) := by decide +kernel
theorem dX3_readShip_50 : decode cX3_readShip 50 = .ok (.invokevirtual 127, 3) := by decide +kernel
theorem dX3_readShip_53 : decode cX3_readShip 53 = .ok (.ireturn, 1) := by decide +kernel
theorem dX3_readShip_54 : decode cX3_readShip 54 = .ok (.aload_n 0, 1) := by decide +kernel
theorem dX3_readShip_55 : decode cX3_readShip 55 = .ok (.getfield 22, 3) := by decide +kernel
theorem dX3_readShip_58 : decode cX3_readShip 58 = .ok (.iload_n 1, 1) := by decide +kernel
theorem dX3_readShip_59 : decode cX3_readShip 59 = .ok (.aload_n 0, 1) := by decide +kernel
theorem dX3_readShip_60 : decode cX3_readShip 60 = .ok (.getfield 130, 3) := by decide +kernel
theorem dX3_readShip_63 : decode cX3_readShip 63 = .ok (.iastore, 1) := by decide +kernel
theorem dX3_readShip_64 : decode cX3_readShip 64 = .ok (.aload_n 0, 1) := by decide +kernel
theorem dX3_readShip_65 : decode cX3_readShip 65 = .ok (.getfield 26, 3) := by decide +kernel
theorem dX3_readShip_68 : decode cX3_readShip 68 = .ok (.iload_n 1, 1) := by decide +kernel
theorem dX3_readShip_69 : decode cX3_readShip 69 = .ok (.aload_n 0, 1) := by decide +kernel
theorem dX3_readShip_70 : decode cX3_readShip 70 = .ok (.getfield 45, 3) := by decide +kernel
theorem dX3_readShip_73 : decode cX3_readShip 73 = .ok (.aload_n 0, 1) := by decide +kernel
theorem dX3_readShip_74 : decode cX3_readShip 74 = .ok (.getfield 130, 3) := by decide +kernel
theorem dX3_readShip_77 : decode cX3_readShip 77 = .ok (.isub, 1) := by decide +kernel
theorem dX3_readShip_78 : decode cX3_readShip 78 = .ok (.iastore, 1) := by decide +kernel
theorem dX3_readShip_79 : decode cX3_readShip 79 = .ok (.aload_n 0, 1) := by decide +kernel
theorem dX3_readShip_80 : decode cX3_readShip 80 = .ok (.invokevirtual 57, 3) := by decide +kernel
theorem dX3_readShip_83 : decode cX3_readShip 83 = .ok (.aload_n 0, 1) := by decide +kernel
theorem dX3_readShip_84 : decode cX3_readShip 84 = .ok (.getfield 12, 3) := by decide +kernel
theorem dX3_readShip_87 : decode cX3_readShip 87 = .ok (.getfield 133, 3) := by decide +kernel
theorem dX3_readShip_90 : decode cX3_readShip 90 = .ok (.iload_n 1, 1) := by decide +kernel
theorem dX3_readShip_91 : decode cX3_readShip 91 = .ok (.iconst 0, 1) := by decide +kernel
theorem dX3_readShip_92 : decode cX3_readShip 92 = .ok (.iastore, 1) := by decide +kernel
theorem dX3_readShip_93 : decode cX3_readShip 93 = .ok (.aload_n 0, 1) := by decide +kernel
theorem dX3_readShip_94 : decode cX3_readShip 94 = .ok (.getfield 12, 3) := by decide +kernel
theorem dX3_readShip_97 : decode cX3_readShip 97 = .ok (.getfield 136, 3) := by decide +kernel
theorem dX3_readShip_100 : decode cX3_readShip 100 = .ok (.iload_n 1, 1) := by decide +kernel
theorem dX3_readShip_101 : decode cX3_readShip 101 = .ok (.iconst 0, 1) := by decide +kernel
theorem dX3_readShip_102 : decode cX3_readShip 102 = .ok (.iastore, 1) := by decide +kernel
theorem dX3_readShip_103 : decode cX3_readShip 103 = .ok (.aload_n 0, 1) := by decide +kernel
theorem dX3_readShip_104 : decode cX3_readShip 104 = .ok (.getfield 12, 3) := by decide +kernel
theorem dX3_readShip_107 : decode cX3_readShip 107 = .ok (.getfield 139, 3) := by decide +kernel
theorem dX3_readShip_110 : decode cX3_readShip 110 = .ok (.iload_n 1, 1) := by decide +kernel
theorem dX3_readShip_111 : decode cX3_readShip 111 = .ok (.iconst 0, 1) := by decide +kernel
theorem dX3_readShip_112 : decode cX3_readShip 112 = .ok (.iastore, 1) := by decide +kernel
theorem dX3_readShip_113 : decode cX3_readShip 113 = .ok (.aload_n 0, 1) := by decide +kernel
theorem dX3_readShip_114 : decode cX3_readShip 114 = .ok (.bipush 9, 2) := by decide +kernel
theorem dX3_readShip_116 : decode cX3_readShip 116 = .ok (.invokevirtual 142, 3) := by decide +kernel
theorem dX3_readShip_119 : decode cX3_readShip 119 = .ok (.ifCond .eq 13, 3) := by decide +kernel
theorem dX3_readShip_122 : decode cX3_readShip 122 = .ok (.aload_n 0, 1) := by decide +kernel
theorem dX3_readShip_123 : decode cX3_readShip 123 = .ok (.iconst 0, 1) := by decide +kernel
theorem dX3_readShip_124 : decode cX3_readShip 124 = .ok (.bipush 99, 2) := by decide +kernel
theorem dX3_readShip_126 : decode cX3_readShip 126 = .ok (.invokevirtual 93, 3) := by decide +kernel
theorem dX3_readShip_129 : decode cX3_readShip 129 = .ok (.ifCond .ne 5, 3) := by decide +kernel
theorem dX3_readShip_132 : decode cX3_readShip 132 = .ok (.iconst 0, 1) := by decide +kernel
theorem dX3_readShip_133 : decode cX3_readShip 133 = .ok (.ireturn, 1) := by decide +kernel
theorem dX3_readShip_134 : decode cX3_readShip 134 = .ok (.aload_n 0, 1) := by decide +kernel
theorem dX3_readShip_135 : decode cX3_readShip 135 = .ok (.getfield 12, 3) := by decide +kernel
theorem dX3_readShip_138 : decode cX3_readShip 138 = .ok (.getfield 145, 3) := by decide +kernel
theorem dX3_readShip_141 : decode cX3_readShip 141 = .ok (.iload_n 1, 1) := by decide +kernel
theorem dX3_readShip_142 : decode cX3_readShip 142 = .ok (.aload_n 0, 1) := by decide +kernel
theorem dX3_readShip_143 : decode cX3_readShip 143 = .ok (.getfield 96, 3) := by decide +kernel
theorem dX3_readShip_146 : decode cX3_readShip 146 = .ok (.iastore, 1) := by decide +kernel
theorem dX3_readShip_147 : decode cX3_readShip 147 = .ok (.aload_n 0, 1) := by decide +kernel
theorem dX3_readShip_148 : decode cX3_readShip 148 = .ok (.iconst 0, 1) := by decide +kernel
theorem dX3_readShip_149 : decode cX3_readShip 149 = .ok (.bipush 99, 2) := by decide +kernel
theorem dX3_readShip_151 : decode cX3_readShip 151 = .ok (.invokevirtual 93, 3) := by decide +kernel
theorem dX3_readShip_154 : decode cX3_readShip 154 = .ok (.ifCond .ne 5, 3) := by decide +kernel
theorem dX3_readShip_157 : decode cX3_readShip 157 = .ok (.iconst 0, 1) := by decide +kernel
theorem dX3_readShip_158 : decode cX3_readShip 158 = .ok (.ireturn, 1) := by decide +kernel
theorem dX3_readShip_159 : decode cX3_readShip 159 = .ok (.aload_n 0, 1) := by decide +kernel
theorem dX3_readShip_160 : decode cX3_readShip 160 = .ok (.getfield 12, 3) := by decide +kernel
theorem dX3_readShip_163 : decode cX3_readShip 163 = .ok (.getfield 148, 3) := by decide +kernel
theorem dX3_readShip_166 : decode cX3_readShip 166 = .ok (.iload_n 1, 1) := by decide +kernel
theorem dX3_readShip_167 : decode cX3_readShip 167 = .ok (.aload_n 0, 1) := by decide +kernel
theorem dX3_readShip_168 : decode cX3_readShip 168 = .ok (.getfield 96, 3) := by decide +kernel
theorem dX3_readShip_171 : decode cX3_readShip 171 = .ok (.iastore, 1) := by decide +kernel
theorem dX3_readShip_172 : decode cX3_readShip 172 = .ok (.aload_n 0, 1) := by decide +kernel
theorem dX3_readShip_173 : decode cX3_readShip 173 = .ok (.bipush 10, 2) := by decide +kernel
theorem dX3_readShip_175 : decode cX3_readShip 175 = .ok (.invokevirtual 151, 3) := by decide +kernel
theorem dX3_readShip_178 : decode cX3_readShip 178 = .ok (.ifCond .eq 57, 3) := by decide +kernel
theorem dX3_readShip_181 : decode cX3_readShip 181 = .ok (.aload_n 0, 1) := by decide +kernel
theorem dX3_readShip_182 : decode cX3_readShip 182 = .ok (.invokevirtual 57, 3) := by decide +kernel
theorem dX3_readShip_185 : decode cX3_readShip 185 = .ok (.aload_n 0, 1) := by decide +kernel
theorem dX3_readShip_186 : decode cX3_readShip 186 = .ok (.iconst 0, 1) := by decide +kernel
theorem dX3_readShip_187 : decode cX3_readShip 187 = .ok (.bipush 99, 2) := by decide +kernel
theorem dX3_readShip_189 : decode cX3_readShip 189 = .ok (.invokevirtual 93, 3) := by decide +kernel
theorem dX3_readShip_192 : decode cX3_readShip 192 = .ok (.ifCond .ne 5, 3) := by decide +kernel
theorem dX3_readShip_195 : decode cX3_readShip 195 = .ok (.iconst 0, 1) := by decide +kernel
theorem dX3_readShip_196 : decode cX3_readShip 196 = .ok (.ireturn, 1) := by decide +kernel
theorem dX3_readShip_197 : decode cX3_readShip 197 = .ok (.aload_n 0, 1) := by decide +kernel
theorem dX3_readShip_198 : decode cX3_readShip 198 = .ok (.getfield 12, 3) := by decide +kernel
theorem dX3_readShip_201 : decode cX3_readShip 201 = .ok (.getfield 133, 3) := by decide +kernel
theorem dX3_readShip_204 : decode cX3_readShip 204 = .ok (.iload_n 1, 1) := by decide +kernel
theorem dX3_readShip_205 : decode cX3_readShip 205 = .ok (.aload_n 0, 1) := by decide +kernel
theorem dX3_readShip_206 : decode cX3_readShip 206 = .ok (.getfield 96, 3) := by decide +kernel
theorem dX3_readShip_209 : decode cX3_readShip 209 = .ok (.iastore, 1) := by decide +kernel
theorem dX3_readShip_210 : decode cX3_readShip 210 = .ok (.aload_n 0, 1) := by decide +kernel
theorem dX3_readShip_211 : decode cX3_readShip 211 = .ok (.iconst 0, 1) := by decide +kernel
theorem dX3_readShip_212 : decode cX3_readShip 212 = .ok (.bipush 99, 2) := by decide +kernel
theorem dX3_readShip_214 : decode cX3_readShip 214 = .ok (.invokevirtual 93, 3) := by decide +kernel
theorem dX3_readShip_217 : decode cX3_readShip 217 = .ok (.ifCond .ne 5, 3) := by decide +kernel
theorem dX3_readShip_220 : decode cX3_readShip 220 = .ok (.iconst 0, 1) := by decide +kernel
theorem dX3_readShip_221 : decode cX3_readShip 221 = .ok (.ireturn, 1) := by decide +kernel
theorem dX3_readShip_222 : decode cX3_readShip 222 = .ok (.aload_n 0, 1) := by decide +kernel
theorem dX3_readShip_223 : decode cX3_readShip 223 = .ok (.getfield 12, 3) := by decide +kernel
theorem dX3_readShip_226 : decode cX3_readShip 226 = .ok (.getfield 136, 3) := by decide +kernel
theorem dX3_readShip_229 : decode cX3_readShip 229 = .ok (.iload_n 1, 1) := by decide +kernel
theorem dX3_readShip_230 : decode cX3_readShip 230 = .ok (.aload_n 0, 1) := by decide +kernel
theorem dX3_readShip_231 : decode cX3_readShip 231 = .ok (.getfield 96, 3) := by decide +kernel
theorem dX3_readShip_234 : decode cX3_readShip 234 = .ok (.iastore, 1) := by decide +kernel
theorem dX3_readShip_235 : decode cX3_readShip 235 = .ok (.aload_n 0, 1) := by decide +kernel
theorem dX3_readShip_236 : decode cX3_readShip 236 = .ok (.bipush 11, 2) := by decide +kernel
theorem dX3_readShip_238 : decode cX3_readShip 238 = .ok (.invokevirtual 151, 3) := by decide +kernel
theorem dX3_readShip_241 : decode cX3_readShip 241 = .ok (.ifCond .eq 32, 3) := by decide +kernel
theorem dX3_readShip_244 : decode cX3_readShip 244 = .ok (.aload_n 0, 1) := by decide +kernel
theorem dX3_readShip_245 : decode cX3_readShip 245 = .ok (.invokevirtual 57, 3) := by decide +kernel
theorem dX3_readShip_248 : decode cX3_readShip 248 = .ok (.aload_n 0, 1) := by decide +kernel
theorem dX3_readShip_249 : decode cX3_readShip 249 = .ok (.iconst 0, 1) := by decide +kernel
theorem dX3_readShip_250 : decode cX3_readShip 250 = .ok (.bipush 9, 2) := by decide +kernel
theorem dX3_readShip_252 : decode cX3_readShip 252 = .ok (.invokevirtual 93, 3) := by decide +kernel
theorem dX3_readShip_255 : decode cX3_readShip 255 = .ok (.ifCond .ne 5, 3) := by decide +kernel
theorem dX3_readShip_258 : decode cX3_readShip 258 = .ok (.iconst 0, 1) := by decide +kernel
theorem dX3_readShip_259 : decode cX3_readShip 259 = .ok (.ireturn, 1) := by decide +kernel
theorem dX3_readShip_260 : decode cX3_readShip 260 = .ok (.aload_n 0, 1) := by decide +kernel
theorem dX3_readShip_261 : decode cX3_readShip 261 = .ok (.getfield 12, 3) := by decide +kernel
theorem dX3_readShip_264 : decode cX3_readShip 264 = .ok (.getfield 139, 3) := by decide +kernel
theorem dX3_readShip_267 : decode cX3_readShip 267 = .ok (.iload_n 1, 1) := by decide +kernel
theorem dX3_readShip_268 : decode cX3_readShip 268 = .ok (.aload_n 0, 1) := by decide +kernel
theorem dX3_readShip_269 : decode cX3_readShip 269 = .ok (.getfield 96, 3) := by decide +kernel
theorem dX3_readShip_272 : decode cX3_readShip 272 = .ok (.iastore, 1) := by decide +kernel
theorem dX3_readShip_273 : decode cX3_readShip 273 = .ok (.aload_n 0, 1) := by decide +kernel
theorem dX3_readShip_274 : decode cX3_readShip 274 = .ok (.getfield 12, 3) := by decide +kernel
theorem dX3_readShip_277 : decode cX3_readShip 277 = .ok (.dup, 1) := by decide +kernel
theorem dX3_readShip_278 : decode cX3_readShip 278 = .ok (.getfield 73, 3) := by decide +kernel
theorem dX3_readShip_281 : decode cX3_readShip 281 = .ok (.iconst 1, 1) := by decide +kernel
theorem dX3_readShip_282 : decode cX3_readShip 282 = .ok (.iadd, 1) := by decide +kernel
theorem dX3_readShip_283 : decode cX3_readShip 283 = .ok (.putfield 73, 3) := by decide +kernel
theorem dX3_readShip_286 : decode cX3_readShip 286 = .ok (.iconst 1, 1) := by decide +kernel
theorem dX3_readShip_287 : decode cX3_readShip 287 = .ok (.ireturn, 1) := by decide +kernel
theorem ydX3_readShip : z_yd yX3_readShip 0 := ⟨by decide, by decide, by decide +kernel⟩
abbrev rmX3_readShip : Room := { frames := 7, cells := 0, slots := 0, locals := 152 }
noncomputable def xX3_readShip_B273 (l0 : Nat) (h : ZH) : Option (Int32 × ZH) := ((z_gR h l0 3 0).bind fun x274 => ((z_gI h x274 2 7).bind fun x278 => ((z_sF h x274 2 7 (.int (x278 + (1 : Int32)))).bind fun h283 => some ((1 : Int32), h283))))
set_option maxHeartbeats 4000000 in
set_option maxRecDepth 100000 in
theorem wX3_readShip_B273 {Γ : ZG} {p : Program} {l : Launch} {e : Env} {s : State} {m : MethodId} {args : Array Value} {below : List Frame} {meth : Method} {c : Code} (hO : z_OK Γ) (G : z_GG Γ p s m args meth c cX3_readShip 2 RX3) (hr : meth.sig.returnType = (some .boolean)) (hnm : meth.name = "readShip") {r : (Int32 × ZH)} : ∀ (l0 : Nat) (h : ZH), xX3_readShip_B273  l0 h = some r → z_W Γ p l e rmX3_readShip s m args below meth c 2 0 0 (MQ below (z_Qc Γ (some (.int r.1)) r.2) args s rmX3_readShip.cells rmX3_readShip.slots (z_A Γ)) 273 [(0, .ref l0)] [] h := by
  intro l0 h hX
  refine z_aload_n (pc := 273) G 0 dX3_readShip_273 rfl rfl ?_
  obtain ⟨x274, hv274, hX⟩ := z_bd hX
  refine z_getR (pc := 274) G kK3 (k := 0) (by decide) kt_137 dX3_readShip_274 hv274 ?_
  refine z_dup (pc := 277) G dX3_readShip_277 rfl ?_
  obtain ⟨x278, hv278, hX⟩ := z_bd hX
  refine z_getI (pc := 278) G kK2 (k := 7) (by decide) kt_70 dX3_readShip_278 hv278 ?_
  refine z_iconst (pc := 281) (v := 1) G dX3_readShip_281 (by decide) ?_
  refine z_iadd (pc := 282) G dX3_readShip_282 ?_
  obtain ⟨h283, hv283, hX⟩ := z_bd hX
  refine z_putF (pc := 283) G kK2 (k := 7) (by decide) kt_70 (Or.inl rfl) rfl rfl dX3_readShip_283 hv283 ?_
  refine z_iconst (pc := 286) (v := 1) G dX3_readShip_286 (by decide) ?_
  exact z_zretX (pc := 287) hX G hr rfl dX3_readShip_287 (by decide) (by decide)
noncomputable def xX3_readShip_B235 (l0 : Nat) (l1 : Int32) (h : ZH) : Option (Int32 × ZH) := (z_gu (z_is h l0 3) ((xX3_isWord l0 (11 : Int32) h).bind fun r238 => (if r238.1 = 0 then xX3_readShip_B273 l0 r238.2 else (z_gu (z_is r238.2 l0 3) ((xX3_advance l0 r238.2).bind fun h245 => (z_gu (z_is h245 l0 3) ((xX3_takeNumber l0 (0 : Int32) (9 : Int32) h245).bind fun r252 => (if r252.1 = 0 then some ((0 : Int32), r252.2) else ((z_gR r252.2 l0 3 0).bind fun x261 => ((z_gR r252.2 x261 2 13).bind fun x264 => ((z_gI r252.2 l0 3 10).bind fun x269 => ((z_uI r252.2 x264 l1 x269).bind fun h272 => xX3_readShip_B273 l0 h272))))))))))))
set_option maxHeartbeats 4000000 in
set_option maxRecDepth 100000 in
theorem wX3_readShip_B235 {Γ : ZG} {p : Program} {l : Launch} {e : Env} {s : State} {m : MethodId} {args : Array Value} {below : List Frame} {meth : Method} {c : Code} (hO : z_OK Γ) (G : z_GG Γ p s m args meth c cX3_readShip 2 RX3) (hr : meth.sig.returnType = (some .boolean)) (hnm : meth.name = "readShip") {r : (Int32 × ZH)} : ∀ (l0 : Nat) (l1 : Int32) (h : ZH), xX3_readShip_B235  l0 l1 h = some r → z_W Γ p l e rmX3_readShip s m args below meth c 2 0 0 (MQ below (z_Qc Γ (some (.int r.1)) r.2) args s rmX3_readShip.cells rmX3_readShip.slots (z_A Γ)) 235 [(0, .ref l0), (1, .int l1)] [] h := by
  intro l0 l1 h hX
  refine z_aload_n (pc := 235) G 0 dX3_readShip_235 rfl rfl ?_
  refine z_bipush (pc := 236) (v := 11) G dX3_readShip_236 (by decide) ?_
  obtain ⟨hi238, hX⟩ := z_gu_s hX
  obtain ⟨r238, hv238, hX⟩ := z_bd hX
  refine z_cVI (pc := 238) (As := [.int (11 : Int32)]) (c2 := 0) (s2 := 0) G kK3 (lX3_isWord hO hv238) hi238 kt_666 kt_2 kt_663 kt_665 ks_11 ydX3_isWord ⟨by decide, by decide⟩ rfl (Nat.le_of_ble_eq_true rfl) ⟨rfl, rfl⟩ ⟨by decide, by decide⟩ rfl dX3_readShip_238 ?_
  refine z_if_eq (pc := 241) (tgt := 273) G dX3_readShip_241 (by decide) (fun hc241 => ?_) (fun hc241 => ?_)
  · have hX := z_it hc241 hX
    refine z_drop (lv2 := [(0, .ref l0)]) [0] rfl ?_
    exact wX3_readShip_B273 hO G hr hnm _ _ hX
  · have hX := z_if hc241 hX
    refine z_aload_n (pc := 244) G 0 dX3_readShip_244 rfl rfl ?_
    obtain ⟨hi245, hX⟩ := z_gu_s hX
    obtain ⟨h245, hv245, hX⟩ := z_bd hX
    refine z_cVV (pc := 245) (As := []) (c2 := 0) (s2 := 0) G kK3 (lX3_advance hO hv245) hi245 kt_512 kt_2 kt_509 kt_511 ks_1 ydX3_advance ⟨by decide, by decide⟩ rfl (Nat.le_of_ble_eq_true rfl) ⟨rfl, rfl⟩ ⟨by decide, by decide⟩ rfl dX3_readShip_245 ?_
    refine z_aload_n (pc := 248) G 0 dX3_readShip_248 rfl rfl ?_
    refine z_iconst (pc := 249) (v := 0) G dX3_readShip_249 (by decide) ?_
    refine z_bipush (pc := 250) (v := 9) G dX3_readShip_250 (by decide) ?_
    obtain ⟨hi252, hX⟩ := z_gu_s hX
    obtain ⟨r252, hv252, hX⟩ := z_bd hX
    refine z_cVI (pc := 252) (As := [.int (0 : Int32), .int (9 : Int32)]) (c2 := 0) (s2 := 0) G kK3 (lX3_takeNumber hO hv252) hi252 kt_670 kt_2 kt_667 kt_669 ks_12 ydX3_takeNumber ⟨by decide, by decide⟩ rfl (Nat.le_of_ble_eq_true rfl) ⟨rfl, rfl⟩ ⟨by decide, by decide⟩ rfl dX3_readShip_252 ?_
    refine z_if_ne (pc := 255) (tgt := 260) G dX3_readShip_255 (by decide) (fun hc255 => ?_) (fun hc255 => ?_)
    · have hX := z_if hc255 hX
      refine z_aload_n (pc := 260) G 0 dX3_readShip_260 rfl rfl ?_
      obtain ⟨x261, hv261, hX⟩ := z_bd hX
      refine z_getR (pc := 261) G kK3 (k := 0) (by decide) kt_137 dX3_readShip_261 hv261 ?_
      obtain ⟨x264, hv264, hX⟩ := z_bd hX
      refine z_getR (pc := 264) G kK2 (k := 13) (by decide) kt_94 dX3_readShip_264 hv264 ?_
      refine z_iload_n (pc := 267) G 1 dX3_readShip_267 rfl rfl ?_
      refine z_aload_n (pc := 268) G 0 dX3_readShip_268 rfl rfl ?_
      obtain ⟨x269, hv269, hX⟩ := z_bd hX
      refine z_getI (pc := 269) G kK3 (k := 10) (by decide) kt_150 dX3_readShip_269 hv269 ?_
      obtain ⟨h272, hv272, hX⟩ := z_bd hX
      refine z_iast (pc := 272) G dX3_readShip_272 hv272 ?_
      refine z_drop (lv2 := [(0, .ref l0)]) [0] rfl ?_
      exact wX3_readShip_B273 hO G hr hnm _ _ hX
    · have hX := z_it hc255 hX
      refine z_iconst (pc := 258) (v := 0) G dX3_readShip_258 (by decide) ?_
      exact z_zretX (pc := 259) hX G hr rfl dX3_readShip_259 (by decide) (by decide)
noncomputable def xX3_readShip (l0 : Nat) (h : ZH) : Option (Int32 × ZH) := ((z_gR h l0 3 0).bind fun x1 => ((z_gI h x1 2 7).bind fun x4 => (if x4 < (6 : Int32) then ((z_gI h l0 3 7).bind fun x20 => (if x20 = (1 : Int32) then ((z_gI h l0 3 8).bind fun x28 => (if x28 = (19 : Int32) then (z_gu (z_is h l0 3) ((xX3_isToldName l0 h).bind fun r42 => (if r42.1 = 0 then ((z_gR r42.2 l0 3 11).bind fun x55 => ((z_gI r42.2 l0 3 5).bind fun x60 => ((z_uI r42.2 x55 x4 x60).bind fun h63 => ((z_gR h63 l0 3 12).bind fun x65 => ((z_gI h63 l0 3 6).bind fun x70 => ((z_gI h63 l0 3 5).bind fun x74 => ((z_uI h63 x65 x4 (x70 - x74)).bind fun h78 => (z_gu (z_is h78 l0 3) ((xX3_advance l0 h78).bind fun h80 => ((z_gR h80 l0 3 0).bind fun x84 => ((z_gR h80 x84 2 11).bind fun x87 => ((z_uI h80 x87 x4 (0 : Int32)).bind fun h92 => ((z_gR h92 l0 3 0).bind fun x94 => ((z_gR h92 x94 2 12).bind fun x97 => ((z_uI h92 x97 x4 (0 : Int32)).bind fun h102 => ((z_gR h102 l0 3 0).bind fun x104 => ((z_gR h102 x104 2 13).bind fun x107 => ((z_uI h102 x107 x4 (0 : Int32)).bind fun h112 => (z_gu (z_is h112 l0 3) ((xX3_takeWord l0 (9 : Int32) h112).bind fun r116 => (if r116.1 = 0 then some ((0 : Int32), r116.2) else (z_gu (z_is r116.2 l0 3) ((xX3_takeNumber l0 (0 : Int32) (99 : Int32) r116.2).bind fun r126 => (if r126.1 = 0 then some ((0 : Int32), r126.2) else ((z_gR r126.2 l0 3 0).bind fun x135 => ((z_gR r126.2 x135 2 9).bind fun x138 => ((z_gI r126.2 l0 3 10).bind fun x143 => ((z_uI r126.2 x138 x4 x143).bind fun h146 => (z_gu (z_is h146 l0 3) ((xX3_takeNumber l0 (0 : Int32) (99 : Int32) h146).bind fun r151 => (if r151.1 = 0 then some ((0 : Int32), r151.2) else ((z_gR r151.2 l0 3 0).bind fun x160 => ((z_gR r151.2 x160 2 10).bind fun x163 => ((z_gI r151.2 l0 3 10).bind fun x168 => ((z_uI r151.2 x163 x4 x168).bind fun h171 => (z_gu (z_is h171 l0 3) ((xX3_isWord l0 (10 : Int32) h171).bind fun r175 => (if r175.1 = 0 then xX3_readShip_B235 l0 x4 r175.2 else (z_gu (z_is r175.2 l0 3) ((xX3_advance l0 r175.2).bind fun h182 => (z_gu (z_is h182 l0 3) ((xX3_takeNumber l0 (0 : Int32) (99 : Int32) h182).bind fun r189 => (if r189.1 = 0 then some ((0 : Int32), r189.2) else ((z_gR r189.2 l0 3 0).bind fun x198 => ((z_gR r189.2 x198 2 11).bind fun x201 => ((z_gI r189.2 l0 3 10).bind fun x206 => ((z_uI r189.2 x201 x4 x206).bind fun h209 => (z_gu (z_is h209 l0 3) ((xX3_takeNumber l0 (0 : Int32) (99 : Int32) h209).bind fun r214 => (if r214.1 = 0 then some ((0 : Int32), r214.2) else ((z_gR r214.2 l0 3 0).bind fun x223 => ((z_gR r214.2 x223 2 12).bind fun x226 => ((z_gI r214.2 l0 3 10).bind fun x231 => ((z_uI r214.2 x226 x4 x231).bind fun h234 => xX3_readShip_B235 l0 x4 h234)))))))))))))))))))))))))))))))))))))))))))))))))))))) else (z_gu (z_is r42.2 l0 3) ((xX3_fail l0 (3 : Int32) r42.2).bind fun r50 => z_zr r50.1 r50.2))))) else (z_gu (z_is h l0 3) ((xX3_refuse l0 h).bind fun r37 => z_zr r37.1 r37.2)))) else (z_gu (z_is h l0 3) ((xX3_refuse l0 h).bind fun r37 => z_zr r37.1 r37.2)))) else (z_gu (z_is h l0 3) ((xX3_refuse l0 h).bind fun r15 => z_zr r15.1 r15.2)))))
set_option maxHeartbeats 4000000 in
set_option maxRecDepth 100000 in
theorem lX3_readShip {Γ : ZG} {l : Launch} (hO : z_OK Γ) {l0 : Nat} {h : ZH} {r : (Int32 × ZH)} (hX : xX3_readShip l0 h = some r) : z_M Γ l yX3_readShip (z_ws1 yX3_readShip cX3_readShip 2 (some .boolean)) rmX3_readShip [.ref l0] h (some (.int r.1)) r.2 := by
  refine z_start hO (plainFor_of_name (by decide)) (Nat.le_of_ble_eq_true rfl) ?_
  intro p e s m args below meth c G hr hnm
  refine z_lvc (lv2 := [(0, .ref l0)]) rfl ?_
  refine z_aload_n (pc := 0) G 0 dX3_readShip_0 rfl rfl ?_
  obtain ⟨x1, hv1, hX⟩ := z_bd hX
  refine z_getR (pc := 1) G kK3 (k := 0) (by decide) kt_137 dX3_readShip_1 hv1 ?_
  obtain ⟨x4, hv4, hX⟩ := z_bd hX
  refine z_getI (pc := 4) G kK2 (k := 7) (by decide) kt_70 dX3_readShip_4 hv4 ?_
  refine z_istore_n (pc := 7) (lv2 := [(0, .ref l0), (1, .int x4)]) G dX3_readShip_7 rfl (by decide) rfl rfl ?_
  refine z_iload_n (pc := 8) G 1 dX3_readShip_8 rfl rfl ?_
  refine z_bipush (pc := 9) (v := 6) G dX3_readShip_9 (by decide) ?_
  refine z_icmp_lt (pc := 11) (tgt := 19) G dX3_readShip_11 (by decide) (fun hc11 => ?_) (fun hc11 => ?_)
  · have hX := z_it hc11 hX
    refine z_aload_n (pc := 19) G 0 dX3_readShip_19 rfl rfl ?_
    obtain ⟨x20, hv20, hX⟩ := z_bd hX
    refine z_getI (pc := 20) G kK3 (k := 7) (by decide) kt_147 dX3_readShip_20 hv20 ?_
    refine z_iconst (pc := 23) (v := 1) G dX3_readShip_23 (by decide) ?_
    refine z_icmp_ne (pc := 24) (tgt := 36) G dX3_readShip_24 (by decide) (fun hc24 => ?_) (fun hc24 => ?_)
    · have hX := z_if hc24 hX
      refine z_aload_n (pc := 36) G 0 dX3_readShip_36 rfl rfl ?_
      obtain ⟨hi37, hX⟩ := z_gu_s hX
      obtain ⟨r37, hv37, hX⟩ := z_bd hX
      refine z_cVI (pc := 37) (As := []) (c2 := 0) (s2 := 0) G kK3 (lX3_refuse hO hv37) hi37 kt_642 kt_2 kt_639 kt_641 ks_5 ydX3_refuse ⟨by decide, by decide⟩ rfl (Nat.le_of_ble_eq_true rfl) ⟨rfl, rfl⟩ ⟨by decide, by decide⟩ rfl dX3_readShip_37 ?_
      exact z_zretY (pc := 40) hX G hr dX3_readShip_40 (by decide) (by decide)
    · have hX := z_it hc24 hX
      refine z_aload_n (pc := 27) G 0 dX3_readShip_27 rfl rfl ?_
      obtain ⟨x28, hv28, hX⟩ := z_bd hX
      refine z_getI (pc := 28) G kK3 (k := 8) (by decide) kt_148 dX3_readShip_28 hv28 ?_
      refine z_bipush (pc := 31) (v := 19) G dX3_readShip_31 (by decide) ?_
      refine z_icmp_eq (pc := 33) (tgt := 41) G dX3_readShip_33 (by decide) (fun hc33 => ?_) (fun hc33 => ?_)
      · have hX := z_it hc33 hX
        refine z_aload_n (pc := 41) G 0 dX3_readShip_41 rfl rfl ?_
        obtain ⟨hi42, hX⟩ := z_gu_s hX
        obtain ⟨r42, hv42, hX⟩ := z_bd hX
        refine z_cVI (pc := 42) (As := []) (c2 := 0) (s2 := 0) G kK3 (lX3_isToldName hO hv42) hi42 kt_654 kt_2 kt_651 kt_653 ks_8 ydX3_isToldName ⟨by decide, by decide⟩ rfl (Nat.le_of_ble_eq_true rfl) ⟨rfl, rfl⟩ ⟨by decide, by decide⟩ rfl dX3_readShip_42 ?_
        refine z_if_eq (pc := 45) (tgt := 54) G dX3_readShip_45 (by decide) (fun hc45 => ?_) (fun hc45 => ?_)
        · have hX := z_it hc45 hX
          refine z_aload_n (pc := 54) G 0 dX3_readShip_54 rfl rfl ?_
          obtain ⟨x55, hv55, hX⟩ := z_bd hX
          refine z_getR (pc := 55) G kK3 (k := 11) (by decide) kt_151 dX3_readShip_55 hv55 ?_
          refine z_iload_n (pc := 58) G 1 dX3_readShip_58 rfl rfl ?_
          refine z_aload_n (pc := 59) G 0 dX3_readShip_59 rfl rfl ?_
          obtain ⟨x60, hv60, hX⟩ := z_bd hX
          refine z_getI (pc := 60) G kK3 (k := 5) (by decide) kt_145 dX3_readShip_60 hv60 ?_
          obtain ⟨h63, hv63, hX⟩ := z_bd hX
          refine z_iast (pc := 63) G dX3_readShip_63 hv63 ?_
          refine z_aload_n (pc := 64) G 0 dX3_readShip_64 rfl rfl ?_
          obtain ⟨x65, hv65, hX⟩ := z_bd hX
          refine z_getR (pc := 65) G kK3 (k := 12) (by decide) kt_152 dX3_readShip_65 hv65 ?_
          refine z_iload_n (pc := 68) G 1 dX3_readShip_68 rfl rfl ?_
          refine z_aload_n (pc := 69) G 0 dX3_readShip_69 rfl rfl ?_
          obtain ⟨x70, hv70, hX⟩ := z_bd hX
          refine z_getI (pc := 70) G kK3 (k := 6) (by decide) kt_146 dX3_readShip_70 hv70 ?_
          refine z_aload_n (pc := 73) G 0 dX3_readShip_73 rfl rfl ?_
          obtain ⟨x74, hv74, hX⟩ := z_bd hX
          refine z_getI (pc := 74) G kK3 (k := 5) (by decide) kt_145 dX3_readShip_74 hv74 ?_
          refine z_isub (pc := 77) G dX3_readShip_77 ?_
          obtain ⟨h78, hv78, hX⟩ := z_bd hX
          refine z_iast (pc := 78) G dX3_readShip_78 hv78 ?_
          refine z_aload_n (pc := 79) G 0 dX3_readShip_79 rfl rfl ?_
          obtain ⟨hi80, hX⟩ := z_gu_s hX
          obtain ⟨h80, hv80, hX⟩ := z_bd hX
          refine z_cVV (pc := 80) (As := []) (c2 := 0) (s2 := 0) G kK3 (lX3_advance hO hv80) hi80 kt_512 kt_2 kt_509 kt_511 ks_1 ydX3_advance ⟨by decide, by decide⟩ rfl (Nat.le_of_ble_eq_true rfl) ⟨rfl, rfl⟩ ⟨by decide, by decide⟩ rfl dX3_readShip_80 ?_
          refine z_aload_n (pc := 83) G 0 dX3_readShip_83 rfl rfl ?_
          obtain ⟨x84, hv84, hX⟩ := z_bd hX
          refine z_getR (pc := 84) G kK3 (k := 0) (by decide) kt_137 dX3_readShip_84 hv84 ?_
          obtain ⟨x87, hv87, hX⟩ := z_bd hX
          refine z_getR (pc := 87) G kK2 (k := 11) (by decide) kt_86 dX3_readShip_87 hv87 ?_
          refine z_iload_n (pc := 90) G 1 dX3_readShip_90 rfl rfl ?_
          refine z_iconst (pc := 91) (v := 0) G dX3_readShip_91 (by decide) ?_
          obtain ⟨h92, hv92, hX⟩ := z_bd hX
          refine z_iast (pc := 92) G dX3_readShip_92 hv92 ?_
          refine z_aload_n (pc := 93) G 0 dX3_readShip_93 rfl rfl ?_
          obtain ⟨x94, hv94, hX⟩ := z_bd hX
          refine z_getR (pc := 94) G kK3 (k := 0) (by decide) kt_137 dX3_readShip_94 hv94 ?_
          obtain ⟨x97, hv97, hX⟩ := z_bd hX
          refine z_getR (pc := 97) G kK2 (k := 12) (by decide) kt_90 dX3_readShip_97 hv97 ?_
          refine z_iload_n (pc := 100) G 1 dX3_readShip_100 rfl rfl ?_
          refine z_iconst (pc := 101) (v := 0) G dX3_readShip_101 (by decide) ?_
          obtain ⟨h102, hv102, hX⟩ := z_bd hX
          refine z_iast (pc := 102) G dX3_readShip_102 hv102 ?_
          refine z_aload_n (pc := 103) G 0 dX3_readShip_103 rfl rfl ?_
          obtain ⟨x104, hv104, hX⟩ := z_bd hX
          refine z_getR (pc := 104) G kK3 (k := 0) (by decide) kt_137 dX3_readShip_104 hv104 ?_
          obtain ⟨x107, hv107, hX⟩ := z_bd hX
          refine z_getR (pc := 107) G kK2 (k := 13) (by decide) kt_94 dX3_readShip_107 hv107 ?_
          refine z_iload_n (pc := 110) G 1 dX3_readShip_110 rfl rfl ?_
          refine z_iconst (pc := 111) (v := 0) G dX3_readShip_111 (by decide) ?_
          obtain ⟨h112, hv112, hX⟩ := z_bd hX
          refine z_iast (pc := 112) G dX3_readShip_112 hv112 ?_
          refine z_aload_n (pc := 113) G 0 dX3_readShip_113 rfl rfl ?_
          refine z_bipush (pc := 114) (v := 9) G dX3_readShip_114 (by decide) ?_
          obtain ⟨hi116, hX⟩ := z_gu_s hX
          obtain ⟨r116, hv116, hX⟩ := z_bd hX
          refine z_cVI (pc := 116) (As := [.int (9 : Int32)]) (c2 := 0) (s2 := 0) G kK3 (lX3_takeWord hO hv116) hi116 kt_662 kt_2 kt_659 kt_661 ks_10 ydX3_takeWord ⟨by decide, by decide⟩ rfl (Nat.le_of_ble_eq_true rfl) ⟨rfl, rfl⟩ ⟨by decide, by decide⟩ rfl dX3_readShip_116 ?_
          refine z_if_eq (pc := 119) (tgt := 132) G dX3_readShip_119 (by decide) (fun hc119 => ?_) (fun hc119 => ?_)
          · have hX := z_it hc119 hX
            refine z_iconst (pc := 132) (v := 0) G dX3_readShip_132 (by decide) ?_
            exact z_zretX (pc := 133) hX G hr rfl dX3_readShip_133 (by decide) (by decide)
          · have hX := z_if hc119 hX
            refine z_aload_n (pc := 122) G 0 dX3_readShip_122 rfl rfl ?_
            refine z_iconst (pc := 123) (v := 0) G dX3_readShip_123 (by decide) ?_
            refine z_bipush (pc := 124) (v := 99) G dX3_readShip_124 (by decide) ?_
            obtain ⟨hi126, hX⟩ := z_gu_s hX
            obtain ⟨r126, hv126, hX⟩ := z_bd hX
            refine z_cVI (pc := 126) (As := [.int (0 : Int32), .int (99 : Int32)]) (c2 := 0) (s2 := 0) G kK3 (lX3_takeNumber hO hv126) hi126 kt_670 kt_2 kt_667 kt_669 ks_12 ydX3_takeNumber ⟨by decide, by decide⟩ rfl (Nat.le_of_ble_eq_true rfl) ⟨rfl, rfl⟩ ⟨by decide, by decide⟩ rfl dX3_readShip_126 ?_
            refine z_if_ne (pc := 129) (tgt := 134) G dX3_readShip_129 (by decide) (fun hc129 => ?_) (fun hc129 => ?_)
            · have hX := z_if hc129 hX
              refine z_aload_n (pc := 134) G 0 dX3_readShip_134 rfl rfl ?_
              obtain ⟨x135, hv135, hX⟩ := z_bd hX
              refine z_getR (pc := 135) G kK3 (k := 0) (by decide) kt_137 dX3_readShip_135 hv135 ?_
              obtain ⟨x138, hv138, hX⟩ := z_bd hX
              refine z_getR (pc := 138) G kK2 (k := 9) (by decide) kt_78 dX3_readShip_138 hv138 ?_
              refine z_iload_n (pc := 141) G 1 dX3_readShip_141 rfl rfl ?_
              refine z_aload_n (pc := 142) G 0 dX3_readShip_142 rfl rfl ?_
              obtain ⟨x143, hv143, hX⟩ := z_bd hX
              refine z_getI (pc := 143) G kK3 (k := 10) (by decide) kt_150 dX3_readShip_143 hv143 ?_
              obtain ⟨h146, hv146, hX⟩ := z_bd hX
              refine z_iast (pc := 146) G dX3_readShip_146 hv146 ?_
              refine z_aload_n (pc := 147) G 0 dX3_readShip_147 rfl rfl ?_
              refine z_iconst (pc := 148) (v := 0) G dX3_readShip_148 (by decide) ?_
              refine z_bipush (pc := 149) (v := 99) G dX3_readShip_149 (by decide) ?_
              obtain ⟨hi151, hX⟩ := z_gu_s hX
              obtain ⟨r151, hv151, hX⟩ := z_bd hX
              refine z_cVI (pc := 151) (As := [.int (0 : Int32), .int (99 : Int32)]) (c2 := 0) (s2 := 0) G kK3 (lX3_takeNumber hO hv151) hi151 kt_670 kt_2 kt_667 kt_669 ks_12 ydX3_takeNumber ⟨by decide, by decide⟩ rfl (Nat.le_of_ble_eq_true rfl) ⟨rfl, rfl⟩ ⟨by decide, by decide⟩ rfl dX3_readShip_151 ?_
              refine z_if_ne (pc := 154) (tgt := 159) G dX3_readShip_154 (by decide) (fun hc154 => ?_) (fun hc154 => ?_)
              · have hX := z_if hc154 hX
                refine z_aload_n (pc := 159) G 0 dX3_readShip_159 rfl rfl ?_
                obtain ⟨x160, hv160, hX⟩ := z_bd hX
                refine z_getR (pc := 160) G kK3 (k := 0) (by decide) kt_137 dX3_readShip_160 hv160 ?_
                obtain ⟨x163, hv163, hX⟩ := z_bd hX
                refine z_getR (pc := 163) G kK2 (k := 10) (by decide) kt_82 dX3_readShip_163 hv163 ?_
                refine z_iload_n (pc := 166) G 1 dX3_readShip_166 rfl rfl ?_
                refine z_aload_n (pc := 167) G 0 dX3_readShip_167 rfl rfl ?_
                obtain ⟨x168, hv168, hX⟩ := z_bd hX
                refine z_getI (pc := 168) G kK3 (k := 10) (by decide) kt_150 dX3_readShip_168 hv168 ?_
                obtain ⟨h171, hv171, hX⟩ := z_bd hX
                refine z_iast (pc := 171) G dX3_readShip_171 hv171 ?_
                refine z_aload_n (pc := 172) G 0 dX3_readShip_172 rfl rfl ?_
                refine z_bipush (pc := 173) (v := 10) G dX3_readShip_173 (by decide) ?_
                obtain ⟨hi175, hX⟩ := z_gu_s hX
                obtain ⟨r175, hv175, hX⟩ := z_bd hX
                refine z_cVI (pc := 175) (As := [.int (10 : Int32)]) (c2 := 0) (s2 := 0) G kK3 (lX3_isWord hO hv175) hi175 kt_666 kt_2 kt_663 kt_665 ks_11 ydX3_isWord ⟨by decide, by decide⟩ rfl (Nat.le_of_ble_eq_true rfl) ⟨rfl, rfl⟩ ⟨by decide, by decide⟩ rfl dX3_readShip_175 ?_
                refine z_if_eq (pc := 178) (tgt := 235) G dX3_readShip_178 (by decide) (fun hc178 => ?_) (fun hc178 => ?_)
                · have hX := z_it hc178 hX
                  exact wX3_readShip_B235 hO G hr hnm _ _ _ hX
                · have hX := z_if hc178 hX
                  refine z_aload_n (pc := 181) G 0 dX3_readShip_181 rfl rfl ?_
                  obtain ⟨hi182, hX⟩ := z_gu_s hX
                  obtain ⟨h182, hv182, hX⟩ := z_bd hX
                  refine z_cVV (pc := 182) (As := []) (c2 := 0) (s2 := 0) G kK3 (lX3_advance hO hv182) hi182 kt_512 kt_2 kt_509 kt_511 ks_1 ydX3_advance ⟨by decide, by decide⟩ rfl (Nat.le_of_ble_eq_true rfl) ⟨rfl, rfl⟩ ⟨by decide, by decide⟩ rfl dX3_readShip_182 ?_
                  refine z_aload_n (pc := 185) G 0 dX3_readShip_185 rfl rfl ?_
                  refine z_iconst (pc := 186) (v := 0) G dX3_readShip_186 (by decide) ?_
                  refine z_bipush (pc := 187) (v := 99) G dX3_readShip_187 (by decide) ?_
                  obtain ⟨hi189, hX⟩ := z_gu_s hX
                  obtain ⟨r189, hv189, hX⟩ := z_bd hX
                  refine z_cVI (pc := 189) (As := [.int (0 : Int32), .int (99 : Int32)]) (c2 := 0) (s2 := 0) G kK3 (lX3_takeNumber hO hv189) hi189 kt_670 kt_2 kt_667 kt_669 ks_12 ydX3_takeNumber ⟨by decide, by decide⟩ rfl (Nat.le_of_ble_eq_true rfl) ⟨rfl, rfl⟩ ⟨by decide, by decide⟩ rfl dX3_readShip_189 ?_
                  refine z_if_ne (pc := 192) (tgt := 197) G dX3_readShip_192 (by decide) (fun hc192 => ?_) (fun hc192 => ?_)
                  · have hX := z_if hc192 hX
                    refine z_aload_n (pc := 197) G 0 dX3_readShip_197 rfl rfl ?_
                    obtain ⟨x198, hv198, hX⟩ := z_bd hX
                    refine z_getR (pc := 198) G kK3 (k := 0) (by decide) kt_137 dX3_readShip_198 hv198 ?_
                    obtain ⟨x201, hv201, hX⟩ := z_bd hX
                    refine z_getR (pc := 201) G kK2 (k := 11) (by decide) kt_86 dX3_readShip_201 hv201 ?_
                    refine z_iload_n (pc := 204) G 1 dX3_readShip_204 rfl rfl ?_
                    refine z_aload_n (pc := 205) G 0 dX3_readShip_205 rfl rfl ?_
                    obtain ⟨x206, hv206, hX⟩ := z_bd hX
                    refine z_getI (pc := 206) G kK3 (k := 10) (by decide) kt_150 dX3_readShip_206 hv206 ?_
                    obtain ⟨h209, hv209, hX⟩ := z_bd hX
                    refine z_iast (pc := 209) G dX3_readShip_209 hv209 ?_
                    refine z_aload_n (pc := 210) G 0 dX3_readShip_210 rfl rfl ?_
                    refine z_iconst (pc := 211) (v := 0) G dX3_readShip_211 (by decide) ?_
                    refine z_bipush (pc := 212) (v := 99) G dX3_readShip_212 (by decide) ?_
                    obtain ⟨hi214, hX⟩ := z_gu_s hX
                    obtain ⟨r214, hv214, hX⟩ := z_bd hX
                    refine z_cVI (pc := 214) (As := [.int (0 : Int32), .int (99 : Int32)]) (c2 := 0) (s2 := 0) G kK3 (lX3_takeNumber hO hv214) hi214 kt_670 kt_2 kt_667 kt_669 ks_12 ydX3_takeNumber ⟨by decide, by decide⟩ rfl (Nat.le_of_ble_eq_true rfl) ⟨rfl, rfl⟩ ⟨by decide, by decide⟩ rfl dX3_readShip_214 ?_
                    refine z_if_ne (pc := 217) (tgt := 222) G dX3_readShip_217 (by decide) (fun hc217 => ?_) (fun hc217 => ?_)
                    · have hX := z_if hc217 hX
                      refine z_aload_n (pc := 222) G 0 dX3_readShip_222 rfl rfl ?_
                      obtain ⟨x223, hv223, hX⟩ := z_bd hX
                      refine z_getR (pc := 223) G kK3 (k := 0) (by decide) kt_137 dX3_readShip_223 hv223 ?_
                      obtain ⟨x226, hv226, hX⟩ := z_bd hX
                      refine z_getR (pc := 226) G kK2 (k := 12) (by decide) kt_90 dX3_readShip_226 hv226 ?_
                      refine z_iload_n (pc := 229) G 1 dX3_readShip_229 rfl rfl ?_
                      refine z_aload_n (pc := 230) G 0 dX3_readShip_230 rfl rfl ?_
                      obtain ⟨x231, hv231, hX⟩ := z_bd hX
                      refine z_getI (pc := 231) G kK3 (k := 10) (by decide) kt_150 dX3_readShip_231 hv231 ?_
                      obtain ⟨h234, hv234, hX⟩ := z_bd hX
                      refine z_iast (pc := 234) G dX3_readShip_234 hv234 ?_
                      exact wX3_readShip_B235 hO G hr hnm _ _ _ hX
                    · have hX := z_it hc217 hX
                      refine z_iconst (pc := 220) (v := 0) G dX3_readShip_220 (by decide) ?_
                      exact z_zretX (pc := 221) hX G hr rfl dX3_readShip_221 (by decide) (by decide)
                  · have hX := z_it hc192 hX
                    refine z_iconst (pc := 195) (v := 0) G dX3_readShip_195 (by decide) ?_
                    exact z_zretX (pc := 196) hX G hr rfl dX3_readShip_196 (by decide) (by decide)
              · have hX := z_it hc154 hX
                refine z_iconst (pc := 157) (v := 0) G dX3_readShip_157 (by decide) ?_
                exact z_zretX (pc := 158) hX G hr rfl dX3_readShip_158 (by decide) (by decide)
            · have hX := z_it hc129 hX
              refine z_iconst (pc := 132) (v := 0) G dX3_readShip_132 (by decide) ?_
              exact z_zretX (pc := 133) hX G hr rfl dX3_readShip_133 (by decide) (by decide)
        · have hX := z_if hc45 hX
          refine z_aload_n (pc := 48) G 0 dX3_readShip_48 rfl rfl ?_
          refine z_iconst (pc := 49) (v := 3) G dX3_readShip_49 (by decide) ?_
          obtain ⟨hi50, hX⟩ := z_gu_s hX
          obtain ⟨r50, hv50, hX⟩ := z_bd hX
          refine z_cVI (pc := 50) (As := [.int (3 : Int32)]) (c2 := 0) (s2 := 0) G kK3 (lX3_fail hO hv50) hi50 kt_646 kt_2 kt_643 kt_645 ks_6 ydX3_fail ⟨by decide, by decide⟩ rfl (Nat.le_of_ble_eq_true rfl) ⟨rfl, rfl⟩ ⟨by decide, by decide⟩ rfl dX3_readShip_50 ?_
          exact z_zretY (pc := 53) hX G hr dX3_readShip_53 (by decide) (by decide)
      · have hX := z_if hc33 hX
        refine z_aload_n (pc := 36) G 0 dX3_readShip_36 rfl rfl ?_
        obtain ⟨hi37, hX⟩ := z_gu_s hX
        obtain ⟨r37, hv37, hX⟩ := z_bd hX
        refine z_cVI (pc := 37) (As := []) (c2 := 0) (s2 := 0) G kK3 (lX3_refuse hO hv37) hi37 kt_642 kt_2 kt_639 kt_641 ks_5 ydX3_refuse ⟨by decide, by decide⟩ rfl (Nat.le_of_ble_eq_true rfl) ⟨rfl, rfl⟩ ⟨by decide, by decide⟩ rfl dX3_readShip_37 ?_
        exact z_zretY (pc := 40) hX G hr dX3_readShip_40 (by decide) (by decide)
  · have hX := z_if hc11 hX
    refine z_aload_n (pc := 14) G 0 dX3_readShip_14 rfl rfl ?_
    obtain ⟨hi15, hX⟩ := z_gu_s hX
    obtain ⟨r15, hv15, hX⟩ := z_bd hX
    refine z_cVI (pc := 15) (As := []) (c2 := 0) (s2 := 0) G kK3 (lX3_refuse hO hv15) hi15 kt_642 kt_2 kt_639 kt_641 ks_5 ydX3_refuse ⟨by decide, by decide⟩ rfl (Nat.le_of_ble_eq_true rfl) ⟨rfl, rfl⟩ ⟨by decide, by decide⟩ rfl dX3_readShip_15 ?_
    exact z_zretY (pc := 18) hX G hr dX3_readShip_18 (by decide) (by decide)
theorem dX3_settle_0 : decode cX3_settle 0 = .ok (.iload_n 1, 1) := by decide +kernel
theorem dX3_settle_1 : decode cX3_settle 1 = .ok (.tableswitch 120 0 6 #[43, 54, 65, 76, 87, 98, 109], 43) := by decide +kernel
theorem dX3_settle_44 : decode cX3_settle 44 = .ok (.aload_n 0, 1) := by decide +kernel
theorem dX3_settle_45 : decode cX3_settle 45 = .ok (.getfield 12, 3) := by decide +kernel
theorem dX3_settle_48 : decode cX3_settle 48 = .ok (.iload_n 2, 1) := by decide +kernel
theorem dX3_settle_49 : decode cX3_settle 49 = .ok (.putfield 103, 3) := by decide +kernel
theorem dX3_settle_52 : decode cX3_settle 52 = .ok (.goto 69, 3) := by decide +kernel
theorem dX3_settle_55 : decode cX3_settle 55 = .ok (.aload_n 0, 1) := by decide +kernel
theorem dX3_settle_56 : decode cX3_settle 56 = .ok (.getfield 12, 3) := by decide +kernel
theorem dX3_settle_59 : decode cX3_settle 59 = .ok (.iload_n 2, 1) := by decide +kernel
theorem dX3_settle_60 : decode cX3_settle 60 = .ok (.putfield 106, 3) := by decide +kernel
theorem dX3_settle_63 : decode cX3_settle 63 = .ok (.goto 58, 3) := by decide +kernel
theorem dX3_settle_66 : decode cX3_settle 66 = .ok (.aload_n 0, 1) := by decide +kernel
theorem dX3_settle_67 : decode cX3_settle 67 = .ok (.getfield 12, 3) := by decide +kernel
theorem dX3_settle_70 : decode cX3_settle 70 = .ok (.iload_n 2, 1) := by decide +kernel
theorem dX3_settle_71 : decode cX3_settle 71 = .ok (.putfield 109, 3) := by decide +kernel
theorem dX3_settle_74 : decode cX3_settle 74 = .ok (.goto 47, 3) := by decide +kernel
theorem dX3_settle_77 : decode cX3_settle 77 = .ok (.aload_n 0, 1) := by decide +kernel
theorem dX3_settle_78 : decode cX3_settle 78 = .ok (.getfield 12, 3) := by decide +kernel
theorem dX3_settle_81 : decode cX3_settle 81 = .ok (.iload_n 2, 1) := by decide +kernel
theorem dX3_settle_82 : decode cX3_settle 82 = .ok (.putfield 112, 3) := by decide +kernel
theorem dX3_settle_85 : decode cX3_settle 85 = .ok (.goto 36, 3) := by decide +kernel
theorem dX3_settle_88 : decode cX3_settle 88 = .ok (.aload_n 0, 1) := by decide +kernel
theorem dX3_settle_89 : decode cX3_settle 89 = .ok (.getfield 12, 3) := by decide +kernel
theorem dX3_settle_92 : decode cX3_settle 92 = .ok (.iload_n 2, 1) := by decide +kernel
theorem dX3_settle_93 : decode cX3_settle 93 = .ok (.putfield 115, 3) := by decide +kernel
theorem dX3_settle_96 : decode cX3_settle 96 = .ok (.goto 25, 3) := by decide +kernel
theorem dX3_settle_99 : decode cX3_settle 99 = .ok (.aload_n 0, 1) := by decide +kernel
theorem dX3_settle_100 : decode cX3_settle 100 = .ok (.getfield 12, 3) := by decide +kernel
theorem dX3_settle_103 : decode cX3_settle 103 = .ok (.iload_n 2, 1) := by decide +kernel
theorem dX3_settle_104 : decode cX3_settle 104 = .ok (.putfield 118, 3) := by decide +kernel
theorem dX3_settle_107 : decode cX3_settle 107 = .ok (.goto 14, 3) := by decide +kernel
theorem dX3_settle_110 : decode cX3_settle 110 = .ok (.aload_n 0, 1) := by decide +kernel
theorem dX3_settle_111 : decode cX3_settle 111 = .ok (.getfield 12, 3) := by decide +kernel
theorem dX3_settle_114 : decode cX3_settle 114 = .ok (.iload_n 2, 1) := by decide +kernel
theorem dX3_settle_115 : decode cX3_settle 115 = .ok (.putfield 121, 3) := by decide +kernel
theorem dX3_settle_118 : decode cX3_settle 118 = .ok (.goto 3, 3) := by decide +kernel
theorem dX3_settle_121 : decode cX3_settle 121 = .ok (.return_, 1) := by decide +kernel
theorem ydX3_settle : z_yd yX3_settle 2 := ⟨by decide, by decide, by decide +kernel⟩
abbrev rmX3_settle : Room := { frames := 0, cells := 0, slots := 0, locals := 0 }
noncomputable def xX3_settle (l0 : Nat) (l1 : Int32) (l2 : Int32) (h : ZH) : Option ZH := (if l1 = 0 then ((z_gR h l0 3 0).bind fun x45 => ((z_sF h x45 2 0 (.int l2)).bind fun h49 => some h49)) else (if l1 = 1 then ((z_gR h l0 3 0).bind fun x56 => ((z_sF h x56 2 1 (.int l2)).bind fun h60 => some h60)) else (if l1 = 2 then ((z_gR h l0 3 0).bind fun x67 => ((z_sF h x67 2 2 (.int l2)).bind fun h71 => some h71)) else (if l1 = 3 then ((z_gR h l0 3 0).bind fun x78 => ((z_sF h x78 2 3 (.int l2)).bind fun h82 => some h82)) else (if l1 = 4 then ((z_gR h l0 3 0).bind fun x89 => ((z_sF h x89 2 4 (.int l2)).bind fun h93 => some h93)) else (if l1 = 5 then ((z_gR h l0 3 0).bind fun x100 => ((z_sF h x100 2 5 (.int l2)).bind fun h104 => some h104)) else (if l1 = 6 then ((z_gR h l0 3 0).bind fun x111 => ((z_sF h x111 2 6 (.int l2)).bind fun h115 => some h115)) else some h)))))))
set_option maxHeartbeats 4000000 in
set_option maxRecDepth 100000 in
theorem lX3_settle {Γ : ZG} {l : Launch} (hO : z_OK Γ) {l0 : Nat} {l1 : Int32} {l2 : Int32} {h : ZH} {r : ZH} (hX : xX3_settle l0 l1 l2 h = some r) : z_M Γ l yX3_settle (z_ws1 yX3_settle cX3_settle 3 none) rmX3_settle [.ref l0, .int l1, .int l2] h none r := by
  refine z_start hO (plainFor_of_name (by decide)) (Nat.le_of_ble_eq_true rfl) ?_
  intro p e s m args below meth c G hr hnm
  refine z_lvc (lv2 := [(0, .ref l0), (1, .int l1), (2, .int l2)]) rfl ?_
  refine z_iload_n (pc := 0) G 1 dX3_settle_0 rfl rfl ?_
  by_cases hs1_0 : l1 = 0
  · have hX := z_it hs1_0 hX
    refine z_tableIn (pc := 1) (off := 43) (tgt := 44) G dX3_settle_1 (by rw [hs1_0]; decide) (by rw [hs1_0]; decide) (by rw [hs1_0]; decide) (by decide) ?_
    refine z_aload_n (pc := 44) G 0 dX3_settle_44 rfl rfl ?_
    obtain ⟨x45, hv45, hX⟩ := z_bd hX
    refine z_getR (pc := 45) G kK3 (k := 0) (by decide) kt_137 dX3_settle_45 hv45 ?_
    refine z_iload_n (pc := 48) G 2 dX3_settle_48 rfl rfl ?_
    obtain ⟨h49, hv49, hX⟩ := z_bd hX
    refine z_putF (pc := 49) G kK2 (k := 0) (by decide) kt_42 (Or.inl rfl) rfl rfl dX3_settle_49 hv49 ?_
    refine z_goto (pc := 52) (tgt := 121) G dX3_settle_52 (by decide) ?_
    exact z_vretX (pc := 121) hX G hr dX3_settle_121 (by decide) (by decide)
  have hX := z_if hs1_0 hX
  by_cases hs1_1 : l1 = 1
  · have hX := z_it hs1_1 hX
    refine z_tableIn (pc := 1) (off := 54) (tgt := 55) G dX3_settle_1 (by rw [hs1_1]; decide) (by rw [hs1_1]; decide) (by rw [hs1_1]; decide) (by decide) ?_
    refine z_aload_n (pc := 55) G 0 dX3_settle_55 rfl rfl ?_
    obtain ⟨x56, hv56, hX⟩ := z_bd hX
    refine z_getR (pc := 56) G kK3 (k := 0) (by decide) kt_137 dX3_settle_56 hv56 ?_
    refine z_iload_n (pc := 59) G 2 dX3_settle_59 rfl rfl ?_
    obtain ⟨h60, hv60, hX⟩ := z_bd hX
    refine z_putF (pc := 60) G kK2 (k := 1) (by decide) kt_46 (Or.inl rfl) rfl rfl dX3_settle_60 hv60 ?_
    refine z_goto (pc := 63) (tgt := 121) G dX3_settle_63 (by decide) ?_
    exact z_vretX (pc := 121) hX G hr dX3_settle_121 (by decide) (by decide)
  have hX := z_if hs1_1 hX
  by_cases hs1_2 : l1 = 2
  · have hX := z_it hs1_2 hX
    refine z_tableIn (pc := 1) (off := 65) (tgt := 66) G dX3_settle_1 (by rw [hs1_2]; decide) (by rw [hs1_2]; decide) (by rw [hs1_2]; decide) (by decide) ?_
    refine z_aload_n (pc := 66) G 0 dX3_settle_66 rfl rfl ?_
    obtain ⟨x67, hv67, hX⟩ := z_bd hX
    refine z_getR (pc := 67) G kK3 (k := 0) (by decide) kt_137 dX3_settle_67 hv67 ?_
    refine z_iload_n (pc := 70) G 2 dX3_settle_70 rfl rfl ?_
    obtain ⟨h71, hv71, hX⟩ := z_bd hX
    refine z_putF (pc := 71) G kK2 (k := 2) (by decide) kt_51 (Or.inl rfl) rfl rfl dX3_settle_71 hv71 ?_
    refine z_goto (pc := 74) (tgt := 121) G dX3_settle_74 (by decide) ?_
    exact z_vretX (pc := 121) hX G hr dX3_settle_121 (by decide) (by decide)
  have hX := z_if hs1_2 hX
  by_cases hs1_3 : l1 = 3
  · have hX := z_it hs1_3 hX
    refine z_tableIn (pc := 1) (off := 76) (tgt := 77) G dX3_settle_1 (by rw [hs1_3]; decide) (by rw [hs1_3]; decide) (by rw [hs1_3]; decide) (by decide) ?_
    refine z_aload_n (pc := 77) G 0 dX3_settle_77 rfl rfl ?_
    obtain ⟨x78, hv78, hX⟩ := z_bd hX
    refine z_getR (pc := 78) G kK3 (k := 0) (by decide) kt_137 dX3_settle_78 hv78 ?_
    refine z_iload_n (pc := 81) G 2 dX3_settle_81 rfl rfl ?_
    obtain ⟨h82, hv82, hX⟩ := z_bd hX
    refine z_putF (pc := 82) G kK2 (k := 3) (by decide) kt_56 (Or.inl rfl) rfl rfl dX3_settle_82 hv82 ?_
    refine z_goto (pc := 85) (tgt := 121) G dX3_settle_85 (by decide) ?_
    exact z_vretX (pc := 121) hX G hr dX3_settle_121 (by decide) (by decide)
  have hX := z_if hs1_3 hX
  by_cases hs1_4 : l1 = 4
  · have hX := z_it hs1_4 hX
    refine z_tableIn (pc := 1) (off := 87) (tgt := 88) G dX3_settle_1 (by rw [hs1_4]; decide) (by rw [hs1_4]; decide) (by rw [hs1_4]; decide) (by decide) ?_
    refine z_aload_n (pc := 88) G 0 dX3_settle_88 rfl rfl ?_
    obtain ⟨x89, hv89, hX⟩ := z_bd hX
    refine z_getR (pc := 89) G kK3 (k := 0) (by decide) kt_137 dX3_settle_89 hv89 ?_
    refine z_iload_n (pc := 92) G 2 dX3_settle_92 rfl rfl ?_
    obtain ⟨h93, hv93, hX⟩ := z_bd hX
    refine z_putF (pc := 93) G kK2 (k := 4) (by decide) kt_58 (Or.inl rfl) rfl rfl dX3_settle_93 hv93 ?_
    refine z_goto (pc := 96) (tgt := 121) G dX3_settle_96 (by decide) ?_
    exact z_vretX (pc := 121) hX G hr dX3_settle_121 (by decide) (by decide)
  have hX := z_if hs1_4 hX
  by_cases hs1_5 : l1 = 5
  · have hX := z_it hs1_5 hX
    refine z_tableIn (pc := 1) (off := 98) (tgt := 99) G dX3_settle_1 (by rw [hs1_5]; decide) (by rw [hs1_5]; decide) (by rw [hs1_5]; decide) (by decide) ?_
    refine z_aload_n (pc := 99) G 0 dX3_settle_99 rfl rfl ?_
    obtain ⟨x100, hv100, hX⟩ := z_bd hX
    refine z_getR (pc := 100) G kK3 (k := 0) (by decide) kt_137 dX3_settle_100 hv100 ?_
    refine z_iload_n (pc := 103) G 2 dX3_settle_103 rfl rfl ?_
    obtain ⟨h104, hv104, hX⟩ := z_bd hX
    refine z_putF (pc := 104) G kK2 (k := 5) (by decide) kt_61 (Or.inl rfl) rfl rfl dX3_settle_104 hv104 ?_
    refine z_goto (pc := 107) (tgt := 121) G dX3_settle_107 (by decide) ?_
    exact z_vretX (pc := 121) hX G hr dX3_settle_121 (by decide) (by decide)
  have hX := z_if hs1_5 hX
  by_cases hs1_6 : l1 = 6
  · have hX := z_it hs1_6 hX
    refine z_tableIn (pc := 1) (off := 109) (tgt := 110) G dX3_settle_1 (by rw [hs1_6]; decide) (by rw [hs1_6]; decide) (by rw [hs1_6]; decide) (by decide) ?_
    refine z_aload_n (pc := 110) G 0 dX3_settle_110 rfl rfl ?_
    obtain ⟨x111, hv111, hX⟩ := z_bd hX
    refine z_getR (pc := 111) G kK3 (k := 0) (by decide) kt_137 dX3_settle_111 hv111 ?_
    refine z_iload_n (pc := 114) G 2 dX3_settle_114 rfl rfl ?_
    obtain ⟨h115, hv115, hX⟩ := z_bd hX
    refine z_putF (pc := 115) G kK2 (k := 6) (by decide) kt_66 (Or.inl rfl) rfl rfl dX3_settle_115 hv115 ?_
    refine z_goto (pc := 118) (tgt := 121) G dX3_settle_118 (by decide) ?_
    exact z_vretX (pc := 121) hX G hr dX3_settle_121 (by decide) (by decide)
  have hX := z_if hs1_6 hX
  refine z_tableOut (pc := 1) (tgt := 121) G dX3_settle_1 (z_tout 7 (by decide) (fun j hj => by
    rcases (show j = 0 ∨ j = 1 ∨ j = 2 ∨ j = 3 ∨ j = 4 ∨ j = 5 ∨ j = 6 by omega) with rfl | rfl | rfl | rfl | rfl | rfl | rfl
    · exact fun z => hs1_0 (z.trans (by decide))
    · exact fun z => hs1_1 (z.trans (by decide))
    · exact fun z => hs1_2 (z.trans (by decide))
    · exact fun z => hs1_3 (z.trans (by decide))
    · exact fun z => hs1_4 (z.trans (by decide))
    · exact fun z => hs1_5 (z.trans (by decide))
    · exact fun z => hs1_6 (z.trans (by decide)))) (by decide) ?_
  exact z_vretX (pc := 121) hX G hr dX3_settle_121 (by decide) (by decide)
theorem dX3_takeSign_0 : decode cX3_takeSign 0 = .ok (.aload_n 0, 1) := by decide +kernel
theorem dX3_takeSign_1 : decode cX3_takeSign 1 = .ok (.iload_n 1, 1) := by decide +kernel
theorem dX3_takeSign_2 : decode cX3_takeSign 2 = .ok (.invokevirtual 172, 3) := by decide +kernel
theorem dX3_takeSign_5 : decode cX3_takeSign 5 = .ok (.ifCond .ne 8, 3) := by decide +kernel
theorem dX3_takeSign_8 : decode cX3_takeSign 8 = .ok (.aload_n 0, 1) := by decide +kernel
theorem dX3_takeSign_9 : decode cX3_takeSign 9 = .ok (.invokevirtual 70, 3) := by decide +kernel
theorem dX3_takeSign_12 : decode cX3_takeSign 12 = .ok (.ireturn, 1) := by decide +kernel
theorem dX3_takeSign_13 : decode cX3_takeSign 13 = .ok (.aload_n 0, 1) := by decide +kernel
theorem dX3_takeSign_14 : decode cX3_takeSign 14 = .ok (.invokevirtual 57, 3) := by decide +kernel
theorem dX3_takeSign_17 : decode cX3_takeSign 17 = .ok (.iconst 1, 1) := by decide +kernel
theorem dX3_takeSign_18 : decode cX3_takeSign 18 = .ok (.ireturn, 1) := by decide +kernel
theorem ydX3_takeSign : z_yd yX3_takeSign 1 := ⟨by decide, by decide, by decide +kernel⟩
abbrev rmX3_takeSign : Room := { frames := 6, cells := 0, slots := 0, locals := 130 }
noncomputable def xX3_takeSign (l0 : Nat) (l1 : Int32) (h : ZH) : Option (Int32 × ZH) := (z_gu (z_is h l0 3) ((xX3_isSign l0 l1 h).bind fun r2 => (if r2.1 = 0 then (z_gu (z_is r2.2 l0 3) ((xX3_refuse l0 r2.2).bind fun r9 => z_zr r9.1 r9.2)) else (z_gu (z_is r2.2 l0 3) ((xX3_advance l0 r2.2).bind fun h14 => some ((1 : Int32), h14))))))
set_option maxHeartbeats 4000000 in
set_option maxRecDepth 100000 in
theorem lX3_takeSign {Γ : ZG} {l : Launch} (hO : z_OK Γ) {l0 : Nat} {l1 : Int32} {h : ZH} {r : (Int32 × ZH)} (hX : xX3_takeSign l0 l1 h = some r) : z_M Γ l yX3_takeSign (z_ws1 yX3_takeSign cX3_takeSign 2 (some .boolean)) rmX3_takeSign [.ref l0, .int l1] h (some (.int r.1)) r.2 := by
  refine z_start hO (plainFor_of_name (by decide)) (Nat.le_of_ble_eq_true rfl) ?_
  intro p e s m args below meth c G hr hnm
  refine z_lvc (lv2 := [(0, .ref l0), (1, .int l1)]) rfl ?_
  refine z_aload_n (pc := 0) G 0 dX3_takeSign_0 rfl rfl ?_
  refine z_iload_n (pc := 1) G 1 dX3_takeSign_1 rfl rfl ?_
  obtain ⟨hi2, hX⟩ := z_gu_s hX
  obtain ⟨r2, hv2, hX⟩ := z_bd hX
  refine z_cVI (pc := 2) (As := [.int l1]) (c2 := 0) (s2 := 0) G kK3 (lX3_isSign hO hv2) hi2 kt_678 kt_2 kt_675 kt_677 ks_14 ydX3_isSign ⟨by decide, by decide⟩ rfl (Nat.le_of_ble_eq_true rfl) ⟨rfl, rfl⟩ ⟨by decide, by decide⟩ rfl dX3_takeSign_2 ?_
  refine z_if_ne (pc := 5) (tgt := 13) G dX3_takeSign_5 (by decide) (fun hc5 => ?_) (fun hc5 => ?_)
  · have hX := z_if hc5 hX
    refine z_aload_n (pc := 13) G 0 dX3_takeSign_13 rfl rfl ?_
    obtain ⟨hi14, hX⟩ := z_gu_s hX
    obtain ⟨h14, hv14, hX⟩ := z_bd hX
    refine z_cVV (pc := 14) (As := []) (c2 := 0) (s2 := 0) G kK3 (lX3_advance hO hv14) hi14 kt_512 kt_2 kt_509 kt_511 ks_1 ydX3_advance ⟨by decide, by decide⟩ rfl (Nat.le_of_ble_eq_true rfl) ⟨rfl, rfl⟩ ⟨by decide, by decide⟩ rfl dX3_takeSign_14 ?_
    refine z_iconst (pc := 17) (v := 1) G dX3_takeSign_17 (by decide) ?_
    exact z_zretX (pc := 18) hX G hr rfl dX3_takeSign_18 (by decide) (by decide)
  · have hX := z_it hc5 hX
    refine z_aload_n (pc := 8) G 0 dX3_takeSign_8 rfl rfl ?_
    obtain ⟨hi9, hX⟩ := z_gu_s hX
    obtain ⟨r9, hv9, hX⟩ := z_bd hX
    refine z_cVI (pc := 9) (As := []) (c2 := 0) (s2 := 0) G kK3 (lX3_refuse hO hv9) hi9 kt_642 kt_2 kt_639 kt_641 ks_5 ydX3_refuse ⟨by decide, by decide⟩ rfl (Nat.le_of_ble_eq_true rfl) ⟨rfl, rfl⟩ ⟨by decide, by decide⟩ rfl dX3_takeSign_9 ?_
    exact z_zretY (pc := 12) hX G hr dX3_takeSign_12 (by decide) (by decide)
abbrev rmRD (n : Nat) : Room := { frames := 50 + n, cells := 0, slots := 0, locals := 2000 + 100 * n }
theorem ydX3_readLevel : z_yd yX3_readLevel 2 := ⟨by decide, by decide, by decide +kernel⟩
theorem ydX3_readUnit : z_yd yX3_readUnit 1 := ⟨by decide, by decide, by decide +kernel⟩
theorem dX3_readLevel_0 : decode cX3_readLevel 0 = .ok (.iload_n 1, 1) := by decide +kernel
theorem dX3_readLevel_1 : decode cX3_readLevel 1 = .ok (.iconst 4, 1) := by decide +kernel
theorem dX3_readLevel_2 : decode cX3_readLevel 2 = .ok (.if_icmp .le 9, 3) := by decide +kernel
theorem dX3_readLevel_5 : decode cX3_readLevel 5 = .ok (.aload_n 0, 1) := by decide +kernel
theorem dX3_readLevel_6 : decode cX3_readLevel 6 = .ok (.iload_n 2, 1) := by decide +kernel
theorem dX3_readLevel_7 : decode cX3_readLevel 7 = .ok (.invokevirtual 158, 3) := by decide +kernel
theorem dX3_readLevel_10 : decode cX3_readLevel 10 = .ok (.ireturn, 1) := by decide +kernel
theorem dX3_readLevel_11 : decode cX3_readLevel 11 = .ok (.iload_n 1, 1) := by decide +kernel
theorem dX3_readLevel_12 : decode cX3_readLevel 12 = .ok (.iconst 2, 1) := by decide +kernel
theorem dX3_readLevel_13 : decode cX3_readLevel 13 = .ok (.if_icmp .ne 51, 3) := by decide +kernel
theorem dX3_readLevel_16 : decode cX3_readLevel 16 = .ok (.aload_n 0, 1) := by decide +kernel
theorem dX3_readLevel_17 : decode cX3_readLevel 17 = .ok (.bipush 14, 2) := by decide +kernel
theorem dX3_readLevel_19 : decode cX3_readLevel 19 = .ok (.invokevirtual 151, 3) := by decide +kernel
theorem dX3_readLevel_22 : decode cX3_readLevel 22 = .ok (.ifCond .eq 42, 3) := by decide +kernel
theorem dX3_readLevel_25 : decode cX3_readLevel 25 = .ok (.iload_n 2, 1) := by decide +kernel
theorem dX3_readLevel_26 : decode cX3_readLevel 26 = .ok (.bipush 6, 2) := by decide +kernel
theorem dX3_readLevel_28 : decode cX3_readLevel 28 = .ok (.if_icmp .le 8, 3) := by decide +kernel
theorem dX3_readLevel_31 : decode cX3_readLevel 31 = .ok (.aload_n 0, 1) := by decide +kernel
theorem dX3_readLevel_32 : decode cX3_readLevel 32 = .ok (.invokevirtual 70, 3) := by decide +kernel
theorem dX3_readLevel_35 : decode cX3_readLevel 35 = .ok (.ireturn, 1) := by decide +kernel
theorem dX3_readLevel_36 : decode cX3_readLevel 36 = .ok (.aload_n 0, 1) := by decide +kernel
theorem dX3_readLevel_37 : decode cX3_readLevel 37 = .ok (.invokevirtual 57, 3) := by decide +kernel
theorem dX3_readLevel_40 : decode cX3_readLevel 40 = .ok (.aload_n 0, 1) := by decide +kernel
theorem dX3_readLevel_41 : decode cX3_readLevel 41 = .ok (.iconst 2, 1) := by decide +kernel
theorem dX3_readLevel_42 : decode cX3_readLevel 42 = .ok (.iload_n 2, 1) := by decide +kernel
theorem dX3_readLevel_43 : decode cX3_readLevel 43 = .ok (.iconst 1, 1) := by decide +kernel
theorem dX3_readLevel_44 : decode cX3_readLevel 44 = .ok (.iadd, 1) := by decide +kernel
theorem dX3_readLevel_45 : decode cX3_readLevel 45 = .ok (.invokevirtual 83, 3) := by decide +kernel
theorem dX3_readLevel_48 : decode cX3_readLevel 48 = .ok (.ifCond .ne 5, 3) := by decide +kernel
theorem dX3_readLevel_51 : decode cX3_readLevel 51 = .ok (.iconst 0, 1) := by decide +kernel
theorem dX3_readLevel_52 : decode cX3_readLevel 52 = .ok (.ireturn, 1) := by decide +kernel
theorem dX3_readLevel_53 : decode cX3_readLevel 53 = .ok (.aload_n 0, 1) := by decide +kernel
theorem dX3_readLevel_54 : decode cX3_readLevel 54 = .ok (.getfield 12, 3) := by decide +kernel
theorem dX3_readLevel_57 : decode cX3_readLevel 57 = .ok (.bipush (-3), 2) := by decide +kernel
theorem dX3_readLevel_59 : decode cX3_readLevel 59 = .ok (.invokevirtual 161, 3) := by decide +kernel
theorem dX3_readLevel_62 : decode cX3_readLevel 62 = .ok (.iconst 1, 1) := by decide +kernel
theorem dX3_readLevel_63 : decode cX3_readLevel 63 = .ok (.ireturn, 1) := by decide +kernel
theorem dX3_readLevel_64 : decode cX3_readLevel 64 = .ok (.aload_n 0, 1) := by decide +kernel
theorem dX3_readLevel_65 : decode cX3_readLevel 65 = .ok (.iload_n 1, 1) := by decide +kernel
theorem dX3_readLevel_66 : decode cX3_readLevel 66 = .ok (.iconst 1, 1) := by decide +kernel
theorem dX3_readLevel_67 : decode cX3_readLevel 67 = .ok (.iadd, 1) := by decide +kernel
theorem dX3_readLevel_68 : decode cX3_readLevel 68 = .ok (.iload_n 2, 1) := by decide +kernel
theorem dX3_readLevel_69 : decode cX3_readLevel 69 = .ok (.invokevirtual 83, 3) := by decide +kernel
theorem dX3_readLevel_72 : decode cX3_readLevel 72 = .ok (.ifCond .ne 5, 3) := by decide +kernel
theorem dX3_readLevel_75 : decode cX3_readLevel 75 = .ok (.iconst 0, 1) := by decide +kernel
theorem dX3_readLevel_76 : decode cX3_readLevel 76 = .ok (.ireturn, 1) := by decide +kernel
theorem dX3_readLevel_77 : decode cX3_readLevel 77 = .ok (.iload_n 1, 1) := by decide +kernel
theorem dX3_readLevel_78 : decode cX3_readLevel 78 = .ok (.iconst 2, 1) := by decide +kernel
theorem dX3_readLevel_79 : decode cX3_readLevel 79 = .ok (.if_icmp .ne 7, 3) := by decide +kernel
theorem dX3_readLevel_82 : decode cX3_readLevel 82 = .ok (.iconst 1, 1) := by decide +kernel
theorem dX3_readLevel_83 : decode cX3_readLevel 83 = .ok (.goto 5, 3) := by decide +kernel
theorem dX3_readLevel_86 : decode cX3_readLevel 86 = .ok (.bipush 30, 2) := by decide +kernel
theorem dX3_readLevel_88 : decode cX3_readLevel 88 = .ok (.istore_n 3, 1) := by decide +kernel
theorem dX3_readLevel_89 : decode cX3_readLevel 89 = .ok (.iconst 0, 1) := by decide +kernel
theorem dX3_readLevel_90 : decode cX3_readLevel 90 = .ok (.istore 4, 2) := by decide +kernel
theorem dX3_readLevel_92 : decode cX3_readLevel 92 = .ok (.iload 4, 2) := by decide +kernel
theorem dX3_readLevel_94 : decode cX3_readLevel 94 = .ok (.iload_n 3, 1) := by decide +kernel
theorem dX3_readLevel_95 : decode cX3_readLevel 95 = .ok (.if_icmp .ge 49, 3) := by decide +kernel
theorem dX3_readLevel_98 : decode cX3_readLevel 98 = .ok (.aload_n 0, 1) := by decide +kernel
theorem dX3_readLevel_99 : decode cX3_readLevel 99 = .ok (.iload_n 1, 1) := by decide +kernel
theorem dX3_readLevel_100 : decode cX3_readLevel 100 = .ok (.invokevirtual 165, 3) := by decide +kernel
theorem dX3_readLevel_103 : decode cX3_readLevel 103 = .ok (.istore 5, 2) := by decide +kernel
theorem dX3_readLevel_105 : decode cX3_readLevel 105 = .ok (.iload 5, 2) := by decide +kernel
theorem dX3_readLevel_107 : decode cX3_readLevel 107 = .ok (.ifCond .ne 5, 3) := by decide +kernel
theorem dX3_readLevel_110 : decode cX3_readLevel 110 = .ok (.iconst 1, 1) := by decide +kernel
theorem dX3_readLevel_111 : decode cX3_readLevel 111 = .ok (.ireturn, 1) := by decide +kernel
theorem dX3_readLevel_112 : decode cX3_readLevel 112 = .ok (.aload_n 0, 1) := by decide +kernel
theorem dX3_readLevel_113 : decode cX3_readLevel 113 = .ok (.invokevirtual 57, 3) := by decide +kernel
theorem dX3_readLevel_116 : decode cX3_readLevel 116 = .ok (.aload_n 0, 1) := by decide +kernel
theorem dX3_readLevel_117 : decode cX3_readLevel 117 = .ok (.iload_n 1, 1) := by decide +kernel
theorem dX3_readLevel_118 : decode cX3_readLevel 118 = .ok (.iconst 1, 1) := by decide +kernel
theorem dX3_readLevel_119 : decode cX3_readLevel 119 = .ok (.iadd, 1) := by decide +kernel
theorem dX3_readLevel_120 : decode cX3_readLevel 120 = .ok (.iload_n 2, 1) := by decide +kernel
theorem dX3_readLevel_121 : decode cX3_readLevel 121 = .ok (.invokevirtual 83, 3) := by decide +kernel
theorem dX3_readLevel_124 : decode cX3_readLevel 124 = .ok (.ifCond .ne 5, 3) := by decide +kernel
theorem dX3_readLevel_127 : decode cX3_readLevel 127 = .ok (.iconst 0, 1) := by decide +kernel
theorem dX3_readLevel_128 : decode cX3_readLevel 128 = .ok (.ireturn, 1) := by decide +kernel
theorem dX3_readLevel_129 : decode cX3_readLevel 129 = .ok (.aload_n 0, 1) := by decide +kernel
theorem dX3_readLevel_130 : decode cX3_readLevel 130 = .ok (.getfield 12, 3) := by decide +kernel
theorem dX3_readLevel_133 : decode cX3_readLevel 133 = .ok (.iload 5, 2) := by decide +kernel
theorem dX3_readLevel_135 : decode cX3_readLevel 135 = .ok (.invokevirtual 161, 3) := by decide +kernel
theorem dX3_readLevel_138 : decode cX3_readLevel 138 = .ok (.iinc 4 1, 3) := by decide +kernel
theorem dX3_readLevel_141 : decode cX3_readLevel 141 = .ok (.goto (-49), 3) := by decide +kernel
theorem dX3_readLevel_144 : decode cX3_readLevel 144 = .ok (.iconst 1, 1) := by decide +kernel
theorem dX3_readLevel_145 : decode cX3_readLevel 145 = .ok (.ireturn, 1) := by decide +kernel
noncomputable def xX3_readLevel_B92 (fL : Nat → Int32 → Int32 → ZH → Option (Int32 × ZH)) (fU : Nat → Int32 → ZH → Option (Int32 × ZH)) (r92 : Nat → Int32 → Int32 → Int32 → Int32 → ZH → Option (Int32 × ZH)) (l0 : Nat) (l1 : Int32) (l2 : Int32) (l3 : Int32) (l4 : Int32) (h : ZH) : Option (Int32 × ZH) := (if l3 ≤ l4 then some ((1 : Int32), h) else (z_gu (z_is h l0 3) ((xX3_codeBetween l0 l1 h).bind fun r100 => (if r100.1 = 0 then some ((1 : Int32), r100.2) else (z_gu (z_is r100.2 l0 3) ((xX3_advance l0 r100.2).bind fun h113 => (z_gu (z_is h113 l0 3) ((fL l0 (l1 + (1 : Int32)) l2 h113).bind fun r121 => (if r121.1 = 0 then some ((0 : Int32), r121.2) else ((z_gR r121.2 l0 3 0).bind fun x130 => (z_gu (z_is r121.2 x130 2) ((xX2_addToFormula x130 r100.1 r121.2).bind fun h135 => r92 l0 l1 l2 l3 (l4 + 1) h135))))))))))))
noncomputable def xX3_readLevel_L92 (fL : Nat → Int32 → Int32 → ZH → Option (Int32 × ZH)) (fU : Nat → Int32 → ZH → Option (Int32 × ZH)) (n : Nat) : Nat → Int32 → Int32 → Int32 → Int32 → ZH → Option (Int32 × ZH) := Nat.rec (motive := fun _ => Nat → Int32 → Int32 → Int32 → Int32 → ZH → Option (Int32 × ZH)) (fun _ _ _ _ _ _ => none) (fun _ rec => xX3_readLevel_B92 fL fU  rec) n
set_option maxHeartbeats 4000000 in
set_option maxRecDepth 100000 in
theorem wX3_readLevel_B92 {Γ : ZG} {p : Program} {l : Launch} {e : Env} {s : State} {m : MethodId} {args : Array Value} {below : List Frame} {meth : Method} {c : Code} (hO : z_OK Γ) (G : z_GG Γ p s m args meth c cX3_readLevel 6 RX3) (hr : meth.sig.returnType = (some .boolean)) (hnm : meth.name = "readLevel") {n : Nat} {fL : Nat → Int32 → Int32 → ZH → Option (Int32 × ZH)} {fU : Nat → Int32 → ZH → Option (Int32 × ZH)} (IL : ∀ (l0 : Nat) (l1 l2 : Int32) (h : ZH) (r : Int32 × ZH), fL l0 l1 l2 h = some r → z_M Γ l yX3_readLevel (z_ws1 yX3_readLevel cX3_readLevel 6 (some .boolean)) (rmRD n) [.ref l0, .int l1, .int l2] h (some (.int r.1)) r.2) (IU : ∀ (l0 : Nat) (l1 : Int32) (h : ZH) (r : Int32 × ZH), fU l0 l1 h = some r → z_M Γ l yX3_readUnit (z_ws1 yX3_readUnit cX3_readUnit 2 (some .boolean)) (rmRD n) [.ref l0, .int l1] h (some (.int r.1)) r.2) {r : (Int32 × ZH)} {r92 : Nat → Int32 → Int32 → Int32 → Int32 → ZH → Option (Int32 × ZH)} (H92 : ∀ (l0 : Nat) (l1 : Int32) (l2 : Int32) (l3 : Int32) (l4 : Int32) (h : ZH), r92 l0 l1 l2 l3 l4 h = some r → z_W Γ p l e (rmRD (n + 1)) s m args below meth c 6 0 0 (MQ below (z_Qc Γ (some (.int r.1)) r.2) args s (rmRD (n + 1)).cells (rmRD (n + 1)).slots (z_A Γ)) 92 [(0, .ref l0), (1, .int l1), (2, .int l2), (3, .int l3), (4, .int l4)] [] h) : ∀ (l0 : Nat) (l1 : Int32) (l2 : Int32) (l3 : Int32) (l4 : Int32) (h : ZH), xX3_readLevel_B92 fL fU  r92 l0 l1 l2 l3 l4 h = some r → z_W Γ p l e (rmRD (n + 1)) s m args below meth c 6 0 0 (MQ below (z_Qc Γ (some (.int r.1)) r.2) args s (rmRD (n + 1)).cells (rmRD (n + 1)).slots (z_A Γ)) 92 [(0, .ref l0), (1, .int l1), (2, .int l2), (3, .int l3), (4, .int l4)] [] h := by
  intro l0 l1 l2 l3 l4 h hX
  refine z_iload (pc := 92) G 4 dX3_readLevel_92 rfl ?_
  refine z_iload_n (pc := 94) G 3 dX3_readLevel_94 rfl rfl ?_
  refine z_icmp_ge (pc := 95) (tgt := 144) G dX3_readLevel_95 (by decide) (fun hc95 => ?_) (fun hc95 => ?_)
  · have hX := z_it hc95 hX
    refine z_iconst (pc := 144) (v := 1) G dX3_readLevel_144 (by decide) ?_
    exact z_zretX (pc := 145) hX G hr rfl dX3_readLevel_145 (Nat.le_of_ble_eq_true rfl) (Nat.le_of_ble_eq_true rfl)
  · have hX := z_if hc95 hX
    refine z_aload_n (pc := 98) G 0 dX3_readLevel_98 rfl rfl ?_
    refine z_iload_n (pc := 99) G 1 dX3_readLevel_99 rfl rfl ?_
    obtain ⟨hi100, hX⟩ := z_gu_s hX
    obtain ⟨r100, hv100, hX⟩ := z_bd hX
    refine z_cVI (pc := 100) (As := [.int l1]) (c2 := 0) (s2 := 0) G kK3 (lX3_codeBetween hO hv100) hi100 kt_694 kt_2 kt_691 kt_693 ks_17 ydX3_codeBetween ⟨by show 1 + 1 ≤ 50 + (n + 1); omega, by show 8 + (2 + 11) + 21 ≤ 2000 + 100 * (n + 1); omega⟩ rfl (Nat.le_of_ble_eq_true rfl) ⟨rfl, rfl⟩ ⟨Nat.le_of_ble_eq_true rfl, Nat.le_of_ble_eq_true rfl⟩ rfl dX3_readLevel_100 ?_
    refine z_istore (pc := 103) (lv2 := [(0, .ref l0), (1, .int l1), (2, .int l2), (3, .int l3), (4, .int l4), (5, .int r100.1)]) G dX3_readLevel_103 (by decide) rfl rfl ?_
    refine z_iload (pc := 105) G 5 dX3_readLevel_105 rfl ?_
    refine z_if_ne (pc := 107) (tgt := 112) G dX3_readLevel_107 (by decide) (fun hc107 => ?_) (fun hc107 => ?_)
    · have hX := z_if hc107 hX
      refine z_aload_n (pc := 112) G 0 dX3_readLevel_112 rfl rfl ?_
      obtain ⟨hi113, hX⟩ := z_gu_s hX
      obtain ⟨h113, hv113, hX⟩ := z_bd hX
      refine z_cVV (pc := 113) (As := []) (c2 := 0) (s2 := 0) G kK3 (lX3_advance hO hv113) hi113 kt_512 kt_2 kt_509 kt_511 ks_1 ydX3_advance ⟨by show 5 + 1 ≤ 50 + (n + 1); omega, by show 8 + (1 + 11) + 110 ≤ 2000 + 100 * (n + 1); omega⟩ rfl (Nat.le_of_ble_eq_true rfl) ⟨rfl, rfl⟩ ⟨Nat.le_of_ble_eq_true rfl, Nat.le_of_ble_eq_true rfl⟩ rfl dX3_readLevel_113 ?_
      refine z_aload_n (pc := 116) G 0 dX3_readLevel_116 rfl rfl ?_
      refine z_iload_n (pc := 117) G 1 dX3_readLevel_117 rfl rfl ?_
      refine z_iconst (pc := 118) (v := 1) G dX3_readLevel_118 (by decide) ?_
      refine z_iadd (pc := 119) G dX3_readLevel_119 ?_
      refine z_iload_n (pc := 120) G 2 dX3_readLevel_120 rfl rfl ?_
      obtain ⟨hi121, hX⟩ := z_gu_s hX
      obtain ⟨r121, hv121, hX⟩ := z_bd hX
      refine z_cVI (pc := 121) (As := [.int (l1 + (1 : Int32)), .int l2]) (c2 := 0) (s2 := 0) G kK3 (IL _ _ _ _ _ hv121) hi121 kt_682 kt_2 kt_679 kt_681 ks_15 ydX3_readLevel ⟨Nat.le_refl _, by show 8 + (6 + 11) + (2000 + 100 * n) ≤ 2000 + 100 * (n + 1); omega⟩ rfl (Nat.le_of_ble_eq_true rfl) ⟨rfl, rfl⟩ ⟨Nat.le_of_ble_eq_true rfl, Nat.le_of_ble_eq_true rfl⟩ rfl dX3_readLevel_121 ?_
      refine z_if_ne (pc := 124) (tgt := 129) G dX3_readLevel_124 (by decide) (fun hc124 => ?_) (fun hc124 => ?_)
      · have hX := z_if hc124 hX
        refine z_aload_n (pc := 129) G 0 dX3_readLevel_129 rfl rfl ?_
        obtain ⟨x130, hv130, hX⟩ := z_bd hX
        refine z_getR (pc := 130) G kK3 (k := 0) (by decide) kt_137 dX3_readLevel_130 hv130 ?_
        refine z_iload (pc := 133) G 5 dX3_readLevel_133 rfl ?_
        obtain ⟨hi135, hX⟩ := z_gu_s hX
        obtain ⟨h135, hv135, hX⟩ := z_bd hX
        refine z_cVV (pc := 135) (As := [.int r100.1]) (c2 := 0) (s2 := 0) G kK2 (lX2_addToFormula hO hv135) hi135 kt_690 kt_3 kt_687 kt_688 kt_689 ydX2_addToFormula ⟨by show 0 + 1 ≤ 50 + (n + 1); omega, by show 8 + (2 + 11) + 0 ≤ 2000 + 100 * (n + 1); omega⟩ rfl (Nat.le_of_ble_eq_true rfl) ⟨rfl, rfl⟩ ⟨Nat.le_of_ble_eq_true rfl, Nat.le_of_ble_eq_true rfl⟩ rfl dX3_readLevel_135 ?_
        refine z_iincw (pc := 138) (w := 1) (lv2 := [(0, .ref l0), (1, .int l1), (2, .int l2), (3, .int l3), (4, .int (l4 + 1)), (5, .int r100.1)]) G 4 dX3_readLevel_138 rfl (by decide) (by decide) rfl rfl ?_
        refine z_goto (pc := 141) (tgt := 92) G dX3_readLevel_141 (by decide) ?_
        refine z_drop (lv2 := [(0, .ref l0), (1, .int l1), (2, .int l2), (3, .int l3), (4, .int (l4 + 1))]) [0, 1, 2, 3, 4] rfl ?_
        exact H92 _ _ _ _ _ _ hX
      · have hX := z_it hc124 hX
        refine z_iconst (pc := 127) (v := 0) G dX3_readLevel_127 (by decide) ?_
        exact z_zretX (pc := 128) hX G hr rfl dX3_readLevel_128 (Nat.le_of_ble_eq_true rfl) (Nat.le_of_ble_eq_true rfl)
    · have hX := z_it hc107 hX
      refine z_iconst (pc := 110) (v := 1) G dX3_readLevel_110 (by decide) ?_
      exact z_zretX (pc := 111) hX G hr rfl dX3_readLevel_111 (Nat.le_of_ble_eq_true rfl) (Nat.le_of_ble_eq_true rfl)
set_option maxHeartbeats 4000000 in
set_option maxRecDepth 100000 in
theorem wX3_readLevel_L92 {Γ : ZG} {p : Program} {l : Launch} {e : Env} {s : State} {m : MethodId} {args : Array Value} {below : List Frame} {meth : Method} {c : Code} (hO : z_OK Γ) (G : z_GG Γ p s m args meth c cX3_readLevel 6 RX3) (hr : meth.sig.returnType = (some .boolean)) (hnm : meth.name = "readLevel") {n : Nat} {fL : Nat → Int32 → Int32 → ZH → Option (Int32 × ZH)} {fU : Nat → Int32 → ZH → Option (Int32 × ZH)} (IL : ∀ (l0 : Nat) (l1 l2 : Int32) (h : ZH) (r : Int32 × ZH), fL l0 l1 l2 h = some r → z_M Γ l yX3_readLevel (z_ws1 yX3_readLevel cX3_readLevel 6 (some .boolean)) (rmRD n) [.ref l0, .int l1, .int l2] h (some (.int r.1)) r.2) (IU : ∀ (l0 : Nat) (l1 : Int32) (h : ZH) (r : Int32 × ZH), fU l0 l1 h = some r → z_M Γ l yX3_readUnit (z_ws1 yX3_readUnit cX3_readUnit 2 (some .boolean)) (rmRD n) [.ref l0, .int l1] h (some (.int r.1)) r.2) {r : (Int32 × ZH)} : ∀ (nn : Nat) (l0 : Nat) (l1 : Int32) (l2 : Int32) (l3 : Int32) (l4 : Int32) (h : ZH), xX3_readLevel_L92 fL fU  nn l0 l1 l2 l3 l4 h = some r → z_W Γ p l e (rmRD (n + 1)) s m args below meth c 6 0 0 (MQ below (z_Qc Γ (some (.int r.1)) r.2) args s (rmRD (n + 1)).cells (rmRD (n + 1)).slots (z_A Γ)) 92 [(0, .ref l0), (1, .int l1), (2, .int l2), (3, .int l3), (4, .int l4)] [] h := by
  intro nn
  induction nn with
  | zero => intro l0 l1 l2 l3 l4 h hX; cases hX
  | succ nn ih => intro l0 l1 l2 l3 l4 h hX; exact wX3_readLevel_B92 hO G hr hnm IL IU  ih l0 l1 l2 l3 l4 h hX
noncomputable def xX3_readLevel_B64 (fL : Nat → Int32 → Int32 → ZH → Option (Int32 × ZH)) (fU : Nat → Int32 → ZH → Option (Int32 × ZH)) (l0 : Nat) (l1 : Int32) (l2 : Int32) (h : ZH) : Option (Int32 × ZH) := (z_gu (z_is h l0 3) ((fL l0 (l1 + (1 : Int32)) l2 h).bind fun r69 => (if r69.1 = 0 then some ((0 : Int32), r69.2) else (if l1 = (2 : Int32) then xX3_readLevel_L92 fL fU zFU l0 l1 l2 (1 : Int32) (0 : Int32) r69.2 else xX3_readLevel_L92 fL fU zFU l0 l1 l2 (30 : Int32) (0 : Int32) r69.2))))
set_option maxHeartbeats 4000000 in
set_option maxRecDepth 100000 in
theorem wX3_readLevel_B64 {Γ : ZG} {p : Program} {l : Launch} {e : Env} {s : State} {m : MethodId} {args : Array Value} {below : List Frame} {meth : Method} {c : Code} (hO : z_OK Γ) (G : z_GG Γ p s m args meth c cX3_readLevel 6 RX3) (hr : meth.sig.returnType = (some .boolean)) (hnm : meth.name = "readLevel") {n : Nat} {fL : Nat → Int32 → Int32 → ZH → Option (Int32 × ZH)} {fU : Nat → Int32 → ZH → Option (Int32 × ZH)} (IL : ∀ (l0 : Nat) (l1 l2 : Int32) (h : ZH) (r : Int32 × ZH), fL l0 l1 l2 h = some r → z_M Γ l yX3_readLevel (z_ws1 yX3_readLevel cX3_readLevel 6 (some .boolean)) (rmRD n) [.ref l0, .int l1, .int l2] h (some (.int r.1)) r.2) (IU : ∀ (l0 : Nat) (l1 : Int32) (h : ZH) (r : Int32 × ZH), fU l0 l1 h = some r → z_M Γ l yX3_readUnit (z_ws1 yX3_readUnit cX3_readUnit 2 (some .boolean)) (rmRD n) [.ref l0, .int l1] h (some (.int r.1)) r.2) {r : (Int32 × ZH)} : ∀ (l0 : Nat) (l1 : Int32) (l2 : Int32) (h : ZH), xX3_readLevel_B64 fL fU  l0 l1 l2 h = some r → z_W Γ p l e (rmRD (n + 1)) s m args below meth c 6 0 0 (MQ below (z_Qc Γ (some (.int r.1)) r.2) args s (rmRD (n + 1)).cells (rmRD (n + 1)).slots (z_A Γ)) 64 [(0, .ref l0), (1, .int l1), (2, .int l2)] [] h := by
  intro l0 l1 l2 h hX
  refine z_aload_n (pc := 64) G 0 dX3_readLevel_64 rfl rfl ?_
  refine z_iload_n (pc := 65) G 1 dX3_readLevel_65 rfl rfl ?_
  refine z_iconst (pc := 66) (v := 1) G dX3_readLevel_66 (by decide) ?_
  refine z_iadd (pc := 67) G dX3_readLevel_67 ?_
  refine z_iload_n (pc := 68) G 2 dX3_readLevel_68 rfl rfl ?_
  obtain ⟨hi69, hX⟩ := z_gu_s hX
  obtain ⟨r69, hv69, hX⟩ := z_bd hX
  refine z_cVI (pc := 69) (As := [.int (l1 + (1 : Int32)), .int l2]) (c2 := 0) (s2 := 0) G kK3 (IL _ _ _ _ _ hv69) hi69 kt_682 kt_2 kt_679 kt_681 ks_15 ydX3_readLevel ⟨Nat.le_refl _, by show 8 + (6 + 11) + (2000 + 100 * n) ≤ 2000 + 100 * (n + 1); omega⟩ rfl (Nat.le_of_ble_eq_true rfl) ⟨rfl, rfl⟩ ⟨Nat.le_of_ble_eq_true rfl, Nat.le_of_ble_eq_true rfl⟩ rfl dX3_readLevel_69 ?_
  refine z_if_ne (pc := 72) (tgt := 77) G dX3_readLevel_72 (by decide) (fun hc72 => ?_) (fun hc72 => ?_)
  · have hX := z_if hc72 hX
    refine z_iload_n (pc := 77) G 1 dX3_readLevel_77 rfl rfl ?_
    refine z_iconst (pc := 78) (v := 2) G dX3_readLevel_78 (by decide) ?_
    refine z_icmp_ne (pc := 79) (tgt := 86) G dX3_readLevel_79 (by decide) (fun hc79 => ?_) (fun hc79 => ?_)
    · have hX := z_if hc79 hX
      refine z_bipush (pc := 86) (v := 30) G dX3_readLevel_86 (by decide) ?_
      refine z_istore_n (pc := 88) (lv2 := [(0, .ref l0), (1, .int l1), (2, .int l2), (3, .int (30 : Int32))]) G dX3_readLevel_88 rfl (by decide) rfl rfl ?_
      refine z_iconst (pc := 89) (v := 0) G dX3_readLevel_89 (by decide) ?_
      refine z_istore (pc := 90) (lv2 := [(0, .ref l0), (1, .int l1), (2, .int l2), (3, .int (30 : Int32)), (4, .int (0 : Int32))]) G dX3_readLevel_90 (by decide) rfl rfl ?_
      exact wX3_readLevel_L92 hO G hr hnm IL IU zFU _ _ _ _ _ _ hX
    · have hX := z_it hc79 hX
      refine z_iconst (pc := 82) (v := 1) G dX3_readLevel_82 (by decide) ?_
      refine z_goto (pc := 83) (tgt := 88) G dX3_readLevel_83 (by decide) ?_
      refine z_istore_n (pc := 88) (lv2 := [(0, .ref l0), (1, .int l1), (2, .int l2), (3, .int (1 : Int32))]) G dX3_readLevel_88 rfl (by decide) rfl rfl ?_
      refine z_iconst (pc := 89) (v := 0) G dX3_readLevel_89 (by decide) ?_
      refine z_istore (pc := 90) (lv2 := [(0, .ref l0), (1, .int l1), (2, .int l2), (3, .int (1 : Int32)), (4, .int (0 : Int32))]) G dX3_readLevel_90 (by decide) rfl rfl ?_
      exact wX3_readLevel_L92 hO G hr hnm IL IU zFU _ _ _ _ _ _ hX
  · have hX := z_it hc72 hX
    refine z_iconst (pc := 75) (v := 0) G dX3_readLevel_75 (by decide) ?_
    exact z_zretX (pc := 76) hX G hr rfl dX3_readLevel_76 (Nat.le_of_ble_eq_true rfl) (Nat.le_of_ble_eq_true rfl)
noncomputable def xX3_readLevel_b (fL : Nat → Int32 → Int32 → ZH → Option (Int32 × ZH)) (fU : Nat → Int32 → ZH → Option (Int32 × ZH)) (l0 : Nat) (l1 : Int32) (l2 : Int32) (h : ZH) : Option (Int32 × ZH) := (if l1 ≤ (4 : Int32) then (if l1 = (2 : Int32) then (z_gu (z_is h l0 3) ((xX3_isWord l0 (14 : Int32) h).bind fun r19 => (if r19.1 = 0 then xX3_readLevel_B64 fL fU l0 l1 l2 r19.2 else (if l2 ≤ (6 : Int32) then (z_gu (z_is r19.2 l0 3) ((xX3_advance l0 r19.2).bind fun h37 => (z_gu (z_is h37 l0 3) ((fL l0 (2 : Int32) (l2 + (1 : Int32)) h37).bind fun r45 => (if r45.1 = 0 then some ((0 : Int32), r45.2) else ((z_gR r45.2 l0 3 0).bind fun x54 => (z_gu (z_is r45.2 x54 2) ((xX2_addToFormula x54 (-3 : Int32) r45.2).bind fun h59 => some ((1 : Int32), h59))))))))) else (z_gu (z_is r19.2 l0 3) ((xX3_refuse l0 r19.2).bind fun r32 => z_zr r32.1 r32.2)))))) else xX3_readLevel_B64 fL fU l0 l1 l2 h) else (z_gu (z_is h l0 3) ((fU l0 l2 h).bind fun r7 => z_zr r7.1 r7.2)))
set_option maxHeartbeats 4000000 in
set_option maxRecDepth 100000 in
theorem lX3_readLevel_b {Γ : ZG} {l : Launch} (hO : z_OK Γ) {n : Nat} {fL : Nat → Int32 → Int32 → ZH → Option (Int32 × ZH)} {fU : Nat → Int32 → ZH → Option (Int32 × ZH)} (IL : ∀ (l0 : Nat) (l1 l2 : Int32) (h : ZH) (r : Int32 × ZH), fL l0 l1 l2 h = some r → z_M Γ l yX3_readLevel (z_ws1 yX3_readLevel cX3_readLevel 6 (some .boolean)) (rmRD n) [.ref l0, .int l1, .int l2] h (some (.int r.1)) r.2) (IU : ∀ (l0 : Nat) (l1 : Int32) (h : ZH) (r : Int32 × ZH), fU l0 l1 h = some r → z_M Γ l yX3_readUnit (z_ws1 yX3_readUnit cX3_readUnit 2 (some .boolean)) (rmRD n) [.ref l0, .int l1] h (some (.int r.1)) r.2) {l0 : Nat} {l1 : Int32} {l2 : Int32} {h : ZH} {r : (Int32 × ZH)} (hX : xX3_readLevel_b fL fU l0 l1 l2 h = some r) : z_M Γ l yX3_readLevel (z_ws1 yX3_readLevel cX3_readLevel 6 (some .boolean)) (rmRD (n + 1)) [.ref l0, .int l1, .int l2] h (some (.int r.1)) r.2 := by
  refine z_start hO (plainFor_of_name (by decide)) (Nat.le_of_ble_eq_true rfl) ?_
  intro p e s m args below meth c G hr hnm
  refine z_lvc (lv2 := [(0, .ref l0), (1, .int l1), (2, .int l2)]) rfl ?_
  refine z_iload_n (pc := 0) G 1 dX3_readLevel_0 rfl rfl ?_
  refine z_iconst (pc := 1) (v := 4) G dX3_readLevel_1 (by decide) ?_
  refine z_icmp_le (pc := 2) (tgt := 11) G dX3_readLevel_2 (by decide) (fun hc2 => ?_) (fun hc2 => ?_)
  · have hX := z_it hc2 hX
    refine z_iload_n (pc := 11) G 1 dX3_readLevel_11 rfl rfl ?_
    refine z_iconst (pc := 12) (v := 2) G dX3_readLevel_12 (by decide) ?_
    refine z_icmp_ne (pc := 13) (tgt := 64) G dX3_readLevel_13 (by decide) (fun hc13 => ?_) (fun hc13 => ?_)
    · have hX := z_if hc13 hX
      exact wX3_readLevel_B64 hO G hr hnm IL IU _ _ _ _ hX
    · have hX := z_it hc13 hX
      refine z_aload_n (pc := 16) G 0 dX3_readLevel_16 rfl rfl ?_
      refine z_bipush (pc := 17) (v := 14) G dX3_readLevel_17 (by decide) ?_
      obtain ⟨hi19, hX⟩ := z_gu_s hX
      obtain ⟨r19, hv19, hX⟩ := z_bd hX
      refine z_cVI (pc := 19) (As := [.int (14 : Int32)]) (c2 := 0) (s2 := 0) G kK3 (lX3_isWord hO hv19) hi19 kt_666 kt_2 kt_663 kt_665 ks_11 ydX3_isWord ⟨by show 0 + 1 ≤ 50 + (n + 1); omega, by show 8 + (2 + 11) + 0 ≤ 2000 + 100 * (n + 1); omega⟩ rfl (Nat.le_of_ble_eq_true rfl) ⟨rfl, rfl⟩ ⟨Nat.le_of_ble_eq_true rfl, Nat.le_of_ble_eq_true rfl⟩ rfl dX3_readLevel_19 ?_
      refine z_if_eq (pc := 22) (tgt := 64) G dX3_readLevel_22 (by decide) (fun hc22 => ?_) (fun hc22 => ?_)
      · have hX := z_it hc22 hX
        exact wX3_readLevel_B64 hO G hr hnm IL IU _ _ _ _ hX
      · have hX := z_if hc22 hX
        refine z_iload_n (pc := 25) G 2 dX3_readLevel_25 rfl rfl ?_
        refine z_bipush (pc := 26) (v := 6) G dX3_readLevel_26 (by decide) ?_
        refine z_icmp_le (pc := 28) (tgt := 36) G dX3_readLevel_28 (by decide) (fun hc28 => ?_) (fun hc28 => ?_)
        · have hX := z_it hc28 hX
          refine z_aload_n (pc := 36) G 0 dX3_readLevel_36 rfl rfl ?_
          obtain ⟨hi37, hX⟩ := z_gu_s hX
          obtain ⟨h37, hv37, hX⟩ := z_bd hX
          refine z_cVV (pc := 37) (As := []) (c2 := 0) (s2 := 0) G kK3 (lX3_advance hO hv37) hi37 kt_512 kt_2 kt_509 kt_511 ks_1 ydX3_advance ⟨by show 5 + 1 ≤ 50 + (n + 1); omega, by show 8 + (1 + 11) + 110 ≤ 2000 + 100 * (n + 1); omega⟩ rfl (Nat.le_of_ble_eq_true rfl) ⟨rfl, rfl⟩ ⟨Nat.le_of_ble_eq_true rfl, Nat.le_of_ble_eq_true rfl⟩ rfl dX3_readLevel_37 ?_
          refine z_aload_n (pc := 40) G 0 dX3_readLevel_40 rfl rfl ?_
          refine z_iconst (pc := 41) (v := 2) G dX3_readLevel_41 (by decide) ?_
          refine z_iload_n (pc := 42) G 2 dX3_readLevel_42 rfl rfl ?_
          refine z_iconst (pc := 43) (v := 1) G dX3_readLevel_43 (by decide) ?_
          refine z_iadd (pc := 44) G dX3_readLevel_44 ?_
          obtain ⟨hi45, hX⟩ := z_gu_s hX
          obtain ⟨r45, hv45, hX⟩ := z_bd hX
          refine z_cVI (pc := 45) (As := [.int (2 : Int32), .int (l2 + (1 : Int32))]) (c2 := 0) (s2 := 0) G kK3 (IL _ _ _ _ _ hv45) hi45 kt_682 kt_2 kt_679 kt_681 ks_15 ydX3_readLevel ⟨Nat.le_refl _, by show 8 + (6 + 11) + (2000 + 100 * n) ≤ 2000 + 100 * (n + 1); omega⟩ rfl (Nat.le_of_ble_eq_true rfl) ⟨rfl, rfl⟩ ⟨Nat.le_of_ble_eq_true rfl, Nat.le_of_ble_eq_true rfl⟩ rfl dX3_readLevel_45 ?_
          refine z_if_ne (pc := 48) (tgt := 53) G dX3_readLevel_48 (by decide) (fun hc48 => ?_) (fun hc48 => ?_)
          · have hX := z_if hc48 hX
            refine z_aload_n (pc := 53) G 0 dX3_readLevel_53 rfl rfl ?_
            obtain ⟨x54, hv54, hX⟩ := z_bd hX
            refine z_getR (pc := 54) G kK3 (k := 0) (by decide) kt_137 dX3_readLevel_54 hv54 ?_
            refine z_bipush (pc := 57) (v := (-3)) G dX3_readLevel_57 (by decide) ?_
            obtain ⟨hi59, hX⟩ := z_gu_s hX
            obtain ⟨h59, hv59, hX⟩ := z_bd hX
            refine z_cVV (pc := 59) (As := [.int (-3 : Int32)]) (c2 := 0) (s2 := 0) G kK2 (lX2_addToFormula hO hv59) hi59 kt_690 kt_3 kt_687 kt_688 kt_689 ydX2_addToFormula ⟨by show 0 + 1 ≤ 50 + (n + 1); omega, by show 8 + (2 + 11) + 0 ≤ 2000 + 100 * (n + 1); omega⟩ rfl (Nat.le_of_ble_eq_true rfl) ⟨rfl, rfl⟩ ⟨Nat.le_of_ble_eq_true rfl, Nat.le_of_ble_eq_true rfl⟩ rfl dX3_readLevel_59 ?_
            refine z_iconst (pc := 62) (v := 1) G dX3_readLevel_62 (by decide) ?_
            exact z_zretX (pc := 63) hX G hr rfl dX3_readLevel_63 (Nat.le_of_ble_eq_true rfl) (Nat.le_of_ble_eq_true rfl)
          · have hX := z_it hc48 hX
            refine z_iconst (pc := 51) (v := 0) G dX3_readLevel_51 (by decide) ?_
            exact z_zretX (pc := 52) hX G hr rfl dX3_readLevel_52 (Nat.le_of_ble_eq_true rfl) (Nat.le_of_ble_eq_true rfl)
        · have hX := z_if hc28 hX
          refine z_aload_n (pc := 31) G 0 dX3_readLevel_31 rfl rfl ?_
          obtain ⟨hi32, hX⟩ := z_gu_s hX
          obtain ⟨r32, hv32, hX⟩ := z_bd hX
          refine z_cVI (pc := 32) (As := []) (c2 := 0) (s2 := 0) G kK3 (lX3_refuse hO hv32) hi32 kt_642 kt_2 kt_639 kt_641 ks_5 ydX3_refuse ⟨by show 1 + 1 ≤ 50 + (n + 1); omega, by show 8 + (1 + 11) + 21 ≤ 2000 + 100 * (n + 1); omega⟩ rfl (Nat.le_of_ble_eq_true rfl) ⟨rfl, rfl⟩ ⟨Nat.le_of_ble_eq_true rfl, Nat.le_of_ble_eq_true rfl⟩ rfl dX3_readLevel_32 ?_
          exact z_zretY (pc := 35) hX G hr dX3_readLevel_35 (Nat.le_of_ble_eq_true rfl) (Nat.le_of_ble_eq_true rfl)
  · have hX := z_if hc2 hX
    refine z_aload_n (pc := 5) G 0 dX3_readLevel_5 rfl rfl ?_
    refine z_iload_n (pc := 6) G 2 dX3_readLevel_6 rfl rfl ?_
    obtain ⟨hi7, hX⟩ := z_gu_s hX
    obtain ⟨r7, hv7, hX⟩ := z_bd hX
    refine z_cVI (pc := 7) (As := [.int l2]) (c2 := 0) (s2 := 0) G kK3 (IU _ _ _ _ hv7) hi7 kt_686 kt_2 kt_683 kt_685 ks_16 ydX3_readUnit ⟨Nat.le_refl _, by show 8 + (2 + 11) + (2000 + 100 * n) ≤ 2000 + 100 * (n + 1); omega⟩ rfl (Nat.le_of_ble_eq_true rfl) ⟨rfl, rfl⟩ ⟨Nat.le_of_ble_eq_true rfl, Nat.le_of_ble_eq_true rfl⟩ rfl dX3_readLevel_7 ?_
    exact z_zretY (pc := 10) hX G hr dX3_readLevel_10 (Nat.le_of_ble_eq_true rfl) (Nat.le_of_ble_eq_true rfl)
theorem dX3_readUnit_0 : decode cX3_readUnit 0 = .ok (.aload_n 0, 1) := by decide +kernel
theorem dX3_readUnit_1 : decode cX3_readUnit 1 = .ok (.getfield 12, 3) := by decide +kernel
theorem dX3_readUnit_4 : decode cX3_readUnit 4 = .ok (.getfield 169, 3) := by decide +kernel
theorem dX3_readUnit_7 : decode cX3_readUnit 7 = .ok (.bipush 30, 2) := by decide +kernel
theorem dX3_readUnit_9 : decode cX3_readUnit 9 = .ok (.if_icmp .lt 8, 3) := by decide +kernel
theorem dX3_readUnit_12 : decode cX3_readUnit 12 = .ok (.aload_n 0, 1) := by decide +kernel
theorem dX3_readUnit_13 : decode cX3_readUnit 13 = .ok (.invokevirtual 70, 3) := by decide +kernel
theorem dX3_readUnit_16 : decode cX3_readUnit 16 = .ok (.ireturn, 1) := by decide +kernel
theorem dX3_readUnit_17 : decode cX3_readUnit 17 = .ok (.aload_n 0, 1) := by decide +kernel
theorem dX3_readUnit_18 : decode cX3_readUnit 18 = .ok (.bipush 40, 2) := by decide +kernel
theorem dX3_readUnit_20 : decode cX3_readUnit 20 = .ok (.invokevirtual 172, 3) := by decide +kernel
theorem dX3_readUnit_23 : decode cX3_readUnit 23 = .ok (.ifCond .eq 64, 3) := by decide +kernel
theorem dX3_readUnit_26 : decode cX3_readUnit 26 = .ok (.iload_n 1, 1) := by decide +kernel
theorem dX3_readUnit_27 : decode cX3_readUnit 27 = .ok (.bipush 6, 2) := by decide +kernel
theorem dX3_readUnit_29 : decode cX3_readUnit 29 = .ok (.if_icmp .le 8, 3) := by decide +kernel
theorem dX3_readUnit_32 : decode cX3_readUnit 32 = .ok (.aload_n 0, 1) := by decide +kernel
theorem dX3_readUnit_33 : decode cX3_readUnit 33 = .ok (.invokevirtual 70, 3) := by decide +kernel
theorem dX3_readUnit_36 : decode cX3_readUnit 36 = .ok (.ireturn, 1) := by decide +kernel
theorem dX3_readUnit_37 : decode cX3_readUnit 37 = .ok (.aload_n 0, 1) := by decide +kernel
theorem dX3_readUnit_38 : decode cX3_readUnit 38 = .ok (.getfield 12, 3) := by decide +kernel
theorem dX3_readUnit_41 : decode cX3_readUnit 41 = .ok (.dup, 1) := by decide +kernel
theorem dX3_readUnit_42 : decode cX3_readUnit 42 = .ok (.getfield 169, 3) := by decide +kernel
theorem dX3_readUnit_45 : decode cX3_readUnit 45 = .ok (.iconst 1, 1) := by decide +kernel
theorem dX3_readUnit_46 : decode cX3_readUnit 46 = .ok (.iadd, 1) := by decide +kernel
theorem dX3_readUnit_47 : decode cX3_readUnit 47 = .ok (.putfield 169, 3) := by decide +kernel
theorem dX3_readUnit_50 : decode cX3_readUnit 50 = .ok (.aload_n 0, 1) := by decide +kernel
theorem dX3_readUnit_51 : decode cX3_readUnit 51 = .ok (.invokevirtual 57, 3) := by decide +kernel
theorem dX3_readUnit_54 : decode cX3_readUnit 54 = .ok (.aload_n 0, 1) := by decide +kernel
theorem dX3_readUnit_55 : decode cX3_readUnit 55 = .ok (.iconst 0, 1) := by decide +kernel
theorem dX3_readUnit_56 : decode cX3_readUnit 56 = .ok (.iload_n 1, 1) := by decide +kernel
theorem dX3_readUnit_57 : decode cX3_readUnit 57 = .ok (.iconst 1, 1) := by decide +kernel
theorem dX3_readUnit_58 : decode cX3_readUnit 58 = .ok (.iadd, 1) := by decide +kernel
theorem dX3_readUnit_59 : decode cX3_readUnit 59 = .ok (.invokevirtual 83, 3) := by decide +kernel
theorem dX3_readUnit_62 : decode cX3_readUnit 62 = .ok (.ifCond .ne 5, 3) := by decide +kernel
theorem dX3_readUnit_65 : decode cX3_readUnit 65 = .ok (.iconst 0, 1) := by decide +kernel
theorem dX3_readUnit_66 : decode cX3_readUnit 66 = .ok (.ireturn, 1) := by decide +kernel
theorem dX3_readUnit_67 : decode cX3_readUnit 67 = .ok (.aload_n 0, 1) := by decide +kernel
theorem dX3_readUnit_68 : decode cX3_readUnit 68 = .ok (.bipush 41, 2) := by decide +kernel
theorem dX3_readUnit_70 : decode cX3_readUnit 70 = .ok (.invokevirtual 172, 3) := by decide +kernel
theorem dX3_readUnit_73 : decode cX3_readUnit 73 = .ok (.ifCond .ne 8, 3) := by decide +kernel
theorem dX3_readUnit_76 : decode cX3_readUnit 76 = .ok (.aload_n 0, 1) := by decide +kernel
theorem dX3_readUnit_77 : decode cX3_readUnit 77 = .ok (.invokevirtual 70, 3) := by decide +kernel
theorem dX3_readUnit_80 : decode cX3_readUnit 80 = .ok (.ireturn, 1) := by decide +kernel
theorem dX3_readUnit_81 : decode cX3_readUnit 81 = .ok (.aload_n 0, 1) := by decide +kernel
theorem dX3_readUnit_82 : decode cX3_readUnit 82 = .ok (.invokevirtual 57, 3) := by decide +kernel
theorem dX3_readUnit_85 : decode cX3_readUnit 85 = .ok (.iconst 1, 1) := by decide +kernel
theorem dX3_readUnit_86 : decode cX3_readUnit 86 = .ok (.ireturn, 1) := by decide +kernel
theorem dX3_readUnit_87 : decode cX3_readUnit 87 = .ok (.aload_n 0, 1) := by decide +kernel
theorem dX3_readUnit_88 : decode cX3_readUnit 88 = .ok (.getfield 60, 3) := by decide +kernel
theorem dX3_readUnit_91 : decode cX3_readUnit 91 = .ok (.iconst 2, 1) := by decide +kernel
theorem dX3_readUnit_92 : decode cX3_readUnit 92 = .ok (.if_icmp .ne 17, 3) := by decide +kernel
theorem dX3_readUnit_95 : decode cX3_readUnit 95 = .ok (.aload_n 0, 1) := by decide +kernel
theorem dX3_readUnit_96 : decode cX3_readUnit 96 = .ok (.getfield 12, 3) := by decide +kernel
theorem dX3_readUnit_99 : decode cX3_readUnit 99 = .ok (.aload_n 0, 1) := by decide +kernel
theorem dX3_readUnit_100 : decode cX3_readUnit 100 = .ok (.getfield 67, 3) := by decide +kernel
theorem dX3_readUnit_103 : decode cX3_readUnit 103 = .ok (.invokevirtual 161, 3) := by decide +kernel
theorem dX3_readUnit_106 : decode cX3_readUnit 106 = .ok (.goto 54, 3) := by decide +kernel
theorem dX3_readUnit_109 : decode cX3_readUnit 109 = .ok (.aload_n 0, 1) := by decide +kernel
theorem dX3_readUnit_110 : decode cX3_readUnit 110 = .ok (.getfield 60, 3) := by decide +kernel
theorem dX3_readUnit_113 : decode cX3_readUnit 113 = .ok (.iconst 1, 1) := by decide +kernel
theorem dX3_readUnit_114 : decode cX3_readUnit 114 = .ok (.if_icmp .ne 41, 3) := by decide +kernel
theorem dX3_readUnit_117 : decode cX3_readUnit 117 = .ok (.aload_n 0, 1) := by decide +kernel
theorem dX3_readUnit_118 : decode cX3_readUnit 118 = .ok (.getfield 67, 3) := by decide +kernel
theorem dX3_readUnit_121 : decode cX3_readUnit 121 = .ok (.bipush 15, 2) := by decide +kernel
theorem dX3_readUnit_123 : decode cX3_readUnit 123 = .ok (.if_icmp .lt 32, 3) := by decide +kernel
theorem dX3_readUnit_126 : decode cX3_readUnit 126 = .ok (.aload_n 0, 1) := by decide +kernel
theorem dX3_readUnit_127 : decode cX3_readUnit 127 = .ok (.getfield 67, 3) := by decide +kernel
theorem dX3_readUnit_130 : decode cX3_readUnit 130 = .ok (.bipush 18, 2) := by decide +kernel
theorem dX3_readUnit_132 : decode cX3_readUnit 132 = .ok (.if_icmp .gt 23, 3) := by decide +kernel
theorem dX3_readUnit_135 : decode cX3_readUnit 135 = .ok (.aload_n 0, 1) := by decide +kernel
theorem dX3_readUnit_136 : decode cX3_readUnit 136 = .ok (.getfield 12, 3) := by decide +kernel
theorem dX3_readUnit_139 : decode cX3_readUnit 139 = .ok (.bipush (-12), 2) := by decide +kernel
theorem dX3_readUnit_141 : decode cX3_readUnit 141 = .ok (.aload_n 0, 1) := by decide +kernel
theorem dX3_readUnit_142 : decode cX3_readUnit 142 = .ok (.getfield 67, 3) := by decide +kernel
theorem dX3_readUnit_145 : decode cX3_readUnit 145 = .ok (.bipush 15, 2) := by decide +kernel
theorem dX3_readUnit_147 : decode cX3_readUnit 147 = .ok (.isub, 1) := by decide +kernel
theorem dX3_readUnit_148 : decode cX3_readUnit 148 = .ok (.isub, 1) := by decide +kernel
theorem dX3_readUnit_149 : decode cX3_readUnit 149 = .ok (.invokevirtual 161, 3) := by decide +kernel
theorem dX3_readUnit_152 : decode cX3_readUnit 152 = .ok (.goto 8, 3) := by decide +kernel
theorem dX3_readUnit_155 : decode cX3_readUnit 155 = .ok (.aload_n 0, 1) := by decide +kernel
theorem dX3_readUnit_156 : decode cX3_readUnit 156 = .ok (.invokevirtual 70, 3) := by decide +kernel
theorem dX3_readUnit_159 : decode cX3_readUnit 159 = .ok (.ireturn, 1) := by decide +kernel
theorem dX3_readUnit_160 : decode cX3_readUnit 160 = .ok (.aload_n 0, 1) := by decide +kernel
theorem dX3_readUnit_161 : decode cX3_readUnit 161 = .ok (.getfield 12, 3) := by decide +kernel
theorem dX3_readUnit_164 : decode cX3_readUnit 164 = .ok (.dup, 1) := by decide +kernel
theorem dX3_readUnit_165 : decode cX3_readUnit 165 = .ok (.getfield 169, 3) := by decide +kernel
theorem dX3_readUnit_168 : decode cX3_readUnit 168 = .ok (.iconst 1, 1) := by decide +kernel
theorem dX3_readUnit_169 : decode cX3_readUnit 169 = .ok (.iadd, 1) := by decide +kernel
theorem dX3_readUnit_170 : decode cX3_readUnit 170 = .ok (.putfield 169, 3) := by decide +kernel
theorem dX3_readUnit_173 : decode cX3_readUnit 173 = .ok (.aload_n 0, 1) := by decide +kernel
theorem dX3_readUnit_174 : decode cX3_readUnit 174 = .ok (.invokevirtual 57, 3) := by decide +kernel
theorem dX3_readUnit_177 : decode cX3_readUnit 177 = .ok (.iconst 1, 1) := by decide +kernel
theorem dX3_readUnit_178 : decode cX3_readUnit 178 = .ok (.ireturn, 1) := by decide +kernel
noncomputable def xX3_readUnit_B160 (fL : Nat → Int32 → Int32 → ZH → Option (Int32 × ZH)) (fU : Nat → Int32 → ZH → Option (Int32 × ZH)) (l0 : Nat) (h : ZH) : Option (Int32 × ZH) := ((z_gR h l0 3 0).bind fun x161 => ((z_gI h x161 2 8).bind fun x165 => ((z_sF h x161 2 8 (.int (x165 + (1 : Int32)))).bind fun h170 => (z_gu (z_is h170 l0 3) ((xX3_advance l0 h170).bind fun h174 => some ((1 : Int32), h174))))))
set_option maxHeartbeats 4000000 in
set_option maxRecDepth 100000 in
theorem wX3_readUnit_B160 {Γ : ZG} {p : Program} {l : Launch} {e : Env} {s : State} {m : MethodId} {args : Array Value} {below : List Frame} {meth : Method} {c : Code} (hO : z_OK Γ) (G : z_GG Γ p s m args meth c cX3_readUnit 2 RX3) (hr : meth.sig.returnType = (some .boolean)) (hnm : meth.name = "readUnit") {n : Nat} {fL : Nat → Int32 → Int32 → ZH → Option (Int32 × ZH)} {fU : Nat → Int32 → ZH → Option (Int32 × ZH)} (IL : ∀ (l0 : Nat) (l1 l2 : Int32) (h : ZH) (r : Int32 × ZH), fL l0 l1 l2 h = some r → z_M Γ l yX3_readLevel (z_ws1 yX3_readLevel cX3_readLevel 6 (some .boolean)) (rmRD n) [.ref l0, .int l1, .int l2] h (some (.int r.1)) r.2) (IU : ∀ (l0 : Nat) (l1 : Int32) (h : ZH) (r : Int32 × ZH), fU l0 l1 h = some r → z_M Γ l yX3_readUnit (z_ws1 yX3_readUnit cX3_readUnit 2 (some .boolean)) (rmRD n) [.ref l0, .int l1] h (some (.int r.1)) r.2) {r : (Int32 × ZH)} : ∀ (l0 : Nat) (h : ZH), xX3_readUnit_B160 fL fU  l0 h = some r → z_W Γ p l e (rmRD (n + 1)) s m args below meth c 2 0 0 (MQ below (z_Qc Γ (some (.int r.1)) r.2) args s (rmRD (n + 1)).cells (rmRD (n + 1)).slots (z_A Γ)) 160 [(0, .ref l0)] [] h := by
  intro l0 h hX
  refine z_aload_n (pc := 160) G 0 dX3_readUnit_160 rfl rfl ?_
  obtain ⟨x161, hv161, hX⟩ := z_bd hX
  refine z_getR (pc := 161) G kK3 (k := 0) (by decide) kt_137 dX3_readUnit_161 hv161 ?_
  refine z_dup (pc := 164) G dX3_readUnit_164 rfl ?_
  obtain ⟨x165, hv165, hX⟩ := z_bd hX
  refine z_getI (pc := 165) G kK2 (k := 8) (by decide) kt_74 dX3_readUnit_165 hv165 ?_
  refine z_iconst (pc := 168) (v := 1) G dX3_readUnit_168 (by decide) ?_
  refine z_iadd (pc := 169) G dX3_readUnit_169 ?_
  obtain ⟨h170, hv170, hX⟩ := z_bd hX
  refine z_putF (pc := 170) G kK2 (k := 8) (by decide) kt_74 (Or.inl rfl) rfl rfl dX3_readUnit_170 hv170 ?_
  refine z_aload_n (pc := 173) G 0 dX3_readUnit_173 rfl rfl ?_
  obtain ⟨hi174, hX⟩ := z_gu_s hX
  obtain ⟨h174, hv174, hX⟩ := z_bd hX
  refine z_cVV (pc := 174) (As := []) (c2 := 0) (s2 := 0) G kK3 (lX3_advance hO hv174) hi174 kt_512 kt_2 kt_509 kt_511 ks_1 ydX3_advance ⟨by show 5 + 1 ≤ 50 + (n + 1); omega, by show 8 + (1 + 11) + 110 ≤ 2000 + 100 * (n + 1); omega⟩ rfl (Nat.le_of_ble_eq_true rfl) ⟨rfl, rfl⟩ ⟨Nat.le_of_ble_eq_true rfl, Nat.le_of_ble_eq_true rfl⟩ rfl dX3_readUnit_174 ?_
  refine z_iconst (pc := 177) (v := 1) G dX3_readUnit_177 (by decide) ?_
  exact z_zretX (pc := 178) hX G hr rfl dX3_readUnit_178 (Nat.le_of_ble_eq_true rfl) (Nat.le_of_ble_eq_true rfl)
noncomputable def xX3_readUnit_b (fL : Nat → Int32 → Int32 → ZH → Option (Int32 × ZH)) (fU : Nat → Int32 → ZH → Option (Int32 × ZH)) (l0 : Nat) (l1 : Int32) (h : ZH) : Option (Int32 × ZH) := ((z_gR h l0 3 0).bind fun x1 => ((z_gI h x1 2 8).bind fun x4 => (if x4 < (30 : Int32) then (z_gu (z_is h l0 3) ((xX3_isSign l0 (40 : Int32) h).bind fun r20 => (if r20.1 = 0 then ((z_gI r20.2 l0 3 7).bind fun x88 => (if x88 = (2 : Int32) then ((z_gR r20.2 l0 3 0).bind fun x96 => ((z_gI r20.2 l0 3 8).bind fun x100 => (z_gu (z_is r20.2 x96 2) ((xX2_addToFormula x96 x100 r20.2).bind fun h103 => xX3_readUnit_B160 fL fU l0 h103)))) else ((z_gI r20.2 l0 3 7).bind fun x110 => (if x110 = (1 : Int32) then ((z_gI r20.2 l0 3 8).bind fun x118 => (if x118 < (15 : Int32) then (z_gu (z_is r20.2 l0 3) ((xX3_refuse l0 r20.2).bind fun r156 => z_zr r156.1 r156.2)) else ((z_gI r20.2 l0 3 8).bind fun x127 => (if (18 : Int32) < x127 then (z_gu (z_is r20.2 l0 3) ((xX3_refuse l0 r20.2).bind fun r156 => z_zr r156.1 r156.2)) else ((z_gR r20.2 l0 3 0).bind fun x136 => ((z_gI r20.2 l0 3 8).bind fun x142 => (z_gu (z_is r20.2 x136 2) ((xX2_addToFormula x136 ((-12 : Int32) - (x142 - (15 : Int32))) r20.2).bind fun h149 => xX3_readUnit_B160 fL fU l0 h149)))))))) else (z_gu (z_is r20.2 l0 3) ((xX3_refuse l0 r20.2).bind fun r156 => z_zr r156.1 r156.2)))))) else (if l1 ≤ (6 : Int32) then ((z_gR r20.2 l0 3 0).bind fun x38 => ((z_gI r20.2 x38 2 8).bind fun x42 => ((z_sF r20.2 x38 2 8 (.int (x42 + (1 : Int32)))).bind fun h47 => (z_gu (z_is h47 l0 3) ((xX3_advance l0 h47).bind fun h51 => (z_gu (z_is h51 l0 3) ((fL l0 (0 : Int32) (l1 + (1 : Int32)) h51).bind fun r59 => (if r59.1 = 0 then some ((0 : Int32), r59.2) else (z_gu (z_is r59.2 l0 3) ((xX3_isSign l0 (41 : Int32) r59.2).bind fun r70 => (if r70.1 = 0 then (z_gu (z_is r70.2 l0 3) ((xX3_refuse l0 r70.2).bind fun r77 => z_zr r77.1 r77.2)) else (z_gu (z_is r70.2 l0 3) ((xX3_advance l0 r70.2).bind fun h82 => some ((1 : Int32), h82)))))))))))))) else (z_gu (z_is r20.2 l0 3) ((xX3_refuse l0 r20.2).bind fun r33 => z_zr r33.1 r33.2)))))) else (z_gu (z_is h l0 3) ((xX3_refuse l0 h).bind fun r13 => z_zr r13.1 r13.2)))))
set_option maxHeartbeats 4000000 in
set_option maxRecDepth 100000 in
theorem lX3_readUnit_b {Γ : ZG} {l : Launch} (hO : z_OK Γ) {n : Nat} {fL : Nat → Int32 → Int32 → ZH → Option (Int32 × ZH)} {fU : Nat → Int32 → ZH → Option (Int32 × ZH)} (IL : ∀ (l0 : Nat) (l1 l2 : Int32) (h : ZH) (r : Int32 × ZH), fL l0 l1 l2 h = some r → z_M Γ l yX3_readLevel (z_ws1 yX3_readLevel cX3_readLevel 6 (some .boolean)) (rmRD n) [.ref l0, .int l1, .int l2] h (some (.int r.1)) r.2) (IU : ∀ (l0 : Nat) (l1 : Int32) (h : ZH) (r : Int32 × ZH), fU l0 l1 h = some r → z_M Γ l yX3_readUnit (z_ws1 yX3_readUnit cX3_readUnit 2 (some .boolean)) (rmRD n) [.ref l0, .int l1] h (some (.int r.1)) r.2) {l0 : Nat} {l1 : Int32} {h : ZH} {r : (Int32 × ZH)} (hX : xX3_readUnit_b fL fU l0 l1 h = some r) : z_M Γ l yX3_readUnit (z_ws1 yX3_readUnit cX3_readUnit 2 (some .boolean)) (rmRD (n + 1)) [.ref l0, .int l1] h (some (.int r.1)) r.2 := by
  refine z_start hO (plainFor_of_name (by decide)) (Nat.le_of_ble_eq_true rfl) ?_
  intro p e s m args below meth c G hr hnm
  refine z_lvc (lv2 := [(0, .ref l0), (1, .int l1)]) rfl ?_
  refine z_aload_n (pc := 0) G 0 dX3_readUnit_0 rfl rfl ?_
  obtain ⟨x1, hv1, hX⟩ := z_bd hX
  refine z_getR (pc := 1) G kK3 (k := 0) (by decide) kt_137 dX3_readUnit_1 hv1 ?_
  obtain ⟨x4, hv4, hX⟩ := z_bd hX
  refine z_getI (pc := 4) G kK2 (k := 8) (by decide) kt_74 dX3_readUnit_4 hv4 ?_
  refine z_bipush (pc := 7) (v := 30) G dX3_readUnit_7 (by decide) ?_
  refine z_icmp_lt (pc := 9) (tgt := 17) G dX3_readUnit_9 (by decide) (fun hc9 => ?_) (fun hc9 => ?_)
  · have hX := z_it hc9 hX
    refine z_aload_n (pc := 17) G 0 dX3_readUnit_17 rfl rfl ?_
    refine z_bipush (pc := 18) (v := 40) G dX3_readUnit_18 (by decide) ?_
    obtain ⟨hi20, hX⟩ := z_gu_s hX
    obtain ⟨r20, hv20, hX⟩ := z_bd hX
    refine z_cVI (pc := 20) (As := [.int (40 : Int32)]) (c2 := 0) (s2 := 0) G kK3 (lX3_isSign hO hv20) hi20 kt_678 kt_2 kt_675 kt_677 ks_14 ydX3_isSign ⟨by show 0 + 1 ≤ 50 + (n + 1); omega, by show 8 + (2 + 11) + 0 ≤ 2000 + 100 * (n + 1); omega⟩ rfl (Nat.le_of_ble_eq_true rfl) ⟨rfl, rfl⟩ ⟨Nat.le_of_ble_eq_true rfl, Nat.le_of_ble_eq_true rfl⟩ rfl dX3_readUnit_20 ?_
    refine z_if_eq (pc := 23) (tgt := 87) G dX3_readUnit_23 (by decide) (fun hc23 => ?_) (fun hc23 => ?_)
    · have hX := z_it hc23 hX
      refine z_aload_n (pc := 87) G 0 dX3_readUnit_87 rfl rfl ?_
      obtain ⟨x88, hv88, hX⟩ := z_bd hX
      refine z_getI (pc := 88) G kK3 (k := 7) (by decide) kt_147 dX3_readUnit_88 hv88 ?_
      refine z_iconst (pc := 91) (v := 2) G dX3_readUnit_91 (by decide) ?_
      refine z_icmp_ne (pc := 92) (tgt := 109) G dX3_readUnit_92 (by decide) (fun hc92 => ?_) (fun hc92 => ?_)
      · have hX := z_if hc92 hX
        refine z_aload_n (pc := 109) G 0 dX3_readUnit_109 rfl rfl ?_
        obtain ⟨x110, hv110, hX⟩ := z_bd hX
        refine z_getI (pc := 110) G kK3 (k := 7) (by decide) kt_147 dX3_readUnit_110 hv110 ?_
        refine z_iconst (pc := 113) (v := 1) G dX3_readUnit_113 (by decide) ?_
        refine z_icmp_ne (pc := 114) (tgt := 155) G dX3_readUnit_114 (by decide) (fun hc114 => ?_) (fun hc114 => ?_)
        · have hX := z_if hc114 hX
          refine z_aload_n (pc := 155) G 0 dX3_readUnit_155 rfl rfl ?_
          obtain ⟨hi156, hX⟩ := z_gu_s hX
          obtain ⟨r156, hv156, hX⟩ := z_bd hX
          refine z_cVI (pc := 156) (As := []) (c2 := 0) (s2 := 0) G kK3 (lX3_refuse hO hv156) hi156 kt_642 kt_2 kt_639 kt_641 ks_5 ydX3_refuse ⟨by show 1 + 1 ≤ 50 + (n + 1); omega, by show 8 + (1 + 11) + 21 ≤ 2000 + 100 * (n + 1); omega⟩ rfl (Nat.le_of_ble_eq_true rfl) ⟨rfl, rfl⟩ ⟨Nat.le_of_ble_eq_true rfl, Nat.le_of_ble_eq_true rfl⟩ rfl dX3_readUnit_156 ?_
          exact z_zretY (pc := 159) hX G hr dX3_readUnit_159 (Nat.le_of_ble_eq_true rfl) (Nat.le_of_ble_eq_true rfl)
        · have hX := z_it hc114 hX
          refine z_aload_n (pc := 117) G 0 dX3_readUnit_117 rfl rfl ?_
          obtain ⟨x118, hv118, hX⟩ := z_bd hX
          refine z_getI (pc := 118) G kK3 (k := 8) (by decide) kt_148 dX3_readUnit_118 hv118 ?_
          refine z_bipush (pc := 121) (v := 15) G dX3_readUnit_121 (by decide) ?_
          refine z_icmp_lt (pc := 123) (tgt := 155) G dX3_readUnit_123 (by decide) (fun hc123 => ?_) (fun hc123 => ?_)
          · have hX := z_it hc123 hX
            refine z_aload_n (pc := 155) G 0 dX3_readUnit_155 rfl rfl ?_
            obtain ⟨hi156, hX⟩ := z_gu_s hX
            obtain ⟨r156, hv156, hX⟩ := z_bd hX
            refine z_cVI (pc := 156) (As := []) (c2 := 0) (s2 := 0) G kK3 (lX3_refuse hO hv156) hi156 kt_642 kt_2 kt_639 kt_641 ks_5 ydX3_refuse ⟨by show 1 + 1 ≤ 50 + (n + 1); omega, by show 8 + (1 + 11) + 21 ≤ 2000 + 100 * (n + 1); omega⟩ rfl (Nat.le_of_ble_eq_true rfl) ⟨rfl, rfl⟩ ⟨Nat.le_of_ble_eq_true rfl, Nat.le_of_ble_eq_true rfl⟩ rfl dX3_readUnit_156 ?_
            exact z_zretY (pc := 159) hX G hr dX3_readUnit_159 (Nat.le_of_ble_eq_true rfl) (Nat.le_of_ble_eq_true rfl)
          · have hX := z_if hc123 hX
            refine z_aload_n (pc := 126) G 0 dX3_readUnit_126 rfl rfl ?_
            obtain ⟨x127, hv127, hX⟩ := z_bd hX
            refine z_getI (pc := 127) G kK3 (k := 8) (by decide) kt_148 dX3_readUnit_127 hv127 ?_
            refine z_bipush (pc := 130) (v := 18) G dX3_readUnit_130 (by decide) ?_
            refine z_icmp_gt (pc := 132) (tgt := 155) G dX3_readUnit_132 (by decide) (fun hc132 => ?_) (fun hc132 => ?_)
            · have hX := z_it hc132 hX
              refine z_aload_n (pc := 155) G 0 dX3_readUnit_155 rfl rfl ?_
              obtain ⟨hi156, hX⟩ := z_gu_s hX
              obtain ⟨r156, hv156, hX⟩ := z_bd hX
              refine z_cVI (pc := 156) (As := []) (c2 := 0) (s2 := 0) G kK3 (lX3_refuse hO hv156) hi156 kt_642 kt_2 kt_639 kt_641 ks_5 ydX3_refuse ⟨by show 1 + 1 ≤ 50 + (n + 1); omega, by show 8 + (1 + 11) + 21 ≤ 2000 + 100 * (n + 1); omega⟩ rfl (Nat.le_of_ble_eq_true rfl) ⟨rfl, rfl⟩ ⟨Nat.le_of_ble_eq_true rfl, Nat.le_of_ble_eq_true rfl⟩ rfl dX3_readUnit_156 ?_
              exact z_zretY (pc := 159) hX G hr dX3_readUnit_159 (Nat.le_of_ble_eq_true rfl) (Nat.le_of_ble_eq_true rfl)
            · have hX := z_if hc132 hX
              refine z_aload_n (pc := 135) G 0 dX3_readUnit_135 rfl rfl ?_
              obtain ⟨x136, hv136, hX⟩ := z_bd hX
              refine z_getR (pc := 136) G kK3 (k := 0) (by decide) kt_137 dX3_readUnit_136 hv136 ?_
              refine z_bipush (pc := 139) (v := (-12)) G dX3_readUnit_139 (by decide) ?_
              refine z_aload_n (pc := 141) G 0 dX3_readUnit_141 rfl rfl ?_
              obtain ⟨x142, hv142, hX⟩ := z_bd hX
              refine z_getI (pc := 142) G kK3 (k := 8) (by decide) kt_148 dX3_readUnit_142 hv142 ?_
              refine z_bipush (pc := 145) (v := 15) G dX3_readUnit_145 (by decide) ?_
              refine z_isub (pc := 147) G dX3_readUnit_147 ?_
              refine z_isub (pc := 148) G dX3_readUnit_148 ?_
              obtain ⟨hi149, hX⟩ := z_gu_s hX
              obtain ⟨h149, hv149, hX⟩ := z_bd hX
              refine z_cVV (pc := 149) (As := [.int ((-12 : Int32) - (x142 - (15 : Int32)))]) (c2 := 0) (s2 := 0) G kK2 (lX2_addToFormula hO hv149) hi149 kt_690 kt_3 kt_687 kt_688 kt_689 ydX2_addToFormula ⟨by show 0 + 1 ≤ 50 + (n + 1); omega, by show 8 + (2 + 11) + 0 ≤ 2000 + 100 * (n + 1); omega⟩ rfl (Nat.le_of_ble_eq_true rfl) ⟨rfl, rfl⟩ ⟨Nat.le_of_ble_eq_true rfl, Nat.le_of_ble_eq_true rfl⟩ rfl dX3_readUnit_149 ?_
              refine z_goto (pc := 152) (tgt := 160) G dX3_readUnit_152 (by decide) ?_
              refine z_drop (lv2 := [(0, .ref l0)]) [0] rfl ?_
              exact wX3_readUnit_B160 hO G hr hnm IL IU _ _ hX
      · have hX := z_it hc92 hX
        refine z_aload_n (pc := 95) G 0 dX3_readUnit_95 rfl rfl ?_
        obtain ⟨x96, hv96, hX⟩ := z_bd hX
        refine z_getR (pc := 96) G kK3 (k := 0) (by decide) kt_137 dX3_readUnit_96 hv96 ?_
        refine z_aload_n (pc := 99) G 0 dX3_readUnit_99 rfl rfl ?_
        obtain ⟨x100, hv100, hX⟩ := z_bd hX
        refine z_getI (pc := 100) G kK3 (k := 8) (by decide) kt_148 dX3_readUnit_100 hv100 ?_
        obtain ⟨hi103, hX⟩ := z_gu_s hX
        obtain ⟨h103, hv103, hX⟩ := z_bd hX
        refine z_cVV (pc := 103) (As := [.int x100]) (c2 := 0) (s2 := 0) G kK2 (lX2_addToFormula hO hv103) hi103 kt_690 kt_3 kt_687 kt_688 kt_689 ydX2_addToFormula ⟨by show 0 + 1 ≤ 50 + (n + 1); omega, by show 8 + (2 + 11) + 0 ≤ 2000 + 100 * (n + 1); omega⟩ rfl (Nat.le_of_ble_eq_true rfl) ⟨rfl, rfl⟩ ⟨Nat.le_of_ble_eq_true rfl, Nat.le_of_ble_eq_true rfl⟩ rfl dX3_readUnit_103 ?_
        refine z_goto (pc := 106) (tgt := 160) G dX3_readUnit_106 (by decide) ?_
        refine z_drop (lv2 := [(0, .ref l0)]) [0] rfl ?_
        exact wX3_readUnit_B160 hO G hr hnm IL IU _ _ hX
    · have hX := z_if hc23 hX
      refine z_iload_n (pc := 26) G 1 dX3_readUnit_26 rfl rfl ?_
      refine z_bipush (pc := 27) (v := 6) G dX3_readUnit_27 (by decide) ?_
      refine z_icmp_le (pc := 29) (tgt := 37) G dX3_readUnit_29 (by decide) (fun hc29 => ?_) (fun hc29 => ?_)
      · have hX := z_it hc29 hX
        refine z_aload_n (pc := 37) G 0 dX3_readUnit_37 rfl rfl ?_
        obtain ⟨x38, hv38, hX⟩ := z_bd hX
        refine z_getR (pc := 38) G kK3 (k := 0) (by decide) kt_137 dX3_readUnit_38 hv38 ?_
        refine z_dup (pc := 41) G dX3_readUnit_41 rfl ?_
        obtain ⟨x42, hv42, hX⟩ := z_bd hX
        refine z_getI (pc := 42) G kK2 (k := 8) (by decide) kt_74 dX3_readUnit_42 hv42 ?_
        refine z_iconst (pc := 45) (v := 1) G dX3_readUnit_45 (by decide) ?_
        refine z_iadd (pc := 46) G dX3_readUnit_46 ?_
        obtain ⟨h47, hv47, hX⟩ := z_bd hX
        refine z_putF (pc := 47) G kK2 (k := 8) (by decide) kt_74 (Or.inl rfl) rfl rfl dX3_readUnit_47 hv47 ?_
        refine z_aload_n (pc := 50) G 0 dX3_readUnit_50 rfl rfl ?_
        obtain ⟨hi51, hX⟩ := z_gu_s hX
        obtain ⟨h51, hv51, hX⟩ := z_bd hX
        refine z_cVV (pc := 51) (As := []) (c2 := 0) (s2 := 0) G kK3 (lX3_advance hO hv51) hi51 kt_512 kt_2 kt_509 kt_511 ks_1 ydX3_advance ⟨by show 5 + 1 ≤ 50 + (n + 1); omega, by show 8 + (1 + 11) + 110 ≤ 2000 + 100 * (n + 1); omega⟩ rfl (Nat.le_of_ble_eq_true rfl) ⟨rfl, rfl⟩ ⟨Nat.le_of_ble_eq_true rfl, Nat.le_of_ble_eq_true rfl⟩ rfl dX3_readUnit_51 ?_
        refine z_aload_n (pc := 54) G 0 dX3_readUnit_54 rfl rfl ?_
        refine z_iconst (pc := 55) (v := 0) G dX3_readUnit_55 (by decide) ?_
        refine z_iload_n (pc := 56) G 1 dX3_readUnit_56 rfl rfl ?_
        refine z_iconst (pc := 57) (v := 1) G dX3_readUnit_57 (by decide) ?_
        refine z_iadd (pc := 58) G dX3_readUnit_58 ?_
        obtain ⟨hi59, hX⟩ := z_gu_s hX
        obtain ⟨r59, hv59, hX⟩ := z_bd hX
        refine z_cVI (pc := 59) (As := [.int (0 : Int32), .int (l1 + (1 : Int32))]) (c2 := 0) (s2 := 0) G kK3 (IL _ _ _ _ _ hv59) hi59 kt_682 kt_2 kt_679 kt_681 ks_15 ydX3_readLevel ⟨Nat.le_refl _, by show 8 + (6 + 11) + (2000 + 100 * n) ≤ 2000 + 100 * (n + 1); omega⟩ rfl (Nat.le_of_ble_eq_true rfl) ⟨rfl, rfl⟩ ⟨Nat.le_of_ble_eq_true rfl, Nat.le_of_ble_eq_true rfl⟩ rfl dX3_readUnit_59 ?_
        refine z_if_ne (pc := 62) (tgt := 67) G dX3_readUnit_62 (by decide) (fun hc62 => ?_) (fun hc62 => ?_)
        · have hX := z_if hc62 hX
          refine z_aload_n (pc := 67) G 0 dX3_readUnit_67 rfl rfl ?_
          refine z_bipush (pc := 68) (v := 41) G dX3_readUnit_68 (by decide) ?_
          obtain ⟨hi70, hX⟩ := z_gu_s hX
          obtain ⟨r70, hv70, hX⟩ := z_bd hX
          refine z_cVI (pc := 70) (As := [.int (41 : Int32)]) (c2 := 0) (s2 := 0) G kK3 (lX3_isSign hO hv70) hi70 kt_678 kt_2 kt_675 kt_677 ks_14 ydX3_isSign ⟨by show 0 + 1 ≤ 50 + (n + 1); omega, by show 8 + (2 + 11) + 0 ≤ 2000 + 100 * (n + 1); omega⟩ rfl (Nat.le_of_ble_eq_true rfl) ⟨rfl, rfl⟩ ⟨Nat.le_of_ble_eq_true rfl, Nat.le_of_ble_eq_true rfl⟩ rfl dX3_readUnit_70 ?_
          refine z_if_ne (pc := 73) (tgt := 81) G dX3_readUnit_73 (by decide) (fun hc73 => ?_) (fun hc73 => ?_)
          · have hX := z_if hc73 hX
            refine z_aload_n (pc := 81) G 0 dX3_readUnit_81 rfl rfl ?_
            obtain ⟨hi82, hX⟩ := z_gu_s hX
            obtain ⟨h82, hv82, hX⟩ := z_bd hX
            refine z_cVV (pc := 82) (As := []) (c2 := 0) (s2 := 0) G kK3 (lX3_advance hO hv82) hi82 kt_512 kt_2 kt_509 kt_511 ks_1 ydX3_advance ⟨by show 5 + 1 ≤ 50 + (n + 1); omega, by show 8 + (1 + 11) + 110 ≤ 2000 + 100 * (n + 1); omega⟩ rfl (Nat.le_of_ble_eq_true rfl) ⟨rfl, rfl⟩ ⟨Nat.le_of_ble_eq_true rfl, Nat.le_of_ble_eq_true rfl⟩ rfl dX3_readUnit_82 ?_
            refine z_iconst (pc := 85) (v := 1) G dX3_readUnit_85 (by decide) ?_
            exact z_zretX (pc := 86) hX G hr rfl dX3_readUnit_86 (Nat.le_of_ble_eq_true rfl) (Nat.le_of_ble_eq_true rfl)
          · have hX := z_it hc73 hX
            refine z_aload_n (pc := 76) G 0 dX3_readUnit_76 rfl rfl ?_
            obtain ⟨hi77, hX⟩ := z_gu_s hX
            obtain ⟨r77, hv77, hX⟩ := z_bd hX
            refine z_cVI (pc := 77) (As := []) (c2 := 0) (s2 := 0) G kK3 (lX3_refuse hO hv77) hi77 kt_642 kt_2 kt_639 kt_641 ks_5 ydX3_refuse ⟨by show 1 + 1 ≤ 50 + (n + 1); omega, by show 8 + (1 + 11) + 21 ≤ 2000 + 100 * (n + 1); omega⟩ rfl (Nat.le_of_ble_eq_true rfl) ⟨rfl, rfl⟩ ⟨Nat.le_of_ble_eq_true rfl, Nat.le_of_ble_eq_true rfl⟩ rfl dX3_readUnit_77 ?_
            exact z_zretY (pc := 80) hX G hr dX3_readUnit_80 (Nat.le_of_ble_eq_true rfl) (Nat.le_of_ble_eq_true rfl)
        · have hX := z_it hc62 hX
          refine z_iconst (pc := 65) (v := 0) G dX3_readUnit_65 (by decide) ?_
          exact z_zretX (pc := 66) hX G hr rfl dX3_readUnit_66 (Nat.le_of_ble_eq_true rfl) (Nat.le_of_ble_eq_true rfl)
      · have hX := z_if hc29 hX
        refine z_aload_n (pc := 32) G 0 dX3_readUnit_32 rfl rfl ?_
        obtain ⟨hi33, hX⟩ := z_gu_s hX
        obtain ⟨r33, hv33, hX⟩ := z_bd hX
        refine z_cVI (pc := 33) (As := []) (c2 := 0) (s2 := 0) G kK3 (lX3_refuse hO hv33) hi33 kt_642 kt_2 kt_639 kt_641 ks_5 ydX3_refuse ⟨by show 1 + 1 ≤ 50 + (n + 1); omega, by show 8 + (1 + 11) + 21 ≤ 2000 + 100 * (n + 1); omega⟩ rfl (Nat.le_of_ble_eq_true rfl) ⟨rfl, rfl⟩ ⟨Nat.le_of_ble_eq_true rfl, Nat.le_of_ble_eq_true rfl⟩ rfl dX3_readUnit_33 ?_
        exact z_zretY (pc := 36) hX G hr dX3_readUnit_36 (Nat.le_of_ble_eq_true rfl) (Nat.le_of_ble_eq_true rfl)
  · have hX := z_if hc9 hX
    refine z_aload_n (pc := 12) G 0 dX3_readUnit_12 rfl rfl ?_
    obtain ⟨hi13, hX⟩ := z_gu_s hX
    obtain ⟨r13, hv13, hX⟩ := z_bd hX
    refine z_cVI (pc := 13) (As := []) (c2 := 0) (s2 := 0) G kK3 (lX3_refuse hO hv13) hi13 kt_642 kt_2 kt_639 kt_641 ks_5 ydX3_refuse ⟨by show 1 + 1 ≤ 50 + (n + 1); omega, by show 8 + (1 + 11) + 21 ≤ 2000 + 100 * (n + 1); omega⟩ rfl (Nat.le_of_ble_eq_true rfl) ⟨rfl, rfl⟩ ⟨Nat.le_of_ble_eq_true rfl, Nat.le_of_ble_eq_true rfl⟩ rfl dX3_readUnit_13 ?_
    exact z_zretY (pc := 16) hX G hr dX3_readUnit_16 (Nat.le_of_ble_eq_true rfl) (Nat.le_of_ble_eq_true rfl)
noncomputable def xRD (n : Nat) : (Nat → Int32 → Int32 → ZH → Option (Int32 × ZH)) × (Nat → Int32 → ZH → Option (Int32 × ZH)) := Nat.rec (motive := fun _ => (Nat → Int32 → Int32 → ZH → Option (Int32 × ZH)) × (Nat → Int32 → ZH → Option (Int32 × ZH))) (fun _ _ _ _ => none, fun _ _ _ => none) (fun _ rec => (xX3_readLevel_b rec.1 rec.2, xX3_readUnit_b rec.1 rec.2)) n
theorem lRD {Γ : ZG} {l : Launch} (hO : z_OK Γ) : ∀ n : Nat, (∀ (l0 : Nat) (l1 l2 : Int32) (h : ZH) (r : Int32 × ZH), (xRD n).1 l0 l1 l2 h = some r → z_M Γ l yX3_readLevel (z_ws1 yX3_readLevel cX3_readLevel 6 (some .boolean)) (rmRD n) [.ref l0, .int l1, .int l2] h (some (.int r.1)) r.2) ∧ (∀ (l0 : Nat) (l1 : Int32) (h : ZH) (r : Int32 × ZH), (xRD n).2 l0 l1 h = some r → z_M Γ l yX3_readUnit (z_ws1 yX3_readUnit cX3_readUnit 2 (some .boolean)) (rmRD n) [.ref l0, .int l1] h (some (.int r.1)) r.2) := by
  intro n
  induction n with
  | zero => exact ⟨fun _ _ _ _ _ hX => (by cases hX), fun _ _ _ _ hX => (by cases hX)⟩
  | succ n ih => exact ⟨fun l0 l1 l2 h r hX => lX3_readLevel_b hO ih.1 ih.2 hX, fun l0 l1 h r hX => lX3_readUnit_b hO ih.1 ih.2 hX⟩
abbrev rmX3_readLevel : Room := rmRD 300
noncomputable def xX3_readLevel (l0 : Nat) (l1 l2 : Int32) (h : ZH) : Option (Int32 × ZH) := (xRD 300).1 l0 l1 l2 h
theorem lX3_readLevel {Γ : ZG} {l : Launch} (hO : z_OK Γ) {l0 : Nat} {l1 l2 : Int32} {h : ZH} {r : Int32 × ZH} (hX : xX3_readLevel l0 l1 l2 h = some r) : z_M Γ l yX3_readLevel (z_ws1 yX3_readLevel cX3_readLevel 6 (some .boolean)) rmX3_readLevel [.ref l0, .int l1, .int l2] h (some (.int r.1)) r.2 := (lRD hO 300).1 _ _ _ _ _ hX
theorem dX3_readLine_0 : decode cX3_readLine 0 = .ok (.aload_n 0, 1) := by decide +kernel
theorem dX3_readLine_1 : decode cX3_readLine 1 = .ok (.getfield 60, 3) := by decide +kernel
theorem dX3_readLine_4 : decode cX3_readLine 4 = .ok (.iconst 1, 1) := by decide +kernel
theorem dX3_readLine_5 : decode cX3_readLine 5 = .ok (.if_icmp .ne 12, 3) := by decide +kernel
theorem dX3_readLine_8 : decode cX3_readLine 8 = .ok (.aload_n 0, 1) := by decide +kernel
theorem dX3_readLine_9 : decode cX3_readLine 9 = .ok (.getfield 67, 3) := by decide +kernel
theorem dX3_readLine_12 : decode cX3_readLine 12 = .ok (.bipush 8, 2) := by decide +kernel
theorem dX3_readLine_14 : decode cX3_readLine 14 = .ok (.if_icmp .le 8, 3) := by decide +kernel
theorem dX3_readLine_17 : decode cX3_readLine 17 = .ok (.aload_n 0, 1) := by decide +kernel
theorem dX3_readLine_18 : decode cX3_readLine 18 = .ok (.invokevirtual 70, 3) := by decide +kernel
theorem dX3_readLine_21 : decode cX3_readLine 21 = .ok (.ireturn, 1) := by decide +kernel
theorem dX3_readLine_22 : decode cX3_readLine 22 = .ok (.aload_n 0, 1) := by decide +kernel
theorem dX3_readLine_23 : decode cX3_readLine 23 = .ok (.getfield 67, 3) := by decide +kernel
theorem dX3_readLine_26 : decode cX3_readLine 26 = .ok (.istore_n 1, 1) := by decide +kernel
theorem dX3_readLine_27 : decode cX3_readLine 27 = .ok (.iload_n 1, 1) := by decide +kernel
theorem dX3_readLine_28 : decode cX3_readLine 28 = .ok (.bipush 8, 2) := by decide +kernel
theorem dX3_readLine_30 : decode cX3_readLine 30 = .ok (.if_icmp .ne 46, 3) := by decide +kernel
theorem dX3_readLine_33 : decode cX3_readLine 33 = .ok (.aload_n 0, 1) := by decide +kernel
theorem dX3_readLine_34 : decode cX3_readLine 34 = .ok (.getfield 12, 3) := by decide +kernel
theorem dX3_readLine_37 : decode cX3_readLine 37 = .ok (.getfield 73, 3) := by decide +kernel
theorem dX3_readLine_40 : decode cX3_readLine 40 = .ok (.bipush 6, 2) := by decide +kernel
theorem dX3_readLine_42 : decode cX3_readLine 42 = .ok (.if_icmp .lt 8, 3) := by decide +kernel
theorem dX3_readLine_45 : decode cX3_readLine 45 = .ok (.aload_n 0, 1) := by decide +kernel
theorem dX3_readLine_46 : decode cX3_readLine 46 = .ok (.invokevirtual 70, 3) := by decide +kernel
theorem dX3_readLine_49 : decode cX3_readLine 49 = .ok (.ireturn, 1) := by decide +kernel
theorem dX3_readLine_50 : decode cX3_readLine 50 = .ok (.aload_n 0, 1) := by decide +kernel
theorem dX3_readLine_51 : decode cX3_readLine 51 = .ok (.invokevirtual 57, 3) := by decide +kernel
theorem dX3_readLine_54 : decode cX3_readLine 54 = .ok (.aload_n 0, 1) := by decide +kernel
theorem dX3_readLine_55 : decode cX3_readLine 55 = .ok (.invokevirtual 76, 3) := by decide +kernel
theorem dX3_readLine_58 : decode cX3_readLine 58 = .ok (.ifCond .eq 16, 3) := by decide +kernel
theorem dX3_readLine_61 : decode cX3_readLine 61 = .ok (.aload_n 0, 1) := by decide +kernel
theorem dX3_readLine_62 : decode cX3_readLine 62 = .ok (.bipush 59, 2) := by decide +kernel
theorem dX3_readLine_64 : decode cX3_readLine 64 = .ok (.invokevirtual 79, 3) := by decide +kernel
theorem dX3_readLine_67 : decode cX3_readLine 67 = .ok (.ifCond .eq 7, 3) := by decide +kernel
theorem dX3_readLine_70 : decode cX3_readLine 70 = .ok (.iconst 1, 1) := by decide +kernel
theorem dX3_readLine_71 : decode cX3_readLine 71 = .ok (.goto 4, 3) := by decide +kernel
theorem dX3_readLine_74 : decode cX3_readLine 74 = .ok (.iconst 0, 1) := by decide +kernel
theorem dX3_readLine_75 : decode cX3_readLine 75 = .ok (.ireturn, 1) := by decide +kernel
theorem dX3_readLine_76 : decode cX3_readLine 76 = .ok (.aload_n 0, 1) := by decide +kernel
theorem dX3_readLine_77 : decode cX3_readLine 77 = .ok (.getfield 48, 3) := by decide +kernel
theorem dX3_readLine_80 : decode cX3_readLine 80 = .ok (.iload_n 1, 1) := by decide +kernel
theorem dX3_readLine_81 : decode cX3_readLine 81 = .ok (.ishr, 1) := by decide +kernel
theorem dX3_readLine_82 : decode cX3_readLine 82 = .ok (.iconst 1, 1) := by decide +kernel
theorem dX3_readLine_83 : decode cX3_readLine 83 = .ok (.iand, 1) := by decide +kernel
theorem dX3_readLine_84 : decode cX3_readLine 84 = .ok (.iconst 1, 1) := by decide +kernel
theorem dX3_readLine_85 : decode cX3_readLine 85 = .ok (.if_icmp .ne 8, 3) := by decide +kernel
theorem dX3_readLine_88 : decode cX3_readLine 88 = .ok (.aload_n 0, 1) := by decide +kernel
theorem dX3_readLine_89 : decode cX3_readLine 89 = .ok (.invokevirtual 70, 3) := by decide +kernel
theorem dX3_readLine_92 : decode cX3_readLine 92 = .ok (.ireturn, 1) := by decide +kernel
theorem dX3_readLine_93 : decode cX3_readLine 93 = .ok (.aload_n 0, 1) := by decide +kernel
theorem dX3_readLine_94 : decode cX3_readLine 94 = .ok (.dup, 1) := by decide +kernel
theorem dX3_readLine_95 : decode cX3_readLine 95 = .ok (.getfield 48, 3) := by decide +kernel
theorem dX3_readLine_98 : decode cX3_readLine 98 = .ok (.iconst 1, 1) := by decide +kernel
theorem dX3_readLine_99 : decode cX3_readLine 99 = .ok (.iload_n 1, 1) := by decide +kernel
theorem dX3_readLine_100 : decode cX3_readLine 100 = .ok (.ishl, 1) := by decide +kernel
theorem dX3_readLine_101 : decode cX3_readLine 101 = .ok (.ior, 1) := by decide +kernel
theorem dX3_readLine_102 : decode cX3_readLine 102 = .ok (.putfield 48, 3) := by decide +kernel
theorem dX3_readLine_105 : decode cX3_readLine 105 = .ok (.aload_n 0, 1) := by decide +kernel
theorem dX3_readLine_106 : decode cX3_readLine 106 = .ok (.invokevirtual 57, 3) := by decide +kernel
theorem dX3_readLine_109 : decode cX3_readLine 109 = .ok (.iload_n 1, 1) := by decide +kernel
theorem dX3_readLine_110 : decode cX3_readLine 110 = .ok (.bipush 7, 2) := by decide +kernel
theorem dX3_readLine_112 : decode cX3_readLine 112 = .ok (.if_icmp .ne 27, 3) := by decide +kernel
theorem dX3_readLine_115 : decode cX3_readLine 115 = .ok (.aload_n 0, 1) := by decide +kernel
theorem dX3_readLine_116 : decode cX3_readLine 116 = .ok (.iconst 0, 1) := by decide +kernel
theorem dX3_readLine_117 : decode cX3_readLine 117 = .ok (.iconst 0, 1) := by decide +kernel
theorem dX3_readLine_118 : decode cX3_readLine 118 = .ok (.invokevirtual 83, 3) := by decide +kernel
theorem dX3_readLine_121 : decode cX3_readLine 121 = .ok (.ifCond .eq 16, 3) := by decide +kernel
theorem dX3_readLine_124 : decode cX3_readLine 124 = .ok (.aload_n 0, 1) := by decide +kernel
theorem dX3_readLine_125 : decode cX3_readLine 125 = .ok (.bipush 59, 2) := by decide +kernel
theorem dX3_readLine_127 : decode cX3_readLine 127 = .ok (.invokevirtual 79, 3) := by decide +kernel
theorem dX3_readLine_130 : decode cX3_readLine 130 = .ok (.ifCond .eq 7, 3) := by decide +kernel
theorem dX3_readLine_133 : decode cX3_readLine 133 = .ok (.iconst 1, 1) := by decide +kernel
theorem dX3_readLine_134 : decode cX3_readLine 134 = .ok (.goto 4, 3) := by decide +kernel
theorem dX3_readLine_137 : decode cX3_readLine 137 = .ok (.iconst 0, 1) := by decide +kernel
theorem dX3_readLine_138 : decode cX3_readLine 138 = .ok (.ireturn, 1) := by decide +kernel
theorem dX3_readLine_139 : decode cX3_readLine 139 = .ok (.aload_n 0, 1) := by decide +kernel
theorem dX3_readLine_140 : decode cX3_readLine 140 = .ok (.getstatic 87, 3) := by decide +kernel
theorem dX3_readLine_143 : decode cX3_readLine 143 = .ok (.iload_n 1, 1) := by decide +kernel
theorem dX3_readLine_144 : decode cX3_readLine 144 = .ok (.iaload, 1) := by decide +kernel
theorem dX3_readLine_145 : decode cX3_readLine 145 = .ok (.getstatic 90, 3) := by decide +kernel
theorem dX3_readLine_148 : decode cX3_readLine 148 = .ok (.iload_n 1, 1) := by decide +kernel
theorem dX3_readLine_149 : decode cX3_readLine 149 = .ok (.iaload, 1) := by decide +kernel
theorem dX3_readLine_150 : decode cX3_readLine 150 = .ok (.invokevirtual 93, 3) := by decide +kernel
theorem dX3_readLine_153 : decode cX3_readLine 153 = .ok (.ifCond .ne 5, 3) := by decide +kernel
theorem dX3_readLine_156 : decode cX3_readLine 156 = .ok (.iconst 0, 1) := by decide +kernel
theorem dX3_readLine_157 : decode cX3_readLine 157 = .ok (.ireturn, 1) := by decide +kernel
theorem dX3_readLine_158 : decode cX3_readLine 158 = .ok (.aload_n 0, 1) := by decide +kernel
theorem dX3_readLine_159 : decode cX3_readLine 159 = .ok (.iload_n 1, 1) := by decide +kernel
theorem dX3_readLine_160 : decode cX3_readLine 160 = .ok (.aload_n 0, 1) := by decide +kernel
theorem dX3_readLine_161 : decode cX3_readLine 161 = .ok (.getfield 96, 3) := by decide +kernel
theorem dX3_readLine_164 : decode cX3_readLine 164 = .ok (.invokevirtual 99, 3) := by decide +kernel
theorem dX3_readLine_167 : decode cX3_readLine 167 = .ok (.aload_n 0, 1) := by decide +kernel
theorem dX3_readLine_168 : decode cX3_readLine 168 = .ok (.bipush 59, 2) := by decide +kernel
theorem dX3_readLine_170 : decode cX3_readLine 170 = .ok (.invokevirtual 79, 3) := by decide +kernel
theorem dX3_readLine_173 : decode cX3_readLine 173 = .ok (.ireturn, 1) := by decide +kernel
theorem ydX3_readLine : z_yd yX3_readLine 0 := ⟨by decide, by decide, by decide +kernel⟩
abbrev rmX3_readLine : Room := { frames := 351, cells := 0, slots := 0, locals := 32025 }
noncomputable def xX3_readLine (l0 : Nat) (h : ZH) : Option (Int32 × ZH) := ((z_gI h l0 3 7).bind fun x1 => (if x1 = (1 : Int32) then ((z_gI h l0 3 8).bind fun x9 => (if x9 ≤ (8 : Int32) then ((z_gI h l0 3 8).bind fun x23 => (if x23 = (8 : Int32) then ((z_gR h l0 3 0).bind fun x34 => ((z_gI h x34 2 7).bind fun x37 => (if x37 < (6 : Int32) then (z_gu (z_is h l0 3) ((xX3_advance l0 h).bind fun h51 => (z_gu (z_is h51 l0 3) ((xX3_readShip l0 h51).bind fun r55 => (if r55.1 = 0 then some ((0 : Int32), r55.2) else (z_gu (z_is r55.2 l0 3) ((xX3_takeSign l0 (59 : Int32) r55.2).bind fun r64 => (if r64.1 = 0 then some ((0 : Int32), r64.2) else some ((1 : Int32), r64.2))))))))) else (z_gu (z_is h l0 3) ((xX3_refuse l0 h).bind fun r46 => z_zr r46.1 r46.2))))) else ((z_gI h l0 3 9).bind fun x77 => (if ((x77 >>> (x23 &&& 31)) &&& (1 : Int32)) = (1 : Int32) then (z_gu (z_is h l0 3) ((xX3_refuse l0 h).bind fun r89 => z_zr r89.1 r89.2)) else ((z_gI h l0 3 9).bind fun x95 => ((z_sF h l0 3 9 (.int (x95 ||| ((1 : Int32) <<< (x23 &&& 31))))).bind fun h102 => (z_gu (z_is h102 l0 3) ((xX3_advance l0 h102).bind fun h106 => (if x23 = (7 : Int32) then (z_gu (z_is h106 l0 3) ((xX3_readLevel l0 (0 : Int32) (0 : Int32) h106).bind fun r118 => (if r118.1 = 0 then some ((0 : Int32), r118.2) else (z_gu (z_is r118.2 l0 3) ((xX3_takeSign l0 (59 : Int32) r118.2).bind fun r127 => (if r127.1 = 0 then some ((0 : Int32), r127.2) else some ((1 : Int32), r127.2))))))) else ((z_aI h106 1 x23).bind fun x144 => ((z_aI h106 2 x23).bind fun x149 => (z_gu (z_is h106 l0 3) ((xX3_takeNumber l0 x144 x149 h106).bind fun r150 => (if r150.1 = 0 then some ((0 : Int32), r150.2) else ((z_gI r150.2 l0 3 10).bind fun x161 => (z_gu (z_is r150.2 l0 3) ((xX3_settle l0 x23 x161 r150.2).bind fun h164 => (z_gu (z_is h164 l0 3) ((xX3_takeSign l0 (59 : Int32) h164).bind fun r170 => z_zr r170.1 r170.2))))))))))))))))))) else (z_gu (z_is h l0 3) ((xX3_refuse l0 h).bind fun r18 => z_zr r18.1 r18.2)))) else (z_gu (z_is h l0 3) ((xX3_refuse l0 h).bind fun r18 => z_zr r18.1 r18.2))))
set_option maxHeartbeats 4000000 in
set_option maxRecDepth 100000 in
theorem lX3_readLine {Γ : ZG} {l : Launch} (hO : z_OK Γ) {l0 : Nat} {h : ZH} {r : (Int32 × ZH)} (hX : xX3_readLine l0 h = some r) : z_M Γ l yX3_readLine (z_ws1 yX3_readLine cX3_readLine 2 (some .boolean)) rmX3_readLine [.ref l0] h (some (.int r.1)) r.2 := by
  refine z_start hO (plainFor_of_name (by decide)) (Nat.le_of_ble_eq_true rfl) ?_
  intro p e s m args below meth c G hr hnm
  refine z_lvc (lv2 := [(0, .ref l0)]) rfl ?_
  refine z_aload_n (pc := 0) G 0 dX3_readLine_0 rfl rfl ?_
  obtain ⟨x1, hv1, hX⟩ := z_bd hX
  refine z_getI (pc := 1) G kK3 (k := 7) (by decide) kt_147 dX3_readLine_1 hv1 ?_
  refine z_iconst (pc := 4) (v := 1) G dX3_readLine_4 (by decide) ?_
  refine z_icmp_ne (pc := 5) (tgt := 17) G dX3_readLine_5 (by decide) (fun hc5 => ?_) (fun hc5 => ?_)
  · have hX := z_if hc5 hX
    refine z_aload_n (pc := 17) G 0 dX3_readLine_17 rfl rfl ?_
    obtain ⟨hi18, hX⟩ := z_gu_s hX
    obtain ⟨r18, hv18, hX⟩ := z_bd hX
    refine z_cVI (pc := 18) (As := []) (c2 := 0) (s2 := 0) G kK3 (lX3_refuse hO hv18) hi18 kt_642 kt_2 kt_639 kt_641 ks_5 ydX3_refuse ⟨by decide, by decide⟩ rfl (Nat.le_of_ble_eq_true rfl) ⟨rfl, rfl⟩ ⟨by decide, by decide⟩ rfl dX3_readLine_18 ?_
    exact z_zretY (pc := 21) hX G hr dX3_readLine_21 (by decide) (by decide)
  · have hX := z_it hc5 hX
    refine z_aload_n (pc := 8) G 0 dX3_readLine_8 rfl rfl ?_
    obtain ⟨x9, hv9, hX⟩ := z_bd hX
    refine z_getI (pc := 9) G kK3 (k := 8) (by decide) kt_148 dX3_readLine_9 hv9 ?_
    refine z_bipush (pc := 12) (v := 8) G dX3_readLine_12 (by decide) ?_
    refine z_icmp_le (pc := 14) (tgt := 22) G dX3_readLine_14 (by decide) (fun hc14 => ?_) (fun hc14 => ?_)
    · have hX := z_it hc14 hX
      refine z_aload_n (pc := 22) G 0 dX3_readLine_22 rfl rfl ?_
      obtain ⟨x23, hv23, hX⟩ := z_bd hX
      refine z_getI (pc := 23) G kK3 (k := 8) (by decide) kt_148 dX3_readLine_23 hv23 ?_
      refine z_istore_n (pc := 26) (lv2 := [(0, .ref l0), (1, .int x23)]) G dX3_readLine_26 rfl (by decide) rfl rfl ?_
      refine z_iload_n (pc := 27) G 1 dX3_readLine_27 rfl rfl ?_
      refine z_bipush (pc := 28) (v := 8) G dX3_readLine_28 (by decide) ?_
      refine z_icmp_ne (pc := 30) (tgt := 76) G dX3_readLine_30 (by decide) (fun hc30 => ?_) (fun hc30 => ?_)
      · have hX := z_if hc30 hX
        refine z_aload_n (pc := 76) G 0 dX3_readLine_76 rfl rfl ?_
        obtain ⟨x77, hv77, hX⟩ := z_bd hX
        refine z_getI (pc := 77) G kK3 (k := 9) (by decide) kt_149 dX3_readLine_77 hv77 ?_
        refine z_iload_n (pc := 80) G 1 dX3_readLine_80 rfl rfl ?_
        refine z_ishr (pc := 81) G dX3_readLine_81 ?_
        refine z_iconst (pc := 82) (v := 1) G dX3_readLine_82 (by decide) ?_
        refine z_iand (pc := 83) G dX3_readLine_83 ?_
        refine z_iconst (pc := 84) (v := 1) G dX3_readLine_84 (by decide) ?_
        refine z_icmp_ne (pc := 85) (tgt := 93) G dX3_readLine_85 (by decide) (fun hc85 => ?_) (fun hc85 => ?_)
        · have hX := z_if hc85 hX
          refine z_aload_n (pc := 93) G 0 dX3_readLine_93 rfl rfl ?_
          refine z_dup (pc := 94) G dX3_readLine_94 rfl ?_
          obtain ⟨x95, hv95, hX⟩ := z_bd hX
          refine z_getI (pc := 95) G kK3 (k := 9) (by decide) kt_149 dX3_readLine_95 hv95 ?_
          refine z_iconst (pc := 98) (v := 1) G dX3_readLine_98 (by decide) ?_
          refine z_iload_n (pc := 99) G 1 dX3_readLine_99 rfl rfl ?_
          refine z_ishl (pc := 100) G dX3_readLine_100 ?_
          refine z_ior (pc := 101) G dX3_readLine_101 ?_
          obtain ⟨h102, hv102, hX⟩ := z_bd hX
          refine z_putF (pc := 102) G kK3 (k := 9) (by decide) kt_149 (Or.inl rfl) rfl rfl dX3_readLine_102 hv102 ?_
          refine z_aload_n (pc := 105) G 0 dX3_readLine_105 rfl rfl ?_
          obtain ⟨hi106, hX⟩ := z_gu_s hX
          obtain ⟨h106, hv106, hX⟩ := z_bd hX
          refine z_cVV (pc := 106) (As := []) (c2 := 0) (s2 := 0) G kK3 (lX3_advance hO hv106) hi106 kt_512 kt_2 kt_509 kt_511 ks_1 ydX3_advance ⟨by decide, by decide⟩ rfl (Nat.le_of_ble_eq_true rfl) ⟨rfl, rfl⟩ ⟨by decide, by decide⟩ rfl dX3_readLine_106 ?_
          refine z_iload_n (pc := 109) G 1 dX3_readLine_109 rfl rfl ?_
          refine z_bipush (pc := 110) (v := 7) G dX3_readLine_110 (by decide) ?_
          refine z_icmp_ne (pc := 112) (tgt := 139) G dX3_readLine_112 (by decide) (fun hc112 => ?_) (fun hc112 => ?_)
          · have hX := z_if hc112 hX
            refine z_aload_n (pc := 139) G 0 dX3_readLine_139 rfl rfl ?_
            refine z_gstL (pc := 140) G kt_695 dX3_readLine_140 ?_
            refine z_iload_n (pc := 143) G 1 dX3_readLine_143 rfl rfl ?_
            obtain ⟨x144, hv144, hX⟩ := z_bd hX
            refine z_iald (pc := 144) G dX3_readLine_144 hv144 ?_
            refine z_gstM (pc := 145) G kt_697 dX3_readLine_145 ?_
            refine z_iload_n (pc := 148) G 1 dX3_readLine_148 rfl rfl ?_
            obtain ⟨x149, hv149, hX⟩ := z_bd hX
            refine z_iald (pc := 149) G dX3_readLine_149 hv149 ?_
            obtain ⟨hi150, hX⟩ := z_gu_s hX
            obtain ⟨r150, hv150, hX⟩ := z_bd hX
            refine z_cVI (pc := 150) (As := [.int x144, .int x149]) (c2 := 0) (s2 := 0) G kK3 (lX3_takeNumber hO hv150) hi150 kt_670 kt_2 kt_667 kt_669 ks_12 ydX3_takeNumber ⟨by decide, by decide⟩ rfl (Nat.le_of_ble_eq_true rfl) ⟨rfl, rfl⟩ ⟨by decide, by decide⟩ rfl dX3_readLine_150 ?_
            refine z_if_ne (pc := 153) (tgt := 158) G dX3_readLine_153 (by decide) (fun hc153 => ?_) (fun hc153 => ?_)
            · have hX := z_if hc153 hX
              refine z_aload_n (pc := 158) G 0 dX3_readLine_158 rfl rfl ?_
              refine z_iload_n (pc := 159) G 1 dX3_readLine_159 rfl rfl ?_
              refine z_aload_n (pc := 160) G 0 dX3_readLine_160 rfl rfl ?_
              obtain ⟨x161, hv161, hX⟩ := z_bd hX
              refine z_getI (pc := 161) G kK3 (k := 10) (by decide) kt_150 dX3_readLine_161 hv161 ?_
              obtain ⟨hi164, hX⟩ := z_gu_s hX
              obtain ⟨h164, hv164, hX⟩ := z_bd hX
              refine z_cVV (pc := 164) (As := [.int x23, .int x161]) (c2 := 0) (s2 := 0) G kK3 (lX3_settle hO hv164) hi164 kt_702 kt_2 kt_699 kt_701 ks_18 ydX3_settle ⟨by decide, by decide⟩ rfl (Nat.le_of_ble_eq_true rfl) ⟨rfl, rfl⟩ ⟨by decide, by decide⟩ rfl dX3_readLine_164 ?_
              refine z_aload_n (pc := 167) G 0 dX3_readLine_167 rfl rfl ?_
              refine z_bipush (pc := 168) (v := 59) G dX3_readLine_168 (by decide) ?_
              obtain ⟨hi170, hX⟩ := z_gu_s hX
              obtain ⟨r170, hv170, hX⟩ := z_bd hX
              refine z_cVI (pc := 170) (As := [.int (59 : Int32)]) (c2 := 0) (s2 := 0) G kK3 (lX3_takeSign hO hv170) hi170 kt_674 kt_2 kt_671 kt_673 ks_13 ydX3_takeSign ⟨by decide, by decide⟩ rfl (Nat.le_of_ble_eq_true rfl) ⟨rfl, rfl⟩ ⟨by decide, by decide⟩ rfl dX3_readLine_170 ?_
              exact z_zretY (pc := 173) hX G hr dX3_readLine_173 (by decide) (by decide)
            · have hX := z_it hc153 hX
              refine z_iconst (pc := 156) (v := 0) G dX3_readLine_156 (by decide) ?_
              exact z_zretX (pc := 157) hX G hr rfl dX3_readLine_157 (by decide) (by decide)
          · have hX := z_it hc112 hX
            refine z_aload_n (pc := 115) G 0 dX3_readLine_115 rfl rfl ?_
            refine z_iconst (pc := 116) (v := 0) G dX3_readLine_116 (by decide) ?_
            refine z_iconst (pc := 117) (v := 0) G dX3_readLine_117 (by decide) ?_
            obtain ⟨hi118, hX⟩ := z_gu_s hX
            obtain ⟨r118, hv118, hX⟩ := z_bd hX
            refine z_cVI (pc := 118) (As := [.int (0 : Int32), .int (0 : Int32)]) (c2 := 0) (s2 := 0) G kK3 (lX3_readLevel hO hv118) hi118 kt_682 kt_2 kt_679 kt_681 ks_15 ydX3_readLevel ⟨by decide, by decide⟩ rfl (Nat.le_of_ble_eq_true rfl) ⟨rfl, rfl⟩ ⟨by decide, by decide⟩ rfl dX3_readLine_118 ?_
            refine z_if_eq (pc := 121) (tgt := 137) G dX3_readLine_121 (by decide) (fun hc121 => ?_) (fun hc121 => ?_)
            · have hX := z_it hc121 hX
              refine z_iconst (pc := 137) (v := 0) G dX3_readLine_137 (by decide) ?_
              exact z_zretX (pc := 138) hX G hr rfl dX3_readLine_138 (by decide) (by decide)
            · have hX := z_if hc121 hX
              refine z_aload_n (pc := 124) G 0 dX3_readLine_124 rfl rfl ?_
              refine z_bipush (pc := 125) (v := 59) G dX3_readLine_125 (by decide) ?_
              obtain ⟨hi127, hX⟩ := z_gu_s hX
              obtain ⟨r127, hv127, hX⟩ := z_bd hX
              refine z_cVI (pc := 127) (As := [.int (59 : Int32)]) (c2 := 0) (s2 := 0) G kK3 (lX3_takeSign hO hv127) hi127 kt_674 kt_2 kt_671 kt_673 ks_13 ydX3_takeSign ⟨by decide, by decide⟩ rfl (Nat.le_of_ble_eq_true rfl) ⟨rfl, rfl⟩ ⟨by decide, by decide⟩ rfl dX3_readLine_127 ?_
              refine z_if_eq (pc := 130) (tgt := 137) G dX3_readLine_130 (by decide) (fun hc130 => ?_) (fun hc130 => ?_)
              · have hX := z_it hc130 hX
                refine z_iconst (pc := 137) (v := 0) G dX3_readLine_137 (by decide) ?_
                exact z_zretX (pc := 138) hX G hr rfl dX3_readLine_138 (by decide) (by decide)
              · have hX := z_if hc130 hX
                refine z_iconst (pc := 133) (v := 1) G dX3_readLine_133 (by decide) ?_
                refine z_goto (pc := 134) (tgt := 138) G dX3_readLine_134 (by decide) ?_
                exact z_zretX (pc := 138) hX G hr rfl dX3_readLine_138 (by decide) (by decide)
        · have hX := z_it hc85 hX
          refine z_aload_n (pc := 88) G 0 dX3_readLine_88 rfl rfl ?_
          obtain ⟨hi89, hX⟩ := z_gu_s hX
          obtain ⟨r89, hv89, hX⟩ := z_bd hX
          refine z_cVI (pc := 89) (As := []) (c2 := 0) (s2 := 0) G kK3 (lX3_refuse hO hv89) hi89 kt_642 kt_2 kt_639 kt_641 ks_5 ydX3_refuse ⟨by decide, by decide⟩ rfl (Nat.le_of_ble_eq_true rfl) ⟨rfl, rfl⟩ ⟨by decide, by decide⟩ rfl dX3_readLine_89 ?_
          exact z_zretY (pc := 92) hX G hr dX3_readLine_92 (by decide) (by decide)
      · have hX := z_it hc30 hX
        refine z_aload_n (pc := 33) G 0 dX3_readLine_33 rfl rfl ?_
        obtain ⟨x34, hv34, hX⟩ := z_bd hX
        refine z_getR (pc := 34) G kK3 (k := 0) (by decide) kt_137 dX3_readLine_34 hv34 ?_
        obtain ⟨x37, hv37, hX⟩ := z_bd hX
        refine z_getI (pc := 37) G kK2 (k := 7) (by decide) kt_70 dX3_readLine_37 hv37 ?_
        refine z_bipush (pc := 40) (v := 6) G dX3_readLine_40 (by decide) ?_
        refine z_icmp_lt (pc := 42) (tgt := 50) G dX3_readLine_42 (by decide) (fun hc42 => ?_) (fun hc42 => ?_)
        · have hX := z_it hc42 hX
          refine z_aload_n (pc := 50) G 0 dX3_readLine_50 rfl rfl ?_
          obtain ⟨hi51, hX⟩ := z_gu_s hX
          obtain ⟨h51, hv51, hX⟩ := z_bd hX
          refine z_cVV (pc := 51) (As := []) (c2 := 0) (s2 := 0) G kK3 (lX3_advance hO hv51) hi51 kt_512 kt_2 kt_509 kt_511 ks_1 ydX3_advance ⟨by decide, by decide⟩ rfl (Nat.le_of_ble_eq_true rfl) ⟨rfl, rfl⟩ ⟨by decide, by decide⟩ rfl dX3_readLine_51 ?_
          refine z_aload_n (pc := 54) G 0 dX3_readLine_54 rfl rfl ?_
          obtain ⟨hi55, hX⟩ := z_gu_s hX
          obtain ⟨r55, hv55, hX⟩ := z_bd hX
          refine z_cVI (pc := 55) (As := []) (c2 := 0) (s2 := 0) G kK3 (lX3_readShip hO hv55) hi55 kt_650 kt_2 kt_647 kt_649 ks_7 ydX3_readShip ⟨by decide, by decide⟩ rfl (Nat.le_of_ble_eq_true rfl) ⟨rfl, rfl⟩ ⟨by decide, by decide⟩ rfl dX3_readLine_55 ?_
          refine z_if_eq (pc := 58) (tgt := 74) G dX3_readLine_58 (by decide) (fun hc58 => ?_) (fun hc58 => ?_)
          · have hX := z_it hc58 hX
            refine z_iconst (pc := 74) (v := 0) G dX3_readLine_74 (by decide) ?_
            exact z_zretX (pc := 75) hX G hr rfl dX3_readLine_75 (by decide) (by decide)
          · have hX := z_if hc58 hX
            refine z_aload_n (pc := 61) G 0 dX3_readLine_61 rfl rfl ?_
            refine z_bipush (pc := 62) (v := 59) G dX3_readLine_62 (by decide) ?_
            obtain ⟨hi64, hX⟩ := z_gu_s hX
            obtain ⟨r64, hv64, hX⟩ := z_bd hX
            refine z_cVI (pc := 64) (As := [.int (59 : Int32)]) (c2 := 0) (s2 := 0) G kK3 (lX3_takeSign hO hv64) hi64 kt_674 kt_2 kt_671 kt_673 ks_13 ydX3_takeSign ⟨by decide, by decide⟩ rfl (Nat.le_of_ble_eq_true rfl) ⟨rfl, rfl⟩ ⟨by decide, by decide⟩ rfl dX3_readLine_64 ?_
            refine z_if_eq (pc := 67) (tgt := 74) G dX3_readLine_67 (by decide) (fun hc67 => ?_) (fun hc67 => ?_)
            · have hX := z_it hc67 hX
              refine z_iconst (pc := 74) (v := 0) G dX3_readLine_74 (by decide) ?_
              exact z_zretX (pc := 75) hX G hr rfl dX3_readLine_75 (by decide) (by decide)
            · have hX := z_if hc67 hX
              refine z_iconst (pc := 70) (v := 1) G dX3_readLine_70 (by decide) ?_
              refine z_goto (pc := 71) (tgt := 75) G dX3_readLine_71 (by decide) ?_
              exact z_zretX (pc := 75) hX G hr rfl dX3_readLine_75 (by decide) (by decide)
        · have hX := z_if hc42 hX
          refine z_aload_n (pc := 45) G 0 dX3_readLine_45 rfl rfl ?_
          obtain ⟨hi46, hX⟩ := z_gu_s hX
          obtain ⟨r46, hv46, hX⟩ := z_bd hX
          refine z_cVI (pc := 46) (As := []) (c2 := 0) (s2 := 0) G kK3 (lX3_refuse hO hv46) hi46 kt_642 kt_2 kt_639 kt_641 ks_5 ydX3_refuse ⟨by decide, by decide⟩ rfl (Nat.le_of_ble_eq_true rfl) ⟨rfl, rfl⟩ ⟨by decide, by decide⟩ rfl dX3_readLine_46 ?_
          exact z_zretY (pc := 49) hX G hr dX3_readLine_49 (by decide) (by decide)
    · have hX := z_if hc14 hX
      refine z_aload_n (pc := 17) G 0 dX3_readLine_17 rfl rfl ?_
      obtain ⟨hi18, hX⟩ := z_gu_s hX
      obtain ⟨r18, hv18, hX⟩ := z_bd hX
      refine z_cVI (pc := 18) (As := []) (c2 := 0) (s2 := 0) G kK3 (lX3_refuse hO hv18) hi18 kt_642 kt_2 kt_639 kt_641 ks_5 ydX3_refuse ⟨by decide, by decide⟩ rfl (Nat.le_of_ble_eq_true rfl) ⟨rfl, rfl⟩ ⟨by decide, by decide⟩ rfl dX3_readLine_18 ?_
      exact z_zretY (pc := 21) hX G hr dX3_readLine_21 (by decide) (by decide)
theorem dX3_read_0 : decode cX3_read 0 = .ok (.aload_n 0, 1) := by decide +kernel
theorem dX3_read_1 : decode cX3_read 1 = .ok (.aload_n 1, 1) := by decide +kernel
theorem dX3_read_2 : decode cX3_read 2 = .ok (.putfield 29, 3) := by decide +kernel
theorem dX3_read_5 : decode cX3_read 5 = .ok (.aload_n 0, 1) := by decide +kernel
theorem dX3_read_6 : decode cX3_read 6 = .ok (.aload_n 1, 1) := by decide +kernel
theorem dX3_read_7 : decode cX3_read 7 = .ok (.ifnonnull 7, 3) := by decide +kernel
theorem dX3_read_10 : decode cX3_read 10 = .ok (.iconst 0, 1) := by decide +kernel
theorem dX3_read_11 : decode cX3_read 11 = .ok (.goto 13, 3) := by decide +kernel
theorem dX3_read_14 : decode cX3_read 14 = .ok (.iconst 0, 1) := by decide +kernel
theorem dX3_read_15 : decode cX3_read 15 = .ok (.iload_n 2, 1) := by decide +kernel
theorem dX3_read_16 : decode cX3_read 16 = .ok (.aload_n 1, 1) := by decide +kernel
theorem dX3_read_17 : decode cX3_read 17 = .ok (.arraylength, 1) := by decide +kernel
theorem dX3_read_18 : decode cX3_read 18 = .ok (.invokestatic 33, 3) := by decide +kernel
theorem dX3_read_21 : decode cX3_read 21 = .ok (.invokestatic 39, 3) := by decide +kernel
theorem dX3_read_24 : decode cX3_read 24 = .ok (.putfield 42, 3) := by decide +kernel
theorem dX3_read_27 : decode cX3_read 27 = .ok (.aload_n 0, 1) := by decide +kernel
theorem dX3_read_28 : decode cX3_read 28 = .ok (.iconst 0, 1) := by decide +kernel
theorem dX3_read_29 : decode cX3_read 29 = .ok (.putfield 45, 3) := by decide +kernel
theorem dX3_read_32 : decode cX3_read 32 = .ok (.aload_n 0, 1) := by decide +kernel
theorem dX3_read_33 : decode cX3_read 33 = .ok (.iconst 0, 1) := by decide +kernel
theorem dX3_read_34 : decode cX3_read 34 = .ok (.putfield 48, 3) := by decide +kernel
theorem dX3_read_37 : decode cX3_read 37 = .ok (.aload_n 0, 1) := by decide +kernel
theorem dX3_read_38 : decode cX3_read 38 = .ok (.iconst 0, 1) := by decide +kernel
theorem dX3_read_39 : decode cX3_read 39 = .ok (.putfield 51, 3) := by decide +kernel
theorem dX3_read_42 : decode cX3_read 42 = .ok (.aload_n 0, 1) := by decide +kernel
theorem dX3_read_43 : decode cX3_read 43 = .ok (.iconst (-1), 1) := by decide +kernel
theorem dX3_read_44 : decode cX3_read 44 = .ok (.putfield 18, 3) := by decide +kernel
theorem dX3_read_47 : decode cX3_read 47 = .ok (.aload_n 0, 1) := by decide +kernel
theorem dX3_read_48 : decode cX3_read 48 = .ok (.getfield 12, 3) := by decide +kernel
theorem dX3_read_51 : decode cX3_read 51 = .ok (.invokevirtual 54, 3) := by decide +kernel
theorem dX3_read_54 : decode cX3_read 54 = .ok (.aload_n 0, 1) := by decide +kernel
theorem dX3_read_55 : decode cX3_read 55 = .ok (.invokevirtual 57, 3) := by decide +kernel
theorem dX3_read_58 : decode cX3_read 58 = .ok (.iconst 0, 1) := by decide +kernel
theorem dX3_read_59 : decode cX3_read 59 = .ok (.istore_n 3, 1) := by decide +kernel
theorem dX3_read_60 : decode cX3_read 60 = .ok (.iload_n 3, 1) := by decide +kernel
theorem dX3_read_61 : decode cX3_read 61 = .ok (.sipush 1600, 3) := by decide +kernel
theorem dX3_read_64 : decode cX3_read 64 = .ok (.if_icmp .gt 25, 3) := by decide +kernel
theorem dX3_read_67 : decode cX3_read 67 = .ok (.aload_n 0, 1) := by decide +kernel
theorem dX3_read_68 : decode cX3_read 68 = .ok (.getfield 60, 3) := by decide +kernel
theorem dX3_read_71 : decode cX3_read 71 = .ok (.ifCond .eq 18, 3) := by decide +kernel
theorem dX3_read_74 : decode cX3_read 74 = .ok (.aload_n 0, 1) := by decide +kernel
theorem dX3_read_75 : decode cX3_read 75 = .ok (.invokevirtual 63, 3) := by decide +kernel
theorem dX3_read_78 : decode cX3_read 78 = .ok (.ifCond .ne 5, 3) := by decide +kernel
theorem dX3_read_81 : decode cX3_read 81 = .ok (.iconst 0, 1) := by decide +kernel
theorem dX3_read_82 : decode cX3_read 82 = .ok (.ireturn, 1) := by decide +kernel
theorem dX3_read_83 : decode cX3_read 83 = .ok (.iinc 3 1, 3) := by decide +kernel
theorem dX3_read_86 : decode cX3_read 86 = .ok (.goto (-26), 3) := by decide +kernel
theorem dX3_read_89 : decode cX3_read 89 = .ok (.iconst 1, 1) := by decide +kernel
theorem dX3_read_90 : decode cX3_read 90 = .ok (.ireturn, 1) := by decide +kernel
theorem ydX3_read : z_yd yX3_read 2 := ⟨by decide, by decide, by decide +kernel⟩
abbrev rmX3_read : Room := { frames := 352, cells := 0, slots := 0, locals := 32046 }
noncomputable def xX3_read_B60 (r60 : Nat → Int32 → ZH → Option (Int32 × ZH)) (l0 : Nat) (l3 : Int32) (h : ZH) : Option (Int32 × ZH) := (if (1600 : Int32) < l3 then some ((1 : Int32), h) else ((z_gI h l0 3 7).bind fun x68 => (if x68 = 0 then some ((1 : Int32), h) else (z_gu (z_is h l0 3) ((xX3_readLine l0 h).bind fun r75 => (if r75.1 = 0 then some ((0 : Int32), r75.2) else r60 l0 (l3 + 1) r75.2))))))
noncomputable def xX3_read_L60 (n : Nat) : Nat → Int32 → ZH → Option (Int32 × ZH) := Nat.rec (motive := fun _ => Nat → Int32 → ZH → Option (Int32 × ZH)) (fun _ _ _ => none) (fun _ rec => xX3_read_B60  rec) n
set_option maxHeartbeats 4000000 in
set_option maxRecDepth 100000 in
theorem wX3_read_B60 {Γ : ZG} {p : Program} {l : Launch} {e : Env} {s : State} {m : MethodId} {args : Array Value} {below : List Frame} {meth : Method} {c : Code} (hO : z_OK Γ) (G : z_GG Γ p s m args meth c cX3_read 4 RX3) (hr : meth.sig.returnType = (some .boolean)) (hnm : meth.name = "read") {r : (Int32 × ZH)} {r60 : Nat → Int32 → ZH → Option (Int32 × ZH)} (H60 : ∀ (l0 : Nat) (l3 : Int32) (h : ZH), r60 l0 l3 h = some r → z_W Γ p l e rmX3_read s m args below meth c 4 0 0 (MQ below (z_Qc Γ (some (.int r.1)) r.2) args s rmX3_read.cells rmX3_read.slots (z_A Γ)) 60 [(0, .ref l0), (3, .int l3)] [] h) : ∀ (l0 : Nat) (l3 : Int32) (h : ZH), xX3_read_B60  r60 l0 l3 h = some r → z_W Γ p l e rmX3_read s m args below meth c 4 0 0 (MQ below (z_Qc Γ (some (.int r.1)) r.2) args s rmX3_read.cells rmX3_read.slots (z_A Γ)) 60 [(0, .ref l0), (3, .int l3)] [] h := by
  intro l0 l3 h hX
  refine z_iload_n (pc := 60) G 1 dX3_read_60 rfl rfl ?_
  refine z_sipush (pc := 61) (v := 1600) G dX3_read_61 (by decide) ?_
  refine z_icmp_gt (pc := 64) (tgt := 89) G dX3_read_64 (by decide) (fun hc64 => ?_) (fun hc64 => ?_)
  · have hX := z_it hc64 hX
    refine z_iconst (pc := 89) (v := 1) G dX3_read_89 (by decide) ?_
    exact z_zretX (pc := 90) hX G hr rfl dX3_read_90 (by decide) (by decide)
  · have hX := z_if hc64 hX
    refine z_aload_n (pc := 67) G 0 dX3_read_67 rfl rfl ?_
    obtain ⟨x68, hv68, hX⟩ := z_bd hX
    refine z_getI (pc := 68) G kK3 (k := 7) (by decide) kt_147 dX3_read_68 hv68 ?_
    refine z_if_eq (pc := 71) (tgt := 89) G dX3_read_71 (by decide) (fun hc71 => ?_) (fun hc71 => ?_)
    · have hX := z_it hc71 hX
      refine z_iconst (pc := 89) (v := 1) G dX3_read_89 (by decide) ?_
      exact z_zretX (pc := 90) hX G hr rfl dX3_read_90 (by decide) (by decide)
    · have hX := z_if hc71 hX
      refine z_aload_n (pc := 74) G 0 dX3_read_74 rfl rfl ?_
      obtain ⟨hi75, hX⟩ := z_gu_s hX
      obtain ⟨r75, hv75, hX⟩ := z_bd hX
      refine z_cVI (pc := 75) (As := []) (c2 := 0) (s2 := 0) G kK3 (lX3_readLine hO hv75) hi75 kt_638 kt_2 kt_635 kt_637 ks_4 ydX3_readLine ⟨by decide, by decide⟩ rfl (Nat.le_of_ble_eq_true rfl) ⟨rfl, rfl⟩ ⟨by decide, by decide⟩ rfl dX3_read_75 ?_
      refine z_if_ne (pc := 78) (tgt := 83) G dX3_read_78 (by decide) (fun hc78 => ?_) (fun hc78 => ?_)
      · have hX := z_if hc78 hX
        refine z_iincw (pc := 83) (w := 1) (lv2 := [(0, .ref l0), (3, .int (l3 + 1))]) G 1 dX3_read_83 rfl (by decide) (by decide) rfl rfl ?_
        refine z_goto (pc := 86) (tgt := 60) G dX3_read_86 (by decide) ?_
        exact H60 _ _ _ hX
      · have hX := z_it hc78 hX
        refine z_iconst (pc := 81) (v := 0) G dX3_read_81 (by decide) ?_
        exact z_zretX (pc := 82) hX G hr rfl dX3_read_82 (by decide) (by decide)
set_option maxHeartbeats 4000000 in
set_option maxRecDepth 100000 in
theorem wX3_read_L60 {Γ : ZG} {p : Program} {l : Launch} {e : Env} {s : State} {m : MethodId} {args : Array Value} {below : List Frame} {meth : Method} {c : Code} (hO : z_OK Γ) (G : z_GG Γ p s m args meth c cX3_read 4 RX3) (hr : meth.sig.returnType = (some .boolean)) (hnm : meth.name = "read") {r : (Int32 × ZH)} : ∀ (nn : Nat) (l0 : Nat) (l3 : Int32) (h : ZH), xX3_read_L60  nn l0 l3 h = some r → z_W Γ p l e rmX3_read s m args below meth c 4 0 0 (MQ below (z_Qc Γ (some (.int r.1)) r.2) args s rmX3_read.cells rmX3_read.slots (z_A Γ)) 60 [(0, .ref l0), (3, .int l3)] [] h := by
  intro nn
  induction nn with
  | zero => intro l0 l3 h hX; cases hX
  | succ nn ih => intro l0 l3 h hX; exact wX3_read_B60 hO G hr hnm  ih l0 l3 h hX
noncomputable def xX3_read_B24 (l0 : Nat) (s0 : Int32) (s1 : Nat) (h : ZH) : Option (Int32 × ZH) := ((z_sF h s1 3 4 (.int s0)).bind fun h24 => ((z_sF h24 l0 3 6 (.int (0 : Int32))).bind fun h29 => ((z_sF h29 l0 3 9 (.int (0 : Int32))).bind fun h34 => ((z_sF h34 l0 3 1 (.int (0 : Int32))).bind fun h39 => ((z_sF h39 l0 3 2 (.int (-1 : Int32))).bind fun h44 => ((z_gR h44 l0 3 0).bind fun x48 => (z_gu (z_is h44 x48 2) ((xX2_clear x48 h44).bind fun h51 => (z_gu (z_is h51 l0 3) ((xX3_advance l0 h51).bind fun h55 => xX3_read_L60 zFU l0 (0 : Int32) h55))))))))))
set_option maxHeartbeats 4000000 in
set_option maxRecDepth 100000 in
theorem wX3_read_B24 {Γ : ZG} {p : Program} {l : Launch} {e : Env} {s : State} {m : MethodId} {args : Array Value} {below : List Frame} {meth : Method} {c : Code} (hO : z_OK Γ) (G : z_GG Γ p s m args meth c cX3_read 4 RX3) (hr : meth.sig.returnType = (some .boolean)) (hnm : meth.name = "read") {r : (Int32 × ZH)} : ∀ (l0 : Nat) (s0 : Int32) (s1 : Nat) (h : ZH), xX3_read_B24  l0 s0 s1 h = some r → z_W Γ p l e rmX3_read s m args below meth c 4 0 0 (MQ below (z_Qc Γ (some (.int r.1)) r.2) args s rmX3_read.cells rmX3_read.slots (z_A Γ)) 24 [(0, .ref l0)] [.int s0, .ref s1] h := by
  intro l0 s0 s1 h hX
  obtain ⟨h24, hv24, hX⟩ := z_bd hX
  refine z_putF (pc := 24) G kK3 (k := 4) (by decide) kt_144 (Or.inl rfl) rfl rfl dX3_read_24 hv24 ?_
  refine z_aload_n (pc := 27) G 0 dX3_read_27 rfl rfl ?_
  refine z_iconst (pc := 28) (v := 0) G dX3_read_28 (by decide) ?_
  obtain ⟨h29, hv29, hX⟩ := z_bd hX
  refine z_putF (pc := 29) G kK3 (k := 6) (by decide) kt_146 (Or.inl rfl) rfl rfl dX3_read_29 hv29 ?_
  refine z_aload_n (pc := 32) G 0 dX3_read_32 rfl rfl ?_
  refine z_iconst (pc := 33) (v := 0) G dX3_read_33 (by decide) ?_
  obtain ⟨h34, hv34, hX⟩ := z_bd hX
  refine z_putF (pc := 34) G kK3 (k := 9) (by decide) kt_149 (Or.inl rfl) rfl rfl dX3_read_34 hv34 ?_
  refine z_aload_n (pc := 37) G 0 dX3_read_37 rfl rfl ?_
  refine z_iconst (pc := 38) (v := 0) G dX3_read_38 (by decide) ?_
  obtain ⟨h39, hv39, hX⟩ := z_bd hX
  refine z_putF (pc := 39) G kK3 (k := 1) (by decide) kt_139 (Or.inl rfl) rfl rfl dX3_read_39 hv39 ?_
  refine z_aload_n (pc := 42) G 0 dX3_read_42 rfl rfl ?_
  refine z_iconst (pc := 43) (v := (-1)) G dX3_read_43 (by decide) ?_
  obtain ⟨h44, hv44, hX⟩ := z_bd hX
  refine z_putF (pc := 44) G kK3 (k := 2) (by decide) kt_141 (Or.inl rfl) rfl rfl dX3_read_44 hv44 ?_
  refine z_aload_n (pc := 47) G 0 dX3_read_47 rfl rfl ?_
  obtain ⟨x48, hv48, hX⟩ := z_bd hX
  refine z_getR (pc := 48) G kK3 (k := 0) (by decide) kt_137 dX3_read_48 hv48 ?_
  obtain ⟨hi51, hX⟩ := z_gu_s hX
  obtain ⟨h51, hv51, hX⟩ := z_bd hX
  refine z_cVV (pc := 51) (As := []) (c2 := 0) (s2 := 0) G kK2 (lX2_clear hO hv51) hi51 kt_508 kt_3 kt_505 kt_506 kt_507 ydX2_clear ⟨by decide, by decide⟩ rfl (Nat.le_of_ble_eq_true rfl) ⟨rfl, rfl⟩ ⟨by decide, by decide⟩ rfl dX3_read_51 ?_
  refine z_aload_n (pc := 54) G 0 dX3_read_54 rfl rfl ?_
  obtain ⟨hi55, hX⟩ := z_gu_s hX
  obtain ⟨h55, hv55, hX⟩ := z_bd hX
  refine z_cVV (pc := 55) (As := []) (c2 := 0) (s2 := 0) G kK3 (lX3_advance hO hv55) hi55 kt_512 kt_2 kt_509 kt_511 ks_1 ydX3_advance ⟨by decide, by decide⟩ rfl (Nat.le_of_ble_eq_true rfl) ⟨rfl, rfl⟩ ⟨by decide, by decide⟩ rfl dX3_read_55 ?_
  refine z_iconst (pc := 58) (v := 0) G dX3_read_58 (by decide) ?_
  refine z_istore_n (pc := 59) (lv2 := [(0, .ref l0), (3, .int (0 : Int32))]) G dX3_read_59 rfl (by decide) rfl rfl ?_
  exact wX3_read_L60 hO G hr hnm zFU _ _ _ hX
noncomputable def xX3_read (l0 : Nat) (l1 : Nat) (l2 : Int32) (h : ZH) : Option (Int32 × ZH) := ((z_sF h l0 3 3 (.ref l1)).bind fun h2 => ((z_aL h2 l1).bind fun x17 => ((xJ9_min_7cf53 l2 x17 h2).bind fun r18 => ((xJ9_max_7cf53 (0 : Int32) r18.1 r18.2).bind fun r21 => xX3_read_B24 l0 r21.1 l0 r21.2))))
set_option maxHeartbeats 4000000 in
set_option maxRecDepth 100000 in
theorem lX3_read {Γ : ZG} {l : Launch} (hO : z_OK Γ) {l0 : Nat} {l1 : Nat} {l2 : Int32} {h : ZH} {r : (Int32 × ZH)} (hX : xX3_read l0 l1 l2 h = some r) : z_M Γ l yX3_read (z_ws1 yX3_read cX3_read 4 (some .boolean)) rmX3_read [.ref l0, .ref l1, .int l2] h (some (.int r.1)) r.2 := by
  refine z_start hO (plainFor_of_name (by decide)) (Nat.le_of_ble_eq_true rfl) ?_
  intro p e s m args below meth c G hr hnm
  refine z_lvc (lv2 := [(0, .ref l0), (1, .ref l1), (2, .int l2)]) rfl ?_
  refine z_aload_n (pc := 0) G 0 dX3_read_0 rfl rfl ?_
  refine z_aload_n (pc := 1) G 1 dX3_read_1 rfl rfl ?_
  obtain ⟨h2, hv2, hX⟩ := z_bd hX
  refine z_putF (pc := 2) G kK3 (k := 3) (by decide) kt_143 (Or.inl rfl) rfl rfl dX3_read_2 hv2 ?_
  refine z_aload_n (pc := 5) G 0 dX3_read_5 rfl rfl ?_
  refine z_aload_n (pc := 6) G 1 dX3_read_6 rfl rfl ?_
  refine z_ifnonnull (pc := 7) (tgt := 14) G dX3_read_7 (by decide) ?_
  refine z_iconst (pc := 14) (v := 0) G dX3_read_14 (by decide) ?_
  refine z_iload_n (pc := 15) G 2 dX3_read_15 rfl rfl ?_
  refine z_aload_n (pc := 16) G 1 dX3_read_16 rfl rfl ?_
  obtain ⟨x17, hv17, hX⟩ := z_bd hX
  refine z_alen (pc := 17) G dX3_read_17 hv17 ?_
  obtain ⟨r18, hv18, hX⟩ := z_bd hX
  refine z_cSI (pc := 18) (As := [.int l2, .int x17]) (c2 := 0) (s2 := 0) G (lJ9_min_7cf53 hO hv18) kt_501 kt_12 kt_499 kt_500 ydJ9_min_7cf53 ⟨by decide, by decide⟩ rfl (Nat.le_of_ble_eq_true rfl) ⟨rfl, rfl⟩ ⟨by decide, by decide⟩ rfl dX3_read_18 ?_
  obtain ⟨r21, hv21, hX⟩ := z_bd hX
  refine z_cSI (pc := 21) (As := [.int (0 : Int32), .int r18.1]) (c2 := 0) (s2 := 0) G (lJ9_max_7cf53 hO hv21) kt_504 kt_12 kt_502 kt_503 ydJ9_max_7cf53 ⟨by decide, by decide⟩ rfl (Nat.le_of_ble_eq_true rfl) ⟨rfl, rfl⟩ ⟨by decide, by decide⟩ rfl dX3_read_21 ?_
  refine z_drop (lv2 := [(0, .ref l0)]) [0] rfl ?_
  exact wX3_read_B24 hO G hr hnm _ _ _ _ hX
theorem dX4_init_0 : decode cX4_init 0 = .ok (.aload_n 0, 1) := by decide +kernel
theorem dX4_init_1 : decode cX4_init 1 = .ok (.invokespecial 3, 3) := by decide +kernel
theorem dX4_init_4 : decode cX4_init 4 = .ok (.aload_n 0, 1) := by decide +kernel
theorem dX4_init_5 : decode cX4_init 5 = .ok (.bipush 30, 2) := by decide +kernel
theorem dX4_init_7 : decode cX4_init 7 = .ok (.newarray .int, 2) := by decide +kernel
theorem dX4_init_9 : decode cX4_init 9 = .ok (.putfield 11, 3) := by decide +kernel
theorem dX4_init_12 : decode cX4_init 12 = .ok (.aload_n 0, 1) := by decide +kernel
theorem dX4_init_13 : decode cX4_init 13 = .ok (.bipush 30, 2) := by decide +kernel
theorem dX4_init_15 : decode cX4_init 15 = .ok (.newarray .int, 2) := by decide +kernel
theorem dX4_init_17 : decode cX4_init 17 = .ok (.putfield 15, 3) := by decide +kernel
theorem dX4_init_20 : decode cX4_init 20 = .ok (.aload_n 0, 1) := by decide +kernel
theorem dX4_init_21 : decode cX4_init 21 = .ok (.bipush 30, 2) := by decide +kernel
theorem dX4_init_23 : decode cX4_init 23 = .ok (.newarray .boolean, 2) := by decide +kernel
theorem dX4_init_25 : decode cX4_init 25 = .ok (.putfield 18, 3) := by decide +kernel
theorem dX4_init_28 : decode cX4_init 28 = .ok (.aload_n 0, 1) := by decide +kernel
theorem dX4_init_29 : decode cX4_init 29 = .ok (.bipush 30, 2) := by decide +kernel
theorem dX4_init_31 : decode cX4_init 31 = .ok (.newarray .int, 2) := by decide +kernel
theorem dX4_init_33 : decode cX4_init 33 = .ok (.putfield 22, 3) := by decide +kernel
theorem dX4_init_36 : decode cX4_init 36 = .ok (.aload_n 0, 1) := by decide +kernel
theorem dX4_init_37 : decode cX4_init 37 = .ok (.bipush 30, 2) := by decide +kernel
theorem dX4_init_39 : decode cX4_init 39 = .ok (.newarray .int, 2) := by decide +kernel
theorem dX4_init_41 : decode cX4_init 41 = .ok (.putfield 25, 3) := by decide +kernel
theorem dX4_init_44 : decode cX4_init 44 = .ok (.aload_n 0, 1) := by decide +kernel
theorem dX4_init_45 : decode cX4_init 45 = .ok (.bipush 100, 2) := by decide +kernel
theorem dX4_init_47 : decode cX4_init 47 = .ok (.newarray .boolean, 2) := by decide +kernel
theorem dX4_init_49 : decode cX4_init 49 = .ok (.putfield 28, 3) := by decide +kernel
theorem dX4_init_52 : decode cX4_init 52 = .ok (.aload_n 0, 1) := by decide +kernel
theorem dX4_init_53 : decode cX4_init 53 = .ok (.aload_n 1, 1) := by decide +kernel
theorem dX4_init_54 : decode cX4_init 54 = .ok (.putfield 31, 3) := by decide +kernel
theorem dX4_init_57 : decode cX4_init 57 = .ok (.return_, 1) := by decide +kernel
theorem ydX4_init : z_yd yX4_init 1 := ⟨by decide, by decide, by decide +kernel⟩
abbrev rmX4_init : Room := { frames := 1, cells := 6, slots := 250, locals := 12 }
noncomputable def xX4_init (l0 : Nat) (l1 : Nat) (h : ZH) : Option ZH := ((z_nw h (.inr (.inl (0, List.replicate 30 0)))).bind fun q7 => ((z_sF q7.2 l0 4 1 (.ref q7.1)).bind fun h9 => ((z_nw h9 (.inr (.inl (0, List.replicate 30 0)))).bind fun q15 => ((z_sF q15.2 l0 4 2 (.ref q15.1)).bind fun h17 => ((z_nw h17 (.inr (.inl (2, List.replicate 30 0)))).bind fun q23 => ((z_sF q23.2 l0 4 3 (.ref q23.1)).bind fun h25 => ((z_nw h25 (.inr (.inl (0, List.replicate 30 0)))).bind fun q31 => ((z_sF q31.2 l0 4 4 (.ref q31.1)).bind fun h33 => ((z_nw h33 (.inr (.inl (0, List.replicate 30 0)))).bind fun q39 => ((z_sF q39.2 l0 4 5 (.ref q39.1)).bind fun h41 => ((z_nw h41 (.inr (.inl (2, List.replicate 100 0)))).bind fun q47 => ((z_sF q47.2 l0 4 6 (.ref q47.1)).bind fun h49 => ((z_sF h49 l0 4 0 (.ref l1)).bind fun h54 => some h54)))))))))))))
set_option maxHeartbeats 4000000 in
set_option maxRecDepth 100000 in
theorem lX4_init {Γ : ZG} {l : Launch} (hO : z_OK Γ) {l0 : Nat} {l1 : Nat} {h : ZH} {r : ZH} (hX : xX4_init l0 l1 h = some r) : z_M Γ l yX4_init (z_ws1 yX4_init cX4_init 2 none) rmX4_init [.ref l0, .ref l1] h none r := by
  refine z_start hO (plainFor_of_name (by decide)) (Nat.le_of_ble_eq_true rfl) ?_
  intro p e s m args below meth c G hr hnm
  refine z_lvc (lv2 := [(0, .ref l0), (1, .ref l1)]) rfl ?_
  refine z_aload_n (pc := 0) G 0 dX4_init_0 rfl rfl ?_
  refine z_obj (pc := 1) G kt_370 kt_25 kt_26 (by decide) (Nat.le_of_ble_eq_true rfl) dX4_init_1 ?_
  refine z_aload_n (pc := 4) G 0 dX4_init_4 rfl rfl ?_
  refine z_bipush (pc := 5) (v := 30) G dX4_init_5 (by decide) ?_
  obtain ⟨q7, hv7, hX⟩ := z_bd hX
  refine z_nI (pc := 7) (atype := .int) (t := 0) (N := 30) (c2 := 1) (s2 := 30) G kt_136 rfl (by decide) rfl (fun _ z => by cases z) (by decide) (by decide) (by decide) ⟨rfl, rfl⟩ ⟨by decide, by decide⟩ dX4_init_7 hv7 ?_
  obtain ⟨h9, hv9, hX⟩ := z_bd hX
  refine z_putF (pc := 9) G kK4 (k := 1) (by decide) kt_372 (Or.inr ⟨rfl, hnm, rfl⟩) rfl rfl dX4_init_9 hv9 ?_
  refine z_aload_n (pc := 12) G 0 dX4_init_12 rfl rfl ?_
  refine z_bipush (pc := 13) (v := 30) G dX4_init_13 (by decide) ?_
  obtain ⟨q15, hv15, hX⟩ := z_bd hX
  refine z_nI (pc := 15) (atype := .int) (t := 0) (N := 30) (c2 := 2) (s2 := 60) G kt_136 rfl (by decide) rfl (fun _ z => by cases z) (by decide) (by decide) (by decide) ⟨rfl, rfl⟩ ⟨by decide, by decide⟩ dX4_init_15 hv15 ?_
  obtain ⟨h17, hv17, hX⟩ := z_bd hX
  refine z_putF (pc := 17) G kK4 (k := 2) (by decide) kt_373 (Or.inr ⟨rfl, hnm, rfl⟩) rfl rfl dX4_init_17 hv17 ?_
  refine z_aload_n (pc := 20) G 0 dX4_init_20 rfl rfl ?_
  refine z_bipush (pc := 21) (v := 30) G dX4_init_21 (by decide) ?_
  obtain ⟨q23, hv23, hX⟩ := z_bd hX
  refine z_nI (pc := 23) (atype := .boolean) (t := 2) (N := 30) (c2 := 3) (s2 := 90) G kt_408 rfl (by decide) rfl (fun _ z => by cases z) (by decide) (by decide) (by decide) ⟨rfl, rfl⟩ ⟨by decide, by decide⟩ dX4_init_23 hv23 ?_
  obtain ⟨h25, hv25, hX⟩ := z_bd hX
  refine z_putF (pc := 25) G kK4 (k := 3) (by decide) kt_374 (Or.inr ⟨rfl, hnm, rfl⟩) rfl rfl dX4_init_25 hv25 ?_
  refine z_aload_n (pc := 28) G 0 dX4_init_28 rfl rfl ?_
  refine z_bipush (pc := 29) (v := 30) G dX4_init_29 (by decide) ?_
  obtain ⟨q31, hv31, hX⟩ := z_bd hX
  refine z_nI (pc := 31) (atype := .int) (t := 0) (N := 30) (c2 := 4) (s2 := 120) G kt_136 rfl (by decide) rfl (fun _ z => by cases z) (by decide) (by decide) (by decide) ⟨rfl, rfl⟩ ⟨by decide, by decide⟩ dX4_init_31 hv31 ?_
  obtain ⟨h33, hv33, hX⟩ := z_bd hX
  refine z_putF (pc := 33) G kK4 (k := 4) (by decide) kt_375 (Or.inr ⟨rfl, hnm, rfl⟩) rfl rfl dX4_init_33 hv33 ?_
  refine z_aload_n (pc := 36) G 0 dX4_init_36 rfl rfl ?_
  refine z_bipush (pc := 37) (v := 30) G dX4_init_37 (by decide) ?_
  obtain ⟨q39, hv39, hX⟩ := z_bd hX
  refine z_nI (pc := 39) (atype := .int) (t := 0) (N := 30) (c2 := 5) (s2 := 150) G kt_136 rfl (by decide) rfl (fun _ z => by cases z) (by decide) (by decide) (by decide) ⟨rfl, rfl⟩ ⟨by decide, by decide⟩ dX4_init_39 hv39 ?_
  obtain ⟨h41, hv41, hX⟩ := z_bd hX
  refine z_putF (pc := 41) G kK4 (k := 5) (by decide) kt_376 (Or.inr ⟨rfl, hnm, rfl⟩) rfl rfl dX4_init_41 hv41 ?_
  refine z_aload_n (pc := 44) G 0 dX4_init_44 rfl rfl ?_
  refine z_bipush (pc := 45) (v := 100) G dX4_init_45 (by decide) ?_
  obtain ⟨q47, hv47, hX⟩ := z_bd hX
  refine z_nI (pc := 47) (atype := .boolean) (t := 2) (N := 100) (c2 := 6) (s2 := 250) G kt_408 rfl (by decide) rfl (fun _ z => by cases z) (by decide) (by decide) (by decide) ⟨rfl, rfl⟩ ⟨by decide, by decide⟩ dX4_init_47 hv47 ?_
  obtain ⟨h49, hv49, hX⟩ := z_bd hX
  refine z_putF (pc := 49) G kK4 (k := 6) (by decide) kt_377 (Or.inr ⟨rfl, hnm, rfl⟩) rfl rfl dX4_init_49 hv49 ?_
  refine z_aload_n (pc := 52) G 0 dX4_init_52 rfl rfl ?_
  refine z_aload_n (pc := 53) G 1 dX4_init_53 rfl rfl ?_
  obtain ⟨h54, hv54, hX⟩ := z_bd hX
  refine z_putF (pc := 54) G kK4 (k := 0) (by decide) kt_371 (Or.inr ⟨rfl, hnm, rfl⟩) rfl rfl dX4_init_54 hv54 ?_
  exact z_vretX (pc := 57) hX G hr dX4_init_57 (by decide) (by decide)
theorem dX4_forget_0 : decode cX4_forget 0 = .ok (.aload_n 0, 1) := by decide +kernel
theorem dX4_forget_1 : decode cX4_forget 1 = .ok (.iconst 0, 1) := by decide +kernel
theorem dX4_forget_2 : decode cX4_forget 2 = .ok (.putfield 35, 3) := by decide +kernel
theorem dX4_forget_5 : decode cX4_forget 5 = .ok (.return_, 1) := by decide +kernel
theorem ydX4_forget : z_yd yX4_forget 0 := ⟨by decide, by decide, by decide +kernel⟩
abbrev rmX4_forget : Room := { frames := 0, cells := 0, slots := 0, locals := 0 }
noncomputable def xX4_forget (l0 : Nat) (h : ZH) : Option ZH := ((z_sF h l0 4 8 (.int (0 : Int32))).bind fun h2 => some h2)
set_option maxHeartbeats 4000000 in
set_option maxRecDepth 100000 in
theorem lX4_forget {Γ : ZG} {l : Launch} (hO : z_OK Γ) {l0 : Nat} {h : ZH} {r : ZH} (hX : xX4_forget l0 h = some r) : z_M Γ l yX4_forget (z_ws1 yX4_forget cX4_forget 1 none) rmX4_forget [.ref l0] h none r := by
  refine z_start hO (plainFor_of_name (by decide)) (Nat.le_of_ble_eq_true rfl) ?_
  intro p e s m args below meth c G hr hnm
  refine z_lvc (lv2 := [(0, .ref l0)]) rfl ?_
  refine z_aload_n (pc := 0) G 0 dX4_forget_0 rfl rfl ?_
  refine z_iconst (pc := 1) (v := 0) G dX4_forget_1 (by decide) ?_
  obtain ⟨h2, hv2, hX⟩ := z_bd hX
  refine z_putF (pc := 2) G kK4 (k := 8) (by decide) kt_379 (Or.inl rfl) rfl rfl dX4_forget_2 hv2 ?_
  exact z_vretX (pc := 5) hX G hr dX4_forget_5 (by decide) (by decide)
theorem dX4_tell_0 : decode cX4_tell 0 = .ok (.iload_n 1, 1) := by decide +kernel
theorem dX4_tell_1 : decode cX4_tell 1 = .ok (.ifCond .lt 37, 3) := by decide +kernel
theorem dX4_tell_4 : decode cX4_tell 4 = .ok (.iload_n 1, 1) := by decide +kernel
theorem dX4_tell_5 : decode cX4_tell 5 = .ok (.bipush 40, 2) := by decide +kernel
theorem dX4_tell_7 : decode cX4_tell 7 = .ok (.if_icmp .gt 31, 3) := by decide +kernel
theorem dX4_tell_10 : decode cX4_tell 10 = .ok (.aload_n 0, 1) := by decide +kernel
theorem dX4_tell_11 : decode cX4_tell 11 = .ok (.getfield 31, 3) := by decide +kernel
theorem dX4_tell_14 : decode cX4_tell 14 = .ok (.iload_n 2, 1) := by decide +kernel
theorem dX4_tell_15 : decode cX4_tell 15 = .ok (.invokevirtual 39, 3) := by decide +kernel
theorem dX4_tell_18 : decode cX4_tell 18 = .ok (.ifCond .eq 20, 3) := by decide +kernel
theorem dX4_tell_21 : decode cX4_tell 21 = .ok (.iload_n 2, 1) := by decide +kernel
theorem dX4_tell_22 : decode cX4_tell 22 = .ok (.aload_n 0, 1) := by decide +kernel
theorem dX4_tell_23 : decode cX4_tell 23 = .ok (.getfield 31, 3) := by decide +kernel
theorem dX4_tell_26 : decode cX4_tell 26 = .ok (.getfield 45, 3) := by decide +kernel
theorem dX4_tell_29 : decode cX4_tell 29 = .ok (.iconst 1, 1) := by decide +kernel
theorem dX4_tell_30 : decode cX4_tell 30 = .ok (.isub, 1) := by decide +kernel
theorem dX4_tell_31 : decode cX4_tell 31 = .ok (.if_icmp .eq 7, 3) := by decide +kernel
theorem dX4_tell_34 : decode cX4_tell 34 = .ok (.iconst 1, 1) := by decide +kernel
theorem dX4_tell_35 : decode cX4_tell 35 = .ok (.goto 4, 3) := by decide +kernel
theorem dX4_tell_38 : decode cX4_tell 38 = .ok (.iconst 0, 1) := by decide +kernel
theorem dX4_tell_39 : decode cX4_tell 39 = .ok (.istore 5, 2) := by decide +kernel
theorem dX4_tell_41 : decode cX4_tell 41 = .ok (.iload 5, 2) := by decide +kernel
theorem dX4_tell_43 : decode cX4_tell 43 = .ok (.ifCond .eq 12, 3) := by decide +kernel
theorem dX4_tell_46 : decode cX4_tell 46 = .ok (.aload_n 0, 1) := by decide +kernel
theorem dX4_tell_47 : decode cX4_tell 47 = .ok (.getfield 35, 3) := by decide +kernel
theorem dX4_tell_50 : decode cX4_tell 50 = .ok (.bipush 30, 2) := by decide +kernel
theorem dX4_tell_52 : decode cX4_tell 52 = .ok (.if_icmp .lt 5, 3) := by decide +kernel
theorem dX4_tell_55 : decode cX4_tell 55 = .ok (.iconst (-1), 1) := by decide +kernel
theorem dX4_tell_56 : decode cX4_tell 56 = .ok (.ireturn, 1) := by decide +kernel
theorem dX4_tell_57 : decode cX4_tell 57 = .ok (.aload_n 0, 1) := by decide +kernel
theorem dX4_tell_58 : decode cX4_tell 58 = .ok (.getfield 11, 3) := by decide +kernel
theorem dX4_tell_61 : decode cX4_tell 61 = .ok (.aload_n 0, 1) := by decide +kernel
theorem dX4_tell_62 : decode cX4_tell 62 = .ok (.getfield 35, 3) := by decide +kernel
theorem dX4_tell_65 : decode cX4_tell 65 = .ok (.iload_n 1, 1) := by decide +kernel
theorem dX4_tell_66 : decode cX4_tell 66 = .ok (.iastore, 1) := by decide +kernel
theorem dX4_tell_67 : decode cX4_tell 67 = .ok (.aload_n 0, 1) := by decide +kernel
theorem dX4_tell_68 : decode cX4_tell 68 = .ok (.getfield 15, 3) := by decide +kernel
theorem dX4_tell_71 : decode cX4_tell 71 = .ok (.aload_n 0, 1) := by decide +kernel
theorem dX4_tell_72 : decode cX4_tell 72 = .ok (.getfield 35, 3) := by decide +kernel
theorem dX4_tell_75 : decode cX4_tell 75 = .ok (.iload_n 2, 1) := by decide +kernel
theorem dX4_tell_76 : decode cX4_tell 76 = .ok (.iastore, 1) := by decide +kernel
theorem dX4_tell_77 : decode cX4_tell 77 = .ok (.aload_n 0, 1) := by decide +kernel
theorem dX4_tell_78 : decode cX4_tell 78 = .ok (.getfield 18, 3) := by decide +kernel
theorem dX4_tell_81 : decode cX4_tell 81 = .ok (.aload_n 0, 1) := by decide +kernel
theorem dX4_tell_82 : decode cX4_tell 82 = .ok (.getfield 35, 3) := by decide +kernel
theorem dX4_tell_85 : decode cX4_tell 85 = .ok (.iload_n 3, 1) := by decide +kernel
theorem dX4_tell_86 : decode cX4_tell 86 = .ok (.bastore, 1) := by decide +kernel
theorem dX4_tell_87 : decode cX4_tell 87 = .ok (.aload_n 0, 1) := by decide +kernel
theorem dX4_tell_88 : decode cX4_tell 88 = .ok (.getfield 22, 3) := by decide +kernel
theorem dX4_tell_91 : decode cX4_tell 91 = .ok (.aload_n 0, 1) := by decide +kernel
theorem dX4_tell_92 : decode cX4_tell 92 = .ok (.getfield 35, 3) := by decide +kernel
theorem dX4_tell_95 : decode cX4_tell 95 = .ok (.iload 4, 2) := by decide +kernel
theorem dX4_tell_97 : decode cX4_tell 97 = .ok (.iastore, 1) := by decide +kernel
theorem dX4_tell_98 : decode cX4_tell 98 = .ok (.aload_n 0, 1) := by decide +kernel
theorem dX4_tell_99 : decode cX4_tell 99 = .ok (.getfield 25, 3) := by decide +kernel
theorem dX4_tell_102 : decode cX4_tell 102 = .ok (.aload_n 0, 1) := by decide +kernel
theorem dX4_tell_103 : decode cX4_tell 103 = .ok (.getfield 35, 3) := by decide +kernel
theorem dX4_tell_106 : decode cX4_tell 106 = .ok (.iconst (-1), 1) := by decide +kernel
theorem dX4_tell_107 : decode cX4_tell 107 = .ok (.iastore, 1) := by decide +kernel
theorem dX4_tell_108 : decode cX4_tell 108 = .ok (.aload_n 0, 1) := by decide +kernel
theorem dX4_tell_109 : decode cX4_tell 109 = .ok (.dup, 1) := by decide +kernel
theorem dX4_tell_110 : decode cX4_tell 110 = .ok (.getfield 35, 3) := by decide +kernel
theorem dX4_tell_113 : decode cX4_tell 113 = .ok (.iconst 1, 1) := by decide +kernel
theorem dX4_tell_114 : decode cX4_tell 114 = .ok (.iadd, 1) := by decide +kernel
theorem dX4_tell_115 : decode cX4_tell 115 = .ok (.putfield 35, 3) := by decide +kernel
theorem dX4_tell_118 : decode cX4_tell 118 = .ok (.aload_n 0, 1) := by decide +kernel
theorem dX4_tell_119 : decode cX4_tell 119 = .ok (.getfield 35, 3) := by decide +kernel
theorem dX4_tell_122 : decode cX4_tell 122 = .ok (.iconst 1, 1) := by decide +kernel
theorem dX4_tell_123 : decode cX4_tell 123 = .ok (.isub, 1) := by decide +kernel
theorem dX4_tell_124 : decode cX4_tell 124 = .ok (.ireturn, 1) := by decide +kernel
theorem ydX4_tell : z_yd yX4_tell 4 := ⟨by decide, by decide, by decide +kernel⟩
abbrev rmX4_tell : Room := { frames := 1, cells := 0, slots := 0, locals := 21 }
noncomputable def xX4_tell_B39 (l0 : Nat) (l1 : Int32) (l2 : Int32) (l3 : Int32) (l4 : Int32) (s0 : Int32) (h : ZH) : Option (Int32 × ZH) := (if s0 = 0 then some ((-1 : Int32), h) else ((z_gI h l0 4 8).bind fun x47 => (if x47 < (30 : Int32) then ((z_gR h l0 4 1).bind fun x58 => ((z_gI h l0 4 8).bind fun x62 => ((z_uI h x58 x62 l1).bind fun h66 => ((z_gR h66 l0 4 2).bind fun x68 => ((z_gI h66 l0 4 8).bind fun x72 => ((z_uI h66 x68 x72 l2).bind fun h76 => ((z_gR h76 l0 4 3).bind fun x78 => ((z_gI h76 l0 4 8).bind fun x82 => ((z_uB h76 x78 x82 l3).bind fun h86 => ((z_gR h86 l0 4 4).bind fun x88 => ((z_gI h86 l0 4 8).bind fun x92 => ((z_uI h86 x88 x92 l4).bind fun h97 => ((z_gR h97 l0 4 5).bind fun x99 => ((z_gI h97 l0 4 8).bind fun x103 => ((z_uI h97 x99 x103 (-1 : Int32)).bind fun h107 => ((z_gI h107 l0 4 8).bind fun x110 => ((z_sF h107 l0 4 8 (.int (x110 + (1 : Int32)))).bind fun h115 => ((z_gI h115 l0 4 8).bind fun x119 => some ((x119 - (1 : Int32)), h115))))))))))))))))))) else some ((-1 : Int32), h))))
set_option maxHeartbeats 4000000 in
set_option maxRecDepth 100000 in
theorem wX4_tell_B39 {Γ : ZG} {p : Program} {l : Launch} {e : Env} {s : State} {m : MethodId} {args : Array Value} {below : List Frame} {meth : Method} {c : Code} (hO : z_OK Γ) (G : z_GG Γ p s m args meth c cX4_tell 6 RX4) (hr : meth.sig.returnType = (some .int)) (hnm : meth.name = "tell") {r : (Int32 × ZH)} : ∀ (l0 : Nat) (l1 : Int32) (l2 : Int32) (l3 : Int32) (l4 : Int32) (s0 : Int32) (h : ZH), xX4_tell_B39  l0 l1 l2 l3 l4 s0 h = some r → z_W Γ p l e rmX4_tell s m args below meth c 6 0 0 (MQ below (z_Qc Γ (some (.int r.1)) r.2) args s rmX4_tell.cells rmX4_tell.slots (z_A Γ)) 39 [(0, .ref l0), (1, .int l1), (2, .int l2), (3, .int l3), (4, .int l4)] [.int s0] h := by
  intro l0 l1 l2 l3 l4 s0 h hX
  refine z_istore (pc := 39) (lv2 := [(0, .ref l0), (1, .int l1), (2, .int l2), (3, .int l3), (4, .int l4), (5, .int s0)]) G dX4_tell_39 (by decide) rfl rfl ?_
  refine z_iload (pc := 41) G 5 dX4_tell_41 rfl ?_
  refine z_if_eq (pc := 43) (tgt := 55) G dX4_tell_43 (by decide) (fun hc43 => ?_) (fun hc43 => ?_)
  · have hX := z_it hc43 hX
    refine z_iconst (pc := 55) (v := (-1)) G dX4_tell_55 (by decide) ?_
    exact z_iretX (pc := 56) hX G hr dX4_tell_56 (by decide) (by decide)
  · have hX := z_if hc43 hX
    refine z_aload_n (pc := 46) G 0 dX4_tell_46 rfl rfl ?_
    obtain ⟨x47, hv47, hX⟩ := z_bd hX
    refine z_getI (pc := 47) G kK4 (k := 8) (by decide) kt_379 dX4_tell_47 hv47 ?_
    refine z_bipush (pc := 50) (v := 30) G dX4_tell_50 (by decide) ?_
    refine z_icmp_lt (pc := 52) (tgt := 57) G dX4_tell_52 (by decide) (fun hc52 => ?_) (fun hc52 => ?_)
    · have hX := z_it hc52 hX
      refine z_aload_n (pc := 57) G 0 dX4_tell_57 rfl rfl ?_
      obtain ⟨x58, hv58, hX⟩ := z_bd hX
      refine z_getR (pc := 58) G kK4 (k := 1) (by decide) kt_372 dX4_tell_58 hv58 ?_
      refine z_aload_n (pc := 61) G 0 dX4_tell_61 rfl rfl ?_
      obtain ⟨x62, hv62, hX⟩ := z_bd hX
      refine z_getI (pc := 62) G kK4 (k := 8) (by decide) kt_379 dX4_tell_62 hv62 ?_
      refine z_iload_n (pc := 65) G 1 dX4_tell_65 rfl rfl ?_
      obtain ⟨h66, hv66, hX⟩ := z_bd hX
      refine z_iast (pc := 66) G dX4_tell_66 hv66 ?_
      refine z_aload_n (pc := 67) G 0 dX4_tell_67 rfl rfl ?_
      obtain ⟨x68, hv68, hX⟩ := z_bd hX
      refine z_getR (pc := 68) G kK4 (k := 2) (by decide) kt_373 dX4_tell_68 hv68 ?_
      refine z_aload_n (pc := 71) G 0 dX4_tell_71 rfl rfl ?_
      obtain ⟨x72, hv72, hX⟩ := z_bd hX
      refine z_getI (pc := 72) G kK4 (k := 8) (by decide) kt_379 dX4_tell_72 hv72 ?_
      refine z_iload_n (pc := 75) G 2 dX4_tell_75 rfl rfl ?_
      obtain ⟨h76, hv76, hX⟩ := z_bd hX
      refine z_iast (pc := 76) G dX4_tell_76 hv76 ?_
      refine z_aload_n (pc := 77) G 0 dX4_tell_77 rfl rfl ?_
      obtain ⟨x78, hv78, hX⟩ := z_bd hX
      refine z_getR (pc := 78) G kK4 (k := 3) (by decide) kt_374 dX4_tell_78 hv78 ?_
      refine z_aload_n (pc := 81) G 0 dX4_tell_81 rfl rfl ?_
      obtain ⟨x82, hv82, hX⟩ := z_bd hX
      refine z_getI (pc := 82) G kK4 (k := 8) (by decide) kt_379 dX4_tell_82 hv82 ?_
      refine z_iload_n (pc := 85) G 3 dX4_tell_85 rfl rfl ?_
      obtain ⟨h86, hv86, hX⟩ := z_bd hX
      refine z_bast (pc := 86) G dX4_tell_86 hv86 ?_
      refine z_aload_n (pc := 87) G 0 dX4_tell_87 rfl rfl ?_
      obtain ⟨x88, hv88, hX⟩ := z_bd hX
      refine z_getR (pc := 88) G kK4 (k := 4) (by decide) kt_375 dX4_tell_88 hv88 ?_
      refine z_aload_n (pc := 91) G 0 dX4_tell_91 rfl rfl ?_
      obtain ⟨x92, hv92, hX⟩ := z_bd hX
      refine z_getI (pc := 92) G kK4 (k := 8) (by decide) kt_379 dX4_tell_92 hv92 ?_
      refine z_iload (pc := 95) G 4 dX4_tell_95 rfl ?_
      obtain ⟨h97, hv97, hX⟩ := z_bd hX
      refine z_iast (pc := 97) G dX4_tell_97 hv97 ?_
      refine z_aload_n (pc := 98) G 0 dX4_tell_98 rfl rfl ?_
      obtain ⟨x99, hv99, hX⟩ := z_bd hX
      refine z_getR (pc := 99) G kK4 (k := 5) (by decide) kt_376 dX4_tell_99 hv99 ?_
      refine z_aload_n (pc := 102) G 0 dX4_tell_102 rfl rfl ?_
      obtain ⟨x103, hv103, hX⟩ := z_bd hX
      refine z_getI (pc := 103) G kK4 (k := 8) (by decide) kt_379 dX4_tell_103 hv103 ?_
      refine z_iconst (pc := 106) (v := (-1)) G dX4_tell_106 (by decide) ?_
      obtain ⟨h107, hv107, hX⟩ := z_bd hX
      refine z_iast (pc := 107) G dX4_tell_107 hv107 ?_
      refine z_aload_n (pc := 108) G 0 dX4_tell_108 rfl rfl ?_
      refine z_dup (pc := 109) G dX4_tell_109 rfl ?_
      obtain ⟨x110, hv110, hX⟩ := z_bd hX
      refine z_getI (pc := 110) G kK4 (k := 8) (by decide) kt_379 dX4_tell_110 hv110 ?_
      refine z_iconst (pc := 113) (v := 1) G dX4_tell_113 (by decide) ?_
      refine z_iadd (pc := 114) G dX4_tell_114 ?_
      obtain ⟨h115, hv115, hX⟩ := z_bd hX
      refine z_putF (pc := 115) G kK4 (k := 8) (by decide) kt_379 (Or.inl rfl) rfl rfl dX4_tell_115 hv115 ?_
      refine z_aload_n (pc := 118) G 0 dX4_tell_118 rfl rfl ?_
      obtain ⟨x119, hv119, hX⟩ := z_bd hX
      refine z_getI (pc := 119) G kK4 (k := 8) (by decide) kt_379 dX4_tell_119 hv119 ?_
      refine z_iconst (pc := 122) (v := 1) G dX4_tell_122 (by decide) ?_
      refine z_isub (pc := 123) G dX4_tell_123 ?_
      exact z_iretX (pc := 124) hX G hr dX4_tell_124 (by decide) (by decide)
    · have hX := z_if hc52 hX
      refine z_iconst (pc := 55) (v := (-1)) G dX4_tell_55 (by decide) ?_
      exact z_iretX (pc := 56) hX G hr dX4_tell_56 (by decide) (by decide)
noncomputable def xX4_tell_B38 (l0 : Nat) (l1 : Int32) (l2 : Int32) (l3 : Int32) (l4 : Int32) (h : ZH) : Option (Int32 × ZH) := xX4_tell_B39 l0 l1 l2 l3 l4 (0 : Int32) h
set_option maxHeartbeats 4000000 in
set_option maxRecDepth 100000 in
theorem wX4_tell_B38 {Γ : ZG} {p : Program} {l : Launch} {e : Env} {s : State} {m : MethodId} {args : Array Value} {below : List Frame} {meth : Method} {c : Code} (hO : z_OK Γ) (G : z_GG Γ p s m args meth c cX4_tell 6 RX4) (hr : meth.sig.returnType = (some .int)) (hnm : meth.name = "tell") {r : (Int32 × ZH)} : ∀ (l0 : Nat) (l1 : Int32) (l2 : Int32) (l3 : Int32) (l4 : Int32) (h : ZH), xX4_tell_B38  l0 l1 l2 l3 l4 h = some r → z_W Γ p l e rmX4_tell s m args below meth c 6 0 0 (MQ below (z_Qc Γ (some (.int r.1)) r.2) args s rmX4_tell.cells rmX4_tell.slots (z_A Γ)) 38 [(0, .ref l0), (1, .int l1), (2, .int l2), (3, .int l3), (4, .int l4)] [] h := by
  intro l0 l1 l2 l3 l4 h hX
  refine z_iconst (pc := 38) (v := 0) G dX4_tell_38 (by decide) ?_
  exact wX4_tell_B39 hO G hr hnm _ _ _ _ _ _ _ hX
noncomputable def xX4_tell (l0 : Nat) (l1 : Int32) (l2 : Int32) (l3 : Int32) (l4 : Int32) (h : ZH) : Option (Int32 × ZH) := (if l1 < 0 then xX4_tell_B38 l0 l1 l2 l3 l4 h else (if (40 : Int32) < l1 then xX4_tell_B38 l0 l1 l2 l3 l4 h else ((z_gR h l0 4 0).bind fun x11 => (z_gu (z_is h x11 2) ((xX2_isShip x11 l2 h).bind fun r15 => (if r15.1 = 0 then xX4_tell_B38 l0 l1 l2 l3 l4 r15.2 else ((z_gR r15.2 l0 4 0).bind fun x23 => ((z_gI r15.2 x23 2 7).bind fun x26 => (if l2 = (x26 - (1 : Int32)) then xX4_tell_B38 l0 l1 l2 l3 l4 r15.2 else xX4_tell_B39 l0 l1 l2 l3 l4 (1 : Int32) r15.2)))))))))
set_option maxHeartbeats 4000000 in
set_option maxRecDepth 100000 in
theorem lX4_tell {Γ : ZG} {l : Launch} (hO : z_OK Γ) {l0 : Nat} {l1 : Int32} {l2 : Int32} {l3 : Int32} {l4 : Int32} {h : ZH} {r : (Int32 × ZH)} (hX : xX4_tell l0 l1 l2 l3 l4 h = some r) : z_M Γ l yX4_tell (z_ws1 yX4_tell cX4_tell 6 (some .int)) rmX4_tell [.ref l0, .int l1, .int l2, .int l3, .int l4] h (some (.int r.1)) r.2 := by
  refine z_start hO (plainFor_of_name (by decide)) (Nat.le_of_ble_eq_true rfl) ?_
  intro p e s m args below meth c G hr hnm
  refine z_lvc (lv2 := [(0, .ref l0), (1, .int l1), (2, .int l2), (3, .int l3), (4, .int l4)]) rfl ?_
  refine z_iload_n (pc := 0) G 1 dX4_tell_0 rfl rfl ?_
  refine z_if_lt (pc := 1) (tgt := 38) G dX4_tell_1 (by decide) (fun hc1 => ?_) (fun hc1 => ?_)
  · have hX := z_it hc1 hX
    exact wX4_tell_B38 hO G hr hnm _ _ _ _ _ _ hX
  · have hX := z_if hc1 hX
    refine z_iload_n (pc := 4) G 1 dX4_tell_4 rfl rfl ?_
    refine z_bipush (pc := 5) (v := 40) G dX4_tell_5 (by decide) ?_
    refine z_icmp_gt (pc := 7) (tgt := 38) G dX4_tell_7 (by decide) (fun hc7 => ?_) (fun hc7 => ?_)
    · have hX := z_it hc7 hX
      exact wX4_tell_B38 hO G hr hnm _ _ _ _ _ _ hX
    · have hX := z_if hc7 hX
      refine z_aload_n (pc := 10) G 0 dX4_tell_10 rfl rfl ?_
      obtain ⟨x11, hv11, hX⟩ := z_bd hX
      refine z_getR (pc := 11) G kK4 (k := 0) (by decide) kt_371 dX4_tell_11 hv11 ?_
      refine z_iload_n (pc := 14) G 2 dX4_tell_14 rfl rfl ?_
      obtain ⟨hi15, hX⟩ := z_gu_s hX
      obtain ⟨r15, hv15, hX⟩ := z_bd hX
      refine z_cVI (pc := 15) (As := [.int l2]) (c2 := 0) (s2 := 0) G kK2 (lX2_isShip hO hv15) hi15 kt_727 kt_3 kt_1135 kt_725 kt_726 ydX2_isShip ⟨by decide, by decide⟩ rfl (Nat.le_of_ble_eq_true rfl) ⟨rfl, rfl⟩ ⟨by decide, by decide⟩ rfl dX4_tell_15 ?_
      refine z_if_eq (pc := 18) (tgt := 38) G dX4_tell_18 (by decide) (fun hc18 => ?_) (fun hc18 => ?_)
      · have hX := z_it hc18 hX
        exact wX4_tell_B38 hO G hr hnm _ _ _ _ _ _ hX
      · have hX := z_if hc18 hX
        refine z_iload_n (pc := 21) G 2 dX4_tell_21 rfl rfl ?_
        refine z_aload_n (pc := 22) G 0 dX4_tell_22 rfl rfl ?_
        obtain ⟨x23, hv23, hX⟩ := z_bd hX
        refine z_getR (pc := 23) G kK4 (k := 0) (by decide) kt_371 dX4_tell_23 hv23 ?_
        obtain ⟨x26, hv26, hX⟩ := z_bd hX
        refine z_getI (pc := 26) G kK2 (k := 7) (by decide) kt_69 dX4_tell_26 hv26 ?_
        refine z_iconst (pc := 29) (v := 1) G dX4_tell_29 (by decide) ?_
        refine z_isub (pc := 30) G dX4_tell_30 ?_
        refine z_icmp_eq (pc := 31) (tgt := 38) G dX4_tell_31 (by decide) (fun hc31 => ?_) (fun hc31 => ?_)
        · have hX := z_it hc31 hX
          exact wX4_tell_B38 hO G hr hnm _ _ _ _ _ _ hX
        · have hX := z_if hc31 hX
          refine z_iconst (pc := 34) (v := 1) G dX4_tell_34 (by decide) ?_
          refine z_goto (pc := 35) (tgt := 39) G dX4_tell_35 (by decide) ?_
          exact wX4_tell_B39 hO G hr hnm _ _ _ _ _ _ _ hX
theorem dX4_takeBack_0 : decode cX4_takeBack 0 = .ok (.iload_n 1, 1) := by decide +kernel
theorem dX4_takeBack_1 : decode cX4_takeBack 1 = .ok (.ifCond .lt 21, 3) := by decide +kernel
theorem dX4_takeBack_4 : decode cX4_takeBack 4 = .ok (.iload_n 1, 1) := by decide +kernel
theorem dX4_takeBack_5 : decode cX4_takeBack 5 = .ok (.aload_n 0, 1) := by decide +kernel
theorem dX4_takeBack_6 : decode cX4_takeBack 6 = .ok (.getfield 35, 3) := by decide +kernel
theorem dX4_takeBack_9 : decode cX4_takeBack 9 = .ok (.if_icmp .ge 13, 3) := by decide +kernel
theorem dX4_takeBack_12 : decode cX4_takeBack 12 = .ok (.aload_n 0, 1) := by decide +kernel
theorem dX4_takeBack_13 : decode cX4_takeBack 13 = .ok (.getfield 25, 3) := by decide +kernel
theorem dX4_takeBack_16 : decode cX4_takeBack 16 = .ok (.iload_n 1, 1) := by decide +kernel
theorem dX4_takeBack_17 : decode cX4_takeBack 17 = .ok (.iaload, 1) := by decide +kernel
theorem dX4_takeBack_18 : decode cX4_takeBack 18 = .ok (.iconst (-1), 1) := by decide +kernel
theorem dX4_takeBack_19 : decode cX4_takeBack 19 = .ok (.if_icmp .eq 5, 3) := by decide +kernel
theorem dX4_takeBack_22 : decode cX4_takeBack 22 = .ok (.iconst 0, 1) := by decide +kernel
theorem dX4_takeBack_23 : decode cX4_takeBack 23 = .ok (.ireturn, 1) := by decide +kernel
theorem dX4_takeBack_24 : decode cX4_takeBack 24 = .ok (.aload_n 0, 1) := by decide +kernel
theorem dX4_takeBack_25 : decode cX4_takeBack 25 = .ok (.getfield 25, 3) := by decide +kernel
theorem dX4_takeBack_28 : decode cX4_takeBack 28 = .ok (.iload_n 1, 1) := by decide +kernel
theorem dX4_takeBack_29 : decode cX4_takeBack 29 = .ok (.iload_n 2, 1) := by decide +kernel
theorem dX4_takeBack_30 : decode cX4_takeBack 30 = .ok (.iastore, 1) := by decide +kernel
theorem dX4_takeBack_31 : decode cX4_takeBack 31 = .ok (.iconst 1, 1) := by decide +kernel
theorem dX4_takeBack_32 : decode cX4_takeBack 32 = .ok (.ireturn, 1) := by decide +kernel
theorem ydX4_takeBack : z_yd yX4_takeBack 2 := ⟨by decide, by decide, by decide +kernel⟩
abbrev rmX4_takeBack : Room := { frames := 0, cells := 0, slots := 0, locals := 0 }
noncomputable def xX4_takeBack (l0 : Nat) (l1 : Int32) (l2 : Int32) (h : ZH) : Option (Int32 × ZH) := (if l1 < 0 then some ((0 : Int32), h) else ((z_gI h l0 4 8).bind fun x6 => (if x6 ≤ l1 then some ((0 : Int32), h) else ((z_gR h l0 4 5).bind fun x13 => ((z_aI h x13 l1).bind fun x17 => (if x17 = (-1 : Int32) then ((z_gR h l0 4 5).bind fun x25 => ((z_uI h x25 l1 l2).bind fun h30 => some ((1 : Int32), h30))) else some ((0 : Int32), h)))))))
set_option maxHeartbeats 4000000 in
set_option maxRecDepth 100000 in
theorem lX4_takeBack {Γ : ZG} {l : Launch} (hO : z_OK Γ) {l0 : Nat} {l1 : Int32} {l2 : Int32} {h : ZH} {r : (Int32 × ZH)} (hX : xX4_takeBack l0 l1 l2 h = some r) : z_M Γ l yX4_takeBack (z_ws1 yX4_takeBack cX4_takeBack 3 (some .boolean)) rmX4_takeBack [.ref l0, .int l1, .int l2] h (some (.int r.1)) r.2 := by
  refine z_start hO (plainFor_of_name (by decide)) (Nat.le_of_ble_eq_true rfl) ?_
  intro p e s m args below meth c G hr hnm
  refine z_lvc (lv2 := [(0, .ref l0), (1, .int l1), (2, .int l2)]) rfl ?_
  refine z_iload_n (pc := 0) G 1 dX4_takeBack_0 rfl rfl ?_
  refine z_if_lt (pc := 1) (tgt := 22) G dX4_takeBack_1 (by decide) (fun hc1 => ?_) (fun hc1 => ?_)
  · have hX := z_it hc1 hX
    refine z_iconst (pc := 22) (v := 0) G dX4_takeBack_22 (by decide) ?_
    exact z_zretX (pc := 23) hX G hr rfl dX4_takeBack_23 (by decide) (by decide)
  · have hX := z_if hc1 hX
    refine z_iload_n (pc := 4) G 1 dX4_takeBack_4 rfl rfl ?_
    refine z_aload_n (pc := 5) G 0 dX4_takeBack_5 rfl rfl ?_
    obtain ⟨x6, hv6, hX⟩ := z_bd hX
    refine z_getI (pc := 6) G kK4 (k := 8) (by decide) kt_379 dX4_takeBack_6 hv6 ?_
    refine z_icmp_ge (pc := 9) (tgt := 22) G dX4_takeBack_9 (by decide) (fun hc9 => ?_) (fun hc9 => ?_)
    · have hX := z_it hc9 hX
      refine z_iconst (pc := 22) (v := 0) G dX4_takeBack_22 (by decide) ?_
      exact z_zretX (pc := 23) hX G hr rfl dX4_takeBack_23 (by decide) (by decide)
    · have hX := z_if hc9 hX
      refine z_aload_n (pc := 12) G 0 dX4_takeBack_12 rfl rfl ?_
      obtain ⟨x13, hv13, hX⟩ := z_bd hX
      refine z_getR (pc := 13) G kK4 (k := 5) (by decide) kt_376 dX4_takeBack_13 hv13 ?_
      refine z_iload_n (pc := 16) G 1 dX4_takeBack_16 rfl rfl ?_
      obtain ⟨x17, hv17, hX⟩ := z_bd hX
      refine z_iald (pc := 17) G dX4_takeBack_17 hv17 ?_
      refine z_iconst (pc := 18) (v := (-1)) G dX4_takeBack_18 (by decide) ?_
      refine z_icmp_eq (pc := 19) (tgt := 24) G dX4_takeBack_19 (by decide) (fun hc19 => ?_) (fun hc19 => ?_)
      · have hX := z_it hc19 hX
        refine z_aload_n (pc := 24) G 0 dX4_takeBack_24 rfl rfl ?_
        obtain ⟨x25, hv25, hX⟩ := z_bd hX
        refine z_getR (pc := 25) G kK4 (k := 5) (by decide) kt_376 dX4_takeBack_25 hv25 ?_
        refine z_iload_n (pc := 28) G 1 dX4_takeBack_28 rfl rfl ?_
        refine z_iload_n (pc := 29) G 2 dX4_takeBack_29 rfl rfl ?_
        obtain ⟨h30, hv30, hX⟩ := z_bd hX
        refine z_iast (pc := 30) G dX4_takeBack_30 hv30 ?_
        refine z_iconst (pc := 31) (v := 1) G dX4_takeBack_31 (by decide) ?_
        exact z_zretX (pc := 32) hX G hr rfl dX4_takeBack_32 (by decide) (by decide)
      · have hX := z_if hc19 hX
        refine z_iconst (pc := 22) (v := 0) G dX4_takeBack_22 (by decide) ?_
        exact z_zretX (pc := 23) hX G hr rfl dX4_takeBack_23 (by decide) (by decide)
theorem dX5_placeAfter_0 : decode cX5_placeAfter 0 = .ok (.iload_n 0, 1) := by decide +kernel
theorem dX5_placeAfter_1 : decode cX5_placeAfter 1 = .ok (.iload_n 1, 1) := by decide +kernel
theorem dX5_placeAfter_2 : decode cX5_placeAfter 2 = .ok (.iload_n 2, 1) := by decide +kernel
theorem dX5_placeAfter_3 : decode cX5_placeAfter 3 = .ok (.imul, 1) := by decide +kernel
theorem dX5_placeAfter_4 : decode cX5_placeAfter 4 = .ok (.iadd, 1) := by decide +kernel
theorem dX5_placeAfter_5 : decode cX5_placeAfter 5 = .ok (.bipush 100, 2) := by decide +kernel
theorem dX5_placeAfter_7 : decode cX5_placeAfter 7 = .ok (.irem, 1) := by decide +kernel
theorem dX5_placeAfter_8 : decode cX5_placeAfter 8 = .ok (.ireturn, 1) := by decide +kernel
theorem ydX5_placeAfter : z_yd yX5_placeAfter 3 := ⟨by decide, by decide, by decide +kernel⟩
abbrev rmX5_placeAfter : Room := { frames := 0, cells := 0, slots := 0, locals := 0 }
noncomputable def xX5_placeAfter (l0 : Int32) (l1 : Int32) (l2 : Int32) (h : ZH) : Option (Int32 × ZH) := some (((l0 + (l1 * l2)) - (l0 + (l1 * l2)) / (100 : Int32) * (100 : Int32)), h)
set_option maxHeartbeats 4000000 in
set_option maxRecDepth 100000 in
theorem lX5_placeAfter {Γ : ZG} {l : Launch} (hO : z_OK Γ) {l0 : Int32} {l1 : Int32} {l2 : Int32} {h : ZH} {r : (Int32 × ZH)} (hX : xX5_placeAfter l0 l1 l2 h = some r) : z_M Γ l yX5_placeAfter (z_ws1 yX5_placeAfter cX5_placeAfter 3 (some .int)) rmX5_placeAfter [.int l0, .int l1, .int l2] h (some (.int r.1)) r.2 := by
  refine z_start hO (plainFor_of_name (by decide)) (Nat.le_of_ble_eq_true rfl) ?_
  intro p e s m args below meth c G hr hnm
  refine z_lvc (lv2 := [(0, .int l0), (1, .int l1), (2, .int l2)]) rfl ?_
  refine z_iload_n (pc := 0) G 0 dX5_placeAfter_0 rfl rfl ?_
  refine z_iload_n (pc := 1) G 1 dX5_placeAfter_1 rfl rfl ?_
  refine z_iload_n (pc := 2) G 2 dX5_placeAfter_2 rfl rfl ?_
  refine z_imul (pc := 3) G dX5_placeAfter_3 ?_
  refine z_iadd (pc := 4) G dX5_placeAfter_4 ?_
  refine z_bipush (pc := 5) (v := 100) G dX5_placeAfter_5 (by decide) ?_
  refine z_irem (pc := 7) G dX5_placeAfter_7 (by decide) ?_
  exact z_iretX (pc := 8) hX G hr dX5_placeAfter_8 (by decide) (by decide)
theorem dX4_wasInRange_0 : decode cX4_wasInRange 0 = .ok (.aload_n 0, 1) := by decide +kernel
theorem dX4_wasInRange_1 : decode cX4_wasInRange 1 = .ok (.getfield 31, 3) := by decide +kernel
theorem dX4_wasInRange_4 : decode cX4_wasInRange 4 = .ok (.getfield 45, 3) := by decide +kernel
theorem dX4_wasInRange_7 : decode cX4_wasInRange 7 = .ok (.iconst 1, 1) := by decide +kernel
theorem dX4_wasInRange_8 : decode cX4_wasInRange 8 = .ok (.isub, 1) := by decide +kernel
theorem dX4_wasInRange_9 : decode cX4_wasInRange 9 = .ok (.istore 4, 2) := by decide +kernel
theorem dX4_wasInRange_11 : decode cX4_wasInRange 11 = .ok (.iload 4, 2) := by decide +kernel
theorem dX4_wasInRange_13 : decode cX4_wasInRange 13 = .ok (.ifCond .ge 5, 3) := by decide +kernel
theorem dX4_wasInRange_16 : decode cX4_wasInRange 16 = .ok (.iconst 0, 1) := by decide +kernel
theorem dX4_wasInRange_17 : decode cX4_wasInRange 17 = .ok (.ireturn, 1) := by decide +kernel
theorem dX4_wasInRange_18 : decode cX4_wasInRange 18 = .ok (.iload_n 1, 1) := by decide +kernel
theorem dX4_wasInRange_19 : decode cX4_wasInRange 19 = .ok (.aload_n 0, 1) := by decide +kernel
theorem dX4_wasInRange_20 : decode cX4_wasInRange 20 = .ok (.getfield 31, 3) := by decide +kernel
theorem dX4_wasInRange_23 : decode cX4_wasInRange 23 = .ok (.getfield 58, 3) := by decide +kernel
theorem dX4_wasInRange_26 : decode cX4_wasInRange 26 = .ok (.iload 4, 2) := by decide +kernel
theorem dX4_wasInRange_28 : decode cX4_wasInRange 28 = .ok (.iaload, 1) := by decide +kernel
theorem dX4_wasInRange_29 : decode cX4_wasInRange 29 = .ok (.iload_n 3, 1) := by decide +kernel
theorem dX4_wasInRange_30 : decode cX4_wasInRange 30 = .ok (.invokestatic 61, 3) := by decide +kernel
theorem dX4_wasInRange_33 : decode cX4_wasInRange 33 = .ok (.aload_n 0, 1) := by decide +kernel
theorem dX4_wasInRange_34 : decode cX4_wasInRange 34 = .ok (.getfield 31, 3) := by decide +kernel
theorem dX4_wasInRange_37 : decode cX4_wasInRange 37 = .ok (.getfield 67, 3) := by decide +kernel
theorem dX4_wasInRange_40 : decode cX4_wasInRange 40 = .ok (.iload_n 2, 1) := by decide +kernel
theorem dX4_wasInRange_41 : decode cX4_wasInRange 41 = .ok (.iaload, 1) := by decide +kernel
theorem dX4_wasInRange_42 : decode cX4_wasInRange 42 = .ok (.aload_n 0, 1) := by decide +kernel
theorem dX4_wasInRange_43 : decode cX4_wasInRange 43 = .ok (.getfield 31, 3) := by decide +kernel
theorem dX4_wasInRange_46 : decode cX4_wasInRange 46 = .ok (.getfield 58, 3) := by decide +kernel
theorem dX4_wasInRange_49 : decode cX4_wasInRange 49 = .ok (.iload_n 2, 1) := by decide +kernel
theorem dX4_wasInRange_50 : decode cX4_wasInRange 50 = .ok (.iaload, 1) := by decide +kernel
theorem dX4_wasInRange_51 : decode cX4_wasInRange 51 = .ok (.iload_n 3, 1) := by decide +kernel
theorem dX4_wasInRange_52 : decode cX4_wasInRange 52 = .ok (.invokestatic 61, 3) := by decide +kernel
theorem dX4_wasInRange_55 : decode cX4_wasInRange 55 = .ok (.isub, 1) := by decide +kernel
theorem dX4_wasInRange_56 : decode cX4_wasInRange 56 = .ok (.istore 5, 2) := by decide +kernel
theorem dX4_wasInRange_58 : decode cX4_wasInRange 58 = .ok (.aload_n 0, 1) := by decide +kernel
theorem dX4_wasInRange_59 : decode cX4_wasInRange 59 = .ok (.getfield 31, 3) := by decide +kernel
theorem dX4_wasInRange_62 : decode cX4_wasInRange 62 = .ok (.getfield 70, 3) := by decide +kernel
theorem dX4_wasInRange_65 : decode cX4_wasInRange 65 = .ok (.iload 4, 2) := by decide +kernel
theorem dX4_wasInRange_67 : decode cX4_wasInRange 67 = .ok (.iaload, 1) := by decide +kernel
theorem dX4_wasInRange_68 : decode cX4_wasInRange 68 = .ok (.aload_n 0, 1) := by decide +kernel
theorem dX4_wasInRange_69 : decode cX4_wasInRange 69 = .ok (.getfield 31, 3) := by decide +kernel
theorem dX4_wasInRange_72 : decode cX4_wasInRange 72 = .ok (.getfield 73, 3) := by decide +kernel
theorem dX4_wasInRange_75 : decode cX4_wasInRange 75 = .ok (.iload 4, 2) := by decide +kernel
theorem dX4_wasInRange_77 : decode cX4_wasInRange 77 = .ok (.iaload, 1) := by decide +kernel
theorem dX4_wasInRange_78 : decode cX4_wasInRange 78 = .ok (.iload_n 3, 1) := by decide +kernel
theorem dX4_wasInRange_79 : decode cX4_wasInRange 79 = .ok (.invokestatic 61, 3) := by decide +kernel
theorem dX4_wasInRange_82 : decode cX4_wasInRange 82 = .ok (.aload_n 0, 1) := by decide +kernel
theorem dX4_wasInRange_83 : decode cX4_wasInRange 83 = .ok (.getfield 31, 3) := by decide +kernel
theorem dX4_wasInRange_86 : decode cX4_wasInRange 86 = .ok (.getfield 70, 3) := by decide +kernel
theorem dX4_wasInRange_89 : decode cX4_wasInRange 89 = .ok (.iload_n 2, 1) := by decide +kernel
theorem dX4_wasInRange_90 : decode cX4_wasInRange 90 = .ok (.iaload, 1) := by decide +kernel
theorem dX4_wasInRange_91 : decode cX4_wasInRange 91 = .ok (.aload_n 0, 1) := by decide +kernel
theorem dX4_wasInRange_92 : decode cX4_wasInRange 92 = .ok (.getfield 31, 3) := by decide +kernel
theorem dX4_wasInRange_95 : decode cX4_wasInRange 95 = .ok (.getfield 73, 3) := by decide +kernel
theorem dX4_wasInRange_98 : decode cX4_wasInRange 98 = .ok (.iload_n 2, 1) := by decide +kernel
theorem dX4_wasInRange_99 : decode cX4_wasInRange 99 = .ok (.iaload, 1) := by decide +kernel
theorem dX4_wasInRange_100 : decode cX4_wasInRange 100 = .ok (.iload_n 3, 1) := by decide +kernel
theorem dX4_wasInRange_101 : decode cX4_wasInRange 101 = .ok (.invokestatic 61, 3) := by decide +kernel
theorem dX4_wasInRange_104 : decode cX4_wasInRange 104 = .ok (.isub, 1) := by decide +kernel
theorem dX4_wasInRange_105 : decode cX4_wasInRange 105 = .ok (.istore 6, 2) := by decide +kernel
theorem dX4_wasInRange_107 : decode cX4_wasInRange 107 = .ok (.iload 5, 2) := by decide +kernel
theorem dX4_wasInRange_109 : decode cX4_wasInRange 109 = .ok (.invokestatic 76, 3) := by decide +kernel
theorem dX4_wasInRange_112 : decode cX4_wasInRange 112 = .ok (.iload 6, 2) := by decide +kernel
theorem dX4_wasInRange_114 : decode cX4_wasInRange 114 = .ok (.invokestatic 76, 3) := by decide +kernel
theorem dX4_wasInRange_117 : decode cX4_wasInRange 117 = .ok (.iadd, 1) := by decide +kernel
theorem dX4_wasInRange_118 : decode cX4_wasInRange 118 = .ok (.aload_n 0, 1) := by decide +kernel
theorem dX4_wasInRange_119 : decode cX4_wasInRange 119 = .ok (.getfield 31, 3) := by decide +kernel
theorem dX4_wasInRange_122 : decode cX4_wasInRange 122 = .ok (.getfield 82, 3) := by decide +kernel
theorem dX4_wasInRange_125 : decode cX4_wasInRange 125 = .ok (.if_icmp .gt 7, 3) := by decide +kernel
theorem dX4_wasInRange_128 : decode cX4_wasInRange 128 = .ok (.iconst 1, 1) := by decide +kernel
theorem dX4_wasInRange_129 : decode cX4_wasInRange 129 = .ok (.goto 4, 3) := by decide +kernel
theorem dX4_wasInRange_132 : decode cX4_wasInRange 132 = .ok (.iconst 0, 1) := by decide +kernel
theorem dX4_wasInRange_133 : decode cX4_wasInRange 133 = .ok (.ireturn, 1) := by decide +kernel
theorem ydX4_wasInRange : z_yd yX4_wasInRange 3 := ⟨by decide, by decide, by decide +kernel⟩
abbrev rmX4_wasInRange : Room := { frames := 1, cells := 0, slots := 0, locals := 22 }
noncomputable def xX4_wasInRange (l0 : Nat) (l1 : Int32) (l2 : Int32) (l3 : Int32) (h : ZH) : Option (Int32 × ZH) := ((z_gR h l0 4 0).bind fun x1 => ((z_gI h x1 2 7).bind fun x4 => (if 0 ≤ (x4 - (1 : Int32)) then ((z_gR h l0 4 0).bind fun x20 => ((z_gR h x20 2 11).bind fun x23 => ((z_aI h x23 (x4 - (1 : Int32))).bind fun x28 => ((xX5_placeAfter l1 x28 l3 h).bind fun r30 => ((z_gR r30.2 l0 4 0).bind fun x34 => ((z_gR r30.2 x34 2 9).bind fun x37 => ((z_aI r30.2 x37 l2).bind fun x41 => ((z_gR r30.2 l0 4 0).bind fun x43 => ((z_gR r30.2 x43 2 11).bind fun x46 => ((z_aI r30.2 x46 l2).bind fun x50 => ((xX5_placeAfter x41 x50 l3 r30.2).bind fun r52 => ((z_gR r52.2 l0 4 0).bind fun x59 => ((z_gR r52.2 x59 2 10).bind fun x62 => ((z_aI r52.2 x62 (x4 - (1 : Int32))).bind fun x67 => ((z_gR r52.2 l0 4 0).bind fun x69 => ((z_gR r52.2 x69 2 12).bind fun x72 => ((z_aI r52.2 x72 (x4 - (1 : Int32))).bind fun x77 => ((xX5_placeAfter x67 x77 l3 r52.2).bind fun r79 => ((z_gR r79.2 l0 4 0).bind fun x83 => ((z_gR r79.2 x83 2 10).bind fun x86 => ((z_aI r79.2 x86 l2).bind fun x90 => ((z_gR r79.2 l0 4 0).bind fun x92 => ((z_gR r79.2 x92 2 12).bind fun x95 => ((z_aI r79.2 x95 l2).bind fun x99 => ((xX5_placeAfter x90 x99 l3 r79.2).bind fun r101 => ((xJ9_abs_0f7a4 (r30.1 - r52.1) r101.2).bind fun r109 => ((xJ9_abs_0f7a4 (r79.1 - r101.1) r109.2).bind fun r114 => ((z_gR r114.2 l0 4 0).bind fun x119 => ((z_gI r114.2 x119 2 1).bind fun x122 => (if x122 < (r109.1 + r114.1) then some ((0 : Int32), r114.2) else some ((1 : Int32), r114.2))))))))))))))))))))))))))))))) else some ((0 : Int32), h))))
set_option maxHeartbeats 4000000 in
set_option maxRecDepth 100000 in
theorem lX4_wasInRange {Γ : ZG} {l : Launch} (hO : z_OK Γ) {l0 : Nat} {l1 : Int32} {l2 : Int32} {l3 : Int32} {h : ZH} {r : (Int32 × ZH)} (hX : xX4_wasInRange l0 l1 l2 l3 h = some r) : z_M Γ l yX4_wasInRange (z_ws1 yX4_wasInRange cX4_wasInRange 7 (some .boolean)) rmX4_wasInRange [.ref l0, .int l1, .int l2, .int l3] h (some (.int r.1)) r.2 := by
  refine z_start hO (plainFor_of_name (by decide)) (Nat.le_of_ble_eq_true rfl) ?_
  intro p e s m args below meth c G hr hnm
  refine z_lvc (lv2 := [(0, .ref l0), (1, .int l1), (2, .int l2), (3, .int l3)]) rfl ?_
  refine z_aload_n (pc := 0) G 0 dX4_wasInRange_0 rfl rfl ?_
  obtain ⟨x1, hv1, hX⟩ := z_bd hX
  refine z_getR (pc := 1) G kK4 (k := 0) (by decide) kt_371 dX4_wasInRange_1 hv1 ?_
  obtain ⟨x4, hv4, hX⟩ := z_bd hX
  refine z_getI (pc := 4) G kK2 (k := 7) (by decide) kt_69 dX4_wasInRange_4 hv4 ?_
  refine z_iconst (pc := 7) (v := 1) G dX4_wasInRange_7 (by decide) ?_
  refine z_isub (pc := 8) G dX4_wasInRange_8 ?_
  refine z_istore (pc := 9) (lv2 := [(0, .ref l0), (1, .int l1), (2, .int l2), (3, .int l3), (4, .int (x4 - (1 : Int32)))]) G dX4_wasInRange_9 (by decide) rfl rfl ?_
  refine z_iload (pc := 11) G 4 dX4_wasInRange_11 rfl ?_
  refine z_if_ge (pc := 13) (tgt := 18) G dX4_wasInRange_13 (by decide) (fun hc13 => ?_) (fun hc13 => ?_)
  · have hX := z_it hc13 hX
    refine z_iload_n (pc := 18) G 1 dX4_wasInRange_18 rfl rfl ?_
    refine z_aload_n (pc := 19) G 0 dX4_wasInRange_19 rfl rfl ?_
    obtain ⟨x20, hv20, hX⟩ := z_bd hX
    refine z_getR (pc := 20) G kK4 (k := 0) (by decide) kt_371 dX4_wasInRange_20 hv20 ?_
    obtain ⟨x23, hv23, hX⟩ := z_bd hX
    refine z_getR (pc := 23) G kK2 (k := 11) (by decide) kt_87 dX4_wasInRange_23 hv23 ?_
    refine z_iload (pc := 26) G 4 dX4_wasInRange_26 rfl ?_
    obtain ⟨x28, hv28, hX⟩ := z_bd hX
    refine z_iald (pc := 28) G dX4_wasInRange_28 hv28 ?_
    refine z_iload_n (pc := 29) G 3 dX4_wasInRange_29 rfl rfl ?_
    obtain ⟨r30, hv30, hX⟩ := z_bd hX
    refine z_cSI (pc := 30) (As := [.int l1, .int x28, .int l3]) (c2 := 0) (s2 := 0) G (lX5_placeAfter hO hv30) kt_818 kt_4 kt_1165 kt_817 ydX5_placeAfter ⟨by decide, by decide⟩ rfl (Nat.le_of_ble_eq_true rfl) ⟨rfl, rfl⟩ ⟨by decide, by decide⟩ rfl dX4_wasInRange_30 ?_
    refine z_aload_n (pc := 33) G 0 dX4_wasInRange_33 rfl rfl ?_
    obtain ⟨x34, hv34, hX⟩ := z_bd hX
    refine z_getR (pc := 34) G kK4 (k := 0) (by decide) kt_371 dX4_wasInRange_34 hv34 ?_
    obtain ⟨x37, hv37, hX⟩ := z_bd hX
    refine z_getR (pc := 37) G kK2 (k := 9) (by decide) kt_79 dX4_wasInRange_37 hv37 ?_
    refine z_iload_n (pc := 40) G 2 dX4_wasInRange_40 rfl rfl ?_
    obtain ⟨x41, hv41, hX⟩ := z_bd hX
    refine z_iald (pc := 41) G dX4_wasInRange_41 hv41 ?_
    refine z_aload_n (pc := 42) G 0 dX4_wasInRange_42 rfl rfl ?_
    obtain ⟨x43, hv43, hX⟩ := z_bd hX
    refine z_getR (pc := 43) G kK4 (k := 0) (by decide) kt_371 dX4_wasInRange_43 hv43 ?_
    obtain ⟨x46, hv46, hX⟩ := z_bd hX
    refine z_getR (pc := 46) G kK2 (k := 11) (by decide) kt_87 dX4_wasInRange_46 hv46 ?_
    refine z_iload_n (pc := 49) G 2 dX4_wasInRange_49 rfl rfl ?_
    obtain ⟨x50, hv50, hX⟩ := z_bd hX
    refine z_iald (pc := 50) G dX4_wasInRange_50 hv50 ?_
    refine z_iload_n (pc := 51) G 3 dX4_wasInRange_51 rfl rfl ?_
    obtain ⟨r52, hv52, hX⟩ := z_bd hX
    refine z_cSI (pc := 52) (As := [.int x41, .int x50, .int l3]) (c2 := 0) (s2 := 0) G (lX5_placeAfter hO hv52) kt_818 kt_4 kt_1165 kt_817 ydX5_placeAfter ⟨by decide, by decide⟩ rfl (Nat.le_of_ble_eq_true rfl) ⟨rfl, rfl⟩ ⟨by decide, by decide⟩ rfl dX4_wasInRange_52 ?_
    refine z_isub (pc := 55) G dX4_wasInRange_55 ?_
    refine z_istore (pc := 56) (lv2 := [(0, .ref l0), (1, .int l1), (2, .int l2), (3, .int l3), (4, .int (x4 - (1 : Int32))), (5, .int (r30.1 - r52.1))]) G dX4_wasInRange_56 (by decide) rfl rfl ?_
    refine z_aload_n (pc := 58) G 0 dX4_wasInRange_58 rfl rfl ?_
    obtain ⟨x59, hv59, hX⟩ := z_bd hX
    refine z_getR (pc := 59) G kK4 (k := 0) (by decide) kt_371 dX4_wasInRange_59 hv59 ?_
    obtain ⟨x62, hv62, hX⟩ := z_bd hX
    refine z_getR (pc := 62) G kK2 (k := 10) (by decide) kt_83 dX4_wasInRange_62 hv62 ?_
    refine z_iload (pc := 65) G 4 dX4_wasInRange_65 rfl ?_
    obtain ⟨x67, hv67, hX⟩ := z_bd hX
    refine z_iald (pc := 67) G dX4_wasInRange_67 hv67 ?_
    refine z_aload_n (pc := 68) G 0 dX4_wasInRange_68 rfl rfl ?_
    obtain ⟨x69, hv69, hX⟩ := z_bd hX
    refine z_getR (pc := 69) G kK4 (k := 0) (by decide) kt_371 dX4_wasInRange_69 hv69 ?_
    obtain ⟨x72, hv72, hX⟩ := z_bd hX
    refine z_getR (pc := 72) G kK2 (k := 12) (by decide) kt_91 dX4_wasInRange_72 hv72 ?_
    refine z_iload (pc := 75) G 4 dX4_wasInRange_75 rfl ?_
    obtain ⟨x77, hv77, hX⟩ := z_bd hX
    refine z_iald (pc := 77) G dX4_wasInRange_77 hv77 ?_
    refine z_iload_n (pc := 78) G 3 dX4_wasInRange_78 rfl rfl ?_
    obtain ⟨r79, hv79, hX⟩ := z_bd hX
    refine z_cSI (pc := 79) (As := [.int x67, .int x77, .int l3]) (c2 := 0) (s2 := 0) G (lX5_placeAfter hO hv79) kt_818 kt_4 kt_1165 kt_817 ydX5_placeAfter ⟨by decide, by decide⟩ rfl (Nat.le_of_ble_eq_true rfl) ⟨rfl, rfl⟩ ⟨by decide, by decide⟩ rfl dX4_wasInRange_79 ?_
    refine z_aload_n (pc := 82) G 0 dX4_wasInRange_82 rfl rfl ?_
    obtain ⟨x83, hv83, hX⟩ := z_bd hX
    refine z_getR (pc := 83) G kK4 (k := 0) (by decide) kt_371 dX4_wasInRange_83 hv83 ?_
    obtain ⟨x86, hv86, hX⟩ := z_bd hX
    refine z_getR (pc := 86) G kK2 (k := 10) (by decide) kt_83 dX4_wasInRange_86 hv86 ?_
    refine z_iload_n (pc := 89) G 2 dX4_wasInRange_89 rfl rfl ?_
    obtain ⟨x90, hv90, hX⟩ := z_bd hX
    refine z_iald (pc := 90) G dX4_wasInRange_90 hv90 ?_
    refine z_aload_n (pc := 91) G 0 dX4_wasInRange_91 rfl rfl ?_
    obtain ⟨x92, hv92, hX⟩ := z_bd hX
    refine z_getR (pc := 92) G kK4 (k := 0) (by decide) kt_371 dX4_wasInRange_92 hv92 ?_
    obtain ⟨x95, hv95, hX⟩ := z_bd hX
    refine z_getR (pc := 95) G kK2 (k := 12) (by decide) kt_91 dX4_wasInRange_95 hv95 ?_
    refine z_iload_n (pc := 98) G 2 dX4_wasInRange_98 rfl rfl ?_
    obtain ⟨x99, hv99, hX⟩ := z_bd hX
    refine z_iald (pc := 99) G dX4_wasInRange_99 hv99 ?_
    refine z_iload_n (pc := 100) G 3 dX4_wasInRange_100 rfl rfl ?_
    obtain ⟨r101, hv101, hX⟩ := z_bd hX
    refine z_cSI (pc := 101) (As := [.int x90, .int x99, .int l3]) (c2 := 0) (s2 := 0) G (lX5_placeAfter hO hv101) kt_818 kt_4 kt_1165 kt_817 ydX5_placeAfter ⟨by decide, by decide⟩ rfl (Nat.le_of_ble_eq_true rfl) ⟨rfl, rfl⟩ ⟨by decide, by decide⟩ rfl dX4_wasInRange_101 ?_
    refine z_isub (pc := 104) G dX4_wasInRange_104 ?_
    refine z_istore (pc := 105) (lv2 := [(0, .ref l0), (1, .int l1), (2, .int l2), (3, .int l3), (4, .int (x4 - (1 : Int32))), (5, .int (r30.1 - r52.1)), (6, .int (r79.1 - r101.1))]) G dX4_wasInRange_105 (by decide) rfl rfl ?_
    refine z_iload (pc := 107) G 5 dX4_wasInRange_107 rfl ?_
    obtain ⟨r109, hv109, hX⟩ := z_bd hX
    refine z_cSI (pc := 109) (As := [.int (r30.1 - r52.1)]) (c2 := 0) (s2 := 0) G (lJ9_abs_0f7a4 hO hv109) kt_786 kt_12 kt_1166 kt_785 ydJ9_abs_0f7a4 ⟨by decide, by decide⟩ rfl (Nat.le_of_ble_eq_true rfl) ⟨rfl, rfl⟩ ⟨by decide, by decide⟩ rfl dX4_wasInRange_109 ?_
    refine z_iload (pc := 112) G 6 dX4_wasInRange_112 rfl ?_
    obtain ⟨r114, hv114, hX⟩ := z_bd hX
    refine z_cSI (pc := 114) (As := [.int (r79.1 - r101.1)]) (c2 := 0) (s2 := 0) G (lJ9_abs_0f7a4 hO hv114) kt_786 kt_12 kt_1166 kt_785 ydJ9_abs_0f7a4 ⟨by decide, by decide⟩ rfl (Nat.le_of_ble_eq_true rfl) ⟨rfl, rfl⟩ ⟨by decide, by decide⟩ rfl dX4_wasInRange_114 ?_
    refine z_iadd (pc := 117) G dX4_wasInRange_117 ?_
    refine z_aload_n (pc := 118) G 0 dX4_wasInRange_118 rfl rfl ?_
    obtain ⟨x119, hv119, hX⟩ := z_bd hX
    refine z_getR (pc := 119) G kK4 (k := 0) (by decide) kt_371 dX4_wasInRange_119 hv119 ?_
    obtain ⟨x122, hv122, hX⟩ := z_bd hX
    refine z_getI (pc := 122) G kK2 (k := 1) (by decide) kt_47 dX4_wasInRange_122 hv122 ?_
    refine z_icmp_gt (pc := 125) (tgt := 132) G dX4_wasInRange_125 (by decide) (fun hc125 => ?_) (fun hc125 => ?_)
    · have hX := z_it hc125 hX
      refine z_iconst (pc := 132) (v := 0) G dX4_wasInRange_132 (by decide) ?_
      exact z_zretX (pc := 133) hX G hr rfl dX4_wasInRange_133 (by decide) (by decide)
    · have hX := z_if hc125 hX
      refine z_iconst (pc := 128) (v := 1) G dX4_wasInRange_128 (by decide) ?_
      refine z_goto (pc := 129) (tgt := 133) G dX4_wasInRange_129 (by decide) ?_
      exact z_zretX (pc := 133) hX G hr rfl dX4_wasInRange_133 (by decide) (by decide)
  · have hX := z_if hc13 hX
    refine z_iconst (pc := 16) (v := 0) G dX4_wasInRange_16 (by decide) ?_
    exact z_zretX (pc := 17) hX G hr rfl dX4_wasInRange_17 (by decide) (by decide)
