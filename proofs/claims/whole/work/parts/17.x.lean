theorem dX8_meet_0 : decode cX8_meet 0 = .ok (.aload_n 0, 1) := by decide +kernel
theorem dX8_meet_1 : decode cX8_meet 1 = .ok (.getfield 27, 3) := by decide +kernel
theorem dX8_meet_4 : decode cX8_meet 4 = .ok (.iload_n 1, 1) := by decide +kernel
theorem dX8_meet_5 : decode cX8_meet 5 = .ok (.iload_n 2, 1) := by decide +kernel
theorem dX8_meet_6 : decode cX8_meet 6 = .ok (.invokevirtual 174, 3) := by decide +kernel
theorem dX8_meet_9 : decode cX8_meet 9 = .ok (.ifCond .ne 5, 3) := by decide +kernel
theorem dX8_meet_12 : decode cX8_meet 12 = .ok (.iconst (-1), 1) := by decide +kernel
theorem dX8_meet_13 : decode cX8_meet 13 = .ok (.ireturn, 1) := by decide +kernel
theorem dX8_meet_14 : decode cX8_meet 14 = .ok (.iload_n 3, 1) := by decide +kernel
theorem dX8_meet_15 : decode cX8_meet 15 = .ok (.ifCond .eq 10, 3) := by decide +kernel
theorem dX8_meet_18 : decode cX8_meet 18 = .ok (.iload_n 3, 1) := by decide +kernel
theorem dX8_meet_19 : decode cX8_meet 19 = .ok (.iconst 1, 1) := by decide +kernel
theorem dX8_meet_20 : decode cX8_meet 20 = .ok (.if_icmp .eq 5, 3) := by decide +kernel
theorem dX8_meet_23 : decode cX8_meet 23 = .ok (.iconst (-1), 1) := by decide +kernel
theorem dX8_meet_24 : decode cX8_meet 24 = .ok (.ireturn, 1) := by decide +kernel
theorem dX8_meet_25 : decode cX8_meet 25 = .ok (.iconst 0, 1) := by decide +kernel
theorem dX8_meet_26 : decode cX8_meet 26 = .ok (.istore 4, 2) := by decide +kernel
theorem dX8_meet_28 : decode cX8_meet 28 = .ok (.iload 4, 2) := by decide +kernel
theorem dX8_meet_30 : decode cX8_meet 30 = .ok (.bipush 99, 2) := by decide +kernel
theorem dX8_meet_32 : decode cX8_meet 32 = .ok (.if_icmp .gt 35, 3) := by decide +kernel
theorem dX8_meet_35 : decode cX8_meet 35 = .ok (.aload_n 0, 1) := by decide +kernel
theorem dX8_meet_36 : decode cX8_meet 36 = .ok (.getfield 36, 3) := by decide +kernel
theorem dX8_meet_39 : decode cX8_meet 39 = .ok (.iload_n 1, 1) := by decide +kernel
theorem dX8_meet_40 : decode cX8_meet 40 = .ok (.iload_n 2, 1) := by decide +kernel
theorem dX8_meet_41 : decode cX8_meet 41 = .ok (.iload 4, 2) := by decide +kernel
theorem dX8_meet_43 : decode cX8_meet 43 = .ok (.invokevirtual 286, 3) := by decide +kernel
theorem dX8_meet_46 : decode cX8_meet 46 = .ok (.iload_n 3, 1) := by decide +kernel
theorem dX8_meet_47 : decode cX8_meet 47 = .ok (.ifCond .ne 7, 3) := by decide +kernel
theorem dX8_meet_50 : decode cX8_meet 50 = .ok (.iconst 1, 1) := by decide +kernel
theorem dX8_meet_51 : decode cX8_meet 51 = .ok (.goto 4, 3) := by decide +kernel
theorem dX8_meet_54 : decode cX8_meet 54 = .ok (.iconst 0, 1) := by decide +kernel
theorem dX8_meet_55 : decode cX8_meet 55 = .ok (.if_icmp .ne 6, 3) := by decide +kernel
theorem dX8_meet_58 : decode cX8_meet 58 = .ok (.iload 4, 2) := by decide +kernel
theorem dX8_meet_60 : decode cX8_meet 60 = .ok (.ireturn, 1) := by decide +kernel
theorem dX8_meet_61 : decode cX8_meet 61 = .ok (.iinc 4 1, 3) := by decide +kernel
theorem dX8_meet_64 : decode cX8_meet 64 = .ok (.goto (-36), 3) := by decide +kernel
theorem dX8_meet_67 : decode cX8_meet 67 = .ok (.iconst (-1), 1) := by decide +kernel
theorem dX8_meet_68 : decode cX8_meet 68 = .ok (.ireturn, 1) := by decide +kernel
theorem ydX8_meet : z_yd yX8_meet 3 := ⟨by decide, by decide, by decide +kernel⟩
abbrev rmX8_meet : Room := { frames := 2, cells := 0, slots := 0, locals := 47 }
noncomputable def xX8_meet_B28 (r28 : Nat → Int32 → Int32 → Int32 → Int32 → ZH → Option (Int32 × ZH)) (l0 : Nat) (l1 : Int32) (l2 : Int32) (l3 : Int32) (l4 : Int32) (h : ZH) : Option (Int32 × ZH) := (if (99 : Int32) < l4 then some ((-1 : Int32), h) else ((z_gR h l0 8 6).bind fun x36 => (z_gu (z_is h x36 5) ((xX5_inRangeAfter x36 l1 l2 l4 h).bind fun r43 => (if l3 = 0 then (if r43.1 = (1 : Int32) then some (l4, r43.2) else r28 l0 l1 l2 l3 (l4 + 1) r43.2) else (if r43.1 = (0 : Int32) then some (l4, r43.2) else r28 l0 l1 l2 l3 (l4 + 1) r43.2))))))
noncomputable def xX8_meet_L28 (n : Nat) : Nat → Int32 → Int32 → Int32 → Int32 → ZH → Option (Int32 × ZH) := Nat.rec (motive := fun _ => Nat → Int32 → Int32 → Int32 → Int32 → ZH → Option (Int32 × ZH)) (fun _ _ _ _ _ _ => none) (fun _ rec => xX8_meet_B28  rec) n
set_option maxHeartbeats 4000000 in
set_option maxRecDepth 100000 in
theorem wX8_meet_B28 {Γ : ZG} {p : Program} {l : Launch} {e : Env} {s : State} {m : MethodId} {args : Array Value} {below : List Frame} {meth : Method} {c : Code} (hO : z_OK Γ) (G : z_GG Γ p s m args meth c cX8_meet 5 RX8) (hr : meth.sig.returnType = (some .int)) (hnm : meth.name = "meet") {r : (Int32 × ZH)} {r28 : Nat → Int32 → Int32 → Int32 → Int32 → ZH → Option (Int32 × ZH)} (H28 : ∀ (l0 : Nat) (l1 : Int32) (l2 : Int32) (l3 : Int32) (l4 : Int32) (h : ZH), r28 l0 l1 l2 l3 l4 h = some r → z_W Γ p l e rmX8_meet s m args below meth c 5 0 0 (MQ below (z_Qc Γ (some (.int r.1)) r.2) args s rmX8_meet.cells rmX8_meet.slots (z_A Γ)) 28 [(0, .ref l0), (1, .int l1), (2, .int l2), (3, .int l3), (4, .int l4)] [] h) : ∀ (l0 : Nat) (l1 : Int32) (l2 : Int32) (l3 : Int32) (l4 : Int32) (h : ZH), xX8_meet_B28  r28 l0 l1 l2 l3 l4 h = some r → z_W Γ p l e rmX8_meet s m args below meth c 5 0 0 (MQ below (z_Qc Γ (some (.int r.1)) r.2) args s rmX8_meet.cells rmX8_meet.slots (z_A Γ)) 28 [(0, .ref l0), (1, .int l1), (2, .int l2), (3, .int l3), (4, .int l4)] [] h := by
  intro l0 l1 l2 l3 l4 h hX
  refine z_iload (pc := 28) G 4 dX8_meet_28 rfl ?_
  refine z_bipush (pc := 30) (v := 99) G dX8_meet_30 (by decide) ?_
  refine z_icmp_gt (pc := 32) (tgt := 67) G dX8_meet_32 (by decide) (fun hc32 => ?_) (fun hc32 => ?_)
  · have hX := z_it hc32 hX
    refine z_iconst (pc := 67) (v := (-1)) G dX8_meet_67 (by decide) ?_
    exact z_iretX (pc := 68) hX G hr dX8_meet_68 (by decide) (by decide)
  · have hX := z_if hc32 hX
    refine z_aload_n (pc := 35) G 0 dX8_meet_35 rfl rfl ?_
    obtain ⟨x36, hv36, hX⟩ := z_bd hX
    refine z_getR (pc := 36) G kK8 (k := 6) (by decide) kt_430 dX8_meet_36 hv36 ?_
    refine z_iload_n (pc := 39) G 1 dX8_meet_39 rfl rfl ?_
    refine z_iload_n (pc := 40) G 2 dX8_meet_40 rfl rfl ?_
    refine z_iload (pc := 41) G 4 dX8_meet_41 rfl ?_
    obtain ⟨hi43, hX⟩ := z_gu_s hX
    obtain ⟨r43, hv43, hX⟩ := z_bd hX
    refine z_cVI (pc := 43) (As := [.int l1, .int l2, .int l4]) (c2 := 0) (s2 := 0) G kK5 (lX5_inRangeAfter hO hv43) hi43 kt_1071 kt_4 kt_1068 kt_1069 kt_1070 ydX5_inRangeAfter ⟨by decide, by decide⟩ rfl (Nat.le_of_ble_eq_true rfl) ⟨rfl, rfl⟩ ⟨by decide, by decide⟩ rfl dX8_meet_43 ?_
    refine z_iload_n (pc := 46) G 3 dX8_meet_46 rfl rfl ?_
    refine z_if_ne (pc := 47) (tgt := 54) G dX8_meet_47 (by decide) (fun hc47 => ?_) (fun hc47 => ?_)
    · have hX := z_if hc47 hX
      refine z_iconst (pc := 54) (v := 0) G dX8_meet_54 (by decide) ?_
      refine z_icmp_ne (pc := 55) (tgt := 61) G dX8_meet_55 (by decide) (fun hc55 => ?_) (fun hc55 => ?_)
      · have hX := z_if hc55 hX
        refine z_iincw (pc := 61) (w := 1) (lv2 := [(0, .ref l0), (1, .int l1), (2, .int l2), (3, .int l3), (4, .int (l4 + 1))]) G 4 dX8_meet_61 rfl (by decide) (by decide) rfl rfl ?_
        refine z_goto (pc := 64) (tgt := 28) G dX8_meet_64 (by decide) ?_
        exact H28 _ _ _ _ _ _ hX
      · have hX := z_it hc55 hX
        refine z_iload (pc := 58) G 4 dX8_meet_58 rfl ?_
        exact z_iretX (pc := 60) hX G hr dX8_meet_60 (by decide) (by decide)
    · have hX := z_it hc47 hX
      refine z_iconst (pc := 50) (v := 1) G dX8_meet_50 (by decide) ?_
      refine z_goto (pc := 51) (tgt := 55) G dX8_meet_51 (by decide) ?_
      refine z_icmp_ne (pc := 55) (tgt := 61) G dX8_meet_55 (by decide) (fun hc55 => ?_) (fun hc55 => ?_)
      · have hX := z_if hc55 hX
        refine z_iincw (pc := 61) (w := 1) (lv2 := [(0, .ref l0), (1, .int l1), (2, .int l2), (3, .int l3), (4, .int (l4 + 1))]) G 4 dX8_meet_61 rfl (by decide) (by decide) rfl rfl ?_
        refine z_goto (pc := 64) (tgt := 28) G dX8_meet_64 (by decide) ?_
        exact H28 _ _ _ _ _ _ hX
      · have hX := z_it hc55 hX
        refine z_iload (pc := 58) G 4 dX8_meet_58 rfl ?_
        exact z_iretX (pc := 60) hX G hr dX8_meet_60 (by decide) (by decide)
set_option maxHeartbeats 4000000 in
set_option maxRecDepth 100000 in
theorem wX8_meet_L28 {Γ : ZG} {p : Program} {l : Launch} {e : Env} {s : State} {m : MethodId} {args : Array Value} {below : List Frame} {meth : Method} {c : Code} (hO : z_OK Γ) (G : z_GG Γ p s m args meth c cX8_meet 5 RX8) (hr : meth.sig.returnType = (some .int)) (hnm : meth.name = "meet") {r : (Int32 × ZH)} : ∀ (nn : Nat) (l0 : Nat) (l1 : Int32) (l2 : Int32) (l3 : Int32) (l4 : Int32) (h : ZH), xX8_meet_L28  nn l0 l1 l2 l3 l4 h = some r → z_W Γ p l e rmX8_meet s m args below meth c 5 0 0 (MQ below (z_Qc Γ (some (.int r.1)) r.2) args s rmX8_meet.cells rmX8_meet.slots (z_A Γ)) 28 [(0, .ref l0), (1, .int l1), (2, .int l2), (3, .int l3), (4, .int l4)] [] h := by
  intro nn
  induction nn with
  | zero => intro l0 l1 l2 l3 l4 h hX; cases hX
  | succ nn ih => intro l0 l1 l2 l3 l4 h hX; exact wX8_meet_B28 hO G hr hnm  ih l0 l1 l2 l3 l4 h hX
noncomputable def xX8_meet (l0 : Nat) (l1 : Int32) (l2 : Int32) (l3 : Int32) (h : ZH) : Option (Int32 × ZH) := ((z_gR h l0 8 5).bind fun x1 => (z_gu (z_is h x1 2) ((xX2_areTwo x1 l1 l2 h).bind fun r6 => (if r6.1 = 0 then some ((-1 : Int32), r6.2) else (if l3 = 0 then xX8_meet_L28 zFU l0 l1 l2 l3 (0 : Int32) r6.2 else (if l3 = (1 : Int32) then xX8_meet_L28 zFU l0 l1 l2 l3 (0 : Int32) r6.2 else some ((-1 : Int32), r6.2)))))))
set_option maxHeartbeats 4000000 in
set_option maxRecDepth 100000 in
theorem lX8_meet {Γ : ZG} {l : Launch} (hO : z_OK Γ) {l0 : Nat} {l1 : Int32} {l2 : Int32} {l3 : Int32} {h : ZH} {r : (Int32 × ZH)} (hX : xX8_meet l0 l1 l2 l3 h = some r) : z_M Γ l yX8_meet (z_ws1 yX8_meet cX8_meet 5 (some .int)) rmX8_meet [.ref l0, .int l1, .int l2, .int l3] h (some (.int r.1)) r.2 := by
  refine z_start hO (plainFor_of_name (by decide)) (Nat.le_of_ble_eq_true rfl) ?_
  intro p e s m args below meth c G hr hnm
  refine z_lvc (lv2 := [(0, .ref l0), (1, .int l1), (2, .int l2), (3, .int l3)]) rfl ?_
  refine z_aload_n (pc := 0) G 0 dX8_meet_0 rfl rfl ?_
  obtain ⟨x1, hv1, hX⟩ := z_bd hX
  refine z_getR (pc := 1) G kK8 (k := 5) (by decide) kt_429 dX8_meet_1 hv1 ?_
  refine z_iload_n (pc := 4) G 1 dX8_meet_4 rfl rfl ?_
  refine z_iload_n (pc := 5) G 2 dX8_meet_5 rfl rfl ?_
  obtain ⟨hi6, hX⟩ := z_gu_s hX
  obtain ⟨r6, hv6, hX⟩ := z_bd hX
  refine z_cVI (pc := 6) (As := [.int l1, .int l2]) (c2 := 0) (s2 := 0) G kK2 (lX2_areTwo hO hv6) hi6 kt_774 kt_3 kt_771 kt_772 kt_773 ydX2_areTwo ⟨by decide, by decide⟩ rfl (Nat.le_of_ble_eq_true rfl) ⟨rfl, rfl⟩ ⟨by decide, by decide⟩ rfl dX8_meet_6 ?_
  refine z_if_ne (pc := 9) (tgt := 14) G dX8_meet_9 (by decide) (fun hc9 => ?_) (fun hc9 => ?_)
  · have hX := z_if hc9 hX
    refine z_iload_n (pc := 14) G 3 dX8_meet_14 rfl rfl ?_
    refine z_if_eq (pc := 15) (tgt := 25) G dX8_meet_15 (by decide) (fun hc15 => ?_) (fun hc15 => ?_)
    · have hX := z_it hc15 hX
      refine z_iconst (pc := 25) (v := 0) G dX8_meet_25 (by decide) ?_
      refine z_istore (pc := 26) (lv2 := [(0, .ref l0), (1, .int l1), (2, .int l2), (3, .int l3), (4, .int (0 : Int32))]) G dX8_meet_26 (by decide) rfl rfl ?_
      exact wX8_meet_L28 hO G hr hnm zFU _ _ _ _ _ _ hX
    · have hX := z_if hc15 hX
      refine z_iload_n (pc := 18) G 3 dX8_meet_18 rfl rfl ?_
      refine z_iconst (pc := 19) (v := 1) G dX8_meet_19 (by decide) ?_
      refine z_icmp_eq (pc := 20) (tgt := 25) G dX8_meet_20 (by decide) (fun hc20 => ?_) (fun hc20 => ?_)
      · have hX := z_it hc20 hX
        refine z_iconst (pc := 25) (v := 0) G dX8_meet_25 (by decide) ?_
        refine z_istore (pc := 26) (lv2 := [(0, .ref l0), (1, .int l1), (2, .int l2), (3, .int l3), (4, .int (0 : Int32))]) G dX8_meet_26 (by decide) rfl rfl ?_
        exact wX8_meet_L28 hO G hr hnm zFU _ _ _ _ _ _ hX
      · have hX := z_if hc20 hX
        refine z_iconst (pc := 23) (v := (-1)) G dX8_meet_23 (by decide) ?_
        exact z_iretX (pc := 24) hX G hr dX8_meet_24 (by decide) (by decide)
  · have hX := z_it hc9 hX
    refine z_iconst (pc := 12) (v := (-1)) G dX8_meet_12 (by decide) ?_
    exact z_iretX (pc := 13) hX G hr dX8_meet_13 (by decide) (by decide)
theorem dX8_lit_0 : decode cX8_lit 0 = .ok (.aload_n 0, 1) := by decide +kernel
theorem dX8_lit_1 : decode cX8_lit 1 = .ok (.getfield 36, 3) := by decide +kernel
theorem dX8_lit_4 : decode cX8_lit 4 = .ok (.invokevirtual 290, 3) := by decide +kernel
theorem dX8_lit_7 : decode cX8_lit 7 = .ok (.ireturn, 1) := by decide +kernel
theorem ydX8_lit : z_yd yX8_lit 0 := ⟨by decide, by decide, by decide +kernel⟩
abbrev rmX8_lit : Room := { frames := 2, cells := 0, slots := 0, locals := 43 }
noncomputable def xX8_lit (l0 : Nat) (h : ZH) : Option (Int32 × ZH) := ((z_gR h l0 8 6).bind fun x1 => (z_gu (z_is h x1 5) ((xX5_onBits x1 h).bind fun r4 => some (r4.1, r4.2))))
set_option maxHeartbeats 4000000 in
set_option maxRecDepth 100000 in
theorem lX8_lit {Γ : ZG} {l : Launch} (hO : z_OK Γ) {l0 : Nat} {h : ZH} {r : (Int32 × ZH)} (hX : xX8_lit l0 h = some r) : z_M Γ l yX8_lit (z_ws1 yX8_lit cX8_lit 1 (some .int)) rmX8_lit [.ref l0] h (some (.int r.1)) r.2 := by
  refine z_start hO (plainFor_of_name (by decide)) (Nat.le_of_ble_eq_true rfl) ?_
  intro p e s m args below meth c G hr hnm
  refine z_lvc (lv2 := [(0, .ref l0)]) rfl ?_
  refine z_aload_n (pc := 0) G 0 dX8_lit_0 rfl rfl ?_
  obtain ⟨x1, hv1, hX⟩ := z_bd hX
  refine z_getR (pc := 1) G kK8 (k := 6) (by decide) kt_430 dX8_lit_1 hv1 ?_
  obtain ⟨hi4, hX⟩ := z_gu_s hX
  obtain ⟨r4, hv4, hX⟩ := z_bd hX
  refine z_cVI (pc := 4) (As := []) (c2 := 0) (s2 := 0) G kK5 (lX5_onBits hO hv4) hi4 kt_1005 kt_4 kt_1076 kt_1003 kt_1004 ydX5_onBits ⟨by decide, by decide⟩ rfl (Nat.le_of_ble_eq_true rfl) ⟨rfl, rfl⟩ ⟨by decide, by decide⟩ rfl dX8_lit_4 ?_
  exact z_iretX (pc := 7) hX G hr dX8_lit_7 (by decide) (by decide)
theorem dX8_taken_0 : decode cX8_taken 0 = .ok (.iconst 0, 1) := by decide +kernel
theorem dX8_taken_1 : decode cX8_taken 1 = .ok (.istore_n 1, 1) := by decide +kernel
theorem dX8_taken_2 : decode cX8_taken 2 = .ok (.iconst 0, 1) := by decide +kernel
theorem dX8_taken_3 : decode cX8_taken 3 = .ok (.istore_n 2, 1) := by decide +kernel
theorem dX8_taken_4 : decode cX8_taken 4 = .ok (.iload_n 2, 1) := by decide +kernel
theorem dX8_taken_5 : decode cX8_taken 5 = .ok (.aload_n 0, 1) := by decide +kernel
theorem dX8_taken_6 : decode cX8_taken 6 = .ok (.getfield 27, 3) := by decide +kernel
theorem dX8_taken_9 : decode cX8_taken 9 = .ok (.getfield 124, 3) := by decide +kernel
theorem dX8_taken_12 : decode cX8_taken 12 = .ok (.if_icmp .ge 31, 3) := by decide +kernel
theorem dX8_taken_15 : decode cX8_taken 15 = .ok (.aload_n 0, 1) := by decide +kernel
theorem dX8_taken_16 : decode cX8_taken 16 = .ok (.getfield 36, 3) := by decide +kernel
theorem dX8_taken_19 : decode cX8_taken 19 = .ok (.iload_n 2, 1) := by decide +kernel
theorem dX8_taken_20 : decode cX8_taken 20 = .ok (.invokevirtual 147, 3) := by decide +kernel
theorem dX8_taken_23 : decode cX8_taken 23 = .ok (.ifCond .eq 14, 3) := by decide +kernel
theorem dX8_taken_26 : decode cX8_taken 26 = .ok (.iload_n 1, 1) := by decide +kernel
theorem dX8_taken_27 : decode cX8_taken 27 = .ok (.aload_n 0, 1) := by decide +kernel
theorem dX8_taken_28 : decode cX8_taken 28 = .ok (.getfield 36, 3) := by decide +kernel
theorem dX8_taken_31 : decode cX8_taken 31 = .ok (.iload_n 2, 1) := by decide +kernel
theorem dX8_taken_32 : decode cX8_taken 32 = .ok (.invokevirtual 231, 3) := by decide +kernel
theorem dX8_taken_35 : decode cX8_taken 35 = .ok (.ior, 1) := by decide +kernel
theorem dX8_taken_36 : decode cX8_taken 36 = .ok (.istore_n 1, 1) := by decide +kernel
theorem dX8_taken_37 : decode cX8_taken 37 = .ok (.iinc 2 1, 3) := by decide +kernel
theorem dX8_taken_40 : decode cX8_taken 40 = .ok (.goto (-36), 3) := by decide +kernel
theorem dX8_taken_43 : decode cX8_taken 43 = .ok (.iload_n 1, 1) := by decide +kernel
theorem dX8_taken_44 : decode cX8_taken 44 = .ok (.ireturn, 1) := by decide +kernel
theorem ydX8_taken : z_yd yX8_taken 0 := ⟨by decide, by decide, by decide +kernel⟩
abbrev rmX8_taken : Room := { frames := 1, cells := 0, slots := 0, locals := 23 }
noncomputable def xX8_taken_B4 (r4 : Nat → Int32 → Int32 → ZH → Option (Int32 × ZH)) (l0 : Nat) (l1 : Int32) (l2 : Int32) (h : ZH) : Option (Int32 × ZH) := ((z_gR h l0 8 5).bind fun x6 => ((z_gI h x6 2 7).bind fun x9 => (if x9 ≤ l2 then some (l1, h) else ((z_gR h l0 8 6).bind fun x16 => (z_gu (z_is h x16 5) ((xX5_isOn x16 l2 h).bind fun r20 => (if r20.1 = 0 then r4 l0 l1 (l2 + 1) r20.2 else ((z_gR r20.2 l0 8 6).bind fun x28 => (z_gu (z_is r20.2 x28 5) ((xX5_ownedBits x28 l2 r20.2).bind fun r32 => r4 l0 (l1 ||| r32.1) (l2 + 1) r32.2))))))))))
noncomputable def xX8_taken_L4 (n : Nat) : Nat → Int32 → Int32 → ZH → Option (Int32 × ZH) := Nat.rec (motive := fun _ => Nat → Int32 → Int32 → ZH → Option (Int32 × ZH)) (fun _ _ _ _ => none) (fun _ rec => xX8_taken_B4  rec) n
set_option maxHeartbeats 4000000 in
set_option maxRecDepth 100000 in
theorem wX8_taken_B4 {Γ : ZG} {p : Program} {l : Launch} {e : Env} {s : State} {m : MethodId} {args : Array Value} {below : List Frame} {meth : Method} {c : Code} (hO : z_OK Γ) (G : z_GG Γ p s m args meth c cX8_taken 3 RX8) (hr : meth.sig.returnType = (some .int)) (hnm : meth.name = "taken") {r : (Int32 × ZH)} {r4 : Nat → Int32 → Int32 → ZH → Option (Int32 × ZH)} (H4 : ∀ (l0 : Nat) (l1 : Int32) (l2 : Int32) (h : ZH), r4 l0 l1 l2 h = some r → z_W Γ p l e rmX8_taken s m args below meth c 3 0 0 (MQ below (z_Qc Γ (some (.int r.1)) r.2) args s rmX8_taken.cells rmX8_taken.slots (z_A Γ)) 4 [(0, .ref l0), (1, .int l1), (2, .int l2)] [] h) : ∀ (l0 : Nat) (l1 : Int32) (l2 : Int32) (h : ZH), xX8_taken_B4  r4 l0 l1 l2 h = some r → z_W Γ p l e rmX8_taken s m args below meth c 3 0 0 (MQ below (z_Qc Γ (some (.int r.1)) r.2) args s rmX8_taken.cells rmX8_taken.slots (z_A Γ)) 4 [(0, .ref l0), (1, .int l1), (2, .int l2)] [] h := by
  intro l0 l1 l2 h hX
  refine z_iload_n (pc := 4) G 2 dX8_taken_4 rfl rfl ?_
  refine z_aload_n (pc := 5) G 0 dX8_taken_5 rfl rfl ?_
  obtain ⟨x6, hv6, hX⟩ := z_bd hX
  refine z_getR (pc := 6) G kK8 (k := 5) (by decide) kt_429 dX8_taken_6 hv6 ?_
  obtain ⟨x9, hv9, hX⟩ := z_bd hX
  refine z_getI (pc := 9) G kK2 (k := 7) (by decide) kt_71 dX8_taken_9 hv9 ?_
  refine z_icmp_ge (pc := 12) (tgt := 43) G dX8_taken_12 (by decide) (fun hc12 => ?_) (fun hc12 => ?_)
  · have hX := z_it hc12 hX
    refine z_iload_n (pc := 43) G 1 dX8_taken_43 rfl rfl ?_
    exact z_iretX (pc := 44) hX G hr dX8_taken_44 (by decide) (by decide)
  · have hX := z_if hc12 hX
    refine z_aload_n (pc := 15) G 0 dX8_taken_15 rfl rfl ?_
    obtain ⟨x16, hv16, hX⟩ := z_bd hX
    refine z_getR (pc := 16) G kK8 (k := 6) (by decide) kt_430 dX8_taken_16 hv16 ?_
    refine z_iload_n (pc := 19) G 2 dX8_taken_19 rfl rfl ?_
    obtain ⟨hi20, hX⟩ := z_gu_s hX
    obtain ⟨r20, hv20, hX⟩ := z_bd hX
    refine z_cVI (pc := 20) (As := [.int l2]) (c2 := 0) (s2 := 0) G kK5 (lX5_isOn hO hv20) hi20 kt_736 kt_4 kt_733 kt_734 kt_735 ydX5_isOn ⟨by decide, by decide⟩ rfl (Nat.le_of_ble_eq_true rfl) ⟨rfl, rfl⟩ ⟨by decide, by decide⟩ rfl dX8_taken_20 ?_
    refine z_if_eq (pc := 23) (tgt := 37) G dX8_taken_23 (by decide) (fun hc23 => ?_) (fun hc23 => ?_)
    · have hX := z_it hc23 hX
      refine z_iincw (pc := 37) (w := 1) (lv2 := [(0, .ref l0), (1, .int l1), (2, .int (l2 + 1))]) G 2 dX8_taken_37 rfl (by decide) (by decide) rfl rfl ?_
      refine z_goto (pc := 40) (tgt := 4) G dX8_taken_40 (by decide) ?_
      exact H4 _ _ _ _ hX
    · have hX := z_if hc23 hX
      refine z_iload_n (pc := 26) G 1 dX8_taken_26 rfl rfl ?_
      refine z_aload_n (pc := 27) G 0 dX8_taken_27 rfl rfl ?_
      obtain ⟨x28, hv28, hX⟩ := z_bd hX
      refine z_getR (pc := 28) G kK8 (k := 6) (by decide) kt_430 dX8_taken_28 hv28 ?_
      refine z_iload_n (pc := 31) G 2 dX8_taken_31 rfl rfl ?_
      obtain ⟨hi32, hX⟩ := z_gu_s hX
      obtain ⟨r32, hv32, hX⟩ := z_bd hX
      refine z_cVI (pc := 32) (As := [.int l2]) (c2 := 0) (s2 := 0) G kK5 (lX5_ownedBits hO hv32) hi32 kt_871 kt_4 kt_956 kt_869 kt_870 ydX5_ownedBits ⟨by decide, by decide⟩ rfl (Nat.le_of_ble_eq_true rfl) ⟨rfl, rfl⟩ ⟨by decide, by decide⟩ rfl dX8_taken_32 ?_
      refine z_ior (pc := 35) G dX8_taken_35 ?_
      refine z_istore_n (pc := 36) (lv2 := [(0, .ref l0), (1, .int (l1 ||| r32.1)), (2, .int l2)]) G dX8_taken_36 rfl (by decide) rfl rfl ?_
      refine z_iincw (pc := 37) (w := 1) (lv2 := [(0, .ref l0), (1, .int (l1 ||| r32.1)), (2, .int (l2 + 1))]) G 2 dX8_taken_37 rfl (by decide) (by decide) rfl rfl ?_
      refine z_goto (pc := 40) (tgt := 4) G dX8_taken_40 (by decide) ?_
      exact H4 _ _ _ _ hX
set_option maxHeartbeats 4000000 in
set_option maxRecDepth 100000 in
theorem wX8_taken_L4 {Γ : ZG} {p : Program} {l : Launch} {e : Env} {s : State} {m : MethodId} {args : Array Value} {below : List Frame} {meth : Method} {c : Code} (hO : z_OK Γ) (G : z_GG Γ p s m args meth c cX8_taken 3 RX8) (hr : meth.sig.returnType = (some .int)) (hnm : meth.name = "taken") {r : (Int32 × ZH)} : ∀ (nn : Nat) (l0 : Nat) (l1 : Int32) (l2 : Int32) (h : ZH), xX8_taken_L4  nn l0 l1 l2 h = some r → z_W Γ p l e rmX8_taken s m args below meth c 3 0 0 (MQ below (z_Qc Γ (some (.int r.1)) r.2) args s rmX8_taken.cells rmX8_taken.slots (z_A Γ)) 4 [(0, .ref l0), (1, .int l1), (2, .int l2)] [] h := by
  intro nn
  induction nn with
  | zero => intro l0 l1 l2 h hX; cases hX
  | succ nn ih => intro l0 l1 l2 h hX; exact wX8_taken_B4 hO G hr hnm  ih l0 l1 l2 h hX
noncomputable def xX8_taken (l0 : Nat) (h : ZH) : Option (Int32 × ZH) := xX8_taken_L4 zFU l0 (0 : Int32) (0 : Int32) h
set_option maxHeartbeats 4000000 in
set_option maxRecDepth 100000 in
theorem lX8_taken {Γ : ZG} {l : Launch} (hO : z_OK Γ) {l0 : Nat} {h : ZH} {r : (Int32 × ZH)} (hX : xX8_taken l0 h = some r) : z_M Γ l yX8_taken (z_ws1 yX8_taken cX8_taken 3 (some .int)) rmX8_taken [.ref l0] h (some (.int r.1)) r.2 := by
  refine z_start hO (plainFor_of_name (by decide)) (Nat.le_of_ble_eq_true rfl) ?_
  intro p e s m args below meth c G hr hnm
  refine z_lvc (lv2 := [(0, .ref l0)]) rfl ?_
  refine z_iconst (pc := 0) (v := 0) G dX8_taken_0 (by decide) ?_
  refine z_istore_n (pc := 1) (lv2 := [(0, .ref l0), (1, .int (0 : Int32))]) G dX8_taken_1 rfl (by decide) rfl rfl ?_
  refine z_iconst (pc := 2) (v := 0) G dX8_taken_2 (by decide) ?_
  refine z_istore_n (pc := 3) (lv2 := [(0, .ref l0), (1, .int (0 : Int32)), (2, .int (0 : Int32))]) G dX8_taken_3 rfl (by decide) rfl rfl ?_
  exact wX8_taken_L4 hO G hr hnm zFU _ _ _ _ hX
theorem dX8_fullest_0 : decode cX8_fullest 0 = .ok (.iload_n 1, 1) := by decide +kernel
theorem dX8_fullest_1 : decode cX8_fullest 1 = .ok (.ifCond .eq 10, 3) := by decide +kernel
theorem dX8_fullest_4 : decode cX8_fullest 4 = .ok (.iload_n 1, 1) := by decide +kernel
theorem dX8_fullest_5 : decode cX8_fullest 5 = .ok (.iconst 1, 1) := by decide +kernel
theorem dX8_fullest_6 : decode cX8_fullest 6 = .ok (.if_icmp .eq 5, 3) := by decide +kernel
theorem dX8_fullest_9 : decode cX8_fullest 9 = .ok (.iconst (-1), 1) := by decide +kernel
theorem dX8_fullest_10 : decode cX8_fullest 10 = .ok (.ireturn, 1) := by decide +kernel
theorem dX8_fullest_11 : decode cX8_fullest 11 = .ok (.iconst (-1), 1) := by decide +kernel
theorem dX8_fullest_12 : decode cX8_fullest 12 = .ok (.istore_n 2, 1) := by decide +kernel
theorem dX8_fullest_13 : decode cX8_fullest 13 = .ok (.iconst 0, 1) := by decide +kernel
theorem dX8_fullest_14 : decode cX8_fullest 14 = .ok (.istore_n 3, 1) := by decide +kernel
theorem dX8_fullest_15 : decode cX8_fullest 15 = .ok (.iconst 0, 1) := by decide +kernel
theorem dX8_fullest_16 : decode cX8_fullest 16 = .ok (.istore 4, 2) := by decide +kernel
theorem dX8_fullest_18 : decode cX8_fullest 18 = .ok (.iload 4, 2) := by decide +kernel
theorem dX8_fullest_20 : decode cX8_fullest 20 = .ok (.aload_n 0, 1) := by decide +kernel
theorem dX8_fullest_21 : decode cX8_fullest 21 = .ok (.getfield 27, 3) := by decide +kernel
theorem dX8_fullest_24 : decode cX8_fullest 24 = .ok (.getfield 234, 3) := by decide +kernel
theorem dX8_fullest_27 : decode cX8_fullest 27 = .ok (.if_icmp .ge 32, 3) := by decide +kernel
theorem dX8_fullest_30 : decode cX8_fullest 30 = .ok (.aload_n 0, 1) := by decide +kernel
theorem dX8_fullest_31 : decode cX8_fullest 31 = .ok (.getfield 36, 3) := by decide +kernel
theorem dX8_fullest_34 : decode cX8_fullest 34 = .ok (.iload 4, 2) := by decide +kernel
theorem dX8_fullest_36 : decode cX8_fullest 36 = .ok (.invokevirtual 293, 3) := by decide +kernel
theorem dX8_fullest_39 : decode cX8_fullest 39 = .ok (.istore 5, 2) := by decide +kernel
theorem dX8_fullest_41 : decode cX8_fullest 41 = .ok (.iload 5, 2) := by decide +kernel
theorem dX8_fullest_43 : decode cX8_fullest 43 = .ok (.iload_n 3, 1) := by decide +kernel
theorem dX8_fullest_44 : decode cX8_fullest 44 = .ok (.if_icmp .le 9, 3) := by decide +kernel
theorem dX8_fullest_47 : decode cX8_fullest 47 = .ok (.iload 5, 2) := by decide +kernel
theorem dX8_fullest_49 : decode cX8_fullest 49 = .ok (.istore_n 3, 1) := by decide +kernel
theorem dX8_fullest_50 : decode cX8_fullest 50 = .ok (.iload 4, 2) := by decide +kernel
theorem dX8_fullest_52 : decode cX8_fullest 52 = .ok (.istore_n 2, 1) := by decide +kernel
theorem dX8_fullest_53 : decode cX8_fullest 53 = .ok (.iinc 4 1, 3) := by decide +kernel
theorem dX8_fullest_56 : decode cX8_fullest 56 = .ok (.goto (-38), 3) := by decide +kernel
theorem dX8_fullest_59 : decode cX8_fullest 59 = .ok (.iload_n 3, 1) := by decide +kernel
theorem dX8_fullest_60 : decode cX8_fullest 60 = .ok (.ifCond .ne 5, 3) := by decide +kernel
theorem dX8_fullest_63 : decode cX8_fullest 63 = .ok (.iconst (-1), 1) := by decide +kernel
theorem dX8_fullest_64 : decode cX8_fullest 64 = .ok (.ireturn, 1) := by decide +kernel
theorem dX8_fullest_65 : decode cX8_fullest 65 = .ok (.iload_n 1, 1) := by decide +kernel
theorem dX8_fullest_66 : decode cX8_fullest 66 = .ok (.ifCond .ne 7, 3) := by decide +kernel
theorem dX8_fullest_69 : decode cX8_fullest 69 = .ok (.iload_n 2, 1) := by decide +kernel
theorem dX8_fullest_70 : decode cX8_fullest 70 = .ok (.goto 4, 3) := by decide +kernel
theorem dX8_fullest_73 : decode cX8_fullest 73 = .ok (.iload_n 3, 1) := by decide +kernel
theorem dX8_fullest_74 : decode cX8_fullest 74 = .ok (.ireturn, 1) := by decide +kernel
theorem ydX8_fullest : z_yd yX8_fullest 1 := ⟨by decide, by decide, by decide +kernel⟩
abbrev rmX8_fullest : Room := { frames := 2, cells := 0, slots := 0, locals := 46 }
noncomputable def xX8_fullest_B59 (l1 : Int32) (l2 : Int32) (l3 : Int32) (h : ZH) : Option (Int32 × ZH) := (if l3 = 0 then some ((-1 : Int32), h) else (if l1 = 0 then some (l2, h) else some (l3, h)))
set_option maxHeartbeats 4000000 in
set_option maxRecDepth 100000 in
theorem wX8_fullest_B59 {Γ : ZG} {p : Program} {l : Launch} {e : Env} {s : State} {m : MethodId} {args : Array Value} {below : List Frame} {meth : Method} {c : Code} (hO : z_OK Γ) (G : z_GG Γ p s m args meth c cX8_fullest 6 RX8) (hr : meth.sig.returnType = (some .int)) (hnm : meth.name = "fullest") {r : (Int32 × ZH)} : ∀ (l1 : Int32) (l2 : Int32) (l3 : Int32) (h : ZH), xX8_fullest_B59  l1 l2 l3 h = some r → z_W Γ p l e rmX8_fullest s m args below meth c 6 0 0 (MQ below (z_Qc Γ (some (.int r.1)) r.2) args s rmX8_fullest.cells rmX8_fullest.slots (z_A Γ)) 59 [(1, .int l1), (2, .int l2), (3, .int l3)] [] h := by
  intro l1 l2 l3 h hX
  refine z_iload_n (pc := 59) G 2 dX8_fullest_59 rfl rfl ?_
  refine z_if_ne (pc := 60) (tgt := 65) G dX8_fullest_60 (by decide) (fun hc60 => ?_) (fun hc60 => ?_)
  · have hX := z_if hc60 hX
    refine z_iload_n (pc := 65) G 0 dX8_fullest_65 rfl rfl ?_
    refine z_if_ne (pc := 66) (tgt := 73) G dX8_fullest_66 (by decide) (fun hc66 => ?_) (fun hc66 => ?_)
    · have hX := z_if hc66 hX
      refine z_iload_n (pc := 73) G 2 dX8_fullest_73 rfl rfl ?_
      exact z_iretX (pc := 74) hX G hr dX8_fullest_74 (by decide) (by decide)
    · have hX := z_it hc66 hX
      refine z_iload_n (pc := 69) G 1 dX8_fullest_69 rfl rfl ?_
      refine z_goto (pc := 70) (tgt := 74) G dX8_fullest_70 (by decide) ?_
      exact z_iretX (pc := 74) hX G hr dX8_fullest_74 (by decide) (by decide)
  · have hX := z_it hc60 hX
    refine z_iconst (pc := 63) (v := (-1)) G dX8_fullest_63 (by decide) ?_
    exact z_iretX (pc := 64) hX G hr dX8_fullest_64 (by decide) (by decide)
noncomputable def xX8_fullest_B18 (r18 : Nat → Int32 → Int32 → Int32 → Int32 → ZH → Option (Int32 × ZH)) (l0 : Nat) (l1 : Int32) (l2 : Int32) (l3 : Int32) (l4 : Int32) (h : ZH) : Option (Int32 × ZH) := ((z_gR h l0 8 5).bind fun x21 => ((z_gI h x21 2 0).bind fun x24 => (if x24 ≤ l4 then xX8_fullest_B59 l1 l2 l3 h else ((z_gR h l0 8 6).bind fun x31 => (z_gu (z_is h x31 5) ((xX5_countOwners x31 l4 h).bind fun r36 => (if r36.1 ≤ l3 then r18 l0 l1 l2 l3 (l4 + 1) r36.2 else r18 l0 l1 l4 r36.1 (l4 + 1) r36.2)))))))
noncomputable def xX8_fullest_L18 (n : Nat) : Nat → Int32 → Int32 → Int32 → Int32 → ZH → Option (Int32 × ZH) := Nat.rec (motive := fun _ => Nat → Int32 → Int32 → Int32 → Int32 → ZH → Option (Int32 × ZH)) (fun _ _ _ _ _ _ => none) (fun _ rec => xX8_fullest_B18  rec) n
set_option maxHeartbeats 4000000 in
set_option maxRecDepth 100000 in
theorem wX8_fullest_B18 {Γ : ZG} {p : Program} {l : Launch} {e : Env} {s : State} {m : MethodId} {args : Array Value} {below : List Frame} {meth : Method} {c : Code} (hO : z_OK Γ) (G : z_GG Γ p s m args meth c cX8_fullest 6 RX8) (hr : meth.sig.returnType = (some .int)) (hnm : meth.name = "fullest") {r : (Int32 × ZH)} {r18 : Nat → Int32 → Int32 → Int32 → Int32 → ZH → Option (Int32 × ZH)} (H18 : ∀ (l0 : Nat) (l1 : Int32) (l2 : Int32) (l3 : Int32) (l4 : Int32) (h : ZH), r18 l0 l1 l2 l3 l4 h = some r → z_W Γ p l e rmX8_fullest s m args below meth c 6 0 0 (MQ below (z_Qc Γ (some (.int r.1)) r.2) args s rmX8_fullest.cells rmX8_fullest.slots (z_A Γ)) 18 [(0, .ref l0), (1, .int l1), (2, .int l2), (3, .int l3), (4, .int l4)] [] h) : ∀ (l0 : Nat) (l1 : Int32) (l2 : Int32) (l3 : Int32) (l4 : Int32) (h : ZH), xX8_fullest_B18  r18 l0 l1 l2 l3 l4 h = some r → z_W Γ p l e rmX8_fullest s m args below meth c 6 0 0 (MQ below (z_Qc Γ (some (.int r.1)) r.2) args s rmX8_fullest.cells rmX8_fullest.slots (z_A Γ)) 18 [(0, .ref l0), (1, .int l1), (2, .int l2), (3, .int l3), (4, .int l4)] [] h := by
  intro l0 l1 l2 l3 l4 h hX
  refine z_iload (pc := 18) G 4 dX8_fullest_18 rfl ?_
  refine z_aload_n (pc := 20) G 0 dX8_fullest_20 rfl rfl ?_
  obtain ⟨x21, hv21, hX⟩ := z_bd hX
  refine z_getR (pc := 21) G kK8 (k := 5) (by decide) kt_429 dX8_fullest_21 hv21 ?_
  obtain ⟨x24, hv24, hX⟩ := z_bd hX
  refine z_getI (pc := 24) G kK2 (k := 0) (by decide) kt_44 dX8_fullest_24 hv24 ?_
  refine z_icmp_ge (pc := 27) (tgt := 59) G dX8_fullest_27 (by decide) (fun hc27 => ?_) (fun hc27 => ?_)
  · have hX := z_it hc27 hX
    refine z_drop (lv2 := [(1, .int l1), (2, .int l2), (3, .int l3)]) [1, 2, 3] rfl ?_
    exact wX8_fullest_B59 hO G hr hnm _ _ _ _ hX
  · have hX := z_if hc27 hX
    refine z_aload_n (pc := 30) G 0 dX8_fullest_30 rfl rfl ?_
    obtain ⟨x31, hv31, hX⟩ := z_bd hX
    refine z_getR (pc := 31) G kK8 (k := 6) (by decide) kt_430 dX8_fullest_31 hv31 ?_
    refine z_iload (pc := 34) G 4 dX8_fullest_34 rfl ?_
    obtain ⟨hi36, hX⟩ := z_gu_s hX
    obtain ⟨r36, hv36, hX⟩ := z_bd hX
    refine z_cVI (pc := 36) (As := [.int l4]) (c2 := 0) (s2 := 0) G kK5 (lX5_countOwners hO hv36) hi36 kt_1088 kt_4 kt_1085 kt_1086 kt_1087 ydX5_countOwners ⟨by decide, by decide⟩ rfl (Nat.le_of_ble_eq_true rfl) ⟨rfl, rfl⟩ ⟨by decide, by decide⟩ rfl dX8_fullest_36 ?_
    refine z_istore (pc := 39) (lv2 := [(0, .ref l0), (1, .int l1), (2, .int l2), (3, .int l3), (4, .int l4), (5, .int r36.1)]) G dX8_fullest_39 (by decide) rfl rfl ?_
    refine z_iload (pc := 41) G 5 dX8_fullest_41 rfl ?_
    refine z_iload_n (pc := 43) G 3 dX8_fullest_43 rfl rfl ?_
    refine z_icmp_le (pc := 44) (tgt := 53) G dX8_fullest_44 (by decide) (fun hc44 => ?_) (fun hc44 => ?_)
    · have hX := z_it hc44 hX
      refine z_iincw (pc := 53) (w := 1) (lv2 := [(0, .ref l0), (1, .int l1), (2, .int l2), (3, .int l3), (4, .int (l4 + 1)), (5, .int r36.1)]) G 4 dX8_fullest_53 rfl (by decide) (by decide) rfl rfl ?_
      refine z_goto (pc := 56) (tgt := 18) G dX8_fullest_56 (by decide) ?_
      refine z_drop (lv2 := [(0, .ref l0), (1, .int l1), (2, .int l2), (3, .int l3), (4, .int (l4 + 1))]) [0, 1, 2, 3, 4] rfl ?_
      exact H18 _ _ _ _ _ _ hX
    · have hX := z_if hc44 hX
      refine z_iload (pc := 47) G 5 dX8_fullest_47 rfl ?_
      refine z_istore_n (pc := 49) (lv2 := [(0, .ref l0), (1, .int l1), (2, .int l2), (3, .int r36.1), (4, .int l4), (5, .int r36.1)]) G dX8_fullest_49 rfl (by decide) rfl rfl ?_
      refine z_iload (pc := 50) G 4 dX8_fullest_50 rfl ?_
      refine z_istore_n (pc := 52) (lv2 := [(0, .ref l0), (1, .int l1), (2, .int l4), (3, .int r36.1), (4, .int l4), (5, .int r36.1)]) G dX8_fullest_52 rfl (by decide) rfl rfl ?_
      refine z_iincw (pc := 53) (w := 1) (lv2 := [(0, .ref l0), (1, .int l1), (2, .int l4), (3, .int r36.1), (4, .int (l4 + 1)), (5, .int r36.1)]) G 4 dX8_fullest_53 rfl (by decide) (by decide) rfl rfl ?_
      refine z_goto (pc := 56) (tgt := 18) G dX8_fullest_56 (by decide) ?_
      refine z_drop (lv2 := [(0, .ref l0), (1, .int l1), (2, .int l4), (3, .int r36.1), (4, .int (l4 + 1))]) [0, 1, 2, 3, 4] rfl ?_
      exact H18 _ _ _ _ _ _ hX
set_option maxHeartbeats 4000000 in
set_option maxRecDepth 100000 in
theorem wX8_fullest_L18 {Γ : ZG} {p : Program} {l : Launch} {e : Env} {s : State} {m : MethodId} {args : Array Value} {below : List Frame} {meth : Method} {c : Code} (hO : z_OK Γ) (G : z_GG Γ p s m args meth c cX8_fullest 6 RX8) (hr : meth.sig.returnType = (some .int)) (hnm : meth.name = "fullest") {r : (Int32 × ZH)} : ∀ (nn : Nat) (l0 : Nat) (l1 : Int32) (l2 : Int32) (l3 : Int32) (l4 : Int32) (h : ZH), xX8_fullest_L18  nn l0 l1 l2 l3 l4 h = some r → z_W Γ p l e rmX8_fullest s m args below meth c 6 0 0 (MQ below (z_Qc Γ (some (.int r.1)) r.2) args s rmX8_fullest.cells rmX8_fullest.slots (z_A Γ)) 18 [(0, .ref l0), (1, .int l1), (2, .int l2), (3, .int l3), (4, .int l4)] [] h := by
  intro nn
  induction nn with
  | zero => intro l0 l1 l2 l3 l4 h hX; cases hX
  | succ nn ih => intro l0 l1 l2 l3 l4 h hX; exact wX8_fullest_B18 hO G hr hnm  ih l0 l1 l2 l3 l4 h hX
noncomputable def xX8_fullest (l0 : Nat) (l1 : Int32) (h : ZH) : Option (Int32 × ZH) := (if l1 = 0 then xX8_fullest_L18 zFU l0 l1 (-1 : Int32) (0 : Int32) (0 : Int32) h else (if l1 = (1 : Int32) then xX8_fullest_L18 zFU l0 l1 (-1 : Int32) (0 : Int32) (0 : Int32) h else some ((-1 : Int32), h)))
set_option maxHeartbeats 4000000 in
set_option maxRecDepth 100000 in
theorem lX8_fullest {Γ : ZG} {l : Launch} (hO : z_OK Γ) {l0 : Nat} {l1 : Int32} {h : ZH} {r : (Int32 × ZH)} (hX : xX8_fullest l0 l1 h = some r) : z_M Γ l yX8_fullest (z_ws1 yX8_fullest cX8_fullest 6 (some .int)) rmX8_fullest [.ref l0, .int l1] h (some (.int r.1)) r.2 := by
  refine z_start hO (plainFor_of_name (by decide)) (Nat.le_of_ble_eq_true rfl) ?_
  intro p e s m args below meth c G hr hnm
  refine z_lvc (lv2 := [(0, .ref l0), (1, .int l1)]) rfl ?_
  refine z_iload_n (pc := 0) G 1 dX8_fullest_0 rfl rfl ?_
  refine z_if_eq (pc := 1) (tgt := 11) G dX8_fullest_1 (by decide) (fun hc1 => ?_) (fun hc1 => ?_)
  · have hX := z_it hc1 hX
    refine z_iconst (pc := 11) (v := (-1)) G dX8_fullest_11 (by decide) ?_
    refine z_istore_n (pc := 12) (lv2 := [(0, .ref l0), (1, .int l1), (2, .int (-1 : Int32))]) G dX8_fullest_12 rfl (by decide) rfl rfl ?_
    refine z_iconst (pc := 13) (v := 0) G dX8_fullest_13 (by decide) ?_
    refine z_istore_n (pc := 14) (lv2 := [(0, .ref l0), (1, .int l1), (2, .int (-1 : Int32)), (3, .int (0 : Int32))]) G dX8_fullest_14 rfl (by decide) rfl rfl ?_
    refine z_iconst (pc := 15) (v := 0) G dX8_fullest_15 (by decide) ?_
    refine z_istore (pc := 16) (lv2 := [(0, .ref l0), (1, .int l1), (2, .int (-1 : Int32)), (3, .int (0 : Int32)), (4, .int (0 : Int32))]) G dX8_fullest_16 (by decide) rfl rfl ?_
    exact wX8_fullest_L18 hO G hr hnm zFU _ _ _ _ _ _ hX
  · have hX := z_if hc1 hX
    refine z_iload_n (pc := 4) G 1 dX8_fullest_4 rfl rfl ?_
    refine z_iconst (pc := 5) (v := 1) G dX8_fullest_5 (by decide) ?_
    refine z_icmp_eq (pc := 6) (tgt := 11) G dX8_fullest_6 (by decide) (fun hc6 => ?_) (fun hc6 => ?_)
    · have hX := z_it hc6 hX
      refine z_iconst (pc := 11) (v := (-1)) G dX8_fullest_11 (by decide) ?_
      refine z_istore_n (pc := 12) (lv2 := [(0, .ref l0), (1, .int l1), (2, .int (-1 : Int32))]) G dX8_fullest_12 rfl (by decide) rfl rfl ?_
      refine z_iconst (pc := 13) (v := 0) G dX8_fullest_13 (by decide) ?_
      refine z_istore_n (pc := 14) (lv2 := [(0, .ref l0), (1, .int l1), (2, .int (-1 : Int32)), (3, .int (0 : Int32))]) G dX8_fullest_14 rfl (by decide) rfl rfl ?_
      refine z_iconst (pc := 15) (v := 0) G dX8_fullest_15 (by decide) ?_
      refine z_istore (pc := 16) (lv2 := [(0, .ref l0), (1, .int l1), (2, .int (-1 : Int32)), (3, .int (0 : Int32)), (4, .int (0 : Int32))]) G dX8_fullest_16 (by decide) rfl rfl ?_
      exact wX8_fullest_L18 hO G hr hnm zFU _ _ _ _ _ _ hX
    · have hX := z_if hc6 hX
      refine z_iconst (pc := 9) (v := (-1)) G dX8_fullest_9 (by decide) ?_
      exact z_iretX (pc := 10) hX G hr dX8_fullest_10 (by decide) (by decide)
theorem dX8_strangers_0 : decode cX8_strangers 0 = .ok (.aload_n 0, 1) := by decide +kernel
theorem dX8_strangers_1 : decode cX8_strangers 1 = .ok (.getfield 27, 3) := by decide +kernel
theorem dX8_strangers_4 : decode cX8_strangers 4 = .ok (.iload_n 1, 1) := by decide +kernel
theorem dX8_strangers_5 : decode cX8_strangers 5 = .ok (.invokevirtual 127, 3) := by decide +kernel
theorem dX8_strangers_8 : decode cX8_strangers 8 = .ok (.ifCond .ne 5, 3) := by decide +kernel
theorem dX8_strangers_11 : decode cX8_strangers 11 = .ok (.iconst (-1), 1) := by decide +kernel
theorem dX8_strangers_12 : decode cX8_strangers 12 = .ok (.ireturn, 1) := by decide +kernel
theorem dX8_strangers_13 : decode cX8_strangers 13 = .ok (.aload_n 0, 1) := by decide +kernel
theorem dX8_strangers_14 : decode cX8_strangers 14 = .ok (.getfield 36, 3) := by decide +kernel
theorem dX8_strangers_17 : decode cX8_strangers 17 = .ok (.iload_n 1, 1) := by decide +kernel
theorem dX8_strangers_18 : decode cX8_strangers 18 = .ok (.invokevirtual 296, 3) := by decide +kernel
theorem dX8_strangers_21 : decode cX8_strangers 21 = .ok (.istore_n 2, 1) := by decide +kernel
theorem dX8_strangers_22 : decode cX8_strangers 22 = .ok (.iconst 0, 1) := by decide +kernel
theorem dX8_strangers_23 : decode cX8_strangers 23 = .ok (.istore_n 3, 1) := by decide +kernel
theorem dX8_strangers_24 : decode cX8_strangers 24 = .ok (.iconst 0, 1) := by decide +kernel
theorem dX8_strangers_25 : decode cX8_strangers 25 = .ok (.istore 4, 2) := by decide +kernel
theorem dX8_strangers_27 : decode cX8_strangers 27 = .ok (.iload 4, 2) := by decide +kernel
theorem dX8_strangers_29 : decode cX8_strangers 29 = .ok (.aload_n 0, 1) := by decide +kernel
theorem dX8_strangers_30 : decode cX8_strangers 30 = .ok (.getfield 27, 3) := by decide +kernel
theorem dX8_strangers_33 : decode cX8_strangers 33 = .ok (.getfield 124, 3) := by decide +kernel
theorem dX8_strangers_36 : decode cX8_strangers 36 = .ok (.if_icmp .ge 68, 3) := by decide +kernel
theorem dX8_strangers_39 : decode cX8_strangers 39 = .ok (.iload_n 2, 1) := by decide +kernel
theorem dX8_strangers_40 : decode cX8_strangers 40 = .ok (.iload 4, 2) := by decide +kernel
theorem dX8_strangers_42 : decode cX8_strangers 42 = .ok (.ishr, 1) := by decide +kernel
theorem dX8_strangers_43 : decode cX8_strangers 43 = .ok (.iconst 1, 1) := by decide +kernel
theorem dX8_strangers_44 : decode cX8_strangers 44 = .ok (.iand, 1) := by decide +kernel
theorem dX8_strangers_45 : decode cX8_strangers 45 = .ok (.ifCond .ne 7, 3) := by decide +kernel
theorem dX8_strangers_48 : decode cX8_strangers 48 = .ok (.iconst 1, 1) := by decide +kernel
theorem dX8_strangers_49 : decode cX8_strangers 49 = .ok (.goto 4, 3) := by decide +kernel
theorem dX8_strangers_52 : decode cX8_strangers 52 = .ok (.iconst 0, 1) := by decide +kernel
theorem dX8_strangers_53 : decode cX8_strangers 53 = .ok (.istore 5, 2) := by decide +kernel
theorem dX8_strangers_55 : decode cX8_strangers 55 = .ok (.iload 4, 2) := by decide +kernel
theorem dX8_strangers_57 : decode cX8_strangers 57 = .ok (.iload_n 1, 1) := by decide +kernel
theorem dX8_strangers_58 : decode cX8_strangers 58 = .ok (.if_icmp .eq 40, 3) := by decide +kernel
theorem dX8_strangers_61 : decode cX8_strangers 61 = .ok (.iload 5, 2) := by decide +kernel
theorem dX8_strangers_63 : decode cX8_strangers 63 = .ok (.ifCond .eq 35, 3) := by decide +kernel
theorem dX8_strangers_66 : decode cX8_strangers 66 = .ok (.aload_n 0, 1) := by decide +kernel
theorem dX8_strangers_67 : decode cX8_strangers 67 = .ok (.getfield 36, 3) := by decide +kernel
theorem dX8_strangers_70 : decode cX8_strangers 70 = .ok (.iload 4, 2) := by decide +kernel
theorem dX8_strangers_72 : decode cX8_strangers 72 = .ok (.invokevirtual 147, 3) := by decide +kernel
theorem dX8_strangers_75 : decode cX8_strangers 75 = .ok (.ifCond .eq 23, 3) := by decide +kernel
theorem dX8_strangers_78 : decode cX8_strangers 78 = .ok (.aload_n 0, 1) := by decide +kernel
theorem dX8_strangers_79 : decode cX8_strangers 79 = .ok (.getfield 36, 3) := by decide +kernel
theorem dX8_strangers_82 : decode cX8_strangers 82 = .ok (.iload_n 1, 1) := by decide +kernel
theorem dX8_strangers_83 : decode cX8_strangers 83 = .ok (.iload 4, 2) := by decide +kernel
theorem dX8_strangers_85 : decode cX8_strangers 85 = .ok (.invokevirtual 299, 3) := by decide +kernel
theorem dX8_strangers_88 : decode cX8_strangers 88 = .ok (.ifCond .eq 10, 3) := by decide +kernel
theorem dX8_strangers_91 : decode cX8_strangers 91 = .ok (.iload_n 3, 1) := by decide +kernel
theorem dX8_strangers_92 : decode cX8_strangers 92 = .ok (.iconst 1, 1) := by decide +kernel
theorem dX8_strangers_93 : decode cX8_strangers 93 = .ok (.iload 4, 2) := by decide +kernel
theorem dX8_strangers_95 : decode cX8_strangers 95 = .ok (.ishl, 1) := by decide +kernel
theorem dX8_strangers_96 : decode cX8_strangers 96 = .ok (.ior, 1) := by decide +kernel
theorem dX8_strangers_97 : decode cX8_strangers 97 = .ok (.istore_n 3, 1) := by decide +kernel
theorem dX8_strangers_98 : decode cX8_strangers 98 = .ok (.iinc 4 1, 3) := by decide +kernel
theorem dX8_strangers_101 : decode cX8_strangers 101 = .ok (.goto (-74), 3) := by decide +kernel
theorem dX8_strangers_104 : decode cX8_strangers 104 = .ok (.iload_n 3, 1) := by decide +kernel
theorem dX8_strangers_105 : decode cX8_strangers 105 = .ok (.ireturn, 1) := by decide +kernel
theorem ydX8_strangers : z_yd yX8_strangers 1 := ⟨by decide, by decide, by decide +kernel⟩
abbrev rmX8_strangers : Room := { frames := 3, cells := 0, slots := 0, locals := 64 }
noncomputable def xX8_strangers_B53 (r27 : Nat → Int32 → Int32 → Int32 → Int32 → ZH → Option (Int32 × ZH)) (l0 : Nat) (l1 : Int32) (l2 : Int32) (l3 : Int32) (l4 : Int32) (s0 : Int32) (h : ZH) : Option (Int32 × ZH) := (if l4 = l1 then r27 l0 l1 l2 l3 (l4 + 1) h else (if s0 = 0 then r27 l0 l1 l2 l3 (l4 + 1) h else ((z_gR h l0 8 6).bind fun x67 => (z_gu (z_is h x67 5) ((xX5_isOn x67 l4 h).bind fun r72 => (if r72.1 = 0 then r27 l0 l1 l2 l3 (l4 + 1) r72.2 else ((z_gR r72.2 l0 8 6).bind fun x79 => (z_gu (z_is r72.2 x79 5) ((xX5_inRange x79 l1 l4 r72.2).bind fun r85 => (if r85.1 = 0 then r27 l0 l1 l2 l3 (l4 + 1) r85.2 else r27 l0 l1 l2 (l3 ||| ((1 : Int32) <<< (l4 &&& 31))) (l4 + 1) r85.2))))))))))
set_option maxHeartbeats 4000000 in
set_option maxRecDepth 100000 in
theorem wX8_strangers_B53 {Γ : ZG} {p : Program} {l : Launch} {e : Env} {s : State} {m : MethodId} {args : Array Value} {below : List Frame} {meth : Method} {c : Code} (hO : z_OK Γ) (G : z_GG Γ p s m args meth c cX8_strangers 6 RX8) (hr : meth.sig.returnType = (some .int)) (hnm : meth.name = "strangers") {r : (Int32 × ZH)} {r27 : Nat → Int32 → Int32 → Int32 → Int32 → ZH → Option (Int32 × ZH)} (H27 : ∀ (l0 : Nat) (l1 : Int32) (l2 : Int32) (l3 : Int32) (l4 : Int32) (h : ZH), r27 l0 l1 l2 l3 l4 h = some r → z_W Γ p l e rmX8_strangers s m args below meth c 6 0 0 (MQ below (z_Qc Γ (some (.int r.1)) r.2) args s rmX8_strangers.cells rmX8_strangers.slots (z_A Γ)) 27 [(0, .ref l0), (1, .int l1), (2, .int l2), (3, .int l3), (4, .int l4)] [] h) : ∀ (l0 : Nat) (l1 : Int32) (l2 : Int32) (l3 : Int32) (l4 : Int32) (s0 : Int32) (h : ZH), xX8_strangers_B53  r27 l0 l1 l2 l3 l4 s0 h = some r → z_W Γ p l e rmX8_strangers s m args below meth c 6 0 0 (MQ below (z_Qc Γ (some (.int r.1)) r.2) args s rmX8_strangers.cells rmX8_strangers.slots (z_A Γ)) 53 [(0, .ref l0), (1, .int l1), (2, .int l2), (3, .int l3), (4, .int l4)] [.int s0] h := by
  intro l0 l1 l2 l3 l4 s0 h hX
  refine z_istore (pc := 53) (lv2 := [(0, .ref l0), (1, .int l1), (2, .int l2), (3, .int l3), (4, .int l4), (5, .int s0)]) G dX8_strangers_53 (by decide) rfl rfl ?_
  refine z_iload (pc := 55) G 4 dX8_strangers_55 rfl ?_
  refine z_iload_n (pc := 57) G 1 dX8_strangers_57 rfl rfl ?_
  refine z_icmp_eq (pc := 58) (tgt := 98) G dX8_strangers_58 (by decide) (fun hc58 => ?_) (fun hc58 => ?_)
  · have hX := z_it hc58 hX
    refine z_iincw (pc := 98) (w := 1) (lv2 := [(0, .ref l0), (1, .int l1), (2, .int l2), (3, .int l3), (4, .int (l4 + 1)), (5, .int s0)]) G 4 dX8_strangers_98 rfl (by decide) (by decide) rfl rfl ?_
    refine z_goto (pc := 101) (tgt := 27) G dX8_strangers_101 (by decide) ?_
    refine z_drop (lv2 := [(0, .ref l0), (1, .int l1), (2, .int l2), (3, .int l3), (4, .int (l4 + 1))]) [0, 1, 2, 3, 4] rfl ?_
    exact H27 _ _ _ _ _ _ hX
  · have hX := z_if hc58 hX
    refine z_iload (pc := 61) G 5 dX8_strangers_61 rfl ?_
    refine z_if_eq (pc := 63) (tgt := 98) G dX8_strangers_63 (by decide) (fun hc63 => ?_) (fun hc63 => ?_)
    · have hX := z_it hc63 hX
      refine z_iincw (pc := 98) (w := 1) (lv2 := [(0, .ref l0), (1, .int l1), (2, .int l2), (3, .int l3), (4, .int (l4 + 1)), (5, .int s0)]) G 4 dX8_strangers_98 rfl (by decide) (by decide) rfl rfl ?_
      refine z_goto (pc := 101) (tgt := 27) G dX8_strangers_101 (by decide) ?_
      refine z_drop (lv2 := [(0, .ref l0), (1, .int l1), (2, .int l2), (3, .int l3), (4, .int (l4 + 1))]) [0, 1, 2, 3, 4] rfl ?_
      exact H27 _ _ _ _ _ _ hX
    · have hX := z_if hc63 hX
      refine z_aload_n (pc := 66) G 0 dX8_strangers_66 rfl rfl ?_
      obtain ⟨x67, hv67, hX⟩ := z_bd hX
      refine z_getR (pc := 67) G kK8 (k := 6) (by decide) kt_430 dX8_strangers_67 hv67 ?_
      refine z_iload (pc := 70) G 4 dX8_strangers_70 rfl ?_
      obtain ⟨hi72, hX⟩ := z_gu_s hX
      obtain ⟨r72, hv72, hX⟩ := z_bd hX
      refine z_cVI (pc := 72) (As := [.int l4]) (c2 := 0) (s2 := 0) G kK5 (lX5_isOn hO hv72) hi72 kt_736 kt_4 kt_733 kt_734 kt_735 ydX5_isOn ⟨by decide, by decide⟩ rfl (Nat.le_of_ble_eq_true rfl) ⟨rfl, rfl⟩ ⟨by decide, by decide⟩ rfl dX8_strangers_72 ?_
      refine z_if_eq (pc := 75) (tgt := 98) G dX8_strangers_75 (by decide) (fun hc75 => ?_) (fun hc75 => ?_)
      · have hX := z_it hc75 hX
        refine z_iincw (pc := 98) (w := 1) (lv2 := [(0, .ref l0), (1, .int l1), (2, .int l2), (3, .int l3), (4, .int (l4 + 1)), (5, .int s0)]) G 4 dX8_strangers_98 rfl (by decide) (by decide) rfl rfl ?_
        refine z_goto (pc := 101) (tgt := 27) G dX8_strangers_101 (by decide) ?_
        refine z_drop (lv2 := [(0, .ref l0), (1, .int l1), (2, .int l2), (3, .int l3), (4, .int (l4 + 1))]) [0, 1, 2, 3, 4] rfl ?_
        exact H27 _ _ _ _ _ _ hX
      · have hX := z_if hc75 hX
        refine z_aload_n (pc := 78) G 0 dX8_strangers_78 rfl rfl ?_
        obtain ⟨x79, hv79, hX⟩ := z_bd hX
        refine z_getR (pc := 79) G kK8 (k := 6) (by decide) kt_430 dX8_strangers_79 hv79 ?_
        refine z_iload_n (pc := 82) G 1 dX8_strangers_82 rfl rfl ?_
        refine z_iload (pc := 83) G 4 dX8_strangers_83 rfl ?_
        obtain ⟨hi85, hX⟩ := z_gu_s hX
        obtain ⟨r85, hv85, hX⟩ := z_bd hX
        refine z_cVI (pc := 85) (As := [.int l1, .int l4]) (c2 := 0) (s2 := 0) G kK5 (lX5_inRange hO hv85) hi85 kt_904 kt_4 kt_1095 kt_902 kt_903 ydX5_inRange ⟨by decide, by decide⟩ rfl (Nat.le_of_ble_eq_true rfl) ⟨rfl, rfl⟩ ⟨by decide, by decide⟩ rfl dX8_strangers_85 ?_
        refine z_if_eq (pc := 88) (tgt := 98) G dX8_strangers_88 (by decide) (fun hc88 => ?_) (fun hc88 => ?_)
        · have hX := z_it hc88 hX
          refine z_iincw (pc := 98) (w := 1) (lv2 := [(0, .ref l0), (1, .int l1), (2, .int l2), (3, .int l3), (4, .int (l4 + 1)), (5, .int s0)]) G 4 dX8_strangers_98 rfl (by decide) (by decide) rfl rfl ?_
          refine z_goto (pc := 101) (tgt := 27) G dX8_strangers_101 (by decide) ?_
          refine z_drop (lv2 := [(0, .ref l0), (1, .int l1), (2, .int l2), (3, .int l3), (4, .int (l4 + 1))]) [0, 1, 2, 3, 4] rfl ?_
          exact H27 _ _ _ _ _ _ hX
        · have hX := z_if hc88 hX
          refine z_iload_n (pc := 91) G 3 dX8_strangers_91 rfl rfl ?_
          refine z_iconst (pc := 92) (v := 1) G dX8_strangers_92 (by decide) ?_
          refine z_iload (pc := 93) G 4 dX8_strangers_93 rfl ?_
          refine z_ishl (pc := 95) G dX8_strangers_95 ?_
          refine z_ior (pc := 96) G dX8_strangers_96 ?_
          refine z_istore_n (pc := 97) (lv2 := [(0, .ref l0), (1, .int l1), (2, .int l2), (3, .int (l3 ||| ((1 : Int32) <<< (l4 &&& 31)))), (4, .int l4), (5, .int s0)]) G dX8_strangers_97 rfl (by decide) rfl rfl ?_
          refine z_iincw (pc := 98) (w := 1) (lv2 := [(0, .ref l0), (1, .int l1), (2, .int l2), (3, .int (l3 ||| ((1 : Int32) <<< (l4 &&& 31)))), (4, .int (l4 + 1)), (5, .int s0)]) G 4 dX8_strangers_98 rfl (by decide) (by decide) rfl rfl ?_
          refine z_goto (pc := 101) (tgt := 27) G dX8_strangers_101 (by decide) ?_
          refine z_drop (lv2 := [(0, .ref l0), (1, .int l1), (2, .int l2), (3, .int (l3 ||| ((1 : Int32) <<< (l4 &&& 31)))), (4, .int (l4 + 1))]) [0, 1, 2, 3, 4] rfl ?_
          exact H27 _ _ _ _ _ _ hX
noncomputable def xX8_strangers_B27 (r27 : Nat → Int32 → Int32 → Int32 → Int32 → ZH → Option (Int32 × ZH)) (l0 : Nat) (l1 : Int32) (l2 : Int32) (l3 : Int32) (l4 : Int32) (h : ZH) : Option (Int32 × ZH) := ((z_gR h l0 8 5).bind fun x30 => ((z_gI h x30 2 7).bind fun x33 => (if x33 ≤ l4 then some (l3, h) else (if ((l2 >>> (l4 &&& 31)) &&& (1 : Int32)) = 0 then xX8_strangers_B53 r27 l0 l1 l2 l3 l4 (1 : Int32) h else xX8_strangers_B53 r27 l0 l1 l2 l3 l4 (0 : Int32) h))))
noncomputable def xX8_strangers_L27 (n : Nat) : Nat → Int32 → Int32 → Int32 → Int32 → ZH → Option (Int32 × ZH) := Nat.rec (motive := fun _ => Nat → Int32 → Int32 → Int32 → Int32 → ZH → Option (Int32 × ZH)) (fun _ _ _ _ _ _ => none) (fun _ rec => xX8_strangers_B27  rec) n
set_option maxHeartbeats 4000000 in
set_option maxRecDepth 100000 in
theorem wX8_strangers_B27 {Γ : ZG} {p : Program} {l : Launch} {e : Env} {s : State} {m : MethodId} {args : Array Value} {below : List Frame} {meth : Method} {c : Code} (hO : z_OK Γ) (G : z_GG Γ p s m args meth c cX8_strangers 6 RX8) (hr : meth.sig.returnType = (some .int)) (hnm : meth.name = "strangers") {r : (Int32 × ZH)} {r27 : Nat → Int32 → Int32 → Int32 → Int32 → ZH → Option (Int32 × ZH)} (H27 : ∀ (l0 : Nat) (l1 : Int32) (l2 : Int32) (l3 : Int32) (l4 : Int32) (h : ZH), r27 l0 l1 l2 l3 l4 h = some r → z_W Γ p l e rmX8_strangers s m args below meth c 6 0 0 (MQ below (z_Qc Γ (some (.int r.1)) r.2) args s rmX8_strangers.cells rmX8_strangers.slots (z_A Γ)) 27 [(0, .ref l0), (1, .int l1), (2, .int l2), (3, .int l3), (4, .int l4)] [] h) : ∀ (l0 : Nat) (l1 : Int32) (l2 : Int32) (l3 : Int32) (l4 : Int32) (h : ZH), xX8_strangers_B27  r27 l0 l1 l2 l3 l4 h = some r → z_W Γ p l e rmX8_strangers s m args below meth c 6 0 0 (MQ below (z_Qc Γ (some (.int r.1)) r.2) args s rmX8_strangers.cells rmX8_strangers.slots (z_A Γ)) 27 [(0, .ref l0), (1, .int l1), (2, .int l2), (3, .int l3), (4, .int l4)] [] h := by
  intro l0 l1 l2 l3 l4 h hX
  refine z_iload (pc := 27) G 4 dX8_strangers_27 rfl ?_
  refine z_aload_n (pc := 29) G 0 dX8_strangers_29 rfl rfl ?_
  obtain ⟨x30, hv30, hX⟩ := z_bd hX
  refine z_getR (pc := 30) G kK8 (k := 5) (by decide) kt_429 dX8_strangers_30 hv30 ?_
  obtain ⟨x33, hv33, hX⟩ := z_bd hX
  refine z_getI (pc := 33) G kK2 (k := 7) (by decide) kt_71 dX8_strangers_33 hv33 ?_
  refine z_icmp_ge (pc := 36) (tgt := 104) G dX8_strangers_36 (by decide) (fun hc36 => ?_) (fun hc36 => ?_)
  · have hX := z_it hc36 hX
    refine z_iload_n (pc := 104) G 3 dX8_strangers_104 rfl rfl ?_
    exact z_iretX (pc := 105) hX G hr dX8_strangers_105 (by decide) (by decide)
  · have hX := z_if hc36 hX
    refine z_iload_n (pc := 39) G 2 dX8_strangers_39 rfl rfl ?_
    refine z_iload (pc := 40) G 4 dX8_strangers_40 rfl ?_
    refine z_ishr (pc := 42) G dX8_strangers_42 ?_
    refine z_iconst (pc := 43) (v := 1) G dX8_strangers_43 (by decide) ?_
    refine z_iand (pc := 44) G dX8_strangers_44 ?_
    refine z_if_ne (pc := 45) (tgt := 52) G dX8_strangers_45 (by decide) (fun hc45 => ?_) (fun hc45 => ?_)
    · have hX := z_if hc45 hX
      refine z_iconst (pc := 52) (v := 0) G dX8_strangers_52 (by decide) ?_
      exact wX8_strangers_B53 hO G hr hnm H27 _ _ _ _ _ _ _ hX
    · have hX := z_it hc45 hX
      refine z_iconst (pc := 48) (v := 1) G dX8_strangers_48 (by decide) ?_
      refine z_goto (pc := 49) (tgt := 53) G dX8_strangers_49 (by decide) ?_
      exact wX8_strangers_B53 hO G hr hnm H27 _ _ _ _ _ _ _ hX
set_option maxHeartbeats 4000000 in
set_option maxRecDepth 100000 in
theorem wX8_strangers_L27 {Γ : ZG} {p : Program} {l : Launch} {e : Env} {s : State} {m : MethodId} {args : Array Value} {below : List Frame} {meth : Method} {c : Code} (hO : z_OK Γ) (G : z_GG Γ p s m args meth c cX8_strangers 6 RX8) (hr : meth.sig.returnType = (some .int)) (hnm : meth.name = "strangers") {r : (Int32 × ZH)} : ∀ (nn : Nat) (l0 : Nat) (l1 : Int32) (l2 : Int32) (l3 : Int32) (l4 : Int32) (h : ZH), xX8_strangers_L27  nn l0 l1 l2 l3 l4 h = some r → z_W Γ p l e rmX8_strangers s m args below meth c 6 0 0 (MQ below (z_Qc Γ (some (.int r.1)) r.2) args s rmX8_strangers.cells rmX8_strangers.slots (z_A Γ)) 27 [(0, .ref l0), (1, .int l1), (2, .int l2), (3, .int l3), (4, .int l4)] [] h := by
  intro nn
  induction nn with
  | zero => intro l0 l1 l2 l3 l4 h hX; cases hX
  | succ nn ih => intro l0 l1 l2 l3 l4 h hX; exact wX8_strangers_B27 hO G hr hnm  ih l0 l1 l2 l3 l4 h hX
noncomputable def xX8_strangers (l0 : Nat) (l1 : Int32) (h : ZH) : Option (Int32 × ZH) := ((z_gR h l0 8 5).bind fun x1 => (z_gu (z_is h x1 2) ((xX2_isShip x1 l1 h).bind fun r5 => (if r5.1 = 0 then some ((-1 : Int32), r5.2) else ((z_gR r5.2 l0 8 6).bind fun x14 => (z_gu (z_is r5.2 x14 5) ((xX5_heardBits x14 l1 r5.2).bind fun r18 => xX8_strangers_L27 zFU l0 l1 r18.1 (0 : Int32) (0 : Int32) r18.2)))))))
set_option maxHeartbeats 4000000 in
set_option maxRecDepth 100000 in
theorem lX8_strangers {Γ : ZG} {l : Launch} (hO : z_OK Γ) {l0 : Nat} {l1 : Int32} {h : ZH} {r : (Int32 × ZH)} (hX : xX8_strangers l0 l1 h = some r) : z_M Γ l yX8_strangers (z_ws1 yX8_strangers cX8_strangers 6 (some .int)) rmX8_strangers [.ref l0, .int l1] h (some (.int r.1)) r.2 := by
  refine z_start hO (plainFor_of_name (by decide)) (Nat.le_of_ble_eq_true rfl) ?_
  intro p e s m args below meth c G hr hnm
  refine z_lvc (lv2 := [(0, .ref l0), (1, .int l1)]) rfl ?_
  refine z_aload_n (pc := 0) G 0 dX8_strangers_0 rfl rfl ?_
  obtain ⟨x1, hv1, hX⟩ := z_bd hX
  refine z_getR (pc := 1) G kK8 (k := 5) (by decide) kt_429 dX8_strangers_1 hv1 ?_
  refine z_iload_n (pc := 4) G 1 dX8_strangers_4 rfl rfl ?_
  obtain ⟨hi5, hX⟩ := z_gu_s hX
  obtain ⟨r5, hv5, hX⟩ := z_bd hX
  refine z_cVI (pc := 5) (As := [.int l1]) (c2 := 0) (s2 := 0) G kK2 (lX2_isShip hO hv5) hi5 kt_727 kt_3 kt_724 kt_725 kt_726 ydX2_isShip ⟨by decide, by decide⟩ rfl (Nat.le_of_ble_eq_true rfl) ⟨rfl, rfl⟩ ⟨by decide, by decide⟩ rfl dX8_strangers_5 ?_
  refine z_if_ne (pc := 8) (tgt := 13) G dX8_strangers_8 (by decide) (fun hc8 => ?_) (fun hc8 => ?_)
  · have hX := z_if hc8 hX
    refine z_aload_n (pc := 13) G 0 dX8_strangers_13 rfl rfl ?_
    obtain ⟨x14, hv14, hX⟩ := z_bd hX
    refine z_getR (pc := 14) G kK8 (k := 6) (by decide) kt_430 dX8_strangers_14 hv14 ?_
    refine z_iload_n (pc := 17) G 1 dX8_strangers_17 rfl rfl ?_
    obtain ⟨hi18, hX⟩ := z_gu_s hX
    obtain ⟨r18, hv18, hX⟩ := z_bd hX
    refine z_cVI (pc := 18) (As := [.int l1]) (c2 := 0) (s2 := 0) G kK5 (lX5_heardBits hO hv18) hi18 kt_744 kt_4 kt_1094 kt_742 kt_743 ydX5_heardBits ⟨by decide, by decide⟩ rfl (Nat.le_of_ble_eq_true rfl) ⟨rfl, rfl⟩ ⟨by decide, by decide⟩ rfl dX8_strangers_18 ?_
    refine z_istore_n (pc := 21) (lv2 := [(0, .ref l0), (1, .int l1), (2, .int r18.1)]) G dX8_strangers_21 rfl (by decide) rfl rfl ?_
    refine z_iconst (pc := 22) (v := 0) G dX8_strangers_22 (by decide) ?_
    refine z_istore_n (pc := 23) (lv2 := [(0, .ref l0), (1, .int l1), (2, .int r18.1), (3, .int (0 : Int32))]) G dX8_strangers_23 rfl (by decide) rfl rfl ?_
    refine z_iconst (pc := 24) (v := 0) G dX8_strangers_24 (by decide) ?_
    refine z_istore (pc := 25) (lv2 := [(0, .ref l0), (1, .int l1), (2, .int r18.1), (3, .int (0 : Int32)), (4, .int (0 : Int32))]) G dX8_strangers_25 (by decide) rfl rfl ?_
    exact wX8_strangers_L27 hO G hr hnm zFU _ _ _ _ _ _ hX
  · have hX := z_it hc8 hX
    refine z_iconst (pc := 11) (v := (-1)) G dX8_strangers_11 (by decide) ?_
    exact z_iretX (pc := 12) hX G hr dX8_strangers_12 (by decide) (by decide)
theorem dX8_best_0 : decode cX8_best 0 = .ok (.iconst (-1), 1) := by decide +kernel
theorem dX8_best_1 : decode cX8_best 1 = .ok (.istore_n 1, 1) := by decide +kernel
theorem dX8_best_2 : decode cX8_best 2 = .ok (.iconst (-1), 1) := by decide +kernel
theorem dX8_best_3 : decode cX8_best 3 = .ok (.istore_n 2, 1) := by decide +kernel
theorem dX8_best_4 : decode cX8_best 4 = .ok (.iconst 0, 1) := by decide +kernel
theorem dX8_best_5 : decode cX8_best 5 = .ok (.istore_n 3, 1) := by decide +kernel
theorem dX8_best_6 : decode cX8_best 6 = .ok (.iload_n 3, 1) := by decide +kernel
theorem dX8_best_7 : decode cX8_best 7 = .ok (.aload_n 0, 1) := by decide +kernel
theorem dX8_best_8 : decode cX8_best 8 = .ok (.getfield 27, 3) := by decide +kernel
theorem dX8_best_11 : decode cX8_best 11 = .ok (.getfield 124, 3) := by decide +kernel
theorem dX8_best_14 : decode cX8_best 14 = .ok (.if_icmp .ge 30, 3) := by decide +kernel
theorem dX8_best_17 : decode cX8_best 17 = .ok (.aload_n 0, 1) := by decide +kernel
theorem dX8_best_18 : decode cX8_best 18 = .ok (.getfield 36, 3) := by decide +kernel
theorem dX8_best_21 : decode cX8_best 21 = .ok (.iload_n 3, 1) := by decide +kernel
theorem dX8_best_22 : decode cX8_best 22 = .ok (.invokevirtual 153, 3) := by decide +kernel
theorem dX8_best_25 : decode cX8_best 25 = .ok (.istore 4, 2) := by decide +kernel
theorem dX8_best_27 : decode cX8_best 27 = .ok (.iload 4, 2) := by decide +kernel
theorem dX8_best_29 : decode cX8_best 29 = .ok (.iload_n 2, 1) := by decide +kernel
theorem dX8_best_30 : decode cX8_best 30 = .ok (.if_icmp .le 8, 3) := by decide +kernel
theorem dX8_best_33 : decode cX8_best 33 = .ok (.iload 4, 2) := by decide +kernel
theorem dX8_best_35 : decode cX8_best 35 = .ok (.istore_n 2, 1) := by decide +kernel
theorem dX8_best_36 : decode cX8_best 36 = .ok (.iload_n 3, 1) := by decide +kernel
theorem dX8_best_37 : decode cX8_best 37 = .ok (.istore_n 1, 1) := by decide +kernel
theorem dX8_best_38 : decode cX8_best 38 = .ok (.iinc 3 1, 3) := by decide +kernel
theorem dX8_best_41 : decode cX8_best 41 = .ok (.goto (-35), 3) := by decide +kernel
theorem dX8_best_44 : decode cX8_best 44 = .ok (.iload_n 1, 1) := by decide +kernel
theorem dX8_best_45 : decode cX8_best 45 = .ok (.ireturn, 1) := by decide +kernel
theorem ydX8_best : z_yd yX8_best 0 := ⟨by decide, by decide, by decide +kernel⟩
abbrev rmX8_best : Room := { frames := 3, cells := 0, slots := 0, locals := 67 }
noncomputable def xX8_best_B6 (r6 : Nat → Int32 → Int32 → Int32 → ZH → Option (Int32 × ZH)) (l0 : Nat) (l1 : Int32) (l2 : Int32) (l3 : Int32) (h : ZH) : Option (Int32 × ZH) := ((z_gR h l0 8 5).bind fun x8 => ((z_gI h x8 2 7).bind fun x11 => (if x11 ≤ l3 then some (l1, h) else ((z_gR h l0 8 6).bind fun x18 => (z_gu (z_is h x18 5) ((xX5_othersHeard x18 l3 h).bind fun r22 => (if r22.1 ≤ l2 then r6 l0 l1 l2 (l3 + 1) r22.2 else r6 l0 l3 r22.1 (l3 + 1) r22.2)))))))
noncomputable def xX8_best_L6 (n : Nat) : Nat → Int32 → Int32 → Int32 → ZH → Option (Int32 × ZH) := Nat.rec (motive := fun _ => Nat → Int32 → Int32 → Int32 → ZH → Option (Int32 × ZH)) (fun _ _ _ _ _ => none) (fun _ rec => xX8_best_B6  rec) n
set_option maxHeartbeats 4000000 in
set_option maxRecDepth 100000 in
theorem wX8_best_B6 {Γ : ZG} {p : Program} {l : Launch} {e : Env} {s : State} {m : MethodId} {args : Array Value} {below : List Frame} {meth : Method} {c : Code} (hO : z_OK Γ) (G : z_GG Γ p s m args meth c cX8_best 5 RX8) (hr : meth.sig.returnType = (some .int)) (hnm : meth.name = "best") {r : (Int32 × ZH)} {r6 : Nat → Int32 → Int32 → Int32 → ZH → Option (Int32 × ZH)} (H6 : ∀ (l0 : Nat) (l1 : Int32) (l2 : Int32) (l3 : Int32) (h : ZH), r6 l0 l1 l2 l3 h = some r → z_W Γ p l e rmX8_best s m args below meth c 5 0 0 (MQ below (z_Qc Γ (some (.int r.1)) r.2) args s rmX8_best.cells rmX8_best.slots (z_A Γ)) 6 [(0, .ref l0), (1, .int l1), (2, .int l2), (3, .int l3)] [] h) : ∀ (l0 : Nat) (l1 : Int32) (l2 : Int32) (l3 : Int32) (h : ZH), xX8_best_B6  r6 l0 l1 l2 l3 h = some r → z_W Γ p l e rmX8_best s m args below meth c 5 0 0 (MQ below (z_Qc Γ (some (.int r.1)) r.2) args s rmX8_best.cells rmX8_best.slots (z_A Γ)) 6 [(0, .ref l0), (1, .int l1), (2, .int l2), (3, .int l3)] [] h := by
  intro l0 l1 l2 l3 h hX
  refine z_iload_n (pc := 6) G 3 dX8_best_6 rfl rfl ?_
  refine z_aload_n (pc := 7) G 0 dX8_best_7 rfl rfl ?_
  obtain ⟨x8, hv8, hX⟩ := z_bd hX
  refine z_getR (pc := 8) G kK8 (k := 5) (by decide) kt_429 dX8_best_8 hv8 ?_
  obtain ⟨x11, hv11, hX⟩ := z_bd hX
  refine z_getI (pc := 11) G kK2 (k := 7) (by decide) kt_71 dX8_best_11 hv11 ?_
  refine z_icmp_ge (pc := 14) (tgt := 44) G dX8_best_14 (by decide) (fun hc14 => ?_) (fun hc14 => ?_)
  · have hX := z_it hc14 hX
    refine z_iload_n (pc := 44) G 1 dX8_best_44 rfl rfl ?_
    exact z_iretX (pc := 45) hX G hr dX8_best_45 (by decide) (by decide)
  · have hX := z_if hc14 hX
    refine z_aload_n (pc := 17) G 0 dX8_best_17 rfl rfl ?_
    obtain ⟨x18, hv18, hX⟩ := z_bd hX
    refine z_getR (pc := 18) G kK8 (k := 6) (by decide) kt_430 dX8_best_18 hv18 ?_
    refine z_iload_n (pc := 21) G 3 dX8_best_21 rfl rfl ?_
    obtain ⟨hi22, hX⟩ := z_gu_s hX
    obtain ⟨r22, hv22, hX⟩ := z_bd hX
    refine z_cVI (pc := 22) (As := [.int l3]) (c2 := 0) (s2 := 0) G kK5 (lX5_othersHeard hO hv22) hi22 kt_740 kt_4 kt_737 kt_738 kt_739 ydX5_othersHeard ⟨by decide, by decide⟩ rfl (Nat.le_of_ble_eq_true rfl) ⟨rfl, rfl⟩ ⟨by decide, by decide⟩ rfl dX8_best_22 ?_
    refine z_istore (pc := 25) (lv2 := [(0, .ref l0), (1, .int l1), (2, .int l2), (3, .int l3), (4, .int r22.1)]) G dX8_best_25 (by decide) rfl rfl ?_
    refine z_iload (pc := 27) G 4 dX8_best_27 rfl ?_
    refine z_iload_n (pc := 29) G 2 dX8_best_29 rfl rfl ?_
    refine z_icmp_le (pc := 30) (tgt := 38) G dX8_best_30 (by decide) (fun hc30 => ?_) (fun hc30 => ?_)
    · have hX := z_it hc30 hX
      refine z_iincw (pc := 38) (w := 1) (lv2 := [(0, .ref l0), (1, .int l1), (2, .int l2), (3, .int (l3 + 1)), (4, .int r22.1)]) G 3 dX8_best_38 rfl (by decide) (by decide) rfl rfl ?_
      refine z_goto (pc := 41) (tgt := 6) G dX8_best_41 (by decide) ?_
      refine z_drop (lv2 := [(0, .ref l0), (1, .int l1), (2, .int l2), (3, .int (l3 + 1))]) [0, 1, 2, 3] rfl ?_
      exact H6 _ _ _ _ _ hX
    · have hX := z_if hc30 hX
      refine z_iload (pc := 33) G 4 dX8_best_33 rfl ?_
      refine z_istore_n (pc := 35) (lv2 := [(0, .ref l0), (1, .int l1), (2, .int r22.1), (3, .int l3), (4, .int r22.1)]) G dX8_best_35 rfl (by decide) rfl rfl ?_
      refine z_iload_n (pc := 36) G 3 dX8_best_36 rfl rfl ?_
      refine z_istore_n (pc := 37) (lv2 := [(0, .ref l0), (1, .int l3), (2, .int r22.1), (3, .int l3), (4, .int r22.1)]) G dX8_best_37 rfl (by decide) rfl rfl ?_
      refine z_iincw (pc := 38) (w := 1) (lv2 := [(0, .ref l0), (1, .int l3), (2, .int r22.1), (3, .int (l3 + 1)), (4, .int r22.1)]) G 3 dX8_best_38 rfl (by decide) (by decide) rfl rfl ?_
      refine z_goto (pc := 41) (tgt := 6) G dX8_best_41 (by decide) ?_
      refine z_drop (lv2 := [(0, .ref l0), (1, .int l3), (2, .int r22.1), (3, .int (l3 + 1))]) [0, 1, 2, 3] rfl ?_
      exact H6 _ _ _ _ _ hX
set_option maxHeartbeats 4000000 in
set_option maxRecDepth 100000 in
theorem wX8_best_L6 {Γ : ZG} {p : Program} {l : Launch} {e : Env} {s : State} {m : MethodId} {args : Array Value} {below : List Frame} {meth : Method} {c : Code} (hO : z_OK Γ) (G : z_GG Γ p s m args meth c cX8_best 5 RX8) (hr : meth.sig.returnType = (some .int)) (hnm : meth.name = "best") {r : (Int32 × ZH)} : ∀ (nn : Nat) (l0 : Nat) (l1 : Int32) (l2 : Int32) (l3 : Int32) (h : ZH), xX8_best_L6  nn l0 l1 l2 l3 h = some r → z_W Γ p l e rmX8_best s m args below meth c 5 0 0 (MQ below (z_Qc Γ (some (.int r.1)) r.2) args s rmX8_best.cells rmX8_best.slots (z_A Γ)) 6 [(0, .ref l0), (1, .int l1), (2, .int l2), (3, .int l3)] [] h := by
  intro nn
  induction nn with
  | zero => intro l0 l1 l2 l3 h hX; cases hX
  | succ nn ih => intro l0 l1 l2 l3 h hX; exact wX8_best_B6 hO G hr hnm  ih l0 l1 l2 l3 h hX
noncomputable def xX8_best (l0 : Nat) (h : ZH) : Option (Int32 × ZH) := xX8_best_L6 zFU l0 (-1 : Int32) (-1 : Int32) (0 : Int32) h
set_option maxHeartbeats 4000000 in
set_option maxRecDepth 100000 in
theorem lX8_best {Γ : ZG} {l : Launch} (hO : z_OK Γ) {l0 : Nat} {h : ZH} {r : (Int32 × ZH)} (hX : xX8_best l0 h = some r) : z_M Γ l yX8_best (z_ws1 yX8_best cX8_best 5 (some .int)) rmX8_best [.ref l0] h (some (.int r.1)) r.2 := by
  refine z_start hO (plainFor_of_name (by decide)) (Nat.le_of_ble_eq_true rfl) ?_
  intro p e s m args below meth c G hr hnm
  refine z_lvc (lv2 := [(0, .ref l0)]) rfl ?_
  refine z_iconst (pc := 0) (v := (-1)) G dX8_best_0 (by decide) ?_
  refine z_istore_n (pc := 1) (lv2 := [(0, .ref l0), (1, .int (-1 : Int32))]) G dX8_best_1 rfl (by decide) rfl rfl ?_
  refine z_iconst (pc := 2) (v := (-1)) G dX8_best_2 (by decide) ?_
  refine z_istore_n (pc := 3) (lv2 := [(0, .ref l0), (1, .int (-1 : Int32)), (2, .int (-1 : Int32))]) G dX8_best_3 rfl (by decide) rfl rfl ?_
  refine z_iconst (pc := 4) (v := 0) G dX8_best_4 (by decide) ?_
  refine z_istore_n (pc := 5) (lv2 := [(0, .ref l0), (1, .int (-1 : Int32)), (2, .int (-1 : Int32)), (3, .int (0 : Int32))]) G dX8_best_5 rfl (by decide) rfl rfl ?_
  exact wX8_best_L6 hO G hr hnm zFU _ _ _ _ _ hX
theorem dX8_reach_0 : decode cX8_reach 0 = .ok (.iconst (-1), 1) := by decide +kernel
theorem dX8_reach_1 : decode cX8_reach 1 = .ok (.istore_n 2, 1) := by decide +kernel
theorem dX8_reach_2 : decode cX8_reach 2 = .ok (.iconst (-1), 1) := by decide +kernel
theorem dX8_reach_3 : decode cX8_reach 3 = .ok (.istore_n 3, 1) := by decide +kernel
theorem dX8_reach_4 : decode cX8_reach 4 = .ok (.iconst (-1), 1) := by decide +kernel
theorem dX8_reach_5 : decode cX8_reach 5 = .ok (.istore 4, 2) := by decide +kernel
theorem dX8_reach_7 : decode cX8_reach 7 = .ok (.aload_n 0, 1) := by decide +kernel
theorem dX8_reach_8 : decode cX8_reach 8 = .ok (.getfield 60, 3) := by decide +kernel
theorem dX8_reach_11 : decode cX8_reach 11 = .ok (.aload_n 0, 1) := by decide +kernel
theorem dX8_reach_12 : decode cX8_reach 12 = .ok (.getfield 36, 3) := by decide +kernel
theorem dX8_reach_15 : decode cX8_reach 15 = .ok (.invokevirtual 259, 3) := by decide +kernel
theorem dX8_reach_18 : decode cX8_reach 18 = .ok (.iconst 0, 1) := by decide +kernel
theorem dX8_reach_19 : decode cX8_reach 19 = .ok (.istore 5, 2) := by decide +kernel
theorem dX8_reach_21 : decode cX8_reach 21 = .ok (.iload 5, 2) := by decide +kernel
theorem dX8_reach_23 : decode cX8_reach 23 = .ok (.aload_n 0, 1) := by decide +kernel
theorem dX8_reach_24 : decode cX8_reach 24 = .ok (.getfield 27, 3) := by decide +kernel
theorem dX8_reach_27 : decode cX8_reach 27 = .ok (.getfield 124, 3) := by decide +kernel
theorem dX8_reach_30 : decode cX8_reach 30 = .ok (.if_icmp .ge 82, 3) := by decide +kernel
theorem dX8_reach_33 : decode cX8_reach 33 = .ok (.iload 5, 2) := by decide +kernel
theorem dX8_reach_35 : decode cX8_reach 35 = .ok (.iconst 1, 1) := by decide +kernel
theorem dX8_reach_36 : decode cX8_reach 36 = .ok (.iadd, 1) := by decide +kernel
theorem dX8_reach_37 : decode cX8_reach 37 = .ok (.istore 6, 2) := by decide +kernel
theorem dX8_reach_39 : decode cX8_reach 39 = .ok (.iload 6, 2) := by decide +kernel
theorem dX8_reach_41 : decode cX8_reach 41 = .ok (.aload_n 0, 1) := by decide +kernel
theorem dX8_reach_42 : decode cX8_reach 42 = .ok (.getfield 27, 3) := by decide +kernel
theorem dX8_reach_45 : decode cX8_reach 45 = .ok (.getfield 124, 3) := by decide +kernel
theorem dX8_reach_48 : decode cX8_reach 48 = .ok (.if_icmp .ge 58, 3) := by decide +kernel
theorem dX8_reach_51 : decode cX8_reach 51 = .ok (.aload_n 0, 1) := by decide +kernel
theorem dX8_reach_52 : decode cX8_reach 52 = .ok (.getfield 60, 3) := by decide +kernel
theorem dX8_reach_55 : decode cX8_reach 55 = .ok (.iload 5, 2) := by decide +kernel
theorem dX8_reach_57 : decode cX8_reach 57 = .ok (.iload 6, 2) := by decide +kernel
theorem dX8_reach_59 : decode cX8_reach 59 = .ok (.invokevirtual 283, 3) := by decide +kernel
theorem dX8_reach_62 : decode cX8_reach 62 = .ok (.ifCond .eq 38, 3) := by decide +kernel
theorem dX8_reach_65 : decode cX8_reach 65 = .ok (.aload_n 0, 1) := by decide +kernel
theorem dX8_reach_66 : decode cX8_reach 66 = .ok (.getfield 36, 3) := by decide +kernel
theorem dX8_reach_69 : decode cX8_reach 69 = .ok (.iload 5, 2) := by decide +kernel
theorem dX8_reach_71 : decode cX8_reach 71 = .ok (.iload 6, 2) := by decide +kernel
theorem dX8_reach_73 : decode cX8_reach 73 = .ok (.invokevirtual 184, 3) := by decide +kernel
theorem dX8_reach_76 : decode cX8_reach 76 = .ok (.iload 4, 2) := by decide +kernel
theorem dX8_reach_78 : decode cX8_reach 78 = .ok (.if_icmp .le 22, 3) := by decide +kernel
theorem dX8_reach_81 : decode cX8_reach 81 = .ok (.iload 5, 2) := by decide +kernel
theorem dX8_reach_83 : decode cX8_reach 83 = .ok (.istore_n 2, 1) := by decide +kernel
theorem dX8_reach_84 : decode cX8_reach 84 = .ok (.iload 6, 2) := by decide +kernel
theorem dX8_reach_86 : decode cX8_reach 86 = .ok (.istore_n 3, 1) := by decide +kernel
theorem dX8_reach_87 : decode cX8_reach 87 = .ok (.aload_n 0, 1) := by decide +kernel
theorem dX8_reach_88 : decode cX8_reach 88 = .ok (.getfield 36, 3) := by decide +kernel
theorem dX8_reach_91 : decode cX8_reach 91 = .ok (.iload 5, 2) := by decide +kernel
theorem dX8_reach_93 : decode cX8_reach 93 = .ok (.iload 6, 2) := by decide +kernel
theorem dX8_reach_95 : decode cX8_reach 95 = .ok (.invokevirtual 184, 3) := by decide +kernel
theorem dX8_reach_98 : decode cX8_reach 98 = .ok (.istore 4, 2) := by decide +kernel
theorem dX8_reach_100 : decode cX8_reach 100 = .ok (.iinc 6 1, 3) := by decide +kernel
theorem dX8_reach_103 : decode cX8_reach 103 = .ok (.goto (-64), 3) := by decide +kernel
theorem dX8_reach_106 : decode cX8_reach 106 = .ok (.iinc 5 1, 3) := by decide +kernel
theorem dX8_reach_109 : decode cX8_reach 109 = .ok (.goto (-88), 3) := by decide +kernel
theorem dX8_reach_112 : decode cX8_reach 112 = .ok (.iload_n 1, 1) := by decide +kernel
theorem dX8_reach_113 : decode cX8_reach 113 = .ok (.tableswitch 34 0 2 #[27, 29, 31], 27) := by decide +kernel
theorem dX8_reach_140 : decode cX8_reach 140 = .ok (.iload_n 2, 1) := by decide +kernel
theorem dX8_reach_141 : decode cX8_reach 141 = .ok (.ireturn, 1) := by decide +kernel
theorem dX8_reach_142 : decode cX8_reach 142 = .ok (.iload_n 3, 1) := by decide +kernel
theorem dX8_reach_143 : decode cX8_reach 143 = .ok (.ireturn, 1) := by decide +kernel
theorem dX8_reach_144 : decode cX8_reach 144 = .ok (.iload 4, 2) := by decide +kernel
theorem dX8_reach_146 : decode cX8_reach 146 = .ok (.ireturn, 1) := by decide +kernel
theorem dX8_reach_147 : decode cX8_reach 147 = .ok (.iconst (-1), 1) := by decide +kernel
theorem dX8_reach_148 : decode cX8_reach 148 = .ok (.ireturn, 1) := by decide +kernel
theorem ydX8_reach : z_yd yX8_reach 1 := ⟨by decide, by decide, by decide +kernel⟩
abbrev rmX8_reach : Room := { frames := 4, cells := 0, slots := 0, locals := 88 }
noncomputable def xX8_reach_B39 (r21 : Nat → Int32 → Int32 → Int32 → Int32 → Int32 → ZH → Option (Int32 × ZH)) (r39 : Nat → Int32 → Int32 → Int32 → Int32 → Int32 → Int32 → ZH → Option (Int32 × ZH)) (l0 : Nat) (l1 : Int32) (l2 : Int32) (l3 : Int32) (l4 : Int32) (l5 : Int32) (l6 : Int32) (h : ZH) : Option (Int32 × ZH) := ((z_gR h l0 8 5).bind fun x42 => ((z_gI h x42 2 7).bind fun x45 => (if x45 ≤ l6 then r21 l0 l1 l2 l3 l4 (l5 + 1) h else ((z_gR h l0 8 10).bind fun x52 => (z_gu (z_is h x52 7) ((xX7_linked x52 l5 l6 h).bind fun r59 => (if r59.1 = 0 then r39 l0 l1 l2 l3 l4 l5 (l6 + 1) r59.2 else ((z_gR r59.2 l0 8 6).bind fun x66 => (z_gu (z_is r59.2 x66 5) ((xX5_distance x66 l5 l6 r59.2).bind fun r73 => (if r73.1 ≤ l4 then r39 l0 l1 l2 l3 l4 l5 (l6 + 1) r73.2 else ((z_gR r73.2 l0 8 6).bind fun x88 => (z_gu (z_is r73.2 x88 5) ((xX5_distance x88 l5 l6 r73.2).bind fun r95 => r39 l0 l1 l5 l6 r95.1 l5 (l6 + 1) r95.2))))))))))))))
noncomputable def xX8_reach_L39 (r21 : Nat → Int32 → Int32 → Int32 → Int32 → Int32 → ZH → Option (Int32 × ZH)) (n : Nat) : Nat → Int32 → Int32 → Int32 → Int32 → Int32 → Int32 → ZH → Option (Int32 × ZH) := Nat.rec (motive := fun _ => Nat → Int32 → Int32 → Int32 → Int32 → Int32 → Int32 → ZH → Option (Int32 × ZH)) (fun _ _ _ _ _ _ _ _ => none) (fun _ rec => xX8_reach_B39  r21 rec) n
set_option maxHeartbeats 4000000 in
set_option maxRecDepth 100000 in
theorem wX8_reach_B39 {Γ : ZG} {p : Program} {l : Launch} {e : Env} {s : State} {m : MethodId} {args : Array Value} {below : List Frame} {meth : Method} {c : Code} (hO : z_OK Γ) (G : z_GG Γ p s m args meth c cX8_reach 7 RX8) (hr : meth.sig.returnType = (some .int)) (hnm : meth.name = "reach") {r : (Int32 × ZH)} {r21 : Nat → Int32 → Int32 → Int32 → Int32 → Int32 → ZH → Option (Int32 × ZH)} (H21 : ∀ (l0 : Nat) (l1 : Int32) (l2 : Int32) (l3 : Int32) (l4 : Int32) (l5 : Int32) (h : ZH), r21 l0 l1 l2 l3 l4 l5 h = some r → z_W Γ p l e rmX8_reach s m args below meth c 7 0 0 (MQ below (z_Qc Γ (some (.int r.1)) r.2) args s rmX8_reach.cells rmX8_reach.slots (z_A Γ)) 21 [(0, .ref l0), (1, .int l1), (2, .int l2), (3, .int l3), (4, .int l4), (5, .int l5)] [] h) {r39 : Nat → Int32 → Int32 → Int32 → Int32 → Int32 → Int32 → ZH → Option (Int32 × ZH)} (H39 : ∀ (l0 : Nat) (l1 : Int32) (l2 : Int32) (l3 : Int32) (l4 : Int32) (l5 : Int32) (l6 : Int32) (h : ZH), r39 l0 l1 l2 l3 l4 l5 l6 h = some r → z_W Γ p l e rmX8_reach s m args below meth c 7 0 0 (MQ below (z_Qc Γ (some (.int r.1)) r.2) args s rmX8_reach.cells rmX8_reach.slots (z_A Γ)) 39 [(0, .ref l0), (1, .int l1), (2, .int l2), (3, .int l3), (4, .int l4), (5, .int l5), (6, .int l6)] [] h) : ∀ (l0 : Nat) (l1 : Int32) (l2 : Int32) (l3 : Int32) (l4 : Int32) (l5 : Int32) (l6 : Int32) (h : ZH), xX8_reach_B39  r21 r39 l0 l1 l2 l3 l4 l5 l6 h = some r → z_W Γ p l e rmX8_reach s m args below meth c 7 0 0 (MQ below (z_Qc Γ (some (.int r.1)) r.2) args s rmX8_reach.cells rmX8_reach.slots (z_A Γ)) 39 [(0, .ref l0), (1, .int l1), (2, .int l2), (3, .int l3), (4, .int l4), (5, .int l5), (6, .int l6)] [] h := by
  intro l0 l1 l2 l3 l4 l5 l6 h hX
  refine z_iload (pc := 39) G 6 dX8_reach_39 rfl ?_
  refine z_aload_n (pc := 41) G 0 dX8_reach_41 rfl rfl ?_
  obtain ⟨x42, hv42, hX⟩ := z_bd hX
  refine z_getR (pc := 42) G kK8 (k := 5) (by decide) kt_429 dX8_reach_42 hv42 ?_
  obtain ⟨x45, hv45, hX⟩ := z_bd hX
  refine z_getI (pc := 45) G kK2 (k := 7) (by decide) kt_71 dX8_reach_45 hv45 ?_
  refine z_icmp_ge (pc := 48) (tgt := 106) G dX8_reach_48 (by decide) (fun hc48 => ?_) (fun hc48 => ?_)
  · have hX := z_it hc48 hX
    refine z_iincw (pc := 106) (w := 1) (lv2 := [(0, .ref l0), (1, .int l1), (2, .int l2), (3, .int l3), (4, .int l4), (5, .int (l5 + 1)), (6, .int l6)]) G 5 dX8_reach_106 rfl (by decide) (by decide) rfl rfl ?_
    refine z_goto (pc := 109) (tgt := 21) G dX8_reach_109 (by decide) ?_
    refine z_drop (lv2 := [(0, .ref l0), (1, .int l1), (2, .int l2), (3, .int l3), (4, .int l4), (5, .int (l5 + 1))]) [0, 1, 2, 3, 4, 5] rfl ?_
    exact H21 _ _ _ _ _ _ _ hX
  · have hX := z_if hc48 hX
    refine z_aload_n (pc := 51) G 0 dX8_reach_51 rfl rfl ?_
    obtain ⟨x52, hv52, hX⟩ := z_bd hX
    refine z_getR (pc := 52) G kK8 (k := 10) (by decide) kt_434 dX8_reach_52 hv52 ?_
    refine z_iload (pc := 55) G 5 dX8_reach_55 rfl ?_
    refine z_iload (pc := 57) G 6 dX8_reach_57 rfl ?_
    obtain ⟨hi59, hX⟩ := z_gu_s hX
    obtain ⟨r59, hv59, hX⟩ := z_bd hX
    refine z_cVI (pc := 59) (As := [.int l5, .int l6]) (c2 := 0) (s2 := 0) G kK7 (lX7_linked hO hv59) hi59 kt_1015 kt_7 kt_1063 kt_1013 kt_1014 ydX7_linked ⟨by decide, by decide⟩ rfl (Nat.le_of_ble_eq_true rfl) ⟨rfl, rfl⟩ ⟨by decide, by decide⟩ rfl dX8_reach_59 ?_
    refine z_if_eq (pc := 62) (tgt := 100) G dX8_reach_62 (by decide) (fun hc62 => ?_) (fun hc62 => ?_)
    · have hX := z_it hc62 hX
      refine z_iincw (pc := 100) (w := 1) (lv2 := [(0, .ref l0), (1, .int l1), (2, .int l2), (3, .int l3), (4, .int l4), (5, .int l5), (6, .int (l6 + 1))]) G 6 dX8_reach_100 rfl (by decide) (by decide) rfl rfl ?_
      refine z_goto (pc := 103) (tgt := 39) G dX8_reach_103 (by decide) ?_
      exact H39 _ _ _ _ _ _ _ _ hX
    · have hX := z_if hc62 hX
      refine z_aload_n (pc := 65) G 0 dX8_reach_65 rfl rfl ?_
      obtain ⟨x66, hv66, hX⟩ := z_bd hX
      refine z_getR (pc := 66) G kK8 (k := 6) (by decide) kt_430 dX8_reach_66 hv66 ?_
      refine z_iload (pc := 69) G 5 dX8_reach_69 rfl ?_
      refine z_iload (pc := 71) G 6 dX8_reach_71 rfl ?_
      obtain ⟨hi73, hX⟩ := z_gu_s hX
      obtain ⟨r73, hv73, hX⟩ := z_bd hX
      refine z_cVI (pc := 73) (As := [.int l5, .int l6]) (c2 := 0) (s2 := 0) G kK5 (lX5_distance hO hv73) hi73 kt_783 kt_4 kt_780 kt_781 kt_782 ydX5_distance ⟨by decide, by decide⟩ rfl (Nat.le_of_ble_eq_true rfl) ⟨rfl, rfl⟩ ⟨by decide, by decide⟩ rfl dX8_reach_73 ?_
      refine z_iload (pc := 76) G 4 dX8_reach_76 rfl ?_
      refine z_icmp_le (pc := 78) (tgt := 100) G dX8_reach_78 (by decide) (fun hc78 => ?_) (fun hc78 => ?_)
      · have hX := z_it hc78 hX
        refine z_iincw (pc := 100) (w := 1) (lv2 := [(0, .ref l0), (1, .int l1), (2, .int l2), (3, .int l3), (4, .int l4), (5, .int l5), (6, .int (l6 + 1))]) G 6 dX8_reach_100 rfl (by decide) (by decide) rfl rfl ?_
        refine z_goto (pc := 103) (tgt := 39) G dX8_reach_103 (by decide) ?_
        exact H39 _ _ _ _ _ _ _ _ hX
      · have hX := z_if hc78 hX
        refine z_iload (pc := 81) G 5 dX8_reach_81 rfl ?_
        refine z_istore_n (pc := 83) (lv2 := [(0, .ref l0), (1, .int l1), (2, .int l5), (3, .int l3), (4, .int l4), (5, .int l5), (6, .int l6)]) G dX8_reach_83 rfl (by decide) rfl rfl ?_
        refine z_iload (pc := 84) G 6 dX8_reach_84 rfl ?_
        refine z_istore_n (pc := 86) (lv2 := [(0, .ref l0), (1, .int l1), (2, .int l5), (3, .int l6), (4, .int l4), (5, .int l5), (6, .int l6)]) G dX8_reach_86 rfl (by decide) rfl rfl ?_
        refine z_aload_n (pc := 87) G 0 dX8_reach_87 rfl rfl ?_
        obtain ⟨x88, hv88, hX⟩ := z_bd hX
        refine z_getR (pc := 88) G kK8 (k := 6) (by decide) kt_430 dX8_reach_88 hv88 ?_
        refine z_iload (pc := 91) G 5 dX8_reach_91 rfl ?_
        refine z_iload (pc := 93) G 6 dX8_reach_93 rfl ?_
        obtain ⟨hi95, hX⟩ := z_gu_s hX
        obtain ⟨r95, hv95, hX⟩ := z_bd hX
        refine z_cVI (pc := 95) (As := [.int l5, .int l6]) (c2 := 0) (s2 := 0) G kK5 (lX5_distance hO hv95) hi95 kt_783 kt_4 kt_780 kt_781 kt_782 ydX5_distance ⟨by decide, by decide⟩ rfl (Nat.le_of_ble_eq_true rfl) ⟨rfl, rfl⟩ ⟨by decide, by decide⟩ rfl dX8_reach_95 ?_
        refine z_istore (pc := 98) (lv2 := [(0, .ref l0), (1, .int l1), (2, .int l5), (3, .int l6), (4, .int r95.1), (5, .int l5), (6, .int l6)]) G dX8_reach_98 (by decide) rfl rfl ?_
        refine z_iincw (pc := 100) (w := 1) (lv2 := [(0, .ref l0), (1, .int l1), (2, .int l5), (3, .int l6), (4, .int r95.1), (5, .int l5), (6, .int (l6 + 1))]) G 6 dX8_reach_100 rfl (by decide) (by decide) rfl rfl ?_
        refine z_goto (pc := 103) (tgt := 39) G dX8_reach_103 (by decide) ?_
        exact H39 _ _ _ _ _ _ _ _ hX
set_option maxHeartbeats 4000000 in
set_option maxRecDepth 100000 in
theorem wX8_reach_L39 {Γ : ZG} {p : Program} {l : Launch} {e : Env} {s : State} {m : MethodId} {args : Array Value} {below : List Frame} {meth : Method} {c : Code} (hO : z_OK Γ) (G : z_GG Γ p s m args meth c cX8_reach 7 RX8) (hr : meth.sig.returnType = (some .int)) (hnm : meth.name = "reach") {r : (Int32 × ZH)} {r21 : Nat → Int32 → Int32 → Int32 → Int32 → Int32 → ZH → Option (Int32 × ZH)} (H21 : ∀ (l0 : Nat) (l1 : Int32) (l2 : Int32) (l3 : Int32) (l4 : Int32) (l5 : Int32) (h : ZH), r21 l0 l1 l2 l3 l4 l5 h = some r → z_W Γ p l e rmX8_reach s m args below meth c 7 0 0 (MQ below (z_Qc Γ (some (.int r.1)) r.2) args s rmX8_reach.cells rmX8_reach.slots (z_A Γ)) 21 [(0, .ref l0), (1, .int l1), (2, .int l2), (3, .int l3), (4, .int l4), (5, .int l5)] [] h) : ∀ (nn : Nat) (l0 : Nat) (l1 : Int32) (l2 : Int32) (l3 : Int32) (l4 : Int32) (l5 : Int32) (l6 : Int32) (h : ZH), xX8_reach_L39  r21 nn l0 l1 l2 l3 l4 l5 l6 h = some r → z_W Γ p l e rmX8_reach s m args below meth c 7 0 0 (MQ below (z_Qc Γ (some (.int r.1)) r.2) args s rmX8_reach.cells rmX8_reach.slots (z_A Γ)) 39 [(0, .ref l0), (1, .int l1), (2, .int l2), (3, .int l3), (4, .int l4), (5, .int l5), (6, .int l6)] [] h := by
  intro nn
  induction nn with
  | zero => intro l0 l1 l2 l3 l4 l5 l6 h hX; cases hX
  | succ nn ih => intro l0 l1 l2 l3 l4 l5 l6 h hX; exact wX8_reach_B39 hO G hr hnm  H21 ih l0 l1 l2 l3 l4 l5 l6 h hX
noncomputable def xX8_reach_B112 (l1 : Int32) (l2 : Int32) (l3 : Int32) (l4 : Int32) (h : ZH) : Option (Int32 × ZH) := (if l1 = 0 then some (l2, h) else (if l1 = 1 then some (l3, h) else (if l1 = 2 then some (l4, h) else some ((-1 : Int32), h))))
set_option maxHeartbeats 4000000 in
set_option maxRecDepth 100000 in
theorem wX8_reach_B112 {Γ : ZG} {p : Program} {l : Launch} {e : Env} {s : State} {m : MethodId} {args : Array Value} {below : List Frame} {meth : Method} {c : Code} (hO : z_OK Γ) (G : z_GG Γ p s m args meth c cX8_reach 7 RX8) (hr : meth.sig.returnType = (some .int)) (hnm : meth.name = "reach") {r : (Int32 × ZH)} : ∀ (l1 : Int32) (l2 : Int32) (l3 : Int32) (l4 : Int32) (h : ZH), xX8_reach_B112  l1 l2 l3 l4 h = some r → z_W Γ p l e rmX8_reach s m args below meth c 7 0 0 (MQ below (z_Qc Γ (some (.int r.1)) r.2) args s rmX8_reach.cells rmX8_reach.slots (z_A Γ)) 112 [(1, .int l1), (2, .int l2), (3, .int l3), (4, .int l4)] [] h := by
  intro l1 l2 l3 l4 h hX
  refine z_iload_n (pc := 112) G 0 dX8_reach_112 rfl rfl ?_
  by_cases hs113_0 : l1 = 0
  · have hX := z_it hs113_0 hX
    refine z_tableIn (pc := 113) (off := 27) (tgt := 140) G dX8_reach_113 (by rw [hs113_0]; decide) (by rw [hs113_0]; decide) (by rw [hs113_0]; decide) (by decide) ?_
    refine z_iload_n (pc := 140) G 1 dX8_reach_140 rfl rfl ?_
    exact z_iretX (pc := 141) hX G hr dX8_reach_141 (by decide) (by decide)
  have hX := z_if hs113_0 hX
  by_cases hs113_1 : l1 = 1
  · have hX := z_it hs113_1 hX
    refine z_tableIn (pc := 113) (off := 29) (tgt := 142) G dX8_reach_113 (by rw [hs113_1]; decide) (by rw [hs113_1]; decide) (by rw [hs113_1]; decide) (by decide) ?_
    refine z_iload_n (pc := 142) G 2 dX8_reach_142 rfl rfl ?_
    exact z_iretX (pc := 143) hX G hr dX8_reach_143 (by decide) (by decide)
  have hX := z_if hs113_1 hX
  by_cases hs113_2 : l1 = 2
  · have hX := z_it hs113_2 hX
    refine z_tableIn (pc := 113) (off := 31) (tgt := 144) G dX8_reach_113 (by rw [hs113_2]; decide) (by rw [hs113_2]; decide) (by rw [hs113_2]; decide) (by decide) ?_
    refine z_iload (pc := 144) G 3 dX8_reach_144 rfl ?_
    exact z_iretX (pc := 146) hX G hr dX8_reach_146 (by decide) (by decide)
  have hX := z_if hs113_2 hX
  refine z_tableOut (pc := 113) (tgt := 147) G dX8_reach_113 (z_tout 3 (by decide) (fun j hj => by
    rcases (show j = 0 ∨ j = 1 ∨ j = 2 by omega) with rfl | rfl | rfl
    · exact fun z => hs113_0 (z.trans (by decide))
    · exact fun z => hs113_1 (z.trans (by decide))
    · exact fun z => hs113_2 (z.trans (by decide)))) (by decide) ?_
  refine z_iconst (pc := 147) (v := (-1)) G dX8_reach_147 (by decide) ?_
  exact z_iretX (pc := 148) hX G hr dX8_reach_148 (by decide) (by decide)
noncomputable def xX8_reach_B21 (r21 : Nat → Int32 → Int32 → Int32 → Int32 → Int32 → ZH → Option (Int32 × ZH)) (l0 : Nat) (l1 : Int32) (l2 : Int32) (l3 : Int32) (l4 : Int32) (l5 : Int32) (h : ZH) : Option (Int32 × ZH) := ((z_gR h l0 8 5).bind fun x24 => ((z_gI h x24 2 7).bind fun x27 => (if x27 ≤ l5 then xX8_reach_B112 l1 l2 l3 l4 h else xX8_reach_L39 r21 zFU l0 l1 l2 l3 l4 l5 (l5 + (1 : Int32)) h)))
noncomputable def xX8_reach_L21 (n : Nat) : Nat → Int32 → Int32 → Int32 → Int32 → Int32 → ZH → Option (Int32 × ZH) := Nat.rec (motive := fun _ => Nat → Int32 → Int32 → Int32 → Int32 → Int32 → ZH → Option (Int32 × ZH)) (fun _ _ _ _ _ _ _ => none) (fun _ rec => xX8_reach_B21  rec) n
set_option maxHeartbeats 4000000 in
set_option maxRecDepth 100000 in
theorem wX8_reach_B21 {Γ : ZG} {p : Program} {l : Launch} {e : Env} {s : State} {m : MethodId} {args : Array Value} {below : List Frame} {meth : Method} {c : Code} (hO : z_OK Γ) (G : z_GG Γ p s m args meth c cX8_reach 7 RX8) (hr : meth.sig.returnType = (some .int)) (hnm : meth.name = "reach") {r : (Int32 × ZH)} {r21 : Nat → Int32 → Int32 → Int32 → Int32 → Int32 → ZH → Option (Int32 × ZH)} (H21 : ∀ (l0 : Nat) (l1 : Int32) (l2 : Int32) (l3 : Int32) (l4 : Int32) (l5 : Int32) (h : ZH), r21 l0 l1 l2 l3 l4 l5 h = some r → z_W Γ p l e rmX8_reach s m args below meth c 7 0 0 (MQ below (z_Qc Γ (some (.int r.1)) r.2) args s rmX8_reach.cells rmX8_reach.slots (z_A Γ)) 21 [(0, .ref l0), (1, .int l1), (2, .int l2), (3, .int l3), (4, .int l4), (5, .int l5)] [] h) : ∀ (l0 : Nat) (l1 : Int32) (l2 : Int32) (l3 : Int32) (l4 : Int32) (l5 : Int32) (h : ZH), xX8_reach_B21  r21 l0 l1 l2 l3 l4 l5 h = some r → z_W Γ p l e rmX8_reach s m args below meth c 7 0 0 (MQ below (z_Qc Γ (some (.int r.1)) r.2) args s rmX8_reach.cells rmX8_reach.slots (z_A Γ)) 21 [(0, .ref l0), (1, .int l1), (2, .int l2), (3, .int l3), (4, .int l4), (5, .int l5)] [] h := by
  intro l0 l1 l2 l3 l4 l5 h hX
  refine z_iload (pc := 21) G 5 dX8_reach_21 rfl ?_
  refine z_aload_n (pc := 23) G 0 dX8_reach_23 rfl rfl ?_
  obtain ⟨x24, hv24, hX⟩ := z_bd hX
  refine z_getR (pc := 24) G kK8 (k := 5) (by decide) kt_429 dX8_reach_24 hv24 ?_
  obtain ⟨x27, hv27, hX⟩ := z_bd hX
  refine z_getI (pc := 27) G kK2 (k := 7) (by decide) kt_71 dX8_reach_27 hv27 ?_
  refine z_icmp_ge (pc := 30) (tgt := 112) G dX8_reach_30 (by decide) (fun hc30 => ?_) (fun hc30 => ?_)
  · have hX := z_it hc30 hX
    refine z_drop (lv2 := [(1, .int l1), (2, .int l2), (3, .int l3), (4, .int l4)]) [1, 2, 3, 4] rfl ?_
    exact wX8_reach_B112 hO G hr hnm _ _ _ _ _ hX
  · have hX := z_if hc30 hX
    refine z_iload (pc := 33) G 5 dX8_reach_33 rfl ?_
    refine z_iconst (pc := 35) (v := 1) G dX8_reach_35 (by decide) ?_
    refine z_iadd (pc := 36) G dX8_reach_36 ?_
    refine z_istore (pc := 37) (lv2 := [(0, .ref l0), (1, .int l1), (2, .int l2), (3, .int l3), (4, .int l4), (5, .int l5), (6, .int (l5 + (1 : Int32)))]) G dX8_reach_37 (by decide) rfl rfl ?_
    exact wX8_reach_L39 hO G hr hnm H21 zFU _ _ _ _ _ _ _ _ hX
set_option maxHeartbeats 4000000 in
set_option maxRecDepth 100000 in
theorem wX8_reach_L21 {Γ : ZG} {p : Program} {l : Launch} {e : Env} {s : State} {m : MethodId} {args : Array Value} {below : List Frame} {meth : Method} {c : Code} (hO : z_OK Γ) (G : z_GG Γ p s m args meth c cX8_reach 7 RX8) (hr : meth.sig.returnType = (some .int)) (hnm : meth.name = "reach") {r : (Int32 × ZH)} : ∀ (nn : Nat) (l0 : Nat) (l1 : Int32) (l2 : Int32) (l3 : Int32) (l4 : Int32) (l5 : Int32) (h : ZH), xX8_reach_L21  nn l0 l1 l2 l3 l4 l5 h = some r → z_W Γ p l e rmX8_reach s m args below meth c 7 0 0 (MQ below (z_Qc Γ (some (.int r.1)) r.2) args s rmX8_reach.cells rmX8_reach.slots (z_A Γ)) 21 [(0, .ref l0), (1, .int l1), (2, .int l2), (3, .int l3), (4, .int l4), (5, .int l5)] [] h := by
  intro nn
  induction nn with
  | zero => intro l0 l1 l2 l3 l4 l5 h hX; cases hX
  | succ nn ih => intro l0 l1 l2 l3 l4 l5 h hX; exact wX8_reach_B21 hO G hr hnm  ih l0 l1 l2 l3 l4 l5 h hX
noncomputable def xX8_reach (l0 : Nat) (l1 : Int32) (h : ZH) : Option (Int32 × ZH) := ((z_gR h l0 8 10).bind fun x8 => ((z_gR h l0 8 6).bind fun x12 => (z_gu (z_is h x8 7) ((xX7_knot x8 x12 h).bind fun h15 => xX8_reach_L21 zFU l0 l1 (-1 : Int32) (-1 : Int32) (-1 : Int32) (0 : Int32) h15))))
set_option maxHeartbeats 4000000 in
set_option maxRecDepth 100000 in
theorem lX8_reach {Γ : ZG} {l : Launch} (hO : z_OK Γ) {l0 : Nat} {l1 : Int32} {h : ZH} {r : (Int32 × ZH)} (hX : xX8_reach l0 l1 h = some r) : z_M Γ l yX8_reach (z_ws1 yX8_reach cX8_reach 7 (some .int)) rmX8_reach [.ref l0, .int l1] h (some (.int r.1)) r.2 := by
  refine z_start hO (plainFor_of_name (by decide)) (Nat.le_of_ble_eq_true rfl) ?_
  intro p e s m args below meth c G hr hnm
  refine z_lvc (lv2 := [(0, .ref l0), (1, .int l1)]) rfl ?_
  refine z_iconst (pc := 0) (v := (-1)) G dX8_reach_0 (by decide) ?_
  refine z_istore_n (pc := 1) (lv2 := [(0, .ref l0), (1, .int l1), (2, .int (-1 : Int32))]) G dX8_reach_1 rfl (by decide) rfl rfl ?_
  refine z_iconst (pc := 2) (v := (-1)) G dX8_reach_2 (by decide) ?_
  refine z_istore_n (pc := 3) (lv2 := [(0, .ref l0), (1, .int l1), (2, .int (-1 : Int32)), (3, .int (-1 : Int32))]) G dX8_reach_3 rfl (by decide) rfl rfl ?_
  refine z_iconst (pc := 4) (v := (-1)) G dX8_reach_4 (by decide) ?_
  refine z_istore (pc := 5) (lv2 := [(0, .ref l0), (1, .int l1), (2, .int (-1 : Int32)), (3, .int (-1 : Int32)), (4, .int (-1 : Int32))]) G dX8_reach_5 (by decide) rfl rfl ?_
  refine z_aload_n (pc := 7) G 0 dX8_reach_7 rfl rfl ?_
  obtain ⟨x8, hv8, hX⟩ := z_bd hX
  refine z_getR (pc := 8) G kK8 (k := 10) (by decide) kt_434 dX8_reach_8 hv8 ?_
  refine z_aload_n (pc := 11) G 0 dX8_reach_11 rfl rfl ?_
  obtain ⟨x12, hv12, hX⟩ := z_bd hX
  refine z_getR (pc := 12) G kK8 (k := 6) (by decide) kt_430 dX8_reach_12 hv12 ?_
  obtain ⟨hi15, hX⟩ := z_gu_s hX
  obtain ⟨h15, hv15, hX⟩ := z_bd hX
  refine z_cVV (pc := 15) (As := [.ref x12]) (c2 := 0) (s2 := 0) G kK7 (lX7_knot hO hv15) hi15 kt_1001 kt_7 kt_998 kt_999 kt_1000 ydX7_knot ⟨by decide, by decide⟩ rfl (Nat.le_of_ble_eq_true rfl) ⟨rfl, rfl⟩ ⟨by decide, by decide⟩ rfl dX8_reach_15 ?_
  refine z_iconst (pc := 18) (v := 0) G dX8_reach_18 (by decide) ?_
  refine z_istore (pc := 19) (lv2 := [(0, .ref l0), (1, .int l1), (2, .int (-1 : Int32)), (3, .int (-1 : Int32)), (4, .int (-1 : Int32)), (5, .int (0 : Int32))]) G dX8_reach_19 (by decide) rfl rfl ?_
  exact wX8_reach_L21 hO G hr hnm zFU _ _ _ _ _ _ _ hX
theorem dX8_law_0 : decode cX8_law 0 = .ok (.aload_n 0, 1) := by decide +kernel
theorem dX8_law_1 : decode cX8_law 1 = .ok (.getfield 27, 3) := by decide +kernel
theorem dX8_law_4 : decode cX8_law 4 = .ok (.iload_n 1, 1) := by decide +kernel
theorem dX8_law_5 : decode cX8_law 5 = .ok (.invokevirtual 127, 3) := by decide +kernel
theorem dX8_law_8 : decode cX8_law 8 = .ok (.ifCond .eq 24, 3) := by decide +kernel
theorem dX8_law_11 : decode cX8_law 11 = .ok (.aload_n 0, 1) := by decide +kernel
theorem dX8_law_12 : decode cX8_law 12 = .ok (.getfield 27, 3) := by decide +kernel
theorem dX8_law_15 : decode cX8_law 15 = .ok (.iload_n 2, 1) := by decide +kernel
theorem dX8_law_16 : decode cX8_law 16 = .ok (.invokevirtual 165, 3) := by decide +kernel
theorem dX8_law_19 : decode cX8_law 19 = .ok (.ifCond .eq 13, 3) := by decide +kernel
theorem dX8_law_22 : decode cX8_law 22 = .ok (.iload_n 3, 1) := by decide +kernel
theorem dX8_law_23 : decode cX8_law 23 = .ok (.ifCond .lt 9, 3) := by decide +kernel
theorem dX8_law_26 : decode cX8_law 26 = .ok (.iload_n 3, 1) := by decide +kernel
theorem dX8_law_27 : decode cX8_law 27 = .ok (.bipush 9, 2) := by decide +kernel
theorem dX8_law_29 : decode cX8_law 29 = .ok (.if_icmp .le 5, 3) := by decide +kernel
theorem dX8_law_32 : decode cX8_law 32 = .ok (.iconst (-1), 1) := by decide +kernel
theorem dX8_law_33 : decode cX8_law 33 = .ok (.ireturn, 1) := by decide +kernel
theorem dX8_law_34 : decode cX8_law 34 = .ok (.aload_n 0, 1) := by decide +kernel
theorem dX8_law_35 : decode cX8_law 35 = .ok (.getfield 46, 3) := by decide +kernel
theorem dX8_law_38 : decode cX8_law 38 = .ok (.aload_n 0, 1) := by decide +kernel
theorem dX8_law_39 : decode cX8_law 39 = .ok (.getfield 36, 3) := by decide +kernel
theorem dX8_law_42 : decode cX8_law 42 = .ok (.iload_n 1, 1) := by decide +kernel
theorem dX8_law_43 : decode cX8_law 43 = .ok (.iload_n 2, 1) := by decide +kernel
theorem dX8_law_44 : decode cX8_law 44 = .ok (.iload_n 3, 1) := by decide +kernel
theorem dX8_law_45 : decode cX8_law 45 = .ok (.invokevirtual 224, 3) := by decide +kernel
theorem dX8_law_48 : decode cX8_law 48 = .ok (.aload_n 0, 1) := by decide +kernel
theorem dX8_law_49 : decode cX8_law 49 = .ok (.getfield 46, 3) := by decide +kernel
theorem dX8_law_52 : decode cX8_law 52 = .ok (.getfield 228, 3) := by decide +kernel
theorem dX8_law_55 : decode cX8_law 55 = .ok (.invokestatic 275, 3) := by decide +kernel
theorem dX8_law_58 : decode cX8_law 58 = .ok (.ireturn, 1) := by decide +kernel
theorem ydX8_law : z_yd yX8_law 3 := ⟨by decide, by decide, by decide +kernel⟩
abbrev rmX8_law : Room := { frames := 3, cells := 0, slots := 0, locals := 79 }
noncomputable def xX8_law (l0 : Nat) (l1 : Int32) (l2 : Int32) (l3 : Int32) (h : ZH) : Option (Int32 × ZH) := ((z_gR h l0 8 5).bind fun x1 => (z_gu (z_is h x1 2) ((xX2_isShip x1 l1 h).bind fun r5 => (if r5.1 = 0 then some ((-1 : Int32), r5.2) else ((z_gR r5.2 l0 8 5).bind fun x12 => (z_gu (z_is r5.2 x12 2) ((xX2_isSlot x12 l2 r5.2).bind fun r16 => (if r16.1 = 0 then some ((-1 : Int32), r16.2) else (if l3 < 0 then some ((-1 : Int32), r16.2) else (if l3 ≤ (9 : Int32) then ((z_gR r16.2 l0 8 8).bind fun x35 => ((z_gR r16.2 l0 8 6).bind fun x39 => (z_gu (z_is r16.2 x35 0) ((xX0_look x35 x39 l1 l2 l3 r16.2).bind fun h45 => ((z_gR h45 l0 8 8).bind fun x49 => ((z_gI h45 x49 0 0).bind fun x52 => ((xJ6_bitCount_0f7a4 x52 h45).bind fun r55 => some (r55.1, r55.2)))))))) else some ((-1 : Int32), r16.2)))))))))))
set_option maxHeartbeats 4000000 in
set_option maxRecDepth 100000 in
theorem lX8_law {Γ : ZG} {l : Launch} (hO : z_OK Γ) {l0 : Nat} {l1 : Int32} {l2 : Int32} {l3 : Int32} {h : ZH} {r : (Int32 × ZH)} (hX : xX8_law l0 l1 l2 l3 h = some r) : z_M Γ l yX8_law (z_ws1 yX8_law cX8_law 4 (some .int)) rmX8_law [.ref l0, .int l1, .int l2, .int l3] h (some (.int r.1)) r.2 := by
  refine z_start hO (plainFor_of_name (by decide)) (Nat.le_of_ble_eq_true rfl) ?_
  intro p e s m args below meth c G hr hnm
  refine z_lvc (lv2 := [(0, .ref l0), (1, .int l1), (2, .int l2), (3, .int l3)]) rfl ?_
  refine z_aload_n (pc := 0) G 0 dX8_law_0 rfl rfl ?_
  obtain ⟨x1, hv1, hX⟩ := z_bd hX
  refine z_getR (pc := 1) G kK8 (k := 5) (by decide) kt_429 dX8_law_1 hv1 ?_
  refine z_iload_n (pc := 4) G 1 dX8_law_4 rfl rfl ?_
  obtain ⟨hi5, hX⟩ := z_gu_s hX
  obtain ⟨r5, hv5, hX⟩ := z_bd hX
  refine z_cVI (pc := 5) (As := [.int l1]) (c2 := 0) (s2 := 0) G kK2 (lX2_isShip hO hv5) hi5 kt_727 kt_3 kt_724 kt_725 kt_726 ydX2_isShip ⟨by decide, by decide⟩ rfl (Nat.le_of_ble_eq_true rfl) ⟨rfl, rfl⟩ ⟨by decide, by decide⟩ rfl dX8_law_5 ?_
  refine z_if_eq (pc := 8) (tgt := 32) G dX8_law_8 (by decide) (fun hc8 => ?_) (fun hc8 => ?_)
  · have hX := z_it hc8 hX
    refine z_iconst (pc := 32) (v := (-1)) G dX8_law_32 (by decide) ?_
    exact z_iretX (pc := 33) hX G hr dX8_law_33 (by decide) (by decide)
  · have hX := z_if hc8 hX
    refine z_aload_n (pc := 11) G 0 dX8_law_11 rfl rfl ?_
    obtain ⟨x12, hv12, hX⟩ := z_bd hX
    refine z_getR (pc := 12) G kK8 (k := 5) (by decide) kt_429 dX8_law_12 hv12 ?_
    refine z_iload_n (pc := 15) G 2 dX8_law_15 rfl rfl ?_
    obtain ⟨hi16, hX⟩ := z_gu_s hX
    obtain ⟨r16, hv16, hX⟩ := z_bd hX
    refine z_cVI (pc := 16) (As := [.int l2]) (c2 := 0) (s2 := 0) G kK2 (lX2_isSlot hO hv16) hi16 kt_766 kt_3 kt_763 kt_764 kt_765 ydX2_isSlot ⟨by decide, by decide⟩ rfl (Nat.le_of_ble_eq_true rfl) ⟨rfl, rfl⟩ ⟨by decide, by decide⟩ rfl dX8_law_16 ?_
    refine z_if_eq (pc := 19) (tgt := 32) G dX8_law_19 (by decide) (fun hc19 => ?_) (fun hc19 => ?_)
    · have hX := z_it hc19 hX
      refine z_iconst (pc := 32) (v := (-1)) G dX8_law_32 (by decide) ?_
      exact z_iretX (pc := 33) hX G hr dX8_law_33 (by decide) (by decide)
    · have hX := z_if hc19 hX
      refine z_iload_n (pc := 22) G 3 dX8_law_22 rfl rfl ?_
      refine z_if_lt (pc := 23) (tgt := 32) G dX8_law_23 (by decide) (fun hc23 => ?_) (fun hc23 => ?_)
      · have hX := z_it hc23 hX
        refine z_iconst (pc := 32) (v := (-1)) G dX8_law_32 (by decide) ?_
        exact z_iretX (pc := 33) hX G hr dX8_law_33 (by decide) (by decide)
      · have hX := z_if hc23 hX
        refine z_iload_n (pc := 26) G 3 dX8_law_26 rfl rfl ?_
        refine z_bipush (pc := 27) (v := 9) G dX8_law_27 (by decide) ?_
        refine z_icmp_le (pc := 29) (tgt := 34) G dX8_law_29 (by decide) (fun hc29 => ?_) (fun hc29 => ?_)
        · have hX := z_it hc29 hX
          refine z_aload_n (pc := 34) G 0 dX8_law_34 rfl rfl ?_
          obtain ⟨x35, hv35, hX⟩ := z_bd hX
          refine z_getR (pc := 35) G kK8 (k := 8) (by decide) kt_432 dX8_law_35 hv35 ?_
          refine z_aload_n (pc := 38) G 0 dX8_law_38 rfl rfl ?_
          obtain ⟨x39, hv39, hX⟩ := z_bd hX
          refine z_getR (pc := 39) G kK8 (k := 6) (by decide) kt_430 dX8_law_39 hv39 ?_
          refine z_iload_n (pc := 42) G 1 dX8_law_42 rfl rfl ?_
          refine z_iload_n (pc := 43) G 2 dX8_law_43 rfl rfl ?_
          refine z_iload_n (pc := 44) G 3 dX8_law_44 rfl rfl ?_
          obtain ⟨hi45, hX⟩ := z_gu_s hX
          obtain ⟨h45, hv45, hX⟩ := z_bd hX
          refine z_cVV (pc := 45) (As := [.ref x39, .int l1, .int l2, .int l3]) (c2 := 0) (s2 := 0) G kK0 (lX0_look hO hv45) hi45 kt_859 kt_5 kt_951 kt_857 kt_858 ydX0_look ⟨by decide, by decide⟩ rfl (Nat.le_of_ble_eq_true rfl) ⟨rfl, rfl⟩ ⟨by decide, by decide⟩ rfl dX8_law_45 ?_
          refine z_aload_n (pc := 48) G 0 dX8_law_48 rfl rfl ?_
          obtain ⟨x49, hv49, hX⟩ := z_bd hX
          refine z_getR (pc := 49) G kK8 (k := 8) (by decide) kt_432 dX8_law_49 hv49 ?_
          obtain ⟨x52, hv52, hX⟩ := z_bd hX
          refine z_getI (pc := 52) G kK0 (k := 0) (by decide) kt_284 dX8_law_52 hv52 ?_
          obtain ⟨r55, hv55, hX⟩ := z_bd hX
          refine z_cSI (pc := 55) (As := [.int x52]) (c2 := 0) (s2 := 0) G (lJ6_bitCount_0f7a4 hO hv55) kt_751 kt_18 kt_1046 kt_750 ydJ6_bitCount_0f7a4 ⟨by decide, by decide⟩ rfl (Nat.le_of_ble_eq_true rfl) ⟨rfl, rfl⟩ ⟨by decide, by decide⟩ rfl dX8_law_55 ?_
          exact z_iretX (pc := 58) hX G hr dX8_law_58 (by decide) (by decide)
        · have hX := z_if hc29 hX
          refine z_iconst (pc := 32) (v := (-1)) G dX8_law_32 (by decide) ?_
          exact z_iretX (pc := 33) hX G hr dX8_law_33 (by decide) (by decide)
theorem dX8_commonDivisor_0 : decode cX8_commonDivisor 0 = .ok (.iconst 0, 1) := by decide +kernel
theorem dX8_commonDivisor_1 : decode cX8_commonDivisor 1 = .ok (.istore_n 2, 1) := by decide +kernel
theorem dX8_commonDivisor_2 : decode cX8_commonDivisor 2 = .ok (.iload_n 2, 1) := by decide +kernel
theorem dX8_commonDivisor_3 : decode cX8_commonDivisor 3 = .ok (.bipush 64, 2) := by decide +kernel
theorem dX8_commonDivisor_5 : decode cX8_commonDivisor 5 = .ok (.if_icmp .ge 21, 3) := by decide +kernel
theorem dX8_commonDivisor_8 : decode cX8_commonDivisor 8 = .ok (.iload_n 1, 1) := by decide +kernel
theorem dX8_commonDivisor_9 : decode cX8_commonDivisor 9 = .ok (.ifCond .eq 17, 3) := by decide +kernel
theorem dX8_commonDivisor_12 : decode cX8_commonDivisor 12 = .ok (.iload_n 0, 1) := by decide +kernel
theorem dX8_commonDivisor_13 : decode cX8_commonDivisor 13 = .ok (.iload_n 1, 1) := by decide +kernel
theorem dX8_commonDivisor_14 : decode cX8_commonDivisor 14 = .ok (.irem, 1) := by decide +kernel
theorem dX8_commonDivisor_15 : decode cX8_commonDivisor 15 = .ok (.istore_n 3, 1) := by decide +kernel
theorem dX8_commonDivisor_16 : decode cX8_commonDivisor 16 = .ok (.iload_n 1, 1) := by decide +kernel
theorem dX8_commonDivisor_17 : decode cX8_commonDivisor 17 = .ok (.istore_n 0, 1) := by decide +kernel
theorem dX8_commonDivisor_18 : decode cX8_commonDivisor 18 = .ok (.iload_n 3, 1) := by decide +kernel
theorem dX8_commonDivisor_19 : decode cX8_commonDivisor 19 = .ok (.istore_n 1, 1) := by decide +kernel
theorem dX8_commonDivisor_20 : decode cX8_commonDivisor 20 = .ok (.iinc 2 1, 3) := by decide +kernel
theorem dX8_commonDivisor_23 : decode cX8_commonDivisor 23 = .ok (.goto (-21), 3) := by decide +kernel
theorem dX8_commonDivisor_26 : decode cX8_commonDivisor 26 = .ok (.iload_n 0, 1) := by decide +kernel
theorem dX8_commonDivisor_27 : decode cX8_commonDivisor 27 = .ok (.ireturn, 1) := by decide +kernel
theorem ydX8_commonDivisor : z_yd yX8_commonDivisor 2 := ⟨by decide, by decide, by decide +kernel⟩
abbrev rmX8_commonDivisor : Room := { frames := 0, cells := 0, slots := 0, locals := 0 }
noncomputable def xX8_commonDivisor_B2 (r2 : Int32 → Int32 → Int32 → ZH → Option (Int32 × ZH)) (l0 : Int32) (l1 : Int32) (l2 : Int32) (h : ZH) : Option (Int32 × ZH) := (if (64 : Int32) ≤ l2 then some (l0, h) else (if l1 = 0 then some (l0, h) else (if l1 = 0 then none else r2 l1 (l0 - l0 / l1 * l1) (l2 + 1) h)))
noncomputable def xX8_commonDivisor_L2 (n : Nat) : Int32 → Int32 → Int32 → ZH → Option (Int32 × ZH) := Nat.rec (motive := fun _ => Int32 → Int32 → Int32 → ZH → Option (Int32 × ZH)) (fun _ _ _ _ => none) (fun _ rec => xX8_commonDivisor_B2  rec) n
set_option maxHeartbeats 4000000 in
set_option maxRecDepth 100000 in
theorem wX8_commonDivisor_B2 {Γ : ZG} {p : Program} {l : Launch} {e : Env} {s : State} {m : MethodId} {args : Array Value} {below : List Frame} {meth : Method} {c : Code} (hO : z_OK Γ) (G : z_GG Γ p s m args meth c cX8_commonDivisor 4 RX8) (hr : meth.sig.returnType = (some .int)) (hnm : meth.name = "commonDivisor") {r : (Int32 × ZH)} {r2 : Int32 → Int32 → Int32 → ZH → Option (Int32 × ZH)} (H2 : ∀ (l0 : Int32) (l1 : Int32) (l2 : Int32) (h : ZH), r2 l0 l1 l2 h = some r → z_W Γ p l e rmX8_commonDivisor s m args below meth c 4 0 0 (MQ below (z_Qc Γ (some (.int r.1)) r.2) args s rmX8_commonDivisor.cells rmX8_commonDivisor.slots (z_A Γ)) 2 [(0, .int l0), (1, .int l1), (2, .int l2)] [] h) : ∀ (l0 : Int32) (l1 : Int32) (l2 : Int32) (h : ZH), xX8_commonDivisor_B2  r2 l0 l1 l2 h = some r → z_W Γ p l e rmX8_commonDivisor s m args below meth c 4 0 0 (MQ below (z_Qc Γ (some (.int r.1)) r.2) args s rmX8_commonDivisor.cells rmX8_commonDivisor.slots (z_A Γ)) 2 [(0, .int l0), (1, .int l1), (2, .int l2)] [] h := by
  intro l0 l1 l2 h hX
  refine z_iload_n (pc := 2) G 2 dX8_commonDivisor_2 rfl rfl ?_
  refine z_bipush (pc := 3) (v := 64) G dX8_commonDivisor_3 (by decide) ?_
  refine z_icmp_ge (pc := 5) (tgt := 26) G dX8_commonDivisor_5 (by decide) (fun hc5 => ?_) (fun hc5 => ?_)
  · have hX := z_it hc5 hX
    refine z_iload_n (pc := 26) G 0 dX8_commonDivisor_26 rfl rfl ?_
    exact z_iretX (pc := 27) hX G hr dX8_commonDivisor_27 (by decide) (by decide)
  · have hX := z_if hc5 hX
    refine z_iload_n (pc := 8) G 1 dX8_commonDivisor_8 rfl rfl ?_
    refine z_if_eq (pc := 9) (tgt := 26) G dX8_commonDivisor_9 (by decide) (fun hc9 => ?_) (fun hc9 => ?_)
    · have hX := z_it hc9 hX
      refine z_iload_n (pc := 26) G 0 dX8_commonDivisor_26 rfl rfl ?_
      exact z_iretX (pc := 27) hX G hr dX8_commonDivisor_27 (by decide) (by decide)
    · have hX := z_if hc9 hX
      refine z_iload_n (pc := 12) G 0 dX8_commonDivisor_12 rfl rfl ?_
      refine z_iload_n (pc := 13) G 1 dX8_commonDivisor_13 rfl rfl ?_
      obtain ⟨hn14, hX⟩ := z_ng hX
      refine z_irem (pc := 14) G dX8_commonDivisor_14 hn14 ?_
      refine z_istore_n (pc := 15) (lv2 := [(0, .int l0), (1, .int l1), (2, .int l2), (3, .int (l0 - l0 / l1 * l1))]) G dX8_commonDivisor_15 rfl (by decide) rfl rfl ?_
      refine z_iload_n (pc := 16) G 1 dX8_commonDivisor_16 rfl rfl ?_
      refine z_istore_n (pc := 17) (lv2 := [(0, .int l1), (1, .int l1), (2, .int l2), (3, .int (l0 - l0 / l1 * l1))]) G dX8_commonDivisor_17 rfl (by decide) rfl rfl ?_
      refine z_iload_n (pc := 18) G 3 dX8_commonDivisor_18 rfl rfl ?_
      refine z_istore_n (pc := 19) (lv2 := [(0, .int l1), (1, .int (l0 - l0 / l1 * l1)), (2, .int l2), (3, .int (l0 - l0 / l1 * l1))]) G dX8_commonDivisor_19 rfl (by decide) rfl rfl ?_
      refine z_iincw (pc := 20) (w := 1) (lv2 := [(0, .int l1), (1, .int (l0 - l0 / l1 * l1)), (2, .int (l2 + 1)), (3, .int (l0 - l0 / l1 * l1))]) G 2 dX8_commonDivisor_20 rfl (by decide) (by decide) rfl rfl ?_
      refine z_goto (pc := 23) (tgt := 2) G dX8_commonDivisor_23 (by decide) ?_
      refine z_drop (lv2 := [(0, .int l1), (1, .int (l0 - l0 / l1 * l1)), (2, .int (l2 + 1))]) [0, 1, 2] rfl ?_
      exact H2 _ _ _ _ hX
set_option maxHeartbeats 4000000 in
set_option maxRecDepth 100000 in
theorem wX8_commonDivisor_L2 {Γ : ZG} {p : Program} {l : Launch} {e : Env} {s : State} {m : MethodId} {args : Array Value} {below : List Frame} {meth : Method} {c : Code} (hO : z_OK Γ) (G : z_GG Γ p s m args meth c cX8_commonDivisor 4 RX8) (hr : meth.sig.returnType = (some .int)) (hnm : meth.name = "commonDivisor") {r : (Int32 × ZH)} : ∀ (nn : Nat) (l0 : Int32) (l1 : Int32) (l2 : Int32) (h : ZH), xX8_commonDivisor_L2  nn l0 l1 l2 h = some r → z_W Γ p l e rmX8_commonDivisor s m args below meth c 4 0 0 (MQ below (z_Qc Γ (some (.int r.1)) r.2) args s rmX8_commonDivisor.cells rmX8_commonDivisor.slots (z_A Γ)) 2 [(0, .int l0), (1, .int l1), (2, .int l2)] [] h := by
  intro nn
  induction nn with
  | zero => intro l0 l1 l2 h hX; cases hX
  | succ nn ih => intro l0 l1 l2 h hX; exact wX8_commonDivisor_B2 hO G hr hnm  ih l0 l1 l2 h hX
noncomputable def xX8_commonDivisor (l0 : Int32) (l1 : Int32) (h : ZH) : Option (Int32 × ZH) := xX8_commonDivisor_L2 zFU l0 l1 (0 : Int32) h
set_option maxHeartbeats 4000000 in
set_option maxRecDepth 100000 in
theorem lX8_commonDivisor {Γ : ZG} {l : Launch} (hO : z_OK Γ) {l0 : Int32} {l1 : Int32} {h : ZH} {r : (Int32 × ZH)} (hX : xX8_commonDivisor l0 l1 h = some r) : z_M Γ l yX8_commonDivisor (z_ws1 yX8_commonDivisor cX8_commonDivisor 4 (some .int)) rmX8_commonDivisor [.int l0, .int l1] h (some (.int r.1)) r.2 := by
  refine z_start hO (plainFor_of_name (by decide)) (Nat.le_of_ble_eq_true rfl) ?_
  intro p e s m args below meth c G hr hnm
  refine z_lvc (lv2 := [(0, .int l0), (1, .int l1)]) rfl ?_
  refine z_iconst (pc := 0) (v := 0) G dX8_commonDivisor_0 (by decide) ?_
  refine z_istore_n (pc := 1) (lv2 := [(0, .int l0), (1, .int l1), (2, .int (0 : Int32))]) G dX8_commonDivisor_1 rfl (by decide) rfl rfl ?_
  exact wX8_commonDivisor_L2 hO G hr hnm zFU _ _ _ _ hX
theorem dX8_odds_0 : decode cX8_odds 0 = .ok (.iload_n 1, 1) := by decide +kernel
theorem dX8_odds_1 : decode cX8_odds 1 = .ok (.ifCond .lt 17, 3) := by decide +kernel
theorem dX8_odds_4 : decode cX8_odds 4 = .ok (.iload_n 1, 1) := by decide +kernel
theorem dX8_odds_5 : decode cX8_odds 5 = .ok (.iconst 4, 1) := by decide +kernel
theorem dX8_odds_6 : decode cX8_odds 6 = .ok (.if_icmp .gt 12, 3) := by decide +kernel
theorem dX8_odds_9 : decode cX8_odds 9 = .ok (.iload_n 2, 1) := by decide +kernel
theorem dX8_odds_10 : decode cX8_odds 10 = .ok (.ifCond .lt 8, 3) := by decide +kernel
theorem dX8_odds_13 : decode cX8_odds 13 = .ok (.iload_n 2, 1) := by decide +kernel
theorem dX8_odds_14 : decode cX8_odds 14 = .ok (.iconst 1, 1) := by decide +kernel
theorem dX8_odds_15 : decode cX8_odds 15 = .ok (.if_icmp .le 5, 3) := by decide +kernel
theorem dX8_odds_18 : decode cX8_odds 18 = .ok (.iconst (-1), 1) := by decide +kernel
theorem dX8_odds_19 : decode cX8_odds 19 = .ok (.ireturn, 1) := by decide +kernel
theorem dX8_odds_20 : decode cX8_odds 20 = .ok (.iconst 1, 1) := by decide +kernel
theorem dX8_odds_21 : decode cX8_odds 21 = .ok (.istore_n 3, 1) := by decide +kernel
theorem dX8_odds_22 : decode cX8_odds 22 = .ok (.iconst 1, 1) := by decide +kernel
theorem dX8_odds_23 : decode cX8_odds 23 = .ok (.istore 4, 2) := by decide +kernel
theorem dX8_odds_25 : decode cX8_odds 25 = .ok (.iconst 0, 1) := by decide +kernel
theorem dX8_odds_26 : decode cX8_odds 26 = .ok (.istore 5, 2) := by decide +kernel
theorem dX8_odds_28 : decode cX8_odds 28 = .ok (.iload 5, 2) := by decide +kernel
theorem dX8_odds_30 : decode cX8_odds 30 = .ok (.iload_n 1, 1) := by decide +kernel
theorem dX8_odds_31 : decode cX8_odds 31 = .ok (.if_icmp .ge 29, 3) := by decide +kernel
theorem dX8_odds_34 : decode cX8_odds 34 = .ok (.iload_n 3, 1) := by decide +kernel
theorem dX8_odds_35 : decode cX8_odds 35 = .ok (.bipush 100, 2) := by decide +kernel
theorem dX8_odds_37 : decode cX8_odds 37 = .ok (.aload_n 0, 1) := by decide +kernel
theorem dX8_odds_38 : decode cX8_odds 38 = .ok (.getfield 27, 3) := by decide +kernel
theorem dX8_odds_41 : decode cX8_odds 41 = .ok (.getfield 302, 3) := by decide +kernel
theorem dX8_odds_44 : decode cX8_odds 44 = .ok (.isub, 1) := by decide +kernel
theorem dX8_odds_45 : decode cX8_odds 45 = .ok (.imul, 1) := by decide +kernel
theorem dX8_odds_46 : decode cX8_odds 46 = .ok (.istore_n 3, 1) := by decide +kernel
theorem dX8_odds_47 : decode cX8_odds 47 = .ok (.iload 4, 2) := by decide +kernel
theorem dX8_odds_49 : decode cX8_odds 49 = .ok (.bipush 100, 2) := by decide +kernel
theorem dX8_odds_51 : decode cX8_odds 51 = .ok (.imul, 1) := by decide +kernel
theorem dX8_odds_52 : decode cX8_odds 52 = .ok (.istore 4, 2) := by decide +kernel
theorem dX8_odds_54 : decode cX8_odds 54 = .ok (.iinc 5 1, 3) := by decide +kernel
theorem dX8_odds_57 : decode cX8_odds 57 = .ok (.goto (-29), 3) := by decide +kernel
theorem dX8_odds_60 : decode cX8_odds 60 = .ok (.iload 4, 2) := by decide +kernel
theorem dX8_odds_62 : decode cX8_odds 62 = .ok (.iload_n 3, 1) := by decide +kernel
theorem dX8_odds_63 : decode cX8_odds 63 = .ok (.invokestatic 305, 3) := by decide +kernel
theorem dX8_odds_66 : decode cX8_odds 66 = .ok (.istore 5, 2) := by decide +kernel
theorem dX8_odds_68 : decode cX8_odds 68 = .ok (.iload 5, 2) := by decide +kernel
theorem dX8_odds_70 : decode cX8_odds 70 = .ok (.ifCond .ne 5, 3) := by decide +kernel
theorem dX8_odds_73 : decode cX8_odds 73 = .ok (.iconst (-1), 1) := by decide +kernel
theorem dX8_odds_74 : decode cX8_odds 74 = .ok (.ireturn, 1) := by decide +kernel
theorem dX8_odds_75 : decode cX8_odds 75 = .ok (.iload_n 2, 1) := by decide +kernel
theorem dX8_odds_76 : decode cX8_odds 76 = .ok (.ifCond .ne 10, 3) := by decide +kernel
theorem dX8_odds_79 : decode cX8_odds 79 = .ok (.iload_n 3, 1) := by decide +kernel
theorem dX8_odds_80 : decode cX8_odds 80 = .ok (.iload 5, 2) := by decide +kernel
theorem dX8_odds_82 : decode cX8_odds 82 = .ok (.idiv, 1) := by decide +kernel
theorem dX8_odds_83 : decode cX8_odds 83 = .ok (.goto 8, 3) := by decide +kernel
theorem dX8_odds_86 : decode cX8_odds 86 = .ok (.iload 4, 2) := by decide +kernel
theorem dX8_odds_88 : decode cX8_odds 88 = .ok (.iload 5, 2) := by decide +kernel
theorem dX8_odds_90 : decode cX8_odds 90 = .ok (.idiv, 1) := by decide +kernel
theorem dX8_odds_91 : decode cX8_odds 91 = .ok (.ireturn, 1) := by decide +kernel
theorem ydX8_odds : z_yd yX8_odds 2 := ⟨by decide, by decide, by decide +kernel⟩
abbrev rmX8_odds : Room := { frames := 1, cells := 0, slots := 0, locals := 23 }
noncomputable def xX8_odds_B60 (l2 : Int32) (l3 : Int32) (l4 : Int32) (h : ZH) : Option (Int32 × ZH) := ((xX8_commonDivisor l4 l3 h).bind fun r63 => (if r63.1 = 0 then some ((-1 : Int32), r63.2) else (if l2 = 0 then (if r63.1 = 0 then none else some ((l3 / r63.1), r63.2)) else (if r63.1 = 0 then none else some ((l4 / r63.1), r63.2)))))
set_option maxHeartbeats 4000000 in
set_option maxRecDepth 100000 in
theorem wX8_odds_B60 {Γ : ZG} {p : Program} {l : Launch} {e : Env} {s : State} {m : MethodId} {args : Array Value} {below : List Frame} {meth : Method} {c : Code} (hO : z_OK Γ) (G : z_GG Γ p s m args meth c cX8_odds 6 RX8) (hr : meth.sig.returnType = (some .int)) (hnm : meth.name = "odds") {r : (Int32 × ZH)} : ∀ (l2 : Int32) (l3 : Int32) (l4 : Int32) (h : ZH), xX8_odds_B60  l2 l3 l4 h = some r → z_W Γ p l e rmX8_odds s m args below meth c 6 0 0 (MQ below (z_Qc Γ (some (.int r.1)) r.2) args s rmX8_odds.cells rmX8_odds.slots (z_A Γ)) 60 [(2, .int l2), (3, .int l3), (4, .int l4)] [] h := by
  intro l2 l3 l4 h hX
  refine z_iload (pc := 60) G 2 dX8_odds_60 rfl ?_
  refine z_iload_n (pc := 62) G 1 dX8_odds_62 rfl rfl ?_
  obtain ⟨r63, hv63, hX⟩ := z_bd hX
  refine z_cSI (pc := 63) (As := [.int l4, .int l3]) (c2 := 0) (s2 := 0) G (lX8_commonDivisor hO hv63) kt_1114 kt_1 kt_1112 kt_1113 ydX8_commonDivisor ⟨by decide, by decide⟩ rfl (Nat.le_of_ble_eq_true rfl) ⟨rfl, rfl⟩ ⟨by decide, by decide⟩ rfl dX8_odds_63 ?_
  refine z_istore (pc := 66) (lv2 := [(2, .int l2), (3, .int l3), (4, .int l4), (5, .int r63.1)]) G dX8_odds_66 (by decide) rfl rfl ?_
  refine z_iload (pc := 68) G 3 dX8_odds_68 rfl ?_
  refine z_if_ne (pc := 70) (tgt := 75) G dX8_odds_70 (by decide) (fun hc70 => ?_) (fun hc70 => ?_)
  · have hX := z_if hc70 hX
    refine z_iload_n (pc := 75) G 0 dX8_odds_75 rfl rfl ?_
    refine z_if_ne (pc := 76) (tgt := 86) G dX8_odds_76 (by decide) (fun hc76 => ?_) (fun hc76 => ?_)
    · have hX := z_if hc76 hX
      refine z_iload (pc := 86) G 2 dX8_odds_86 rfl ?_
      refine z_iload (pc := 88) G 3 dX8_odds_88 rfl ?_
      obtain ⟨hn90, hX⟩ := z_ng hX
      refine z_idiv (pc := 90) G dX8_odds_90 hn90 ?_
      exact z_iretX (pc := 91) hX G hr dX8_odds_91 (by decide) (by decide)
    · have hX := z_it hc76 hX
      refine z_iload_n (pc := 79) G 1 dX8_odds_79 rfl rfl ?_
      refine z_iload (pc := 80) G 3 dX8_odds_80 rfl ?_
      obtain ⟨hn82, hX⟩ := z_ng hX
      refine z_idiv (pc := 82) G dX8_odds_82 hn82 ?_
      refine z_goto (pc := 83) (tgt := 91) G dX8_odds_83 (by decide) ?_
      exact z_iretX (pc := 91) hX G hr dX8_odds_91 (by decide) (by decide)
  · have hX := z_it hc70 hX
    refine z_iconst (pc := 73) (v := (-1)) G dX8_odds_73 (by decide) ?_
    exact z_iretX (pc := 74) hX G hr dX8_odds_74 (by decide) (by decide)
noncomputable def xX8_odds_B28 (r28 : Nat → Int32 → Int32 → Int32 → Int32 → Int32 → ZH → Option (Int32 × ZH)) (l0 : Nat) (l1 : Int32) (l2 : Int32) (l3 : Int32) (l4 : Int32) (l5 : Int32) (h : ZH) : Option (Int32 × ZH) := (if l1 ≤ l5 then xX8_odds_B60 l2 l3 l4 h else ((z_gR h l0 8 5).bind fun x38 => ((z_gI h x38 2 5).bind fun x41 => r28 l0 l1 l2 (l3 * ((100 : Int32) - x41)) (l4 * (100 : Int32)) (l5 + 1) h)))
noncomputable def xX8_odds_L28 (n : Nat) : Nat → Int32 → Int32 → Int32 → Int32 → Int32 → ZH → Option (Int32 × ZH) := Nat.rec (motive := fun _ => Nat → Int32 → Int32 → Int32 → Int32 → Int32 → ZH → Option (Int32 × ZH)) (fun _ _ _ _ _ _ _ => none) (fun _ rec => xX8_odds_B28  rec) n
set_option maxHeartbeats 4000000 in
set_option maxRecDepth 100000 in
theorem wX8_odds_B28 {Γ : ZG} {p : Program} {l : Launch} {e : Env} {s : State} {m : MethodId} {args : Array Value} {below : List Frame} {meth : Method} {c : Code} (hO : z_OK Γ) (G : z_GG Γ p s m args meth c cX8_odds 6 RX8) (hr : meth.sig.returnType = (some .int)) (hnm : meth.name = "odds") {r : (Int32 × ZH)} {r28 : Nat → Int32 → Int32 → Int32 → Int32 → Int32 → ZH → Option (Int32 × ZH)} (H28 : ∀ (l0 : Nat) (l1 : Int32) (l2 : Int32) (l3 : Int32) (l4 : Int32) (l5 : Int32) (h : ZH), r28 l0 l1 l2 l3 l4 l5 h = some r → z_W Γ p l e rmX8_odds s m args below meth c 6 0 0 (MQ below (z_Qc Γ (some (.int r.1)) r.2) args s rmX8_odds.cells rmX8_odds.slots (z_A Γ)) 28 [(0, .ref l0), (1, .int l1), (2, .int l2), (3, .int l3), (4, .int l4), (5, .int l5)] [] h) : ∀ (l0 : Nat) (l1 : Int32) (l2 : Int32) (l3 : Int32) (l4 : Int32) (l5 : Int32) (h : ZH), xX8_odds_B28  r28 l0 l1 l2 l3 l4 l5 h = some r → z_W Γ p l e rmX8_odds s m args below meth c 6 0 0 (MQ below (z_Qc Γ (some (.int r.1)) r.2) args s rmX8_odds.cells rmX8_odds.slots (z_A Γ)) 28 [(0, .ref l0), (1, .int l1), (2, .int l2), (3, .int l3), (4, .int l4), (5, .int l5)] [] h := by
  intro l0 l1 l2 l3 l4 l5 h hX
  refine z_iload (pc := 28) G 5 dX8_odds_28 rfl ?_
  refine z_iload_n (pc := 30) G 1 dX8_odds_30 rfl rfl ?_
  refine z_icmp_ge (pc := 31) (tgt := 60) G dX8_odds_31 (by decide) (fun hc31 => ?_) (fun hc31 => ?_)
  · have hX := z_it hc31 hX
    refine z_drop (lv2 := [(2, .int l2), (3, .int l3), (4, .int l4)]) [2, 3, 4] rfl ?_
    exact wX8_odds_B60 hO G hr hnm _ _ _ _ hX
  · have hX := z_if hc31 hX
    refine z_iload_n (pc := 34) G 3 dX8_odds_34 rfl rfl ?_
    refine z_bipush (pc := 35) (v := 100) G dX8_odds_35 (by decide) ?_
    refine z_aload_n (pc := 37) G 0 dX8_odds_37 rfl rfl ?_
    obtain ⟨x38, hv38, hX⟩ := z_bd hX
    refine z_getR (pc := 38) G kK8 (k := 5) (by decide) kt_429 dX8_odds_38 hv38 ?_
    obtain ⟨x41, hv41, hX⟩ := z_bd hX
    refine z_getI (pc := 41) G kK2 (k := 5) (by decide) kt_63 dX8_odds_41 hv41 ?_
    refine z_isub (pc := 44) G dX8_odds_44 ?_
    refine z_imul (pc := 45) G dX8_odds_45 ?_
    refine z_istore_n (pc := 46) (lv2 := [(0, .ref l0), (1, .int l1), (2, .int l2), (3, .int (l3 * ((100 : Int32) - x41))), (4, .int l4), (5, .int l5)]) G dX8_odds_46 rfl (by decide) rfl rfl ?_
    refine z_iload (pc := 47) G 4 dX8_odds_47 rfl ?_
    refine z_bipush (pc := 49) (v := 100) G dX8_odds_49 (by decide) ?_
    refine z_imul (pc := 51) G dX8_odds_51 ?_
    refine z_istore (pc := 52) (lv2 := [(0, .ref l0), (1, .int l1), (2, .int l2), (3, .int (l3 * ((100 : Int32) - x41))), (4, .int (l4 * (100 : Int32))), (5, .int l5)]) G dX8_odds_52 (by decide) rfl rfl ?_
    refine z_iincw (pc := 54) (w := 1) (lv2 := [(0, .ref l0), (1, .int l1), (2, .int l2), (3, .int (l3 * ((100 : Int32) - x41))), (4, .int (l4 * (100 : Int32))), (5, .int (l5 + 1))]) G 5 dX8_odds_54 rfl (by decide) (by decide) rfl rfl ?_
    refine z_goto (pc := 57) (tgt := 28) G dX8_odds_57 (by decide) ?_
    exact H28 _ _ _ _ _ _ _ hX
set_option maxHeartbeats 4000000 in
set_option maxRecDepth 100000 in
theorem wX8_odds_L28 {Γ : ZG} {p : Program} {l : Launch} {e : Env} {s : State} {m : MethodId} {args : Array Value} {below : List Frame} {meth : Method} {c : Code} (hO : z_OK Γ) (G : z_GG Γ p s m args meth c cX8_odds 6 RX8) (hr : meth.sig.returnType = (some .int)) (hnm : meth.name = "odds") {r : (Int32 × ZH)} : ∀ (nn : Nat) (l0 : Nat) (l1 : Int32) (l2 : Int32) (l3 : Int32) (l4 : Int32) (l5 : Int32) (h : ZH), xX8_odds_L28  nn l0 l1 l2 l3 l4 l5 h = some r → z_W Γ p l e rmX8_odds s m args below meth c 6 0 0 (MQ below (z_Qc Γ (some (.int r.1)) r.2) args s rmX8_odds.cells rmX8_odds.slots (z_A Γ)) 28 [(0, .ref l0), (1, .int l1), (2, .int l2), (3, .int l3), (4, .int l4), (5, .int l5)] [] h := by
  intro nn
  induction nn with
  | zero => intro l0 l1 l2 l3 l4 l5 h hX; cases hX
  | succ nn ih => intro l0 l1 l2 l3 l4 l5 h hX; exact wX8_odds_B28 hO G hr hnm  ih l0 l1 l2 l3 l4 l5 h hX
noncomputable def xX8_odds (l0 : Nat) (l1 : Int32) (l2 : Int32) (h : ZH) : Option (Int32 × ZH) := (if l1 < 0 then some ((-1 : Int32), h) else (if (4 : Int32) < l1 then some ((-1 : Int32), h) else (if l2 < 0 then some ((-1 : Int32), h) else (if l2 ≤ (1 : Int32) then xX8_odds_L28 zFU l0 l1 l2 (1 : Int32) (1 : Int32) (0 : Int32) h else some ((-1 : Int32), h)))))
set_option maxHeartbeats 4000000 in
set_option maxRecDepth 100000 in
theorem lX8_odds {Γ : ZG} {l : Launch} (hO : z_OK Γ) {l0 : Nat} {l1 : Int32} {l2 : Int32} {h : ZH} {r : (Int32 × ZH)} (hX : xX8_odds l0 l1 l2 h = some r) : z_M Γ l yX8_odds (z_ws1 yX8_odds cX8_odds 6 (some .int)) rmX8_odds [.ref l0, .int l1, .int l2] h (some (.int r.1)) r.2 := by
  refine z_start hO (plainFor_of_name (by decide)) (Nat.le_of_ble_eq_true rfl) ?_
  intro p e s m args below meth c G hr hnm
  refine z_lvc (lv2 := [(0, .ref l0), (1, .int l1), (2, .int l2)]) rfl ?_
  refine z_iload_n (pc := 0) G 1 dX8_odds_0 rfl rfl ?_
  refine z_if_lt (pc := 1) (tgt := 18) G dX8_odds_1 (by decide) (fun hc1 => ?_) (fun hc1 => ?_)
  · have hX := z_it hc1 hX
    refine z_iconst (pc := 18) (v := (-1)) G dX8_odds_18 (by decide) ?_
    exact z_iretX (pc := 19) hX G hr dX8_odds_19 (by decide) (by decide)
  · have hX := z_if hc1 hX
    refine z_iload_n (pc := 4) G 1 dX8_odds_4 rfl rfl ?_
    refine z_iconst (pc := 5) (v := 4) G dX8_odds_5 (by decide) ?_
    refine z_icmp_gt (pc := 6) (tgt := 18) G dX8_odds_6 (by decide) (fun hc6 => ?_) (fun hc6 => ?_)
    · have hX := z_it hc6 hX
      refine z_iconst (pc := 18) (v := (-1)) G dX8_odds_18 (by decide) ?_
      exact z_iretX (pc := 19) hX G hr dX8_odds_19 (by decide) (by decide)
    · have hX := z_if hc6 hX
      refine z_iload_n (pc := 9) G 2 dX8_odds_9 rfl rfl ?_
      refine z_if_lt (pc := 10) (tgt := 18) G dX8_odds_10 (by decide) (fun hc10 => ?_) (fun hc10 => ?_)
      · have hX := z_it hc10 hX
        refine z_iconst (pc := 18) (v := (-1)) G dX8_odds_18 (by decide) ?_
        exact z_iretX (pc := 19) hX G hr dX8_odds_19 (by decide) (by decide)
      · have hX := z_if hc10 hX
        refine z_iload_n (pc := 13) G 2 dX8_odds_13 rfl rfl ?_
        refine z_iconst (pc := 14) (v := 1) G dX8_odds_14 (by decide) ?_
        refine z_icmp_le (pc := 15) (tgt := 20) G dX8_odds_15 (by decide) (fun hc15 => ?_) (fun hc15 => ?_)
        · have hX := z_it hc15 hX
          refine z_iconst (pc := 20) (v := 1) G dX8_odds_20 (by decide) ?_
          refine z_istore_n (pc := 21) (lv2 := [(0, .ref l0), (1, .int l1), (2, .int l2), (3, .int (1 : Int32))]) G dX8_odds_21 rfl (by decide) rfl rfl ?_
          refine z_iconst (pc := 22) (v := 1) G dX8_odds_22 (by decide) ?_
          refine z_istore (pc := 23) (lv2 := [(0, .ref l0), (1, .int l1), (2, .int l2), (3, .int (1 : Int32)), (4, .int (1 : Int32))]) G dX8_odds_23 (by decide) rfl rfl ?_
          refine z_iconst (pc := 25) (v := 0) G dX8_odds_25 (by decide) ?_
          refine z_istore (pc := 26) (lv2 := [(0, .ref l0), (1, .int l1), (2, .int l2), (3, .int (1 : Int32)), (4, .int (1 : Int32)), (5, .int (0 : Int32))]) G dX8_odds_26 (by decide) rfl rfl ?_
          exact wX8_odds_L28 hO G hr hnm zFU _ _ _ _ _ _ _ hX
        · have hX := z_if hc15 hX
          refine z_iconst (pc := 18) (v := (-1)) G dX8_odds_18 (by decide) ?_
          exact z_iretX (pc := 19) hX G hr dX8_odds_19 (by decide) (by decide)
theorem dX8_layByDistance_0 : decode cX8_layByDistance 0 = .ok (.aload_n 0, 1) := by decide +kernel
theorem dX8_layByDistance_1 : decode cX8_layByDistance 1 = .ok (.getfield 36, 3) := by decide +kernel
theorem dX8_layByDistance_4 : decode cX8_layByDistance 4 = .ok (.iload_n 1, 1) := by decide +kernel
theorem dX8_layByDistance_5 : decode cX8_layByDistance 5 = .ok (.iload_n 2, 1) := by decide +kernel
theorem dX8_layByDistance_6 : decode cX8_layByDistance 6 = .ok (.invokevirtual 184, 3) := by decide +kernel
theorem dX8_layByDistance_9 : decode cX8_layByDistance 9 = .ok (.istore_n 3, 1) := by decide +kernel
theorem dX8_layByDistance_10 : decode cX8_layByDistance 10 = .ok (.aload_n 0, 1) := by decide +kernel
theorem dX8_layByDistance_11 : decode cX8_layByDistance 11 = .ok (.getfield 121, 3) := by decide +kernel
theorem dX8_layByDistance_14 : decode cX8_layByDistance 14 = .ok (.istore 4, 2) := by decide +kernel
theorem dX8_layByDistance_16 : decode cX8_layByDistance 16 = .ok (.iload 4, 2) := by decide +kernel
theorem dX8_layByDistance_18 : decode cX8_layByDistance 18 = .ok (.ifCond .le 46, 3) := by decide +kernel
theorem dX8_layByDistance_21 : decode cX8_layByDistance 21 = .ok (.aload_n 0, 1) := by decide +kernel
theorem dX8_layByDistance_22 : decode cX8_layByDistance 22 = .ok (.getfield 36, 3) := by decide +kernel
theorem dX8_layByDistance_25 : decode cX8_layByDistance 25 = .ok (.iload_n 1, 1) := by decide +kernel
theorem dX8_layByDistance_26 : decode cX8_layByDistance 26 = .ok (.aload_n 0, 1) := by decide +kernel
theorem dX8_layByDistance_27 : decode cX8_layByDistance 27 = .ok (.getfield 86, 3) := by decide +kernel
theorem dX8_layByDistance_30 : decode cX8_layByDistance 30 = .ok (.iload 4, 2) := by decide +kernel
theorem dX8_layByDistance_32 : decode cX8_layByDistance 32 = .ok (.iconst 1, 1) := by decide +kernel
theorem dX8_layByDistance_33 : decode cX8_layByDistance 33 = .ok (.isub, 1) := by decide +kernel
theorem dX8_layByDistance_34 : decode cX8_layByDistance 34 = .ok (.iaload, 1) := by decide +kernel
theorem dX8_layByDistance_35 : decode cX8_layByDistance 35 = .ok (.invokevirtual 184, 3) := by decide +kernel
theorem dX8_layByDistance_38 : decode cX8_layByDistance 38 = .ok (.iload_n 3, 1) := by decide +kernel
theorem dX8_layByDistance_39 : decode cX8_layByDistance 39 = .ok (.if_icmp .le 25, 3) := by decide +kernel
theorem dX8_layByDistance_42 : decode cX8_layByDistance 42 = .ok (.aload_n 0, 1) := by decide +kernel
theorem dX8_layByDistance_43 : decode cX8_layByDistance 43 = .ok (.getfield 86, 3) := by decide +kernel
theorem dX8_layByDistance_46 : decode cX8_layByDistance 46 = .ok (.iload 4, 2) := by decide +kernel
theorem dX8_layByDistance_48 : decode cX8_layByDistance 48 = .ok (.aload_n 0, 1) := by decide +kernel
theorem dX8_layByDistance_49 : decode cX8_layByDistance 49 = .ok (.getfield 86, 3) := by decide +kernel
theorem dX8_layByDistance_52 : decode cX8_layByDistance 52 = .ok (.iload 4, 2) := by decide +kernel
theorem dX8_layByDistance_54 : decode cX8_layByDistance 54 = .ok (.iconst 1, 1) := by decide +kernel
theorem dX8_layByDistance_55 : decode cX8_layByDistance 55 = .ok (.isub, 1) := by decide +kernel
theorem dX8_layByDistance_56 : decode cX8_layByDistance 56 = .ok (.iaload, 1) := by decide +kernel
theorem dX8_layByDistance_57 : decode cX8_layByDistance 57 = .ok (.iastore, 1) := by decide +kernel
theorem dX8_layByDistance_58 : decode cX8_layByDistance 58 = .ok (.iinc 4 (-1), 3) := by decide +kernel
theorem dX8_layByDistance_61 : decode cX8_layByDistance 61 = .ok (.goto (-45), 3) := by decide +kernel
theorem dX8_layByDistance_64 : decode cX8_layByDistance 64 = .ok (.aload_n 0, 1) := by decide +kernel
theorem dX8_layByDistance_65 : decode cX8_layByDistance 65 = .ok (.getfield 86, 3) := by decide +kernel
theorem dX8_layByDistance_68 : decode cX8_layByDistance 68 = .ok (.iload 4, 2) := by decide +kernel
theorem dX8_layByDistance_70 : decode cX8_layByDistance 70 = .ok (.iload_n 2, 1) := by decide +kernel
theorem dX8_layByDistance_71 : decode cX8_layByDistance 71 = .ok (.iastore, 1) := by decide +kernel
theorem dX8_layByDistance_72 : decode cX8_layByDistance 72 = .ok (.aload_n 0, 1) := by decide +kernel
theorem dX8_layByDistance_73 : decode cX8_layByDistance 73 = .ok (.dup, 1) := by decide +kernel
theorem dX8_layByDistance_74 : decode cX8_layByDistance 74 = .ok (.getfield 121, 3) := by decide +kernel
theorem dX8_layByDistance_77 : decode cX8_layByDistance 77 = .ok (.iconst 1, 1) := by decide +kernel
theorem dX8_layByDistance_78 : decode cX8_layByDistance 78 = .ok (.iadd, 1) := by decide +kernel
theorem dX8_layByDistance_79 : decode cX8_layByDistance 79 = .ok (.putfield 121, 3) := by decide +kernel
theorem dX8_layByDistance_82 : decode cX8_layByDistance 82 = .ok (.return_, 1) := by decide +kernel
theorem ydX8_layByDistance : z_yd yX8_layByDistance 2 := ⟨by decide, by decide, by decide +kernel⟩
abbrev rmX8_layByDistance : Room := { frames := 2, cells := 0, slots := 0, locals := 42 }
noncomputable def xX8_layByDistance_B64 (l0 : Nat) (l2 : Int32) (l4 : Int32) (h : ZH) : Option ZH := ((z_gR h l0 8 15).bind fun x65 => ((z_uI h x65 l4 l2).bind fun h71 => ((z_gI h71 l0 8 16).bind fun x74 => ((z_sF h71 l0 8 16 (.int (x74 + (1 : Int32)))).bind fun h79 => some h79))))
set_option maxHeartbeats 4000000 in
set_option maxRecDepth 100000 in
theorem wX8_layByDistance_B64 {Γ : ZG} {p : Program} {l : Launch} {e : Env} {s : State} {m : MethodId} {args : Array Value} {below : List Frame} {meth : Method} {c : Code} (hO : z_OK Γ) (G : z_GG Γ p s m args meth c cX8_layByDistance 5 RX8) (hr : meth.sig.returnType = none) (hnm : meth.name = "layByDistance") {r : ZH} : ∀ (l0 : Nat) (l2 : Int32) (l4 : Int32) (h : ZH), xX8_layByDistance_B64  l0 l2 l4 h = some r → z_W Γ p l e rmX8_layByDistance s m args below meth c 5 0 0 (MQ below (z_Qc Γ none r) args s rmX8_layByDistance.cells rmX8_layByDistance.slots (z_A Γ)) 64 [(0, .ref l0), (2, .int l2), (4, .int l4)] [] h := by
  intro l0 l2 l4 h hX
  refine z_aload_n (pc := 64) G 0 dX8_layByDistance_64 rfl rfl ?_
  obtain ⟨x65, hv65, hX⟩ := z_bd hX
  refine z_getR (pc := 65) G kK8 (k := 15) (by decide) kt_439 dX8_layByDistance_65 hv65 ?_
  refine z_iload (pc := 68) G 2 dX8_layByDistance_68 rfl ?_
  refine z_iload_n (pc := 70) G 1 dX8_layByDistance_70 rfl rfl ?_
  obtain ⟨h71, hv71, hX⟩ := z_bd hX
  refine z_iast (pc := 71) G dX8_layByDistance_71 hv71 ?_
  refine z_aload_n (pc := 72) G 0 dX8_layByDistance_72 rfl rfl ?_
  refine z_dup (pc := 73) G dX8_layByDistance_73 rfl ?_
  obtain ⟨x74, hv74, hX⟩ := z_bd hX
  refine z_getI (pc := 74) G kK8 (k := 16) (by decide) kt_440 dX8_layByDistance_74 hv74 ?_
  refine z_iconst (pc := 77) (v := 1) G dX8_layByDistance_77 (by decide) ?_
  refine z_iadd (pc := 78) G dX8_layByDistance_78 ?_
  obtain ⟨h79, hv79, hX⟩ := z_bd hX
  refine z_putF (pc := 79) G kK8 (k := 16) (by decide) kt_440 (Or.inl rfl) rfl rfl dX8_layByDistance_79 hv79 ?_
  exact z_vretX (pc := 82) hX G hr dX8_layByDistance_82 (by decide) (by decide)
noncomputable def xX8_layByDistance_B16 (r16 : Nat → Int32 → Int32 → Int32 → Int32 → ZH → Option ZH) (l0 : Nat) (l1 : Int32) (l2 : Int32) (l3 : Int32) (l4 : Int32) (h : ZH) : Option ZH := (if l4 ≤ 0 then xX8_layByDistance_B64 l0 l2 l4 h else ((z_gR h l0 8 6).bind fun x22 => ((z_gR h l0 8 15).bind fun x27 => ((z_aI h x27 (l4 - (1 : Int32))).bind fun x34 => (z_gu (z_is h x22 5) ((xX5_distance x22 l1 x34 h).bind fun r35 => (if r35.1 ≤ l3 then xX8_layByDistance_B64 l0 l2 l4 r35.2 else ((z_gR r35.2 l0 8 15).bind fun x43 => ((z_gR r35.2 l0 8 15).bind fun x49 => ((z_aI r35.2 x49 (l4 - (1 : Int32))).bind fun x56 => ((z_uI r35.2 x43 l4 x56).bind fun h57 => r16 l0 l1 l2 l3 (l4 + (-1)) h57)))))))))))
noncomputable def xX8_layByDistance_L16 (n : Nat) : Nat → Int32 → Int32 → Int32 → Int32 → ZH → Option ZH := Nat.rec (motive := fun _ => Nat → Int32 → Int32 → Int32 → Int32 → ZH → Option ZH) (fun _ _ _ _ _ _ => none) (fun _ rec => xX8_layByDistance_B16  rec) n
set_option maxHeartbeats 4000000 in
set_option maxRecDepth 100000 in
theorem wX8_layByDistance_B16 {Γ : ZG} {p : Program} {l : Launch} {e : Env} {s : State} {m : MethodId} {args : Array Value} {below : List Frame} {meth : Method} {c : Code} (hO : z_OK Γ) (G : z_GG Γ p s m args meth c cX8_layByDistance 5 RX8) (hr : meth.sig.returnType = none) (hnm : meth.name = "layByDistance") {r : ZH} {r16 : Nat → Int32 → Int32 → Int32 → Int32 → ZH → Option ZH} (H16 : ∀ (l0 : Nat) (l1 : Int32) (l2 : Int32) (l3 : Int32) (l4 : Int32) (h : ZH), r16 l0 l1 l2 l3 l4 h = some r → z_W Γ p l e rmX8_layByDistance s m args below meth c 5 0 0 (MQ below (z_Qc Γ none r) args s rmX8_layByDistance.cells rmX8_layByDistance.slots (z_A Γ)) 16 [(0, .ref l0), (1, .int l1), (2, .int l2), (3, .int l3), (4, .int l4)] [] h) : ∀ (l0 : Nat) (l1 : Int32) (l2 : Int32) (l3 : Int32) (l4 : Int32) (h : ZH), xX8_layByDistance_B16  r16 l0 l1 l2 l3 l4 h = some r → z_W Γ p l e rmX8_layByDistance s m args below meth c 5 0 0 (MQ below (z_Qc Γ none r) args s rmX8_layByDistance.cells rmX8_layByDistance.slots (z_A Γ)) 16 [(0, .ref l0), (1, .int l1), (2, .int l2), (3, .int l3), (4, .int l4)] [] h := by
  intro l0 l1 l2 l3 l4 h hX
  refine z_iload (pc := 16) G 4 dX8_layByDistance_16 rfl ?_
  refine z_if_le (pc := 18) (tgt := 64) G dX8_layByDistance_18 (by decide) (fun hc18 => ?_) (fun hc18 => ?_)
  · have hX := z_it hc18 hX
    refine z_drop (lv2 := [(0, .ref l0), (2, .int l2), (4, .int l4)]) [0, 2, 4] rfl ?_
    exact wX8_layByDistance_B64 hO G hr hnm _ _ _ _ hX
  · have hX := z_if hc18 hX
    refine z_aload_n (pc := 21) G 0 dX8_layByDistance_21 rfl rfl ?_
    obtain ⟨x22, hv22, hX⟩ := z_bd hX
    refine z_getR (pc := 22) G kK8 (k := 6) (by decide) kt_430 dX8_layByDistance_22 hv22 ?_
    refine z_iload_n (pc := 25) G 1 dX8_layByDistance_25 rfl rfl ?_
    refine z_aload_n (pc := 26) G 0 dX8_layByDistance_26 rfl rfl ?_
    obtain ⟨x27, hv27, hX⟩ := z_bd hX
    refine z_getR (pc := 27) G kK8 (k := 15) (by decide) kt_439 dX8_layByDistance_27 hv27 ?_
    refine z_iload (pc := 30) G 4 dX8_layByDistance_30 rfl ?_
    refine z_iconst (pc := 32) (v := 1) G dX8_layByDistance_32 (by decide) ?_
    refine z_isub (pc := 33) G dX8_layByDistance_33 ?_
    obtain ⟨x34, hv34, hX⟩ := z_bd hX
    refine z_iald (pc := 34) G dX8_layByDistance_34 hv34 ?_
    obtain ⟨hi35, hX⟩ := z_gu_s hX
    obtain ⟨r35, hv35, hX⟩ := z_bd hX
    refine z_cVI (pc := 35) (As := [.int l1, .int x34]) (c2 := 0) (s2 := 0) G kK5 (lX5_distance hO hv35) hi35 kt_783 kt_4 kt_780 kt_781 kt_782 ydX5_distance ⟨by decide, by decide⟩ rfl (Nat.le_of_ble_eq_true rfl) ⟨rfl, rfl⟩ ⟨by decide, by decide⟩ rfl dX8_layByDistance_35 ?_
    refine z_iload_n (pc := 38) G 3 dX8_layByDistance_38 rfl rfl ?_
    refine z_icmp_le (pc := 39) (tgt := 64) G dX8_layByDistance_39 (by decide) (fun hc39 => ?_) (fun hc39 => ?_)
    · have hX := z_it hc39 hX
      refine z_drop (lv2 := [(0, .ref l0), (2, .int l2), (4, .int l4)]) [0, 2, 4] rfl ?_
      exact wX8_layByDistance_B64 hO G hr hnm _ _ _ _ hX
    · have hX := z_if hc39 hX
      refine z_aload_n (pc := 42) G 0 dX8_layByDistance_42 rfl rfl ?_
      obtain ⟨x43, hv43, hX⟩ := z_bd hX
      refine z_getR (pc := 43) G kK8 (k := 15) (by decide) kt_439 dX8_layByDistance_43 hv43 ?_
      refine z_iload (pc := 46) G 4 dX8_layByDistance_46 rfl ?_
      refine z_aload_n (pc := 48) G 0 dX8_layByDistance_48 rfl rfl ?_
      obtain ⟨x49, hv49, hX⟩ := z_bd hX
      refine z_getR (pc := 49) G kK8 (k := 15) (by decide) kt_439 dX8_layByDistance_49 hv49 ?_
      refine z_iload (pc := 52) G 4 dX8_layByDistance_52 rfl ?_
      refine z_iconst (pc := 54) (v := 1) G dX8_layByDistance_54 (by decide) ?_
      refine z_isub (pc := 55) G dX8_layByDistance_55 ?_
      obtain ⟨x56, hv56, hX⟩ := z_bd hX
      refine z_iald (pc := 56) G dX8_layByDistance_56 hv56 ?_
      obtain ⟨h57, hv57, hX⟩ := z_bd hX
      refine z_iast (pc := 57) G dX8_layByDistance_57 hv57 ?_
      refine z_iincw (pc := 58) (w := (-1)) (lv2 := [(0, .ref l0), (1, .int l1), (2, .int l2), (3, .int l3), (4, .int (l4 + (-1)))]) G 4 dX8_layByDistance_58 rfl (by decide) (by decide) rfl rfl ?_
      refine z_goto (pc := 61) (tgt := 16) G dX8_layByDistance_61 (by decide) ?_
      exact H16 _ _ _ _ _ _ hX
set_option maxHeartbeats 4000000 in
set_option maxRecDepth 100000 in
theorem wX8_layByDistance_L16 {Γ : ZG} {p : Program} {l : Launch} {e : Env} {s : State} {m : MethodId} {args : Array Value} {below : List Frame} {meth : Method} {c : Code} (hO : z_OK Γ) (G : z_GG Γ p s m args meth c cX8_layByDistance 5 RX8) (hr : meth.sig.returnType = none) (hnm : meth.name = "layByDistance") {r : ZH} : ∀ (nn : Nat) (l0 : Nat) (l1 : Int32) (l2 : Int32) (l3 : Int32) (l4 : Int32) (h : ZH), xX8_layByDistance_L16  nn l0 l1 l2 l3 l4 h = some r → z_W Γ p l e rmX8_layByDistance s m args below meth c 5 0 0 (MQ below (z_Qc Γ none r) args s rmX8_layByDistance.cells rmX8_layByDistance.slots (z_A Γ)) 16 [(0, .ref l0), (1, .int l1), (2, .int l2), (3, .int l3), (4, .int l4)] [] h := by
  intro nn
  induction nn with
  | zero => intro l0 l1 l2 l3 l4 h hX; cases hX
  | succ nn ih => intro l0 l1 l2 l3 l4 h hX; exact wX8_layByDistance_B16 hO G hr hnm  ih l0 l1 l2 l3 l4 h hX
noncomputable def xX8_layByDistance (l0 : Nat) (l1 : Int32) (l2 : Int32) (h : ZH) : Option ZH := ((z_gR h l0 8 6).bind fun x1 => (z_gu (z_is h x1 5) ((xX5_distance x1 l1 l2 h).bind fun r6 => ((z_gI r6.2 l0 8 16).bind fun x11 => xX8_layByDistance_L16 zFU l0 l1 l2 r6.1 x11 r6.2))))
set_option maxHeartbeats 4000000 in
set_option maxRecDepth 100000 in
theorem lX8_layByDistance {Γ : ZG} {l : Launch} (hO : z_OK Γ) {l0 : Nat} {l1 : Int32} {l2 : Int32} {h : ZH} {r : ZH} (hX : xX8_layByDistance l0 l1 l2 h = some r) : z_M Γ l yX8_layByDistance (z_ws1 yX8_layByDistance cX8_layByDistance 5 none) rmX8_layByDistance [.ref l0, .int l1, .int l2] h none r := by
  refine z_start hO (plainFor_of_name (by decide)) (Nat.le_of_ble_eq_true rfl) ?_
  intro p e s m args below meth c G hr hnm
  refine z_lvc (lv2 := [(0, .ref l0), (1, .int l1), (2, .int l2)]) rfl ?_
  refine z_aload_n (pc := 0) G 0 dX8_layByDistance_0 rfl rfl ?_
  obtain ⟨x1, hv1, hX⟩ := z_bd hX
  refine z_getR (pc := 1) G kK8 (k := 6) (by decide) kt_430 dX8_layByDistance_1 hv1 ?_
  refine z_iload_n (pc := 4) G 1 dX8_layByDistance_4 rfl rfl ?_
  refine z_iload_n (pc := 5) G 2 dX8_layByDistance_5 rfl rfl ?_
  obtain ⟨hi6, hX⟩ := z_gu_s hX
  obtain ⟨r6, hv6, hX⟩ := z_bd hX
  refine z_cVI (pc := 6) (As := [.int l1, .int l2]) (c2 := 0) (s2 := 0) G kK5 (lX5_distance hO hv6) hi6 kt_783 kt_4 kt_780 kt_781 kt_782 ydX5_distance ⟨by decide, by decide⟩ rfl (Nat.le_of_ble_eq_true rfl) ⟨rfl, rfl⟩ ⟨by decide, by decide⟩ rfl dX8_layByDistance_6 ?_
  refine z_istore_n (pc := 9) (lv2 := [(0, .ref l0), (1, .int l1), (2, .int l2), (3, .int r6.1)]) G dX8_layByDistance_9 rfl (by decide) rfl rfl ?_
  refine z_aload_n (pc := 10) G 0 dX8_layByDistance_10 rfl rfl ?_
  obtain ⟨x11, hv11, hX⟩ := z_bd hX
  refine z_getI (pc := 11) G kK8 (k := 16) (by decide) kt_440 dX8_layByDistance_11 hv11 ?_
  refine z_istore (pc := 14) (lv2 := [(0, .ref l0), (1, .int l1), (2, .int l2), (3, .int r6.1), (4, .int x11)]) G dX8_layByDistance_14 (by decide) rfl rfl ?_
  exact wX8_layByDistance_L16 hO G hr hnm zFU _ _ _ _ _ _ hX
theorem dX8_near_0 : decode cX8_near 0 = .ok (.aload_n 0, 1) := by decide +kernel
theorem dX8_near_1 : decode cX8_near 1 = .ok (.iconst 0, 1) := by decide +kernel
theorem dX8_near_2 : decode cX8_near 2 = .ok (.putfield 121, 3) := by decide +kernel
theorem dX8_near_5 : decode cX8_near 5 = .ok (.aload_n 0, 1) := by decide +kernel
theorem dX8_near_6 : decode cX8_near 6 = .ok (.getfield 27, 3) := by decide +kernel
theorem dX8_near_9 : decode cX8_near 9 = .ok (.iload_n 1, 1) := by decide +kernel
theorem dX8_near_10 : decode cX8_near 10 = .ok (.invokevirtual 127, 3) := by decide +kernel
theorem dX8_near_13 : decode cX8_near 13 = .ok (.ifCond .ne 5, 3) := by decide +kernel
theorem dX8_near_16 : decode cX8_near 16 = .ok (.iconst (-1), 1) := by decide +kernel
theorem dX8_near_17 : decode cX8_near 17 = .ok (.ireturn, 1) := by decide +kernel
theorem dX8_near_18 : decode cX8_near 18 = .ok (.iconst 0, 1) := by decide +kernel
theorem dX8_near_19 : decode cX8_near 19 = .ok (.istore_n 2, 1) := by decide +kernel
theorem dX8_near_20 : decode cX8_near 20 = .ok (.iload_n 2, 1) := by decide +kernel
theorem dX8_near_21 : decode cX8_near 21 = .ok (.aload_n 0, 1) := by decide +kernel
theorem dX8_near_22 : decode cX8_near 22 = .ok (.getfield 27, 3) := by decide +kernel
theorem dX8_near_25 : decode cX8_near 25 = .ok (.getfield 124, 3) := by decide +kernel
theorem dX8_near_28 : decode cX8_near 28 = .ok (.if_icmp .ge 20, 3) := by decide +kernel
theorem dX8_near_31 : decode cX8_near 31 = .ok (.iload_n 2, 1) := by decide +kernel
theorem dX8_near_32 : decode cX8_near 32 = .ok (.iload_n 1, 1) := by decide +kernel
theorem dX8_near_33 : decode cX8_near 33 = .ok (.if_icmp .eq 9, 3) := by decide +kernel
theorem dX8_near_36 : decode cX8_near 36 = .ok (.aload_n 0, 1) := by decide +kernel
theorem dX8_near_37 : decode cX8_near 37 = .ok (.iload_n 1, 1) := by decide +kernel
theorem dX8_near_38 : decode cX8_near 38 = .ok (.iload_n 2, 1) := by decide +kernel
theorem dX8_near_39 : decode cX8_near 39 = .ok (.invokevirtual 308, 3) := by decide +kernel
theorem dX8_near_42 : decode cX8_near 42 = .ok (.iinc 2 1, 3) := by decide +kernel
theorem dX8_near_45 : decode cX8_near 45 = .ok (.goto (-25), 3) := by decide +kernel
theorem dX8_near_48 : decode cX8_near 48 = .ok (.aload_n 0, 1) := by decide +kernel
theorem dX8_near_49 : decode cX8_near 49 = .ok (.getfield 121, 3) := by decide +kernel
theorem dX8_near_52 : decode cX8_near 52 = .ok (.ireturn, 1) := by decide +kernel
theorem ydX8_near : z_yd yX8_near 1 := ⟨by decide, by decide, by decide +kernel⟩
abbrev rmX8_near : Room := { frames := 3, cells := 0, slots := 0, locals := 66 }
noncomputable def xX8_near_B20 (r20 : Nat → Int32 → Int32 → ZH → Option (Int32 × ZH)) (l0 : Nat) (l1 : Int32) (l2 : Int32) (h : ZH) : Option (Int32 × ZH) := ((z_gR h l0 8 5).bind fun x22 => ((z_gI h x22 2 7).bind fun x25 => (if x25 ≤ l2 then ((z_gI h l0 8 16).bind fun x49 => some (x49, h)) else (if l2 = l1 then r20 l0 l1 (l2 + 1) h else (z_gu (z_is h l0 8) ((xX8_layByDistance l0 l1 l2 h).bind fun h39 => r20 l0 l1 (l2 + 1) h39))))))
noncomputable def xX8_near_L20 (n : Nat) : Nat → Int32 → Int32 → ZH → Option (Int32 × ZH) := Nat.rec (motive := fun _ => Nat → Int32 → Int32 → ZH → Option (Int32 × ZH)) (fun _ _ _ _ => none) (fun _ rec => xX8_near_B20  rec) n
set_option maxHeartbeats 4000000 in
set_option maxRecDepth 100000 in
theorem wX8_near_B20 {Γ : ZG} {p : Program} {l : Launch} {e : Env} {s : State} {m : MethodId} {args : Array Value} {below : List Frame} {meth : Method} {c : Code} (hO : z_OK Γ) (G : z_GG Γ p s m args meth c cX8_near 3 RX8) (hr : meth.sig.returnType = (some .int)) (hnm : meth.name = "near") {r : (Int32 × ZH)} {r20 : Nat → Int32 → Int32 → ZH → Option (Int32 × ZH)} (H20 : ∀ (l0 : Nat) (l1 : Int32) (l2 : Int32) (h : ZH), r20 l0 l1 l2 h = some r → z_W Γ p l e rmX8_near s m args below meth c 3 0 0 (MQ below (z_Qc Γ (some (.int r.1)) r.2) args s rmX8_near.cells rmX8_near.slots (z_A Γ)) 20 [(0, .ref l0), (1, .int l1), (2, .int l2)] [] h) : ∀ (l0 : Nat) (l1 : Int32) (l2 : Int32) (h : ZH), xX8_near_B20  r20 l0 l1 l2 h = some r → z_W Γ p l e rmX8_near s m args below meth c 3 0 0 (MQ below (z_Qc Γ (some (.int r.1)) r.2) args s rmX8_near.cells rmX8_near.slots (z_A Γ)) 20 [(0, .ref l0), (1, .int l1), (2, .int l2)] [] h := by
  intro l0 l1 l2 h hX
  refine z_iload_n (pc := 20) G 2 dX8_near_20 rfl rfl ?_
  refine z_aload_n (pc := 21) G 0 dX8_near_21 rfl rfl ?_
  obtain ⟨x22, hv22, hX⟩ := z_bd hX
  refine z_getR (pc := 22) G kK8 (k := 5) (by decide) kt_429 dX8_near_22 hv22 ?_
  obtain ⟨x25, hv25, hX⟩ := z_bd hX
  refine z_getI (pc := 25) G kK2 (k := 7) (by decide) kt_71 dX8_near_25 hv25 ?_
  refine z_icmp_ge (pc := 28) (tgt := 48) G dX8_near_28 (by decide) (fun hc28 => ?_) (fun hc28 => ?_)
  · have hX := z_it hc28 hX
    refine z_aload_n (pc := 48) G 0 dX8_near_48 rfl rfl ?_
    obtain ⟨x49, hv49, hX⟩ := z_bd hX
    refine z_getI (pc := 49) G kK8 (k := 16) (by decide) kt_440 dX8_near_49 hv49 ?_
    exact z_iretX (pc := 52) hX G hr dX8_near_52 (by decide) (by decide)
  · have hX := z_if hc28 hX
    refine z_iload_n (pc := 31) G 2 dX8_near_31 rfl rfl ?_
    refine z_iload_n (pc := 32) G 1 dX8_near_32 rfl rfl ?_
    refine z_icmp_eq (pc := 33) (tgt := 42) G dX8_near_33 (by decide) (fun hc33 => ?_) (fun hc33 => ?_)
    · have hX := z_it hc33 hX
      refine z_iincw (pc := 42) (w := 1) (lv2 := [(0, .ref l0), (1, .int l1), (2, .int (l2 + 1))]) G 2 dX8_near_42 rfl (by decide) (by decide) rfl rfl ?_
      refine z_goto (pc := 45) (tgt := 20) G dX8_near_45 (by decide) ?_
      exact H20 _ _ _ _ hX
    · have hX := z_if hc33 hX
      refine z_aload_n (pc := 36) G 0 dX8_near_36 rfl rfl ?_
      refine z_iload_n (pc := 37) G 1 dX8_near_37 rfl rfl ?_
      refine z_iload_n (pc := 38) G 2 dX8_near_38 rfl rfl ?_
      obtain ⟨hi39, hX⟩ := z_gu_s hX
      obtain ⟨h39, hv39, hX⟩ := z_bd hX
      refine z_cVV (pc := 39) (As := [.int l1, .int l2]) (c2 := 0) (s2 := 0) G kK8 (lX8_layByDistance hO hv39) hi39 kt_1122 kt_1 kt_1119 kt_1121 ks_30 ydX8_layByDistance ⟨by decide, by decide⟩ rfl (Nat.le_of_ble_eq_true rfl) ⟨rfl, rfl⟩ ⟨by decide, by decide⟩ rfl dX8_near_39 ?_
      refine z_iincw (pc := 42) (w := 1) (lv2 := [(0, .ref l0), (1, .int l1), (2, .int (l2 + 1))]) G 2 dX8_near_42 rfl (by decide) (by decide) rfl rfl ?_
      refine z_goto (pc := 45) (tgt := 20) G dX8_near_45 (by decide) ?_
      exact H20 _ _ _ _ hX
set_option maxHeartbeats 4000000 in
set_option maxRecDepth 100000 in
theorem wX8_near_L20 {Γ : ZG} {p : Program} {l : Launch} {e : Env} {s : State} {m : MethodId} {args : Array Value} {below : List Frame} {meth : Method} {c : Code} (hO : z_OK Γ) (G : z_GG Γ p s m args meth c cX8_near 3 RX8) (hr : meth.sig.returnType = (some .int)) (hnm : meth.name = "near") {r : (Int32 × ZH)} : ∀ (nn : Nat) (l0 : Nat) (l1 : Int32) (l2 : Int32) (h : ZH), xX8_near_L20  nn l0 l1 l2 h = some r → z_W Γ p l e rmX8_near s m args below meth c 3 0 0 (MQ below (z_Qc Γ (some (.int r.1)) r.2) args s rmX8_near.cells rmX8_near.slots (z_A Γ)) 20 [(0, .ref l0), (1, .int l1), (2, .int l2)] [] h := by
  intro nn
  induction nn with
  | zero => intro l0 l1 l2 h hX; cases hX
  | succ nn ih => intro l0 l1 l2 h hX; exact wX8_near_B20 hO G hr hnm  ih l0 l1 l2 h hX
noncomputable def xX8_near (l0 : Nat) (l1 : Int32) (h : ZH) : Option (Int32 × ZH) := ((z_sF h l0 8 16 (.int (0 : Int32))).bind fun h2 => ((z_gR h2 l0 8 5).bind fun x6 => (z_gu (z_is h2 x6 2) ((xX2_isShip x6 l1 h2).bind fun r10 => (if r10.1 = 0 then some ((-1 : Int32), r10.2) else xX8_near_L20 zFU l0 l1 (0 : Int32) r10.2)))))
set_option maxHeartbeats 4000000 in
set_option maxRecDepth 100000 in
theorem lX8_near {Γ : ZG} {l : Launch} (hO : z_OK Γ) {l0 : Nat} {l1 : Int32} {h : ZH} {r : (Int32 × ZH)} (hX : xX8_near l0 l1 h = some r) : z_M Γ l yX8_near (z_ws1 yX8_near cX8_near 3 (some .int)) rmX8_near [.ref l0, .int l1] h (some (.int r.1)) r.2 := by
  refine z_start hO (plainFor_of_name (by decide)) (Nat.le_of_ble_eq_true rfl) ?_
  intro p e s m args below meth c G hr hnm
  refine z_lvc (lv2 := [(0, .ref l0), (1, .int l1)]) rfl ?_
  refine z_aload_n (pc := 0) G 0 dX8_near_0 rfl rfl ?_
  refine z_iconst (pc := 1) (v := 0) G dX8_near_1 (by decide) ?_
  obtain ⟨h2, hv2, hX⟩ := z_bd hX
  refine z_putF (pc := 2) G kK8 (k := 16) (by decide) kt_440 (Or.inl rfl) rfl rfl dX8_near_2 hv2 ?_
  refine z_aload_n (pc := 5) G 0 dX8_near_5 rfl rfl ?_
  obtain ⟨x6, hv6, hX⟩ := z_bd hX
  refine z_getR (pc := 6) G kK8 (k := 5) (by decide) kt_429 dX8_near_6 hv6 ?_
  refine z_iload_n (pc := 9) G 1 dX8_near_9 rfl rfl ?_
  obtain ⟨hi10, hX⟩ := z_gu_s hX
  obtain ⟨r10, hv10, hX⟩ := z_bd hX
  refine z_cVI (pc := 10) (As := [.int l1]) (c2 := 0) (s2 := 0) G kK2 (lX2_isShip hO hv10) hi10 kt_727 kt_3 kt_724 kt_725 kt_726 ydX2_isShip ⟨by decide, by decide⟩ rfl (Nat.le_of_ble_eq_true rfl) ⟨rfl, rfl⟩ ⟨by decide, by decide⟩ rfl dX8_near_10 ?_
  refine z_if_ne (pc := 13) (tgt := 18) G dX8_near_13 (by decide) (fun hc13 => ?_) (fun hc13 => ?_)
  · have hX := z_if hc13 hX
    refine z_iconst (pc := 18) (v := 0) G dX8_near_18 (by decide) ?_
    refine z_istore_n (pc := 19) (lv2 := [(0, .ref l0), (1, .int l1), (2, .int (0 : Int32))]) G dX8_near_19 rfl (by decide) rfl rfl ?_
    exact wX8_near_L20 hO G hr hnm zFU _ _ _ _ hX
  · have hX := z_it hc13 hX
    refine z_iconst (pc := 16) (v := (-1)) G dX8_near_16 (by decide) ?_
    exact z_iretX (pc := 17) hX G hr dX8_near_17 (by decide) (by decide)
theorem dX8_lies_0 : decode cX8_lies 0 = .ok (.iload_n 1, 1) := by decide +kernel
theorem dX8_lies_1 : decode cX8_lies 1 = .ok (.ifCond .lt 11, 3) := by decide +kernel
theorem dX8_lies_4 : decode cX8_lies 4 = .ok (.iload_n 1, 1) := by decide +kernel
theorem dX8_lies_5 : decode cX8_lies 5 = .ok (.aload_n 0, 1) := by decide +kernel
theorem dX8_lies_6 : decode cX8_lies 6 = .ok (.getfield 121, 3) := by decide +kernel
theorem dX8_lies_9 : decode cX8_lies 9 = .ok (.if_icmp .lt 8, 3) := by decide +kernel
theorem dX8_lies_12 : decode cX8_lies 12 = .ok (.bipush (-2), 2) := by decide +kernel
theorem dX8_lies_14 : decode cX8_lies 14 = .ok (.goto 9, 3) := by decide +kernel
theorem dX8_lies_17 : decode cX8_lies 17 = .ok (.aload_n 0, 1) := by decide +kernel
theorem dX8_lies_18 : decode cX8_lies 18 = .ok (.getfield 86, 3) := by decide +kernel
theorem dX8_lies_21 : decode cX8_lies 21 = .ok (.iload_n 1, 1) := by decide +kernel
theorem dX8_lies_22 : decode cX8_lies 22 = .ok (.iaload, 1) := by decide +kernel
theorem dX8_lies_23 : decode cX8_lies 23 = .ok (.ireturn, 1) := by decide +kernel
theorem ydX8_lies : z_yd yX8_lies 1 := ⟨by decide, by decide, by decide +kernel⟩
abbrev rmX8_lies : Room := { frames := 0, cells := 0, slots := 0, locals := 0 }
noncomputable def xX8_lies (l0 : Nat) (l1 : Int32) (h : ZH) : Option (Int32 × ZH) := (if l1 < 0 then some ((-2 : Int32), h) else ((z_gI h l0 8 16).bind fun x6 => (if l1 < x6 then ((z_gR h l0 8 15).bind fun x18 => ((z_aI h x18 l1).bind fun x22 => some (x22, h))) else some ((-2 : Int32), h))))
set_option maxHeartbeats 4000000 in
set_option maxRecDepth 100000 in
theorem lX8_lies {Γ : ZG} {l : Launch} (hO : z_OK Γ) {l0 : Nat} {l1 : Int32} {h : ZH} {r : (Int32 × ZH)} (hX : xX8_lies l0 l1 h = some r) : z_M Γ l yX8_lies (z_ws1 yX8_lies cX8_lies 2 (some .int)) rmX8_lies [.ref l0, .int l1] h (some (.int r.1)) r.2 := by
  refine z_start hO (plainFor_of_name (by decide)) (Nat.le_of_ble_eq_true rfl) ?_
  intro p e s m args below meth c G hr hnm
  refine z_lvc (lv2 := [(0, .ref l0), (1, .int l1)]) rfl ?_
  refine z_iload_n (pc := 0) G 1 dX8_lies_0 rfl rfl ?_
  refine z_if_lt (pc := 1) (tgt := 12) G dX8_lies_1 (by decide) (fun hc1 => ?_) (fun hc1 => ?_)
  · have hX := z_it hc1 hX
    refine z_bipush (pc := 12) (v := (-2)) G dX8_lies_12 (by decide) ?_
    refine z_goto (pc := 14) (tgt := 23) G dX8_lies_14 (by decide) ?_
    exact z_iretX (pc := 23) hX G hr dX8_lies_23 (by decide) (by decide)
  · have hX := z_if hc1 hX
    refine z_iload_n (pc := 4) G 1 dX8_lies_4 rfl rfl ?_
    refine z_aload_n (pc := 5) G 0 dX8_lies_5 rfl rfl ?_
    obtain ⟨x6, hv6, hX⟩ := z_bd hX
    refine z_getI (pc := 6) G kK8 (k := 16) (by decide) kt_440 dX8_lies_6 hv6 ?_
    refine z_icmp_lt (pc := 9) (tgt := 17) G dX8_lies_9 (by decide) (fun hc9 => ?_) (fun hc9 => ?_)
    · have hX := z_it hc9 hX
      refine z_aload_n (pc := 17) G 0 dX8_lies_17 rfl rfl ?_
      obtain ⟨x18, hv18, hX⟩ := z_bd hX
      refine z_getR (pc := 18) G kK8 (k := 15) (by decide) kt_439 dX8_lies_18 hv18 ?_
      refine z_iload_n (pc := 21) G 1 dX8_lies_21 rfl rfl ?_
      obtain ⟨x22, hv22, hX⟩ := z_bd hX
      refine z_iald (pc := 22) G dX8_lies_22 hv22 ?_
      exact z_iretX (pc := 23) hX G hr dX8_lies_23 (by decide) (by decide)
    · have hX := z_if hc9 hX
      refine z_bipush (pc := 12) (v := (-2)) G dX8_lies_12 (by decide) ?_
      refine z_goto (pc := 14) (tgt := 23) G dX8_lies_14 (by decide) ?_
      exact z_iretX (pc := 23) hX G hr dX8_lies_23 (by decide) (by decide)
theorem dX8_seen_0 : decode cX8_seen 0 = .ok (.aload_n 0, 1) := by decide +kernel
theorem dX8_seen_1 : decode cX8_seen 1 = .ok (.getfield 74, 3) := by decide +kernel
theorem dX8_seen_4 : decode cX8_seen 4 = .ok (.iload_n 1, 1) := by decide +kernel
theorem dX8_seen_5 : decode cX8_seen 5 = .ok (.iload_n 2, 1) := by decide +kernel
theorem dX8_seen_6 : decode cX8_seen 6 = .ok (.iload_n 3, 1) := by decide +kernel
theorem dX8_seen_7 : decode cX8_seen 7 = .ok (.aload_n 0, 1) := by decide +kernel
theorem dX8_seen_8 : decode cX8_seen 8 = .ok (.getfield 312, 3) := by decide +kernel
theorem dX8_seen_11 : decode cX8_seen 11 = .ok (.invokevirtual 315, 3) := by decide +kernel
theorem dX8_seen_14 : decode cX8_seen 14 = .ok (.ireturn, 1) := by decide +kernel
theorem ydX8_seen : z_yd yX8_seen 3 := ⟨by decide, by decide, by decide +kernel⟩
abbrev rmX8_seen : Room := { frames := 2, cells := 0, slots := 0, locals := 46 }
noncomputable def xX8_seen (l0 : Nat) (l1 : Int32) (l2 : Int32) (l3 : Int32) (h : ZH) : Option (Int32 × ZH) := ((z_gR h l0 8 12).bind fun x1 => ((z_gI h l0 8 17).bind fun x8 => (z_gu (z_is h x1 4) ((xX4_tell x1 l1 l2 l3 x8 h).bind fun r11 => some (r11.1, r11.2)))))
set_option maxHeartbeats 4000000 in
set_option maxRecDepth 100000 in
theorem lX8_seen {Γ : ZG} {l : Launch} (hO : z_OK Γ) {l0 : Nat} {l1 : Int32} {l2 : Int32} {l3 : Int32} {h : ZH} {r : (Int32 × ZH)} (hX : xX8_seen l0 l1 l2 l3 h = some r) : z_M Γ l yX8_seen (z_ws1 yX8_seen cX8_seen 4 (some .int)) rmX8_seen [.ref l0, .int l1, .int l2, .int l3] h (some (.int r.1)) r.2 := by
  refine z_start hO (plainFor_of_name (by decide)) (Nat.le_of_ble_eq_true rfl) ?_
  intro p e s m args below meth c G hr hnm
  refine z_lvc (lv2 := [(0, .ref l0), (1, .int l1), (2, .int l2), (3, .int l3)]) rfl ?_
  refine z_aload_n (pc := 0) G 0 dX8_seen_0 rfl rfl ?_
  obtain ⟨x1, hv1, hX⟩ := z_bd hX
  refine z_getR (pc := 1) G kK8 (k := 12) (by decide) kt_436 dX8_seen_1 hv1 ?_
  refine z_iload_n (pc := 4) G 1 dX8_seen_4 rfl rfl ?_
  refine z_iload_n (pc := 5) G 2 dX8_seen_5 rfl rfl ?_
  refine z_iload_n (pc := 6) G 3 dX8_seen_6 rfl rfl ?_
  refine z_aload_n (pc := 7) G 0 dX8_seen_7 rfl rfl ?_
  obtain ⟨x8, hv8, hX⟩ := z_bd hX
  refine z_getI (pc := 8) G kK8 (k := 17) (by decide) kt_441 dX8_seen_8 hv8 ?_
  obtain ⟨hi11, hX⟩ := z_gu_s hX
  obtain ⟨r11, hv11, hX⟩ := z_bd hX
  refine z_cVI (pc := 11) (As := [.int l1, .int l2, .int l3, .int x8]) (c2 := 0) (s2 := 0) G kK4 (lX4_tell hO hv11) hi11 kt_1134 kt_9 kt_1131 kt_1132 kt_1133 ydX4_tell ⟨by decide, by decide⟩ rfl (Nat.le_of_ble_eq_true rfl) ⟨rfl, rfl⟩ ⟨by decide, by decide⟩ rfl dX8_seen_11 ?_
  exact z_iretX (pc := 14) hX G hr dX8_seen_14 (by decide) (by decide)
theorem dX8_untell_0 : decode cX8_untell 0 = .ok (.aload_n 0, 1) := by decide +kernel
theorem dX8_untell_1 : decode cX8_untell 1 = .ok (.getfield 74, 3) := by decide +kernel
theorem dX8_untell_4 : decode cX8_untell 4 = .ok (.iload_n 1, 1) := by decide +kernel
theorem dX8_untell_5 : decode cX8_untell 5 = .ok (.aload_n 0, 1) := by decide +kernel
theorem dX8_untell_6 : decode cX8_untell 6 = .ok (.getfield 312, 3) := by decide +kernel
theorem dX8_untell_9 : decode cX8_untell 9 = .ok (.invokevirtual 319, 3) := by decide +kernel
theorem dX8_untell_12 : decode cX8_untell 12 = .ok (.ireturn, 1) := by decide +kernel
theorem ydX8_untell : z_yd yX8_untell 1 := ⟨by decide, by decide, by decide +kernel⟩
abbrev rmX8_untell : Room := { frames := 1, cells := 0, slots := 0, locals := 22 }
noncomputable def xX8_untell (l0 : Nat) (l1 : Int32) (h : ZH) : Option (Int32 × ZH) := ((z_gR h l0 8 12).bind fun x1 => ((z_gI h l0 8 17).bind fun x6 => (z_gu (z_is h x1 4) ((xX4_takeBack x1 l1 x6 h).bind fun r9 => z_zr r9.1 r9.2))))
set_option maxHeartbeats 4000000 in
set_option maxRecDepth 100000 in
theorem lX8_untell {Γ : ZG} {l : Launch} (hO : z_OK Γ) {l0 : Nat} {l1 : Int32} {h : ZH} {r : (Int32 × ZH)} (hX : xX8_untell l0 l1 h = some r) : z_M Γ l yX8_untell (z_ws1 yX8_untell cX8_untell 2 (some .boolean)) rmX8_untell [.ref l0, .int l1] h (some (.int r.1)) r.2 := by
  refine z_start hO (plainFor_of_name (by decide)) (Nat.le_of_ble_eq_true rfl) ?_
  intro p e s m args below meth c G hr hnm
  refine z_lvc (lv2 := [(0, .ref l0), (1, .int l1)]) rfl ?_
  refine z_aload_n (pc := 0) G 0 dX8_untell_0 rfl rfl ?_
  obtain ⟨x1, hv1, hX⟩ := z_bd hX
  refine z_getR (pc := 1) G kK8 (k := 12) (by decide) kt_436 dX8_untell_1 hv1 ?_
  refine z_iload_n (pc := 4) G 1 dX8_untell_4 rfl rfl ?_
  refine z_aload_n (pc := 5) G 0 dX8_untell_5 rfl rfl ?_
  obtain ⟨x6, hv6, hX⟩ := z_bd hX
  refine z_getI (pc := 6) G kK8 (k := 17) (by decide) kt_441 dX8_untell_6 hv6 ?_
  obtain ⟨hi9, hX⟩ := z_gu_s hX
  obtain ⟨r9, hv9, hX⟩ := z_bd hX
  refine z_cVI (pc := 9) (As := [.int l1, .int x6]) (c2 := 0) (s2 := 0) G kK4 (lX4_takeBack hO hv9) hi9 kt_1143 kt_9 kt_1140 kt_1141 kt_1142 ydX4_takeBack ⟨by decide, by decide⟩ rfl (Nat.le_of_ble_eq_true rfl) ⟨rfl, rfl⟩ ⟨by decide, by decide⟩ rfl dX8_untell_9 ?_
  exact z_zretY (pc := 12) hX G hr dX8_untell_12 (by decide) (by decide)
theorem dX8_later_0 : decode cX8_later 0 = .ok (.iload_n 1, 1) := by decide +kernel
theorem dX8_later_1 : decode cX8_later 1 = .ok (.ifCond .lt 22, 3) := by decide +kernel
theorem dX8_later_4 : decode cX8_later 4 = .ok (.iload_n 1, 1) := by decide +kernel
theorem dX8_later_5 : decode cX8_later 5 = .ok (.sipush 1000, 3) := by decide +kernel
theorem dX8_later_8 : decode cX8_later 8 = .ok (.if_icmp .gt 15, 3) := by decide +kernel
theorem dX8_later_11 : decode cX8_later 11 = .ok (.aload_n 0, 1) := by decide +kernel
theorem dX8_later_12 : decode cX8_later 12 = .ok (.getfield 312, 3) := by decide +kernel
theorem dX8_later_15 : decode cX8_later 15 = .ok (.iload_n 1, 1) := by decide +kernel
theorem dX8_later_16 : decode cX8_later 16 = .ok (.iadd, 1) := by decide +kernel
theorem dX8_later_17 : decode cX8_later 17 = .ok (.ldc_w 321, 3) := by decide +kernel
theorem dX8_later_20 : decode cX8_later 20 = .ok (.if_icmp .le 5, 3) := by decide +kernel
theorem dX8_later_23 : decode cX8_later 23 = .ok (.iconst (-1), 1) := by decide +kernel
theorem dX8_later_24 : decode cX8_later 24 = .ok (.ireturn, 1) := by decide +kernel
theorem dX8_later_25 : decode cX8_later 25 = .ok (.aload_n 0, 1) := by decide +kernel
theorem dX8_later_26 : decode cX8_later 26 = .ok (.dup, 1) := by decide +kernel
theorem dX8_later_27 : decode cX8_later 27 = .ok (.getfield 312, 3) := by decide +kernel
theorem dX8_later_30 : decode cX8_later 30 = .ok (.iload_n 1, 1) := by decide +kernel
theorem dX8_later_31 : decode cX8_later 31 = .ok (.iadd, 1) := by decide +kernel
theorem dX8_later_32 : decode cX8_later 32 = .ok (.putfield 312, 3) := by decide +kernel
theorem dX8_later_35 : decode cX8_later 35 = .ok (.aload_n 0, 1) := by decide +kernel
theorem dX8_later_36 : decode cX8_later 36 = .ok (.getfield 312, 3) := by decide +kernel
theorem dX8_later_39 : decode cX8_later 39 = .ok (.ireturn, 1) := by decide +kernel
theorem ydX8_later : z_yd yX8_later 1 := ⟨by decide, by decide, by decide +kernel⟩
abbrev rmX8_later : Room := { frames := 0, cells := 0, slots := 0, locals := 0 }
noncomputable def xX8_later (l0 : Nat) (l1 : Int32) (h : ZH) : Option (Int32 × ZH) := (if l1 < 0 then some ((-1 : Int32), h) else (if (1000 : Int32) < l1 then some ((-1 : Int32), h) else ((z_gI h l0 8 17).bind fun x12 => (if (x12 + l1) ≤ (100000 : Int32) then ((z_gI h l0 8 17).bind fun x27 => ((z_sF h l0 8 17 (.int (x27 + l1))).bind fun h32 => ((z_gI h32 l0 8 17).bind fun x36 => some (x36, h32)))) else some ((-1 : Int32), h)))))
set_option maxHeartbeats 4000000 in
set_option maxRecDepth 100000 in
theorem lX8_later {Γ : ZG} {l : Launch} (hO : z_OK Γ) {l0 : Nat} {l1 : Int32} {h : ZH} {r : (Int32 × ZH)} (hX : xX8_later l0 l1 h = some r) : z_M Γ l yX8_later (z_ws1 yX8_later cX8_later 2 (some .int)) rmX8_later [.ref l0, .int l1] h (some (.int r.1)) r.2 := by
  refine z_start hO (plainFor_of_name (by decide)) (Nat.le_of_ble_eq_true rfl) ?_
  intro p e s m args below meth c G hr hnm
  refine z_lvc (lv2 := [(0, .ref l0), (1, .int l1)]) rfl ?_
  refine z_iload_n (pc := 0) G 1 dX8_later_0 rfl rfl ?_
  refine z_if_lt (pc := 1) (tgt := 23) G dX8_later_1 (by decide) (fun hc1 => ?_) (fun hc1 => ?_)
  · have hX := z_it hc1 hX
    refine z_iconst (pc := 23) (v := (-1)) G dX8_later_23 (by decide) ?_
    exact z_iretX (pc := 24) hX G hr dX8_later_24 (by decide) (by decide)
  · have hX := z_if hc1 hX
    refine z_iload_n (pc := 4) G 1 dX8_later_4 rfl rfl ?_
    refine z_sipush (pc := 5) (v := 1000) G dX8_later_5 (by decide) ?_
    refine z_icmp_gt (pc := 8) (tgt := 23) G dX8_later_8 (by decide) (fun hc8 => ?_) (fun hc8 => ?_)
    · have hX := z_it hc8 hX
      refine z_iconst (pc := 23) (v := (-1)) G dX8_later_23 (by decide) ?_
      exact z_iretX (pc := 24) hX G hr dX8_later_24 (by decide) (by decide)
    · have hX := z_if hc8 hX
      refine z_aload_n (pc := 11) G 0 dX8_later_11 rfl rfl ?_
      obtain ⟨x12, hv12, hX⟩ := z_bd hX
      refine z_getI (pc := 12) G kK8 (k := 17) (by decide) kt_441 dX8_later_12 hv12 ?_
      refine z_iload_n (pc := 15) G 1 dX8_later_15 rfl rfl ?_
      refine z_iadd (pc := 16) G dX8_later_16 ?_
      refine z_ldcw (pc := 17) G kt_1148 dX8_later_17 ?_
      refine z_icmp_le (pc := 20) (tgt := 25) G dX8_later_20 (by decide) (fun hc20 => ?_) (fun hc20 => ?_)
      · have hX := z_it hc20 hX
        refine z_aload_n (pc := 25) G 0 dX8_later_25 rfl rfl ?_
        refine z_dup (pc := 26) G dX8_later_26 rfl ?_
        obtain ⟨x27, hv27, hX⟩ := z_bd hX
        refine z_getI (pc := 27) G kK8 (k := 17) (by decide) kt_441 dX8_later_27 hv27 ?_
        refine z_iload_n (pc := 30) G 1 dX8_later_30 rfl rfl ?_
        refine z_iadd (pc := 31) G dX8_later_31 ?_
        obtain ⟨h32, hv32, hX⟩ := z_bd hX
        refine z_putF (pc := 32) G kK8 (k := 17) (by decide) kt_441 (Or.inl rfl) rfl rfl dX8_later_32 hv32 ?_
        refine z_aload_n (pc := 35) G 0 dX8_later_35 rfl rfl ?_
        obtain ⟨x36, hv36, hX⟩ := z_bd hX
        refine z_getI (pc := 36) G kK8 (k := 17) (by decide) kt_441 dX8_later_36 hv36 ?_
        exact z_iretX (pc := 39) hX G hr dX8_later_39 (by decide) (by decide)
      · have hX := z_if hc20 hX
        refine z_iconst (pc := 23) (v := (-1)) G dX8_later_23 (by decide) ?_
        exact z_iretX (pc := 24) hX G hr dX8_later_24 (by decide) (by decide)
theorem dX8_fits_0 : decode cX8_fits 0 = .ok (.aload_n 0, 1) := by decide +kernel
theorem dX8_fits_1 : decode cX8_fits 1 = .ok (.getfield 74, 3) := by decide +kernel
theorem dX8_fits_4 : decode cX8_fits 4 = .ok (.iload_n 1, 1) := by decide +kernel
theorem dX8_fits_5 : decode cX8_fits 5 = .ok (.invokevirtual 322, 3) := by decide +kernel
theorem dX8_fits_8 : decode cX8_fits 8 = .ok (.ireturn, 1) := by decide +kernel
theorem ydX8_fits : z_yd yX8_fits 1 := ⟨by decide, by decide, by decide +kernel⟩
abbrev rmX8_fits : Room := { frames := 4, cells := 0, slots := 0, locals := 95 }
noncomputable def xX8_fits (l0 : Nat) (l1 : Int32) (h : ZH) : Option (Int32 × ZH) := ((z_gR h l0 8 12).bind fun x1 => (z_gu (z_is h x1 4) ((xX4_sift x1 l1 h).bind fun r5 => some (r5.1, r5.2))))
set_option maxHeartbeats 4000000 in
set_option maxRecDepth 100000 in
theorem lX8_fits {Γ : ZG} {l : Launch} (hO : z_OK Γ) {l0 : Nat} {l1 : Int32} {h : ZH} {r : (Int32 × ZH)} (hX : xX8_fits l0 l1 h = some r) : z_M Γ l yX8_fits (z_ws1 yX8_fits cX8_fits 2 (some .int)) rmX8_fits [.ref l0, .int l1] h (some (.int r.1)) r.2 := by
  refine z_start hO (plainFor_of_name (by decide)) (Nat.le_of_ble_eq_true rfl) ?_
  intro p e s m args below meth c G hr hnm
  refine z_lvc (lv2 := [(0, .ref l0), (1, .int l1)]) rfl ?_
  refine z_aload_n (pc := 0) G 0 dX8_fits_0 rfl rfl ?_
  obtain ⟨x1, hv1, hX⟩ := z_bd hX
  refine z_getR (pc := 1) G kK8 (k := 12) (by decide) kt_436 dX8_fits_1 hv1 ?_
  refine z_iload_n (pc := 4) G 1 dX8_fits_4 rfl rfl ?_
  obtain ⟨hi5, hX⟩ := z_gu_s hX
  obtain ⟨r5, hv5, hX⟩ := z_bd hX
  refine z_cVI (pc := 5) (As := [.int l1]) (c2 := 0) (s2 := 0) G kK4 (lX4_sift hO hv5) hi5 kt_1156 kt_9 kt_1153 kt_1154 kt_1155 ydX4_sift ⟨by decide, by decide⟩ rfl (Nat.le_of_ble_eq_true rfl) ⟨rfl, rfl⟩ ⟨by decide, by decide⟩ rfl dX8_fits_5 ?_
  exact z_iretX (pc := 8) hX G hr dX8_fits_8 (by decide) (by decide)
theorem dX8_sure_0 : decode cX8_sure 0 = .ok (.iload_n 1, 1) := by decide +kernel
theorem dX8_sure_1 : decode cX8_sure 1 = .ok (.ifCond .eq 10, 3) := by decide +kernel
theorem dX8_sure_4 : decode cX8_sure 4 = .ok (.iload_n 1, 1) := by decide +kernel
theorem dX8_sure_5 : decode cX8_sure 5 = .ok (.iconst 1, 1) := by decide +kernel
theorem dX8_sure_6 : decode cX8_sure 6 = .ok (.if_icmp .eq 5, 3) := by decide +kernel
theorem dX8_sure_9 : decode cX8_sure 9 = .ok (.iconst (-1), 1) := by decide +kernel
theorem dX8_sure_10 : decode cX8_sure 10 = .ok (.ireturn, 1) := by decide +kernel
theorem dX8_sure_11 : decode cX8_sure 11 = .ok (.aload_n 0, 1) := by decide +kernel
theorem dX8_sure_12 : decode cX8_sure 12 = .ok (.getfield 74, 3) := by decide +kernel
theorem dX8_sure_15 : decode cX8_sure 15 = .ok (.iload_n 2, 1) := by decide +kernel
theorem dX8_sure_16 : decode cX8_sure 16 = .ok (.invokevirtual 322, 3) := by decide +kernel
theorem dX8_sure_19 : decode cX8_sure 19 = .ok (.pop, 1) := by decide +kernel
theorem dX8_sure_20 : decode cX8_sure 20 = .ok (.iload_n 1, 1) := by decide +kernel
theorem dX8_sure_21 : decode cX8_sure 21 = .ok (.ifCond .ne 13, 3) := by decide +kernel
theorem dX8_sure_24 : decode cX8_sure 24 = .ok (.aload_n 0, 1) := by decide +kernel
theorem dX8_sure_25 : decode cX8_sure 25 = .ok (.getfield 74, 3) := by decide +kernel
theorem dX8_sure_28 : decode cX8_sure 28 = .ok (.invokevirtual 325, 3) := by decide +kernel
theorem dX8_sure_31 : decode cX8_sure 31 = .ok (.goto 10, 3) := by decide +kernel
theorem dX8_sure_34 : decode cX8_sure 34 = .ok (.aload_n 0, 1) := by decide +kernel
theorem dX8_sure_35 : decode cX8_sure 35 = .ok (.getfield 74, 3) := by decide +kernel
theorem dX8_sure_38 : decode cX8_sure 38 = .ok (.invokevirtual 328, 3) := by decide +kernel
theorem dX8_sure_41 : decode cX8_sure 41 = .ok (.ireturn, 1) := by decide +kernel
theorem ydX8_sure : z_yd yX8_sure 2 := ⟨by decide, by decide, by decide +kernel⟩
abbrev rmX8_sure : Room := { frames := 4, cells := 0, slots := 0, locals := 95 }
noncomputable def xX8_sure_B11 (l0 : Nat) (l1 : Int32) (l2 : Int32) (h : ZH) : Option (Int32 × ZH) := ((z_gR h l0 8 12).bind fun x12 => (z_gu (z_is h x12 4) ((xX4_sift x12 l2 h).bind fun r16 => (if l1 = 0 then ((z_gR r16.2 l0 8 12).bind fun x25 => (z_gu (z_is r16.2 x25 4) ((xX4_least x25 r16.2).bind fun r28 => some (r28.1, r28.2)))) else ((z_gR r16.2 l0 8 12).bind fun x35 => (z_gu (z_is r16.2 x35 4) ((xX4_greatest x35 r16.2).bind fun r38 => some (r38.1, r38.2))))))))
set_option maxHeartbeats 4000000 in
set_option maxRecDepth 100000 in
theorem wX8_sure_B11 {Γ : ZG} {p : Program} {l : Launch} {e : Env} {s : State} {m : MethodId} {args : Array Value} {below : List Frame} {meth : Method} {c : Code} (hO : z_OK Γ) (G : z_GG Γ p s m args meth c cX8_sure 3 RX8) (hr : meth.sig.returnType = (some .int)) (hnm : meth.name = "sure") {r : (Int32 × ZH)} : ∀ (l0 : Nat) (l1 : Int32) (l2 : Int32) (h : ZH), xX8_sure_B11  l0 l1 l2 h = some r → z_W Γ p l e rmX8_sure s m args below meth c 3 0 0 (MQ below (z_Qc Γ (some (.int r.1)) r.2) args s rmX8_sure.cells rmX8_sure.slots (z_A Γ)) 11 [(0, .ref l0), (1, .int l1), (2, .int l2)] [] h := by
  intro l0 l1 l2 h hX
  refine z_aload_n (pc := 11) G 0 dX8_sure_11 rfl rfl ?_
  obtain ⟨x12, hv12, hX⟩ := z_bd hX
  refine z_getR (pc := 12) G kK8 (k := 12) (by decide) kt_436 dX8_sure_12 hv12 ?_
  refine z_iload_n (pc := 15) G 2 dX8_sure_15 rfl rfl ?_
  obtain ⟨hi16, hX⟩ := z_gu_s hX
  obtain ⟨r16, hv16, hX⟩ := z_bd hX
  refine z_cVI (pc := 16) (As := [.int l2]) (c2 := 0) (s2 := 0) G kK4 (lX4_sift hO hv16) hi16 kt_1156 kt_9 kt_1153 kt_1154 kt_1155 ydX4_sift ⟨by decide, by decide⟩ rfl (Nat.le_of_ble_eq_true rfl) ⟨rfl, rfl⟩ ⟨by decide, by decide⟩ rfl dX8_sure_16 ?_
  refine z_pop (pc := 19) G dX8_sure_19 rfl ?_
  refine z_iload_n (pc := 20) G 1 dX8_sure_20 rfl rfl ?_
  refine z_if_ne (pc := 21) (tgt := 34) G dX8_sure_21 (by decide) (fun hc21 => ?_) (fun hc21 => ?_)
  · have hX := z_if hc21 hX
    refine z_aload_n (pc := 34) G 0 dX8_sure_34 rfl rfl ?_
    obtain ⟨x35, hv35, hX⟩ := z_bd hX
    refine z_getR (pc := 35) G kK8 (k := 12) (by decide) kt_436 dX8_sure_35 hv35 ?_
    obtain ⟨hi38, hX⟩ := z_gu_s hX
    obtain ⟨r38, hv38, hX⟩ := z_bd hX
    refine z_cVI (pc := 38) (As := []) (c2 := 0) (s2 := 0) G kK4 (lX4_greatest hO hv38) hi38 kt_1178 kt_9 kt_1175 kt_1176 kt_1177 ydX4_greatest ⟨by decide, by decide⟩ rfl (Nat.le_of_ble_eq_true rfl) ⟨rfl, rfl⟩ ⟨by decide, by decide⟩ rfl dX8_sure_38 ?_
    exact z_iretX (pc := 41) hX G hr dX8_sure_41 (by decide) (by decide)
  · have hX := z_it hc21 hX
    refine z_aload_n (pc := 24) G 0 dX8_sure_24 rfl rfl ?_
    obtain ⟨x25, hv25, hX⟩ := z_bd hX
    refine z_getR (pc := 25) G kK8 (k := 12) (by decide) kt_436 dX8_sure_25 hv25 ?_
    obtain ⟨hi28, hX⟩ := z_gu_s hX
    obtain ⟨r28, hv28, hX⟩ := z_bd hX
    refine z_cVI (pc := 28) (As := []) (c2 := 0) (s2 := 0) G kK4 (lX4_least hO hv28) hi28 kt_1174 kt_9 kt_1171 kt_1172 kt_1173 ydX4_least ⟨by decide, by decide⟩ rfl (Nat.le_of_ble_eq_true rfl) ⟨rfl, rfl⟩ ⟨by decide, by decide⟩ rfl dX8_sure_28 ?_
    refine z_goto (pc := 31) (tgt := 41) G dX8_sure_31 (by decide) ?_
    exact z_iretX (pc := 41) hX G hr dX8_sure_41 (by decide) (by decide)
noncomputable def xX8_sure (l0 : Nat) (l1 : Int32) (l2 : Int32) (h : ZH) : Option (Int32 × ZH) := (if l1 = 0 then xX8_sure_B11 l0 l1 l2 h else (if l1 = (1 : Int32) then xX8_sure_B11 l0 l1 l2 h else some ((-1 : Int32), h)))
set_option maxHeartbeats 4000000 in
set_option maxRecDepth 100000 in
theorem lX8_sure {Γ : ZG} {l : Launch} (hO : z_OK Γ) {l0 : Nat} {l1 : Int32} {l2 : Int32} {h : ZH} {r : (Int32 × ZH)} (hX : xX8_sure l0 l1 l2 h = some r) : z_M Γ l yX8_sure (z_ws1 yX8_sure cX8_sure 3 (some .int)) rmX8_sure [.ref l0, .int l1, .int l2] h (some (.int r.1)) r.2 := by
  refine z_start hO (plainFor_of_name (by decide)) (Nat.le_of_ble_eq_true rfl) ?_
  intro p e s m args below meth c G hr hnm
  refine z_lvc (lv2 := [(0, .ref l0), (1, .int l1), (2, .int l2)]) rfl ?_
  refine z_iload_n (pc := 0) G 1 dX8_sure_0 rfl rfl ?_
  refine z_if_eq (pc := 1) (tgt := 11) G dX8_sure_1 (by decide) (fun hc1 => ?_) (fun hc1 => ?_)
  · have hX := z_it hc1 hX
    exact wX8_sure_B11 hO G hr hnm _ _ _ _ hX
  · have hX := z_if hc1 hX
    refine z_iload_n (pc := 4) G 1 dX8_sure_4 rfl rfl ?_
    refine z_iconst (pc := 5) (v := 1) G dX8_sure_5 (by decide) ?_
    refine z_icmp_eq (pc := 6) (tgt := 11) G dX8_sure_6 (by decide) (fun hc6 => ?_) (fun hc6 => ?_)
    · have hX := z_it hc6 hX
      exact wX8_sure_B11 hO G hr hnm _ _ _ _ hX
    · have hX := z_if hc6 hX
      refine z_iconst (pc := 9) (v := (-1)) G dX8_sure_9 (by decide) ?_
      exact z_iretX (pc := 10) hX G hr dX8_sure_10 (by decide) (by decide)
theorem dX8_ask_0 : decode cX8_ask 0 = .ok (.aload_n 0, 1) := by decide +kernel
theorem dX8_ask_1 : decode cX8_ask 1 = .ok (.getfield 27, 3) := by decide +kernel
theorem dX8_ask_4 : decode cX8_ask 4 = .ok (.iload_n 1, 1) := by decide +kernel
theorem dX8_ask_5 : decode cX8_ask 5 = .ok (.invokevirtual 127, 3) := by decide +kernel
theorem dX8_ask_8 : decode cX8_ask 8 = .ok (.ifCond .eq 16, 3) := by decide +kernel
theorem dX8_ask_11 : decode cX8_ask 11 = .ok (.iload_n 1, 1) := by decide +kernel
theorem dX8_ask_12 : decode cX8_ask 12 = .ok (.aload_n 0, 1) := by decide +kernel
theorem dX8_ask_13 : decode cX8_ask 13 = .ok (.getfield 27, 3) := by decide +kernel
theorem dX8_ask_16 : decode cX8_ask 16 = .ok (.getfield 124, 3) := by decide +kernel
theorem dX8_ask_19 : decode cX8_ask 19 = .ok (.iconst 1, 1) := by decide +kernel
theorem dX8_ask_20 : decode cX8_ask 20 = .ok (.isub, 1) := by decide +kernel
theorem dX8_ask_21 : decode cX8_ask 21 = .ok (.if_icmp .ne 5, 3) := by decide +kernel
theorem dX8_ask_24 : decode cX8_ask 24 = .ok (.iconst (-1), 1) := by decide +kernel
theorem dX8_ask_25 : decode cX8_ask 25 = .ok (.ireturn, 1) := by decide +kernel
theorem dX8_ask_26 : decode cX8_ask 26 = .ok (.iload_n 2, 1) := by decide +kernel
theorem dX8_ask_27 : decode cX8_ask 27 = .ok (.ifCond .eq 10, 3) := by decide +kernel
theorem dX8_ask_30 : decode cX8_ask 30 = .ok (.iload_n 2, 1) := by decide +kernel
theorem dX8_ask_31 : decode cX8_ask 31 = .ok (.iconst 1, 1) := by decide +kernel
theorem dX8_ask_32 : decode cX8_ask 32 = .ok (.if_icmp .eq 5, 3) := by decide +kernel
theorem dX8_ask_35 : decode cX8_ask 35 = .ok (.iconst (-1), 1) := by decide +kernel
theorem dX8_ask_36 : decode cX8_ask 36 = .ok (.ireturn, 1) := by decide +kernel
theorem dX8_ask_37 : decode cX8_ask 37 = .ok (.aload_n 0, 1) := by decide +kernel
theorem dX8_ask_38 : decode cX8_ask 38 = .ok (.getfield 74, 3) := by decide +kernel
theorem dX8_ask_41 : decode cX8_ask 41 = .ok (.iload_n 3, 1) := by decide +kernel
theorem dX8_ask_42 : decode cX8_ask 42 = .ok (.invokevirtual 322, 3) := by decide +kernel
theorem dX8_ask_45 : decode cX8_ask 45 = .ok (.ifCond .ne 5, 3) := by decide +kernel
theorem dX8_ask_48 : decode cX8_ask 48 = .ok (.iconst (-1), 1) := by decide +kernel
theorem dX8_ask_49 : decode cX8_ask 49 = .ok (.ireturn, 1) := by decide +kernel
theorem dX8_ask_50 : decode cX8_ask 50 = .ok (.aload_n 0, 1) := by decide +kernel
theorem dX8_ask_51 : decode cX8_ask 51 = .ok (.getfield 74, 3) := by decide +kernel
theorem dX8_ask_54 : decode cX8_ask 54 = .ok (.iload_n 1, 1) := by decide +kernel
theorem dX8_ask_55 : decode cX8_ask 55 = .ok (.invokevirtual 331, 3) := by decide +kernel
theorem dX8_ask_58 : decode cX8_ask 58 = .ok (.iload_n 2, 1) := by decide +kernel
theorem dX8_ask_59 : decode cX8_ask 59 = .ok (.ifCond .ne 13, 3) := by decide +kernel
theorem dX8_ask_62 : decode cX8_ask 62 = .ok (.aload_n 0, 1) := by decide +kernel
theorem dX8_ask_63 : decode cX8_ask 63 = .ok (.getfield 74, 3) := by decide +kernel
theorem dX8_ask_66 : decode cX8_ask 66 = .ok (.getfield 334, 3) := by decide +kernel
theorem dX8_ask_69 : decode cX8_ask 69 = .ok (.goto 10, 3) := by decide +kernel
theorem dX8_ask_72 : decode cX8_ask 72 = .ok (.aload_n 0, 1) := by decide +kernel
theorem dX8_ask_73 : decode cX8_ask 73 = .ok (.getfield 74, 3) := by decide +kernel
theorem dX8_ask_76 : decode cX8_ask 76 = .ok (.getfield 337, 3) := by decide +kernel
theorem dX8_ask_79 : decode cX8_ask 79 = .ok (.ireturn, 1) := by decide +kernel
theorem ydX8_ask : z_yd yX8_ask 3 := ⟨by decide, by decide, by decide +kernel⟩
abbrev rmX8_ask : Room := { frames := 4, cells := 0, slots := 0, locals := 95 }
noncomputable def xX8_ask_B37 (l0 : Nat) (l1 : Int32) (l2 : Int32) (l3 : Int32) (h : ZH) : Option (Int32 × ZH) := ((z_gR h l0 8 12).bind fun x38 => (z_gu (z_is h x38 4) ((xX4_sift x38 l3 h).bind fun r42 => (if r42.1 = 0 then some ((-1 : Int32), r42.2) else ((z_gR r42.2 l0 8 12).bind fun x51 => (z_gu (z_is r42.2 x51 4) ((xX4_seekFrame x51 l1 r42.2).bind fun h55 => (if l2 = 0 then ((z_gR h55 l0 8 12).bind fun x63 => ((z_gI h55 x63 4 9).bind fun x66 => some (x66, h55))) else ((z_gR h55 l0 8 12).bind fun x73 => ((z_gI h55 x73 4 10).bind fun x76 => some (x76, h55)))))))))))
set_option maxHeartbeats 4000000 in
set_option maxRecDepth 100000 in
theorem wX8_ask_B37 {Γ : ZG} {p : Program} {l : Launch} {e : Env} {s : State} {m : MethodId} {args : Array Value} {below : List Frame} {meth : Method} {c : Code} (hO : z_OK Γ) (G : z_GG Γ p s m args meth c cX8_ask 4 RX8) (hr : meth.sig.returnType = (some .int)) (hnm : meth.name = "ask") {r : (Int32 × ZH)} : ∀ (l0 : Nat) (l1 : Int32) (l2 : Int32) (l3 : Int32) (h : ZH), xX8_ask_B37  l0 l1 l2 l3 h = some r → z_W Γ p l e rmX8_ask s m args below meth c 4 0 0 (MQ below (z_Qc Γ (some (.int r.1)) r.2) args s rmX8_ask.cells rmX8_ask.slots (z_A Γ)) 37 [(0, .ref l0), (1, .int l1), (2, .int l2), (3, .int l3)] [] h := by
  intro l0 l1 l2 l3 h hX
  refine z_aload_n (pc := 37) G 0 dX8_ask_37 rfl rfl ?_
  obtain ⟨x38, hv38, hX⟩ := z_bd hX
  refine z_getR (pc := 38) G kK8 (k := 12) (by decide) kt_436 dX8_ask_38 hv38 ?_
  refine z_iload_n (pc := 41) G 3 dX8_ask_41 rfl rfl ?_
  obtain ⟨hi42, hX⟩ := z_gu_s hX
  obtain ⟨r42, hv42, hX⟩ := z_bd hX
  refine z_cVI (pc := 42) (As := [.int l3]) (c2 := 0) (s2 := 0) G kK4 (lX4_sift hO hv42) hi42 kt_1156 kt_9 kt_1153 kt_1154 kt_1155 ydX4_sift ⟨by decide, by decide⟩ rfl (Nat.le_of_ble_eq_true rfl) ⟨rfl, rfl⟩ ⟨by decide, by decide⟩ rfl dX8_ask_42 ?_
  refine z_if_ne (pc := 45) (tgt := 50) G dX8_ask_45 (by decide) (fun hc45 => ?_) (fun hc45 => ?_)
  · have hX := z_if hc45 hX
    refine z_aload_n (pc := 50) G 0 dX8_ask_50 rfl rfl ?_
    obtain ⟨x51, hv51, hX⟩ := z_bd hX
    refine z_getR (pc := 51) G kK8 (k := 12) (by decide) kt_436 dX8_ask_51 hv51 ?_
    refine z_iload_n (pc := 54) G 1 dX8_ask_54 rfl rfl ?_
    obtain ⟨hi55, hX⟩ := z_gu_s hX
    obtain ⟨h55, hv55, hX⟩ := z_bd hX
    refine z_cVV (pc := 55) (As := [.int l1]) (c2 := 0) (s2 := 0) G kK4 (lX4_seekFrame hO hv55) hi55 kt_1186 kt_9 kt_1183 kt_1184 kt_1185 ydX4_seekFrame ⟨by decide, by decide⟩ rfl (Nat.le_of_ble_eq_true rfl) ⟨rfl, rfl⟩ ⟨by decide, by decide⟩ rfl dX8_ask_55 ?_
    refine z_iload_n (pc := 58) G 2 dX8_ask_58 rfl rfl ?_
    refine z_if_ne (pc := 59) (tgt := 72) G dX8_ask_59 (by decide) (fun hc59 => ?_) (fun hc59 => ?_)
    · have hX := z_if hc59 hX
      refine z_aload_n (pc := 72) G 0 dX8_ask_72 rfl rfl ?_
      obtain ⟨x73, hv73, hX⟩ := z_bd hX
      refine z_getR (pc := 73) G kK8 (k := 12) (by decide) kt_436 dX8_ask_73 hv73 ?_
      obtain ⟨x76, hv76, hX⟩ := z_bd hX
      refine z_getI (pc := 76) G kK4 (k := 10) (by decide) kt_384 dX8_ask_76 hv76 ?_
      exact z_iretX (pc := 79) hX G hr dX8_ask_79 (by decide) (by decide)
    · have hX := z_it hc59 hX
      refine z_aload_n (pc := 62) G 0 dX8_ask_62 rfl rfl ?_
      obtain ⟨x63, hv63, hX⟩ := z_bd hX
      refine z_getR (pc := 63) G kK8 (k := 12) (by decide) kt_436 dX8_ask_63 hv63 ?_
      obtain ⟨x66, hv66, hX⟩ := z_bd hX
      refine z_getI (pc := 66) G kK4 (k := 9) (by decide) kt_382 dX8_ask_66 hv66 ?_
      refine z_goto (pc := 69) (tgt := 79) G dX8_ask_69 (by decide) ?_
      exact z_iretX (pc := 79) hX G hr dX8_ask_79 (by decide) (by decide)
  · have hX := z_it hc45 hX
    refine z_iconst (pc := 48) (v := (-1)) G dX8_ask_48 (by decide) ?_
    exact z_iretX (pc := 49) hX G hr dX8_ask_49 (by decide) (by decide)
noncomputable def xX8_ask (l0 : Nat) (l1 : Int32) (l2 : Int32) (l3 : Int32) (h : ZH) : Option (Int32 × ZH) := ((z_gR h l0 8 5).bind fun x1 => (z_gu (z_is h x1 2) ((xX2_isShip x1 l1 h).bind fun r5 => (if r5.1 = 0 then some ((-1 : Int32), r5.2) else ((z_gR r5.2 l0 8 5).bind fun x13 => ((z_gI r5.2 x13 2 7).bind fun x16 => (if l1 = (x16 - (1 : Int32)) then some ((-1 : Int32), r5.2) else (if l2 = 0 then xX8_ask_B37 l0 l1 l2 l3 r5.2 else (if l2 = (1 : Int32) then xX8_ask_B37 l0 l1 l2 l3 r5.2 else some ((-1 : Int32), r5.2))))))))))
set_option maxHeartbeats 4000000 in
set_option maxRecDepth 100000 in
theorem lX8_ask {Γ : ZG} {l : Launch} (hO : z_OK Γ) {l0 : Nat} {l1 : Int32} {l2 : Int32} {l3 : Int32} {h : ZH} {r : (Int32 × ZH)} (hX : xX8_ask l0 l1 l2 l3 h = some r) : z_M Γ l yX8_ask (z_ws1 yX8_ask cX8_ask 4 (some .int)) rmX8_ask [.ref l0, .int l1, .int l2, .int l3] h (some (.int r.1)) r.2 := by
  refine z_start hO (plainFor_of_name (by decide)) (Nat.le_of_ble_eq_true rfl) ?_
  intro p e s m args below meth c G hr hnm
  refine z_lvc (lv2 := [(0, .ref l0), (1, .int l1), (2, .int l2), (3, .int l3)]) rfl ?_
  refine z_aload_n (pc := 0) G 0 dX8_ask_0 rfl rfl ?_
  obtain ⟨x1, hv1, hX⟩ := z_bd hX
  refine z_getR (pc := 1) G kK8 (k := 5) (by decide) kt_429 dX8_ask_1 hv1 ?_
  refine z_iload_n (pc := 4) G 1 dX8_ask_4 rfl rfl ?_
  obtain ⟨hi5, hX⟩ := z_gu_s hX
  obtain ⟨r5, hv5, hX⟩ := z_bd hX
  refine z_cVI (pc := 5) (As := [.int l1]) (c2 := 0) (s2 := 0) G kK2 (lX2_isShip hO hv5) hi5 kt_727 kt_3 kt_724 kt_725 kt_726 ydX2_isShip ⟨by decide, by decide⟩ rfl (Nat.le_of_ble_eq_true rfl) ⟨rfl, rfl⟩ ⟨by decide, by decide⟩ rfl dX8_ask_5 ?_
  refine z_if_eq (pc := 8) (tgt := 24) G dX8_ask_8 (by decide) (fun hc8 => ?_) (fun hc8 => ?_)
  · have hX := z_it hc8 hX
    refine z_iconst (pc := 24) (v := (-1)) G dX8_ask_24 (by decide) ?_
    exact z_iretX (pc := 25) hX G hr dX8_ask_25 (by decide) (by decide)
  · have hX := z_if hc8 hX
    refine z_iload_n (pc := 11) G 1 dX8_ask_11 rfl rfl ?_
    refine z_aload_n (pc := 12) G 0 dX8_ask_12 rfl rfl ?_
    obtain ⟨x13, hv13, hX⟩ := z_bd hX
    refine z_getR (pc := 13) G kK8 (k := 5) (by decide) kt_429 dX8_ask_13 hv13 ?_
    obtain ⟨x16, hv16, hX⟩ := z_bd hX
    refine z_getI (pc := 16) G kK2 (k := 7) (by decide) kt_71 dX8_ask_16 hv16 ?_
    refine z_iconst (pc := 19) (v := 1) G dX8_ask_19 (by decide) ?_
    refine z_isub (pc := 20) G dX8_ask_20 ?_
    refine z_icmp_ne (pc := 21) (tgt := 26) G dX8_ask_21 (by decide) (fun hc21 => ?_) (fun hc21 => ?_)
    · have hX := z_if hc21 hX
      refine z_iload_n (pc := 26) G 2 dX8_ask_26 rfl rfl ?_
      refine z_if_eq (pc := 27) (tgt := 37) G dX8_ask_27 (by decide) (fun hc27 => ?_) (fun hc27 => ?_)
      · have hX := z_it hc27 hX
        exact wX8_ask_B37 hO G hr hnm _ _ _ _ _ hX
      · have hX := z_if hc27 hX
        refine z_iload_n (pc := 30) G 2 dX8_ask_30 rfl rfl ?_
        refine z_iconst (pc := 31) (v := 1) G dX8_ask_31 (by decide) ?_
        refine z_icmp_eq (pc := 32) (tgt := 37) G dX8_ask_32 (by decide) (fun hc32 => ?_) (fun hc32 => ?_)
        · have hX := z_it hc32 hX
          exact wX8_ask_B37 hO G hr hnm _ _ _ _ _ hX
        · have hX := z_if hc32 hX
          refine z_iconst (pc := 35) (v := (-1)) G dX8_ask_35 (by decide) ?_
          exact z_iretX (pc := 36) hX G hr dX8_ask_36 (by decide) (by decide)
    · have hX := z_it hc21 hX
      refine z_iconst (pc := 24) (v := (-1)) G dX8_ask_24 (by decide) ?_
      exact z_iretX (pc := 25) hX G hr dX8_ask_25 (by decide) (by decide)
theorem dX8_image_0 : decode cX8_image 0 = .ok (.iload_n 1, 1) := by decide +kernel
theorem dX8_image_1 : decode cX8_image 1 = .ok (.ifCond .lt 8, 3) := by decide +kernel
theorem dX8_image_4 : decode cX8_image 4 = .ok (.iload_n 1, 1) := by decide +kernel
theorem dX8_image_5 : decode cX8_image 5 = .ok (.iconst 3, 1) := by decide +kernel
theorem dX8_image_6 : decode cX8_image 6 = .ok (.if_icmp .lt 5, 3) := by decide +kernel
theorem dX8_image_9 : decode cX8_image 9 = .ok (.iconst (-1), 1) := by decide +kernel
theorem dX8_image_10 : decode cX8_image 10 = .ok (.ireturn, 1) := by decide +kernel
theorem dX8_image_11 : decode cX8_image 11 = .ok (.aload_n 0, 1) := by decide +kernel
theorem dX8_image_12 : decode cX8_image 12 = .ok (.getfield 78, 3) := by decide +kernel
theorem dX8_image_15 : decode cX8_image 15 = .ok (.iload_n 1, 1) := by decide +kernel
theorem dX8_image_16 : decode cX8_image 16 = .ok (.aaload, 1) := by decide +kernel
theorem dX8_image_17 : decode cX8_image 17 = .ok (.astore_n 2, 1) := by decide +kernel
theorem dX8_image_18 : decode cX8_image 18 = .ok (.aload_n 2, 1) := by decide +kernel
theorem dX8_image_19 : decode cX8_image 19 = .ok (.ifnonnull 22, 3) := by decide +kernel
theorem dX8_image_22 : decode cX8_image 22 = .ok (.new 31, 3) := by decide +kernel
theorem dX8_image_25 : decode cX8_image 25 = .ok (.dup, 1) := by decide +kernel
theorem dX8_image_26 : decode cX8_image 26 = .ok (.aload_n 0, 1) := by decide +kernel
theorem dX8_image_27 : decode cX8_image 27 = .ok (.getfield 27, 3) := by decide +kernel
theorem dX8_image_30 : decode cX8_image 30 = .ok (.invokespecial 33, 3) := by decide +kernel
theorem dX8_image_33 : decode cX8_image 33 = .ok (.astore_n 2, 1) := by decide +kernel
theorem dX8_image_34 : decode cX8_image 34 = .ok (.aload_n 0, 1) := by decide +kernel
theorem dX8_image_35 : decode cX8_image 35 = .ok (.getfield 78, 3) := by decide +kernel
theorem dX8_image_38 : decode cX8_image 38 = .ok (.iload_n 1, 1) := by decide +kernel
theorem dX8_image_39 : decode cX8_image 39 = .ok (.aload_n 2, 1) := by decide +kernel
theorem dX8_image_40 : decode cX8_image 40 = .ok (.aastore, 1) := by decide +kernel
theorem dX8_image_41 : decode cX8_image 41 = .ok (.aload_n 2, 1) := by decide +kernel
theorem dX8_image_42 : decode cX8_image 42 = .ok (.aload_n 0, 1) := by decide +kernel
theorem dX8_image_43 : decode cX8_image 43 = .ok (.getfield 36, 3) := by decide +kernel
theorem dX8_image_46 : decode cX8_image 46 = .ok (.invokevirtual 251, 3) := by decide +kernel
theorem dX8_image_49 : decode cX8_image 49 = .ok (.aload_n 0, 1) := by decide +kernel
theorem dX8_image_50 : decode cX8_image 50 = .ok (.getfield 82, 3) := by decide +kernel
theorem dX8_image_53 : decode cX8_image 53 = .ok (.iload_n 1, 1) := by decide +kernel
theorem dX8_image_54 : decode cX8_image 54 = .ok (.iconst 1, 1) := by decide +kernel
theorem dX8_image_55 : decode cX8_image 55 = .ok (.bastore, 1) := by decide +kernel
theorem dX8_image_56 : decode cX8_image 56 = .ok (.aload_n 0, 1) := by decide +kernel
theorem dX8_image_57 : decode cX8_image 57 = .ok (.getfield 36, 3) := by decide +kernel
theorem dX8_image_60 : decode cX8_image 60 = .ok (.getfield 188, 3) := by decide +kernel
theorem dX8_image_63 : decode cX8_image 63 = .ok (.ireturn, 1) := by decide +kernel
theorem ydX8_image : z_yd yX8_image 1 := ⟨by decide, by decide, by decide +kernel⟩
abbrev rmX8_image : Room := { frames := 2, cells := 13, slots := 534, locals := 81 }
noncomputable def xX8_image_B41 (l0 : Nat) (l1 : Int32) (l2 : Nat) (h : ZH) : Option (Int32 × ZH) := ((z_gR h l0 8 6).bind fun x43 => (z_gu (z_is h l2 5) ((xX5_copy l2 x43 h).bind fun h46 => ((z_gR h46 l0 8 14).bind fun x50 => ((z_uB h46 x50 l1 (1 : Int32)).bind fun h55 => ((z_gR h55 l0 8 6).bind fun x57 => ((z_gI h55 x57 5 15).bind fun x60 => some (x60, h55))))))))
set_option maxHeartbeats 4000000 in
set_option maxRecDepth 100000 in
theorem wX8_image_B41 {Γ : ZG} {p : Program} {l : Launch} {e : Env} {s : State} {m : MethodId} {args : Array Value} {below : List Frame} {meth : Method} {c : Code} (hO : z_OK Γ) (G : z_GG Γ p s m args meth c cX8_image 3 RX8) (hr : meth.sig.returnType = (some .int)) (hnm : meth.name = "image") {r : (Int32 × ZH)} : ∀ (l0 : Nat) (l1 : Int32) (l2 : Nat) (h : ZH), xX8_image_B41  l0 l1 l2 h = some r → z_W Γ p l e rmX8_image s m args below meth c 3 13 534 (MQ below (z_Qc Γ (some (.int r.1)) r.2) args s rmX8_image.cells rmX8_image.slots (z_A Γ)) 41 [(0, .ref l0), (1, .int l1), (2, .ref l2)] [] h := by
  intro l0 l1 l2 h hX
  refine z_aload_n (pc := 41) G 2 dX8_image_41 rfl rfl ?_
  refine z_aload_n (pc := 42) G 0 dX8_image_42 rfl rfl ?_
  obtain ⟨x43, hv43, hX⟩ := z_bd hX
  refine z_getR (pc := 43) G kK8 (k := 6) (by decide) kt_430 dX8_image_43 hv43 ?_
  obtain ⟨hi46, hX⟩ := z_gu_s hX
  obtain ⟨h46, hv46, hX⟩ := z_bd hX
  refine z_cVV (pc := 46) (As := [.ref x43]) (c2 := 13) (s2 := 534) G kK5 (lX5_copy hO hv46) hi46 kt_803 kt_4 kt_973 kt_801 kt_802 ydX5_copy ⟨by decide, by decide⟩ rfl (Nat.le_of_ble_eq_true rfl) ⟨rfl, rfl⟩ ⟨by decide, by decide⟩ rfl dX8_image_46 ?_
  refine z_aload_n (pc := 49) G 0 dX8_image_49 rfl rfl ?_
  obtain ⟨x50, hv50, hX⟩ := z_bd hX
  refine z_getR (pc := 50) G kK8 (k := 14) (by decide) kt_438 dX8_image_50 hv50 ?_
  refine z_iload_n (pc := 53) G 1 dX8_image_53 rfl rfl ?_
  refine z_iconst (pc := 54) (v := 1) G dX8_image_54 (by decide) ?_
  obtain ⟨h55, hv55, hX⟩ := z_bd hX
  refine z_bast (pc := 55) G dX8_image_55 hv55 ?_
  refine z_aload_n (pc := 56) G 0 dX8_image_56 rfl rfl ?_
  obtain ⟨x57, hv57, hX⟩ := z_bd hX
  refine z_getR (pc := 57) G kK8 (k := 6) (by decide) kt_430 dX8_image_57 hv57 ?_
  obtain ⟨x60, hv60, hX⟩ := z_bd hX
  refine z_getI (pc := 60) G kK5 (k := 15) (by decide) kt_234 dX8_image_60 hv60 ?_
  exact z_iretX (pc := 63) hX G hr dX8_image_63 (by decide) (by decide)
noncomputable def xX8_image (l0 : Nat) (l1 : Int32) (h : ZH) : Option (Int32 × ZH) := (if l1 < 0 then some ((-1 : Int32), h) else (if l1 < (3 : Int32) then ((z_gR h l0 8 13).bind fun x12 => ((z_aQ h x12 l1).bind fun x16 => match x16 with | none => ((z_nw h (.inl (5, [.null, .null, .null, .null, .null, .null, .null, .null, .null, .null, .null, .null, .null, .int 0, .int 0, .int 0, .int 0, .int 0]))).bind fun q22 => ((z_gR q22.2 l0 8 5).bind fun x27 => ((xX5_init q22.1 x27 q22.2).bind fun h30 => ((z_gR h30 l0 8 13).bind fun x35 => ((z_uQ h30 x35 l1 q22.1).bind fun h40 => xX8_image_B41 l0 l1 q22.1 h40))))) | some y16 => xX8_image_B41 l0 l1 y16 h)) else some ((-1 : Int32), h)))
set_option maxHeartbeats 4000000 in
set_option maxRecDepth 100000 in
theorem lX8_image {Γ : ZG} {l : Launch} (hO : z_OK Γ) {l0 : Nat} {l1 : Int32} {h : ZH} {r : (Int32 × ZH)} (hX : xX8_image l0 l1 h = some r) : z_M Γ l yX8_image (z_ws1 yX8_image cX8_image 3 (some .int)) rmX8_image [.ref l0, .int l1] h (some (.int r.1)) r.2 := by
  refine z_start hO (plainFor_of_name (by decide)) (Nat.le_of_ble_eq_true rfl) ?_
  intro p e s m args below meth c G hr hnm
  refine z_lvc (lv2 := [(0, .ref l0), (1, .int l1)]) rfl ?_
  refine z_iload_n (pc := 0) G 1 dX8_image_0 rfl rfl ?_
  refine z_if_lt (pc := 1) (tgt := 9) G dX8_image_1 (by decide) (fun hc1 => ?_) (fun hc1 => ?_)
  · have hX := z_it hc1 hX
    refine z_iconst (pc := 9) (v := (-1)) G dX8_image_9 (by decide) ?_
    exact z_iretX (pc := 10) hX G hr dX8_image_10 (by decide) (by decide)
  · have hX := z_if hc1 hX
    refine z_iload_n (pc := 4) G 1 dX8_image_4 rfl rfl ?_
    refine z_iconst (pc := 5) (v := 3) G dX8_image_5 (by decide) ?_
    refine z_icmp_lt (pc := 6) (tgt := 11) G dX8_image_6 (by decide) (fun hc6 => ?_) (fun hc6 => ?_)
    · have hX := z_it hc6 hX
      refine z_aload_n (pc := 11) G 0 dX8_image_11 rfl rfl ?_
      obtain ⟨x12, hv12, hX⟩ := z_bd hX
      refine z_getR (pc := 12) G kK8 (k := 13) (by decide) kt_437 dX8_image_12 hv12 ?_
      refine z_iload_n (pc := 15) G 1 dX8_image_15 rfl rfl ?_
      obtain ⟨x16, hv16, hX⟩ := z_bd hX
      refine z_aald (pc := 16) G dX8_image_16 hv16 ?_
      cases x16 with
      | none =>
        refine z_astore_nN (pc := 17) (lv2 := [(0, .ref l0), (1, .int l1), (2, .null)]) G dX8_image_17 rfl (by decide) rfl rfl ?_
        refine z_aload_nN (pc := 18) G 2 dX8_image_18 rfl rfl ?_
        refine z_ifnonnullN (pc := 19) G dX8_image_19 ?_
        obtain ⟨q22, hv22, hX⟩ := z_bd hX
        refine z_nO (pc := 22) (c2 := 1) (s2 := 18) G kK5 kt_182 kt_183 kt_4 (fun j hj => by rcases (show j = 0 ∨ j = 1 ∨ j = 2 ∨ j = 3 ∨ j = 4 ∨ j = 5 ∨ j = 6 ∨ j = 7 ∨ j = 8 ∨ j = 9 ∨ j = 10 ∨ j = 11 ∨ j = 12 ∨ j = 13 ∨ j = 14 ∨ j = 15 ∨ j = 16 ∨ j = 17 by omega) with rfl | rfl | rfl | rfl | rfl | rfl | rfl | rfl | rfl | rfl | rfl | rfl | rfl | rfl | rfl | rfl | rfl | rfl <;> rfl) ⟨rfl, rfl⟩ ⟨by decide, by decide⟩ dX8_image_22 hv22 ?_
        refine z_dup (pc := 25) G dX8_image_25 rfl ?_
        refine z_aload_n (pc := 26) G 0 dX8_image_26 rfl rfl ?_
        obtain ⟨x27, hv27, hX⟩ := z_bd hX
        refine z_getR (pc := 27) G kK8 (k := 5) (by decide) kt_429 dX8_image_27 hv27 ?_
        obtain ⟨h30, hv30, hX⟩ := z_bd hX
        refine z_cI (pc := 30) (As := [.ref x27]) (c2 := 13) (s2 := 534) G (lX5_init hO hv30) kt_186 kt_4 kt_184 kt_185 rfl ydX5_init ⟨by decide, by decide⟩ rfl (Nat.le_of_ble_eq_true rfl) ⟨rfl, rfl⟩ ⟨by decide, by decide⟩ rfl dX8_image_30 ?_
        refine z_astore_n (pc := 33) (lv2 := [(0, .ref l0), (1, .int l1), (2, .ref q22.1)]) G dX8_image_33 rfl (by decide) rfl rfl ?_
        refine z_aload_n (pc := 34) G 0 dX8_image_34 rfl rfl ?_
        obtain ⟨x35, hv35, hX⟩ := z_bd hX
        refine z_getR (pc := 35) G kK8 (k := 13) (by decide) kt_437 dX8_image_35 hv35 ?_
        refine z_iload_n (pc := 38) G 1 dX8_image_38 rfl rfl ?_
        refine z_aload_n (pc := 39) G 2 dX8_image_39 rfl rfl ?_
        obtain ⟨h40, hv40, hX⟩ := z_bd hX
        refine z_aast (pc := 40) G dX8_image_40 hv40 ?_
        exact wX8_image_B41 hO G hr hnm _ _ _ _ hX
      | some y16 =>
        refine z_astore_n (pc := 17) (lv2 := [(0, .ref l0), (1, .int l1), (2, .ref y16)]) G dX8_image_17 rfl (by decide) rfl rfl ?_
        refine z_aload_n (pc := 18) G 2 dX8_image_18 rfl rfl ?_
        refine z_ifnonnull (pc := 19) (tgt := 41) G dX8_image_19 (by decide) ?_
        refine z_wid (k := 13) (n := 534) (by decide) (by decide) ?_
        exact wX8_image_B41 hO G hr hnm _ _ _ _ hX
    · have hX := z_if hc6 hX
      refine z_iconst (pc := 9) (v := (-1)) G dX8_image_9 (by decide) ?_
      exact z_iretX (pc := 10) hX G hr dX8_image_10 (by decide) (by decide)
theorem dX8_back_0 : decode cX8_back 0 = .ok (.iload_n 1, 1) := by decide +kernel
theorem dX8_back_1 : decode cX8_back 1 = .ok (.ifCond .lt 17, 3) := by decide +kernel
theorem dX8_back_4 : decode cX8_back 4 = .ok (.iload_n 1, 1) := by decide +kernel
theorem dX8_back_5 : decode cX8_back 5 = .ok (.iconst 3, 1) := by decide +kernel
theorem dX8_back_6 : decode cX8_back 6 = .ok (.if_icmp .ge 12, 3) := by decide +kernel
theorem dX8_back_9 : decode cX8_back 9 = .ok (.aload_n 0, 1) := by decide +kernel
theorem dX8_back_10 : decode cX8_back 10 = .ok (.getfield 82, 3) := by decide +kernel
theorem dX8_back_13 : decode cX8_back 13 = .ok (.iload_n 1, 1) := by decide +kernel
theorem dX8_back_14 : decode cX8_back 14 = .ok (.baload, 1) := by decide +kernel
theorem dX8_back_15 : decode cX8_back 15 = .ok (.ifCond .ne 5, 3) := by decide +kernel
theorem dX8_back_18 : decode cX8_back 18 = .ok (.iconst (-1), 1) := by decide +kernel
theorem dX8_back_19 : decode cX8_back 19 = .ok (.ireturn, 1) := by decide +kernel
theorem dX8_back_20 : decode cX8_back 20 = .ok (.aload_n 0, 1) := by decide +kernel
theorem dX8_back_21 : decode cX8_back 21 = .ok (.getfield 78, 3) := by decide +kernel
theorem dX8_back_24 : decode cX8_back 24 = .ok (.iload_n 1, 1) := by decide +kernel
theorem dX8_back_25 : decode cX8_back 25 = .ok (.aaload, 1) := by decide +kernel
theorem dX8_back_26 : decode cX8_back 26 = .ok (.astore_n 2, 1) := by decide +kernel
theorem dX8_back_27 : decode cX8_back 27 = .ok (.aload_n 2, 1) := by decide +kernel
theorem dX8_back_28 : decode cX8_back 28 = .ok (.ifnonnull 5, 3) := by decide +kernel
theorem dX8_back_31 : decode cX8_back 31 = .ok (.iconst (-1), 1) := by decide +kernel
theorem dX8_back_32 : decode cX8_back 32 = .ok (.ireturn, 1) := by decide +kernel
theorem dX8_back_33 : decode cX8_back 33 = .ok (.aload_n 0, 1) := by decide +kernel
theorem dX8_back_34 : decode cX8_back 34 = .ok (.getfield 36, 3) := by decide +kernel
theorem dX8_back_37 : decode cX8_back 37 = .ok (.aload_n 2, 1) := by decide +kernel
theorem dX8_back_38 : decode cX8_back 38 = .ok (.invokevirtual 251, 3) := by decide +kernel
theorem dX8_back_41 : decode cX8_back 41 = .ok (.aload_n 0, 1) := by decide +kernel
theorem dX8_back_42 : decode cX8_back 42 = .ok (.getfield 67, 3) := by decide +kernel
theorem dX8_back_45 : decode cX8_back 45 = .ok (.invokevirtual 117, 3) := by decide +kernel
theorem dX8_back_48 : decode cX8_back 48 = .ok (.aload_n 0, 1) := by decide +kernel
theorem dX8_back_49 : decode cX8_back 49 = .ok (.getfield 36, 3) := by decide +kernel
theorem dX8_back_52 : decode cX8_back 52 = .ok (.getfield 188, 3) := by decide +kernel
theorem dX8_back_55 : decode cX8_back 55 = .ok (.ireturn, 1) := by decide +kernel
theorem ydX8_back : z_yd yX8_back 1 := ⟨by decide, by decide, by decide +kernel⟩
abbrev rmX8_back : Room := { frames := 2, cells := 0, slots := 0, locals := 81 }
noncomputable def xX8_back (l0 : Nat) (l1 : Int32) (h : ZH) : Option (Int32 × ZH) := (if l1 < 0 then some ((-1 : Int32), h) else (if (3 : Int32) ≤ l1 then some ((-1 : Int32), h) else ((z_gR h l0 8 14).bind fun x10 => ((z_aB h x10 l1).bind fun x14 => (if x14 = 0 then some ((-1 : Int32), h) else ((z_gR h l0 8 13).bind fun x21 => ((z_aQ h x21 l1).bind fun x25 => match x25 with | none => some ((-1 : Int32), h) | some y25 => ((z_gR h l0 8 6).bind fun x34 => (z_gu (z_is h x34 5) ((xX5_copy x34 y25 h).bind fun h38 => ((z_gR h38 l0 8 11).bind fun x42 => (z_gu (z_is h38 x42 1) ((xX1_forget x42 h38).bind fun h45 => ((z_gR h45 l0 8 6).bind fun x49 => ((z_gI h45 x49 5 15).bind fun x52 => some (x52, h45))))))))))))))))
set_option maxHeartbeats 4000000 in
set_option maxRecDepth 100000 in
theorem lX8_back {Γ : ZG} {l : Launch} (hO : z_OK Γ) {l0 : Nat} {l1 : Int32} {h : ZH} {r : (Int32 × ZH)} (hX : xX8_back l0 l1 h = some r) : z_M Γ l yX8_back (z_ws1 yX8_back cX8_back 3 (some .int)) rmX8_back [.ref l0, .int l1] h (some (.int r.1)) r.2 := by
  refine z_start hO (plainFor_of_name (by decide)) (Nat.le_of_ble_eq_true rfl) ?_
  intro p e s m args below meth c G hr hnm
  refine z_lvc (lv2 := [(0, .ref l0), (1, .int l1)]) rfl ?_
  refine z_iload_n (pc := 0) G 1 dX8_back_0 rfl rfl ?_
  refine z_if_lt (pc := 1) (tgt := 18) G dX8_back_1 (by decide) (fun hc1 => ?_) (fun hc1 => ?_)
  · have hX := z_it hc1 hX
    refine z_iconst (pc := 18) (v := (-1)) G dX8_back_18 (by decide) ?_
    exact z_iretX (pc := 19) hX G hr dX8_back_19 (by decide) (by decide)
  · have hX := z_if hc1 hX
    refine z_iload_n (pc := 4) G 1 dX8_back_4 rfl rfl ?_
    refine z_iconst (pc := 5) (v := 3) G dX8_back_5 (by decide) ?_
    refine z_icmp_ge (pc := 6) (tgt := 18) G dX8_back_6 (by decide) (fun hc6 => ?_) (fun hc6 => ?_)
    · have hX := z_it hc6 hX
      refine z_iconst (pc := 18) (v := (-1)) G dX8_back_18 (by decide) ?_
      exact z_iretX (pc := 19) hX G hr dX8_back_19 (by decide) (by decide)
    · have hX := z_if hc6 hX
      refine z_aload_n (pc := 9) G 0 dX8_back_9 rfl rfl ?_
      obtain ⟨x10, hv10, hX⟩ := z_bd hX
      refine z_getR (pc := 10) G kK8 (k := 14) (by decide) kt_438 dX8_back_10 hv10 ?_
      refine z_iload_n (pc := 13) G 1 dX8_back_13 rfl rfl ?_
      obtain ⟨x14, hv14, hX⟩ := z_bd hX
      refine z_bald (pc := 14) G dX8_back_14 hv14 ?_
      refine z_if_ne (pc := 15) (tgt := 20) G dX8_back_15 (by decide) (fun hc15 => ?_) (fun hc15 => ?_)
      · have hX := z_if hc15 hX
        refine z_aload_n (pc := 20) G 0 dX8_back_20 rfl rfl ?_
        obtain ⟨x21, hv21, hX⟩ := z_bd hX
        refine z_getR (pc := 21) G kK8 (k := 13) (by decide) kt_437 dX8_back_21 hv21 ?_
        refine z_iload_n (pc := 24) G 1 dX8_back_24 rfl rfl ?_
        obtain ⟨x25, hv25, hX⟩ := z_bd hX
        refine z_aald (pc := 25) G dX8_back_25 hv25 ?_
        cases x25 with
        | none =>
          refine z_astore_nN (pc := 26) (lv2 := [(0, .ref l0), (1, .int l1), (2, .null)]) G dX8_back_26 rfl (by decide) rfl rfl ?_
          refine z_aload_nN (pc := 27) G 2 dX8_back_27 rfl rfl ?_
          refine z_ifnonnullN (pc := 28) G dX8_back_28 ?_
          refine z_iconst (pc := 31) (v := (-1)) G dX8_back_31 (by decide) ?_
          exact z_iretX (pc := 32) hX G hr dX8_back_32 (by decide) (by decide)
        | some y25 =>
          refine z_astore_n (pc := 26) (lv2 := [(0, .ref l0), (1, .int l1), (2, .ref y25)]) G dX8_back_26 rfl (by decide) rfl rfl ?_
          refine z_aload_n (pc := 27) G 2 dX8_back_27 rfl rfl ?_
          refine z_ifnonnull (pc := 28) (tgt := 33) G dX8_back_28 (by decide) ?_
          refine z_aload_n (pc := 33) G 0 dX8_back_33 rfl rfl ?_
          obtain ⟨x34, hv34, hX⟩ := z_bd hX
          refine z_getR (pc := 34) G kK8 (k := 6) (by decide) kt_430 dX8_back_34 hv34 ?_
          refine z_aload_n (pc := 37) G 2 dX8_back_37 rfl rfl ?_
          obtain ⟨hi38, hX⟩ := z_gu_s hX
          obtain ⟨h38, hv38, hX⟩ := z_bd hX
          refine z_cVV (pc := 38) (As := [.ref y25]) (c2 := 0) (s2 := 0) G kK5 (lX5_copy hO hv38) hi38 kt_803 kt_4 kt_973 kt_801 kt_802 ydX5_copy ⟨by decide, by decide⟩ rfl (Nat.le_of_ble_eq_true rfl) ⟨rfl, rfl⟩ ⟨by decide, by decide⟩ rfl dX8_back_38 ?_
          refine z_aload_n (pc := 41) G 0 dX8_back_41 rfl rfl ?_
          obtain ⟨x42, hv42, hX⟩ := z_bd hX
          refine z_getR (pc := 42) G kK8 (k := 11) (by decide) kt_435 dX8_back_42 hv42 ?_
          obtain ⟨hi45, hX⟩ := z_gu_s hX
          obtain ⟨h45, hv45, hX⟩ := z_bd hX
          refine z_cVV (pc := 45) (As := []) (c2 := 0) (s2 := 0) G kK1 (lX1_forget hO hv45) hi45 kt_711 kt_8 kt_708 kt_709 kt_710 ydX1_forget ⟨by decide, by decide⟩ rfl (Nat.le_of_ble_eq_true rfl) ⟨rfl, rfl⟩ ⟨by decide, by decide⟩ rfl dX8_back_45 ?_
          refine z_aload_n (pc := 48) G 0 dX8_back_48 rfl rfl ?_
          obtain ⟨x49, hv49, hX⟩ := z_bd hX
          refine z_getR (pc := 49) G kK8 (k := 6) (by decide) kt_430 dX8_back_49 hv49 ?_
          obtain ⟨x52, hv52, hX⟩ := z_bd hX
          refine z_getI (pc := 52) G kK5 (k := 15) (by decide) kt_234 dX8_back_52 hv52 ?_
          exact z_iretX (pc := 55) hX G hr dX8_back_55 (by decide) (by decide)
      · have hX := z_it hc15 hX
        refine z_iconst (pc := 18) (v := (-1)) G dX8_back_18 (by decide) ?_
        exact z_iretX (pc := 19) hX G hr dX8_back_19 (by decide) (by decide)
theorem dX8_about_0 : decode cX8_about 0 = .ok (.iload_n 1, 1) := by decide +kernel
theorem dX8_about_1 : decode cX8_about 1 = .ok (.tableswitch 198 0 15 #[79, 87, 95, 103, 111, 119, 127, 135, 143, 151, 159, 167, 172, 177, 185, 190], 79) := by decide +kernel
theorem dX8_about_80 : decode cX8_about 80 = .ok (.aload_n 0, 1) := by decide +kernel
theorem dX8_about_81 : decode cX8_about 81 = .ok (.getfield 27, 3) := by decide +kernel
theorem dX8_about_84 : decode cX8_about 84 = .ok (.getfield 124, 3) := by decide +kernel
theorem dX8_about_87 : decode cX8_about 87 = .ok (.ireturn, 1) := by decide +kernel
theorem dX8_about_88 : decode cX8_about 88 = .ok (.aload_n 0, 1) := by decide +kernel
theorem dX8_about_89 : decode cX8_about 89 = .ok (.getfield 27, 3) := by decide +kernel
theorem dX8_about_92 : decode cX8_about 92 = .ok (.getfield 234, 3) := by decide +kernel
theorem dX8_about_95 : decode cX8_about 95 = .ok (.ireturn, 1) := by decide +kernel
theorem dX8_about_96 : decode cX8_about 96 = .ok (.aload_n 0, 1) := by decide +kernel
theorem dX8_about_97 : decode cX8_about 97 = .ok (.getfield 27, 3) := by decide +kernel
theorem dX8_about_100 : decode cX8_about 100 = .ok (.getfield 340, 3) := by decide +kernel
theorem dX8_about_103 : decode cX8_about 103 = .ok (.ireturn, 1) := by decide +kernel
theorem dX8_about_104 : decode cX8_about 104 = .ok (.aload_n 0, 1) := by decide +kernel
theorem dX8_about_105 : decode cX8_about 105 = .ok (.getfield 36, 3) := by decide +kernel
theorem dX8_about_108 : decode cX8_about 108 = .ok (.getfield 188, 3) := by decide +kernel
theorem dX8_about_111 : decode cX8_about 111 = .ok (.ireturn, 1) := by decide +kernel
theorem dX8_about_112 : decode cX8_about 112 = .ok (.aload_n 0, 1) := by decide +kernel
theorem dX8_about_113 : decode cX8_about 113 = .ok (.getfield 36, 3) := by decide +kernel
theorem dX8_about_116 : decode cX8_about 116 = .ok (.getfield 343, 3) := by decide +kernel
theorem dX8_about_119 : decode cX8_about 119 = .ok (.ireturn, 1) := by decide +kernel
theorem dX8_about_120 : decode cX8_about 120 = .ok (.aload_n 0, 1) := by decide +kernel
theorem dX8_about_121 : decode cX8_about 121 = .ok (.getfield 36, 3) := by decide +kernel
theorem dX8_about_124 : decode cX8_about 124 = .ok (.getfield 346, 3) := by decide +kernel
theorem dX8_about_127 : decode cX8_about 127 = .ok (.ireturn, 1) := by decide +kernel
theorem dX8_about_128 : decode cX8_about 128 = .ok (.aload_n 0, 1) := by decide +kernel
theorem dX8_about_129 : decode cX8_about 129 = .ok (.getfield 36, 3) := by decide +kernel
theorem dX8_about_132 : decode cX8_about 132 = .ok (.getfield 253, 3) := by decide +kernel
theorem dX8_about_135 : decode cX8_about 135 = .ok (.ireturn, 1) := by decide +kernel
theorem dX8_about_136 : decode cX8_about 136 = .ok (.aload_n 0, 1) := by decide +kernel
theorem dX8_about_137 : decode cX8_about 137 = .ok (.getfield 36, 3) := by decide +kernel
theorem dX8_about_140 : decode cX8_about 140 = .ok (.getfield 202, 3) := by decide +kernel
theorem dX8_about_143 : decode cX8_about 143 = .ok (.ireturn, 1) := by decide +kernel
theorem dX8_about_144 : decode cX8_about 144 = .ok (.aload_n 0, 1) := by decide +kernel
theorem dX8_about_145 : decode cX8_about 145 = .ok (.getfield 67, 3) := by decide +kernel
theorem dX8_about_148 : decode cX8_about 148 = .ok (.getfield 208, 3) := by decide +kernel
theorem dX8_about_151 : decode cX8_about 151 = .ok (.ireturn, 1) := by decide +kernel
theorem dX8_about_152 : decode cX8_about 152 = .ok (.aload_n 0, 1) := by decide +kernel
theorem dX8_about_153 : decode cX8_about 153 = .ok (.getfield 67, 3) := by decide +kernel
theorem dX8_about_156 : decode cX8_about 156 = .ok (.getfield 215, 3) := by decide +kernel
theorem dX8_about_159 : decode cX8_about 159 = .ok (.ireturn, 1) := by decide +kernel
theorem dX8_about_160 : decode cX8_about 160 = .ok (.aload_n 0, 1) := by decide +kernel
theorem dX8_about_161 : decode cX8_about 161 = .ok (.getfield 74, 3) := by decide +kernel
theorem dX8_about_164 : decode cX8_about 164 = .ok (.getfield 349, 3) := by decide +kernel
theorem dX8_about_167 : decode cX8_about 167 = .ok (.ireturn, 1) := by decide +kernel
theorem dX8_about_168 : decode cX8_about 168 = .ok (.aload_n 0, 1) := by decide +kernel
theorem dX8_about_169 : decode cX8_about 169 = .ok (.getfield 312, 3) := by decide +kernel
theorem dX8_about_172 : decode cX8_about 172 = .ok (.ireturn, 1) := by decide +kernel
theorem dX8_about_173 : decode cX8_about 173 = .ok (.aload_n 0, 1) := by decide +kernel
theorem dX8_about_174 : decode cX8_about 174 = .ok (.getfield 93, 3) := by decide +kernel
theorem dX8_about_177 : decode cX8_about 177 = .ok (.ireturn, 1) := by decide +kernel
theorem dX8_about_178 : decode cX8_about 178 = .ok (.aload_n 0, 1) := by decide +kernel
theorem dX8_about_179 : decode cX8_about 179 = .ok (.getfield 27, 3) := by decide +kernel
theorem dX8_about_182 : decode cX8_about 182 = .ok (.getfield 352, 3) := by decide +kernel
theorem dX8_about_185 : decode cX8_about 185 = .ok (.ireturn, 1) := by decide +kernel
theorem dX8_about_186 : decode cX8_about 186 = .ok (.aload_n 0, 1) := by decide +kernel
theorem dX8_about_187 : decode cX8_about 187 = .ok (.getfield 121, 3) := by decide +kernel
theorem dX8_about_190 : decode cX8_about 190 = .ok (.ireturn, 1) := by decide +kernel
theorem dX8_about_191 : decode cX8_about 191 = .ok (.aload_n 0, 1) := by decide +kernel
theorem dX8_about_192 : decode cX8_about 192 = .ok (.getfield 27, 3) := by decide +kernel
theorem dX8_about_195 : decode cX8_about 195 = .ok (.getfield 302, 3) := by decide +kernel
theorem dX8_about_198 : decode cX8_about 198 = .ok (.ireturn, 1) := by decide +kernel
theorem dX8_about_199 : decode cX8_about 199 = .ok (.iconst (-1), 1) := by decide +kernel
theorem dX8_about_200 : decode cX8_about 200 = .ok (.ireturn, 1) := by decide +kernel
theorem ydX8_about : z_yd yX8_about 1 := ⟨by decide, by decide, by decide +kernel⟩
abbrev rmX8_about : Room := { frames := 0, cells := 0, slots := 0, locals := 0 }
noncomputable def xX8_about (l0 : Nat) (l1 : Int32) (h : ZH) : Option (Int32 × ZH) := (if l1 = 0 then ((z_gR h l0 8 5).bind fun x81 => ((z_gI h x81 2 7).bind fun x84 => some (x84, h))) else (if l1 = 1 then ((z_gR h l0 8 5).bind fun x89 => ((z_gI h x89 2 0).bind fun x92 => some (x92, h))) else (if l1 = 2 then ((z_gR h l0 8 5).bind fun x97 => ((z_gI h x97 2 1).bind fun x100 => some (x100, h))) else (if l1 = 3 then ((z_gR h l0 8 6).bind fun x105 => ((z_gI h x105 5 15).bind fun x108 => some (x108, h))) else (if l1 = 4 then ((z_gR h l0 8 6).bind fun x113 => ((z_gI h x113 5 16).bind fun x116 => some (x116, h))) else (if l1 = 5 then ((z_gR h l0 8 6).bind fun x121 => ((z_gI h x121 5 17).bind fun x124 => some (x124, h))) else (if l1 = 6 then ((z_gR h l0 8 6).bind fun x129 => ((z_gI h x129 5 14).bind fun x132 => some (x132, h))) else (if l1 = 7 then ((z_gR h l0 8 6).bind fun x137 => ((z_gI h x137 5 13).bind fun x140 => some (x140, h))) else (if l1 = 8 then ((z_gR h l0 8 11).bind fun x145 => ((z_gI h x145 1 2).bind fun x148 => some (x148, h))) else (if l1 = 9 then ((z_gR h l0 8 11).bind fun x153 => ((z_gI h x153 1 3).bind fun x156 => some (x156, h))) else (if l1 = 10 then ((z_gR h l0 8 12).bind fun x161 => ((z_gI h x161 4 8).bind fun x164 => some (x164, h))) else (if l1 = 11 then ((z_gI h l0 8 17).bind fun x169 => some (x169, h)) else (if l1 = 12 then ((z_gI h l0 8 1).bind fun x174 => some (x174, h)) else (if l1 = 13 then ((z_gR h l0 8 5).bind fun x179 => ((z_gI h x179 2 8).bind fun x182 => some (x182, h))) else (if l1 = 14 then ((z_gI h l0 8 16).bind fun x187 => some (x187, h)) else (if l1 = 15 then ((z_gR h l0 8 5).bind fun x192 => ((z_gI h x192 2 5).bind fun x195 => some (x195, h))) else some ((-1 : Int32), h)))))))))))))))))
set_option maxHeartbeats 4000000 in
set_option maxRecDepth 100000 in
theorem lX8_about {Γ : ZG} {l : Launch} (hO : z_OK Γ) {l0 : Nat} {l1 : Int32} {h : ZH} {r : (Int32 × ZH)} (hX : xX8_about l0 l1 h = some r) : z_M Γ l yX8_about (z_ws1 yX8_about cX8_about 2 (some .int)) rmX8_about [.ref l0, .int l1] h (some (.int r.1)) r.2 := by
  refine z_start hO (plainFor_of_name (by decide)) (Nat.le_of_ble_eq_true rfl) ?_
  intro p e s m args below meth c G hr hnm
  refine z_lvc (lv2 := [(0, .ref l0), (1, .int l1)]) rfl ?_
  refine z_iload_n (pc := 0) G 1 dX8_about_0 rfl rfl ?_
  by_cases hs1_0 : l1 = 0
  · have hX := z_it hs1_0 hX
    refine z_tableIn (pc := 1) (off := 79) (tgt := 80) G dX8_about_1 (by rw [hs1_0]; decide) (by rw [hs1_0]; decide) (by rw [hs1_0]; decide) (by decide) ?_
    refine z_aload_n (pc := 80) G 0 dX8_about_80 rfl rfl ?_
    obtain ⟨x81, hv81, hX⟩ := z_bd hX
    refine z_getR (pc := 81) G kK8 (k := 5) (by decide) kt_429 dX8_about_81 hv81 ?_
    obtain ⟨x84, hv84, hX⟩ := z_bd hX
    refine z_getI (pc := 84) G kK2 (k := 7) (by decide) kt_71 dX8_about_84 hv84 ?_
    exact z_iretX (pc := 87) hX G hr dX8_about_87 (by decide) (by decide)
  have hX := z_if hs1_0 hX
  by_cases hs1_1 : l1 = 1
  · have hX := z_it hs1_1 hX
    refine z_tableIn (pc := 1) (off := 87) (tgt := 88) G dX8_about_1 (by rw [hs1_1]; decide) (by rw [hs1_1]; decide) (by rw [hs1_1]; decide) (by decide) ?_
    refine z_aload_n (pc := 88) G 0 dX8_about_88 rfl rfl ?_
    obtain ⟨x89, hv89, hX⟩ := z_bd hX
    refine z_getR (pc := 89) G kK8 (k := 5) (by decide) kt_429 dX8_about_89 hv89 ?_
    obtain ⟨x92, hv92, hX⟩ := z_bd hX
    refine z_getI (pc := 92) G kK2 (k := 0) (by decide) kt_44 dX8_about_92 hv92 ?_
    exact z_iretX (pc := 95) hX G hr dX8_about_95 (by decide) (by decide)
  have hX := z_if hs1_1 hX
  by_cases hs1_2 : l1 = 2
  · have hX := z_it hs1_2 hX
    refine z_tableIn (pc := 1) (off := 95) (tgt := 96) G dX8_about_1 (by rw [hs1_2]; decide) (by rw [hs1_2]; decide) (by rw [hs1_2]; decide) (by decide) ?_
    refine z_aload_n (pc := 96) G 0 dX8_about_96 rfl rfl ?_
    obtain ⟨x97, hv97, hX⟩ := z_bd hX
    refine z_getR (pc := 97) G kK8 (k := 5) (by decide) kt_429 dX8_about_97 hv97 ?_
    obtain ⟨x100, hv100, hX⟩ := z_bd hX
    refine z_getI (pc := 100) G kK2 (k := 1) (by decide) kt_49 dX8_about_100 hv100 ?_
    exact z_iretX (pc := 103) hX G hr dX8_about_103 (by decide) (by decide)
  have hX := z_if hs1_2 hX
  by_cases hs1_3 : l1 = 3
  · have hX := z_it hs1_3 hX
    refine z_tableIn (pc := 1) (off := 103) (tgt := 104) G dX8_about_1 (by rw [hs1_3]; decide) (by rw [hs1_3]; decide) (by rw [hs1_3]; decide) (by decide) ?_
    refine z_aload_n (pc := 104) G 0 dX8_about_104 rfl rfl ?_
    obtain ⟨x105, hv105, hX⟩ := z_bd hX
    refine z_getR (pc := 105) G kK8 (k := 6) (by decide) kt_430 dX8_about_105 hv105 ?_
    obtain ⟨x108, hv108, hX⟩ := z_bd hX
    refine z_getI (pc := 108) G kK5 (k := 15) (by decide) kt_234 dX8_about_108 hv108 ?_
    exact z_iretX (pc := 111) hX G hr dX8_about_111 (by decide) (by decide)
  have hX := z_if hs1_3 hX
  by_cases hs1_4 : l1 = 4
  · have hX := z_it hs1_4 hX
    refine z_tableIn (pc := 1) (off := 111) (tgt := 112) G dX8_about_1 (by rw [hs1_4]; decide) (by rw [hs1_4]; decide) (by rw [hs1_4]; decide) (by decide) ?_
    refine z_aload_n (pc := 112) G 0 dX8_about_112 rfl rfl ?_
    obtain ⟨x113, hv113, hX⟩ := z_bd hX
    refine z_getR (pc := 113) G kK8 (k := 6) (by decide) kt_430 dX8_about_113 hv113 ?_
    obtain ⟨x116, hv116, hX⟩ := z_bd hX
    refine z_getI (pc := 116) G kK5 (k := 16) (by decide) kt_237 dX8_about_116 hv116 ?_
    exact z_iretX (pc := 119) hX G hr dX8_about_119 (by decide) (by decide)
  have hX := z_if hs1_4 hX
  by_cases hs1_5 : l1 = 5
  · have hX := z_it hs1_5 hX
    refine z_tableIn (pc := 1) (off := 119) (tgt := 120) G dX8_about_1 (by rw [hs1_5]; decide) (by rw [hs1_5]; decide) (by rw [hs1_5]; decide) (by decide) ?_
    refine z_aload_n (pc := 120) G 0 dX8_about_120 rfl rfl ?_
    obtain ⟨x121, hv121, hX⟩ := z_bd hX
    refine z_getR (pc := 121) G kK8 (k := 6) (by decide) kt_430 dX8_about_121 hv121 ?_
    obtain ⟨x124, hv124, hX⟩ := z_bd hX
    refine z_getI (pc := 124) G kK5 (k := 17) (by decide) kt_239 dX8_about_124 hv124 ?_
    exact z_iretX (pc := 127) hX G hr dX8_about_127 (by decide) (by decide)
  have hX := z_if hs1_5 hX
  by_cases hs1_6 : l1 = 6
  · have hX := z_it hs1_6 hX
    refine z_tableIn (pc := 1) (off := 127) (tgt := 128) G dX8_about_1 (by rw [hs1_6]; decide) (by rw [hs1_6]; decide) (by rw [hs1_6]; decide) (by decide) ?_
    refine z_aload_n (pc := 128) G 0 dX8_about_128 rfl rfl ?_
    obtain ⟨x129, hv129, hX⟩ := z_bd hX
    refine z_getR (pc := 129) G kK8 (k := 6) (by decide) kt_430 dX8_about_129 hv129 ?_
    obtain ⟨x132, hv132, hX⟩ := z_bd hX
    refine z_getI (pc := 132) G kK5 (k := 14) (by decide) kt_231 dX8_about_132 hv132 ?_
    exact z_iretX (pc := 135) hX G hr dX8_about_135 (by decide) (by decide)
  have hX := z_if hs1_6 hX
  by_cases hs1_7 : l1 = 7
  · have hX := z_it hs1_7 hX
    refine z_tableIn (pc := 1) (off := 135) (tgt := 136) G dX8_about_1 (by rw [hs1_7]; decide) (by rw [hs1_7]; decide) (by rw [hs1_7]; decide) (by decide) ?_
    refine z_aload_n (pc := 136) G 0 dX8_about_136 rfl rfl ?_
    obtain ⟨x137, hv137, hX⟩ := z_bd hX
    refine z_getR (pc := 137) G kK8 (k := 6) (by decide) kt_430 dX8_about_137 hv137 ?_
    obtain ⟨x140, hv140, hX⟩ := z_bd hX
    refine z_getI (pc := 140) G kK5 (k := 13) (by decide) kt_228 dX8_about_140 hv140 ?_
    exact z_iretX (pc := 143) hX G hr dX8_about_143 (by decide) (by decide)
  have hX := z_if hs1_7 hX
  by_cases hs1_8 : l1 = 8
  · have hX := z_it hs1_8 hX
    refine z_tableIn (pc := 1) (off := 143) (tgt := 144) G dX8_about_1 (by rw [hs1_8]; decide) (by rw [hs1_8]; decide) (by rw [hs1_8]; decide) (by decide) ?_
    refine z_aload_n (pc := 144) G 0 dX8_about_144 rfl rfl ?_
    obtain ⟨x145, hv145, hX⟩ := z_bd hX
    refine z_getR (pc := 145) G kK8 (k := 11) (by decide) kt_435 dX8_about_145 hv145 ?_
    obtain ⟨x148, hv148, hX⟩ := z_bd hX
    refine z_getI (pc := 148) G kK1 (k := 2) (by decide) kt_353 dX8_about_148 hv148 ?_
    exact z_iretX (pc := 151) hX G hr dX8_about_151 (by decide) (by decide)
  have hX := z_if hs1_8 hX
  by_cases hs1_9 : l1 = 9
  · have hX := z_it hs1_9 hX
    refine z_tableIn (pc := 1) (off := 151) (tgt := 152) G dX8_about_1 (by rw [hs1_9]; decide) (by rw [hs1_9]; decide) (by rw [hs1_9]; decide) (by decide) ?_
    refine z_aload_n (pc := 152) G 0 dX8_about_152 rfl rfl ?_
    obtain ⟨x153, hv153, hX⟩ := z_bd hX
    refine z_getR (pc := 153) G kK8 (k := 11) (by decide) kt_435 dX8_about_153 hv153 ?_
    obtain ⟨x156, hv156, hX⟩ := z_bd hX
    refine z_getI (pc := 156) G kK1 (k := 3) (by decide) kt_355 dX8_about_156 hv156 ?_
    exact z_iretX (pc := 159) hX G hr dX8_about_159 (by decide) (by decide)
  have hX := z_if hs1_9 hX
  by_cases hs1_10 : l1 = 10
  · have hX := z_it hs1_10 hX
    refine z_tableIn (pc := 1) (off := 159) (tgt := 160) G dX8_about_1 (by rw [hs1_10]; decide) (by rw [hs1_10]; decide) (by rw [hs1_10]; decide) (by decide) ?_
    refine z_aload_n (pc := 160) G 0 dX8_about_160 rfl rfl ?_
    obtain ⟨x161, hv161, hX⟩ := z_bd hX
    refine z_getR (pc := 161) G kK8 (k := 12) (by decide) kt_436 dX8_about_161 hv161 ?_
    obtain ⟨x164, hv164, hX⟩ := z_bd hX
    refine z_getI (pc := 164) G kK4 (k := 8) (by decide) kt_380 dX8_about_164 hv164 ?_
    exact z_iretX (pc := 167) hX G hr dX8_about_167 (by decide) (by decide)
  have hX := z_if hs1_10 hX
  by_cases hs1_11 : l1 = 11
  · have hX := z_it hs1_11 hX
    refine z_tableIn (pc := 1) (off := 167) (tgt := 168) G dX8_about_1 (by rw [hs1_11]; decide) (by rw [hs1_11]; decide) (by rw [hs1_11]; decide) (by decide) ?_
    refine z_aload_n (pc := 168) G 0 dX8_about_168 rfl rfl ?_
    obtain ⟨x169, hv169, hX⟩ := z_bd hX
    refine z_getI (pc := 169) G kK8 (k := 17) (by decide) kt_441 dX8_about_169 hv169 ?_
    exact z_iretX (pc := 172) hX G hr dX8_about_172 (by decide) (by decide)
  have hX := z_if hs1_11 hX
  by_cases hs1_12 : l1 = 12
  · have hX := z_it hs1_12 hX
    refine z_tableIn (pc := 1) (off := 172) (tgt := 173) G dX8_about_1 (by rw [hs1_12]; decide) (by rw [hs1_12]; decide) (by rw [hs1_12]; decide) (by decide) ?_
    refine z_aload_n (pc := 173) G 0 dX8_about_173 rfl rfl ?_
    obtain ⟨x174, hv174, hX⟩ := z_bd hX
    refine z_getI (pc := 174) G kK8 (k := 1) (by decide) kt_425 dX8_about_174 hv174 ?_
    exact z_iretX (pc := 177) hX G hr dX8_about_177 (by decide) (by decide)
  have hX := z_if hs1_12 hX
  by_cases hs1_13 : l1 = 13
  · have hX := z_it hs1_13 hX
    refine z_tableIn (pc := 1) (off := 177) (tgt := 178) G dX8_about_1 (by rw [hs1_13]; decide) (by rw [hs1_13]; decide) (by rw [hs1_13]; decide) (by decide) ?_
    refine z_aload_n (pc := 178) G 0 dX8_about_178 rfl rfl ?_
    obtain ⟨x179, hv179, hX⟩ := z_bd hX
    refine z_getR (pc := 179) G kK8 (k := 5) (by decide) kt_429 dX8_about_179 hv179 ?_
    obtain ⟨x182, hv182, hX⟩ := z_bd hX
    refine z_getI (pc := 182) G kK2 (k := 8) (by decide) kt_75 dX8_about_182 hv182 ?_
    exact z_iretX (pc := 185) hX G hr dX8_about_185 (by decide) (by decide)
  have hX := z_if hs1_13 hX
  by_cases hs1_14 : l1 = 14
  · have hX := z_it hs1_14 hX
    refine z_tableIn (pc := 1) (off := 185) (tgt := 186) G dX8_about_1 (by rw [hs1_14]; decide) (by rw [hs1_14]; decide) (by rw [hs1_14]; decide) (by decide) ?_
    refine z_aload_n (pc := 186) G 0 dX8_about_186 rfl rfl ?_
    obtain ⟨x187, hv187, hX⟩ := z_bd hX
    refine z_getI (pc := 187) G kK8 (k := 16) (by decide) kt_440 dX8_about_187 hv187 ?_
    exact z_iretX (pc := 190) hX G hr dX8_about_190 (by decide) (by decide)
  have hX := z_if hs1_14 hX
  by_cases hs1_15 : l1 = 15
  · have hX := z_it hs1_15 hX
    refine z_tableIn (pc := 1) (off := 190) (tgt := 191) G dX8_about_1 (by rw [hs1_15]; decide) (by rw [hs1_15]; decide) (by rw [hs1_15]; decide) (by decide) ?_
    refine z_aload_n (pc := 191) G 0 dX8_about_191 rfl rfl ?_
    obtain ⟨x192, hv192, hX⟩ := z_bd hX
    refine z_getR (pc := 192) G kK8 (k := 5) (by decide) kt_429 dX8_about_192 hv192 ?_
    obtain ⟨x195, hv195, hX⟩ := z_bd hX
    refine z_getI (pc := 195) G kK2 (k := 5) (by decide) kt_63 dX8_about_195 hv195 ?_
    exact z_iretX (pc := 198) hX G hr dX8_about_198 (by decide) (by decide)
  have hX := z_if hs1_15 hX
  refine z_tableOut (pc := 1) (tgt := 199) G dX8_about_1 (z_tout 16 (by decide) (fun j hj => by
    rcases (show j = 0 ∨ j = 1 ∨ j = 2 ∨ j = 3 ∨ j = 4 ∨ j = 5 ∨ j = 6 ∨ j = 7 ∨ j = 8 ∨ j = 9 ∨ j = 10 ∨ j = 11 ∨ j = 12 ∨ j = 13 ∨ j = 14 ∨ j = 15 by omega) with rfl | rfl | rfl | rfl | rfl | rfl | rfl | rfl | rfl | rfl | rfl | rfl | rfl | rfl | rfl | rfl
    · exact fun z => hs1_0 (z.trans (by decide))
    · exact fun z => hs1_1 (z.trans (by decide))
    · exact fun z => hs1_2 (z.trans (by decide))
    · exact fun z => hs1_3 (z.trans (by decide))
    · exact fun z => hs1_4 (z.trans (by decide))
    · exact fun z => hs1_5 (z.trans (by decide))
    · exact fun z => hs1_6 (z.trans (by decide))
    · exact fun z => hs1_7 (z.trans (by decide))
    · exact fun z => hs1_8 (z.trans (by decide))
    · exact fun z => hs1_9 (z.trans (by decide))
    · exact fun z => hs1_10 (z.trans (by decide))
    · exact fun z => hs1_11 (z.trans (by decide))
    · exact fun z => hs1_12 (z.trans (by decide))
    · exact fun z => hs1_13 (z.trans (by decide))
    · exact fun z => hs1_14 (z.trans (by decide))
    · exact fun z => hs1_15 (z.trans (by decide)))) (by decide) ?_
  refine z_iconst (pc := 199) (v := (-1)) G dX8_about_199 (by decide) ?_
  exact z_iretX (pc := 200) hX G hr dX8_about_200 (by decide) (by decide)
theorem dX9_clearBank_0 : decode cX9_clearBank 0 = .ok (.aload_n 0, 1) := by decide +kernel
theorem dX9_clearBank_1 : decode cX9_clearBank 1 = .ok (.getfield 20, 3) := by decide +kernel
theorem dX9_clearBank_4 : decode cX9_clearBank 4 = .ok (.aload_n 0, 1) := by decide +kernel
theorem dX9_clearBank_5 : decode cX9_clearBank 5 = .ok (.getfield 246, 3) := by decide +kernel
theorem dX9_clearBank_8 : decode cX9_clearBank 8 = .ok (.iconst 0, 1) := by decide +kernel
theorem dX9_clearBank_9 : decode cX9_clearBank 9 = .ok (.iastore, 1) := by decide +kernel
theorem dX9_clearBank_10 : decode cX9_clearBank 10 = .ok (.aload_n 0, 1) := by decide +kernel
theorem dX9_clearBank_11 : decode cX9_clearBank 11 = .ok (.getfield 24, 3) := by decide +kernel
theorem dX9_clearBank_14 : decode cX9_clearBank 14 = .ok (.aload_n 0, 1) := by decide +kernel
theorem dX9_clearBank_15 : decode cX9_clearBank 15 = .ok (.getfield 246, 3) := by decide +kernel
theorem dX9_clearBank_18 : decode cX9_clearBank 18 = .ok (.bipush 12, 2) := by decide +kernel
theorem dX9_clearBank_20 : decode cX9_clearBank 20 = .ok (.iastore, 1) := by decide +kernel
theorem dX9_clearBank_21 : decode cX9_clearBank 21 = .ok (.aload_n 0, 1) := by decide +kernel
theorem dX9_clearBank_22 : decode cX9_clearBank 22 = .ok (.getfield 27, 3) := by decide +kernel
theorem dX9_clearBank_25 : decode cX9_clearBank 25 = .ok (.aload_n 0, 1) := by decide +kernel
theorem dX9_clearBank_26 : decode cX9_clearBank 26 = .ok (.getfield 246, 3) := by decide +kernel
theorem dX9_clearBank_29 : decode cX9_clearBank 29 = .ok (.bipush 30, 2) := by decide +kernel
theorem dX9_clearBank_31 : decode cX9_clearBank 31 = .ok (.iastore, 1) := by decide +kernel
theorem dX9_clearBank_32 : decode cX9_clearBank 32 = .ok (.aload_n 0, 1) := by decide +kernel
theorem dX9_clearBank_33 : decode cX9_clearBank 33 = .ok (.getfield 30, 3) := by decide +kernel
theorem dX9_clearBank_36 : decode cX9_clearBank 36 = .ok (.aload_n 0, 1) := by decide +kernel
theorem dX9_clearBank_37 : decode cX9_clearBank 37 = .ok (.getfield 246, 3) := by decide +kernel
theorem dX9_clearBank_40 : decode cX9_clearBank 40 = .ok (.iconst 2, 1) := by decide +kernel
theorem dX9_clearBank_41 : decode cX9_clearBank 41 = .ok (.iastore, 1) := by decide +kernel
theorem dX9_clearBank_42 : decode cX9_clearBank 42 = .ok (.aload_n 0, 1) := by decide +kernel
theorem dX9_clearBank_43 : decode cX9_clearBank 43 = .ok (.getfield 33, 3) := by decide +kernel
theorem dX9_clearBank_46 : decode cX9_clearBank 46 = .ok (.aload_n 0, 1) := by decide +kernel
theorem dX9_clearBank_47 : decode cX9_clearBank 47 = .ok (.getfield 246, 3) := by decide +kernel
theorem dX9_clearBank_50 : decode cX9_clearBank 50 = .ok (.iconst 2, 1) := by decide +kernel
theorem dX9_clearBank_51 : decode cX9_clearBank 51 = .ok (.iastore, 1) := by decide +kernel
theorem dX9_clearBank_52 : decode cX9_clearBank 52 = .ok (.aload_n 0, 1) := by decide +kernel
theorem dX9_clearBank_53 : decode cX9_clearBank 53 = .ok (.getfield 36, 3) := by decide +kernel
theorem dX9_clearBank_56 : decode cX9_clearBank 56 = .ok (.aload_n 0, 1) := by decide +kernel
theorem dX9_clearBank_57 : decode cX9_clearBank 57 = .ok (.getfield 246, 3) := by decide +kernel
theorem dX9_clearBank_60 : decode cX9_clearBank 60 = .ok (.iconst 3, 1) := by decide +kernel
theorem dX9_clearBank_61 : decode cX9_clearBank 61 = .ok (.iastore, 1) := by decide +kernel
theorem dX9_clearBank_62 : decode cX9_clearBank 62 = .ok (.aload_n 0, 1) := by decide +kernel
theorem dX9_clearBank_63 : decode cX9_clearBank 63 = .ok (.getfield 39, 3) := by decide +kernel
theorem dX9_clearBank_66 : decode cX9_clearBank 66 = .ok (.aload_n 0, 1) := by decide +kernel
theorem dX9_clearBank_67 : decode cX9_clearBank 67 = .ok (.getfield 246, 3) := by decide +kernel
theorem dX9_clearBank_70 : decode cX9_clearBank 70 = .ok (.iconst 0, 1) := by decide +kernel
theorem dX9_clearBank_71 : decode cX9_clearBank 71 = .ok (.iastore, 1) := by decide +kernel
theorem dX9_clearBank_72 : decode cX9_clearBank 72 = .ok (.aload_n 0, 1) := by decide +kernel
theorem dX9_clearBank_73 : decode cX9_clearBank 73 = .ok (.getfield 42, 3) := by decide +kernel
theorem dX9_clearBank_76 : decode cX9_clearBank 76 = .ok (.aload_n 0, 1) := by decide +kernel
theorem dX9_clearBank_77 : decode cX9_clearBank 77 = .ok (.getfield 246, 3) := by decide +kernel
theorem dX9_clearBank_80 : decode cX9_clearBank 80 = .ok (.iconst 0, 1) := by decide +kernel
theorem dX9_clearBank_81 : decode cX9_clearBank 81 = .ok (.iastore, 1) := by decide +kernel
theorem dX9_clearBank_82 : decode cX9_clearBank 82 = .ok (.aload_n 0, 1) := by decide +kernel
theorem dX9_clearBank_83 : decode cX9_clearBank 83 = .ok (.getfield 45, 3) := by decide +kernel
theorem dX9_clearBank_86 : decode cX9_clearBank 86 = .ok (.aload_n 0, 1) := by decide +kernel
theorem dX9_clearBank_87 : decode cX9_clearBank 87 = .ok (.getfield 246, 3) := by decide +kernel
theorem dX9_clearBank_90 : decode cX9_clearBank 90 = .ok (.iconst 0, 1) := by decide +kernel
theorem dX9_clearBank_91 : decode cX9_clearBank 91 = .ok (.iastore, 1) := by decide +kernel
theorem dX9_clearBank_92 : decode cX9_clearBank 92 = .ok (.aload_n 0, 1) := by decide +kernel
theorem dX9_clearBank_93 : decode cX9_clearBank 93 = .ok (.getfield 48, 3) := by decide +kernel
theorem dX9_clearBank_96 : decode cX9_clearBank 96 = .ok (.aload_n 0, 1) := by decide +kernel
theorem dX9_clearBank_97 : decode cX9_clearBank 97 = .ok (.getfield 246, 3) := by decide +kernel
theorem dX9_clearBank_100 : decode cX9_clearBank 100 = .ok (.iconst 0, 1) := by decide +kernel
theorem dX9_clearBank_101 : decode cX9_clearBank 101 = .ok (.iastore, 1) := by decide +kernel
theorem dX9_clearBank_102 : decode cX9_clearBank 102 = .ok (.aload_n 0, 1) := by decide +kernel
theorem dX9_clearBank_103 : decode cX9_clearBank 103 = .ok (.sipush 560, 3) := by decide +kernel
theorem dX9_clearBank_106 : decode cX9_clearBank 106 = .ok (.aload_n 0, 1) := by decide +kernel
theorem dX9_clearBank_107 : decode cX9_clearBank 107 = .ok (.getfield 246, 3) := by decide +kernel
theorem dX9_clearBank_110 : decode cX9_clearBank 110 = .ok (.imul, 1) := by decide +kernel
theorem dX9_clearBank_111 : decode cX9_clearBank 111 = .ok (.putfield 249, 3) := by decide +kernel
theorem dX9_clearBank_114 : decode cX9_clearBank 114 = .ok (.return_, 1) := by decide +kernel
theorem ydX9_clearBank : z_yd yX9_clearBank 0 := ⟨by decide, by decide, by decide +kernel⟩
abbrev rmX9_clearBank : Room := { frames := 0, cells := 0, slots := 0, locals := 0 }
noncomputable def xX9_clearBank (l0 : Nat) (h : ZH) : Option ZH := ((z_gR h l0 9 11).bind fun x1 => ((z_gI h l0 9 35).bind fun x5 => ((z_uI h x1 x5 (0 : Int32)).bind fun h9 => ((z_gR h9 l0 9 12).bind fun x11 => ((z_gI h9 l0 9 35).bind fun x15 => ((z_uI h9 x11 x15 (12 : Int32)).bind fun h20 => ((z_gR h20 l0 9 13).bind fun x22 => ((z_gI h20 l0 9 35).bind fun x26 => ((z_uI h20 x22 x26 (30 : Int32)).bind fun h31 => ((z_gR h31 l0 9 14).bind fun x33 => ((z_gI h31 l0 9 35).bind fun x37 => ((z_uI h31 x33 x37 (2 : Int32)).bind fun h41 => ((z_gR h41 l0 9 15).bind fun x43 => ((z_gI h41 l0 9 35).bind fun x47 => ((z_uI h41 x43 x47 (2 : Int32)).bind fun h51 => ((z_gR h51 l0 9 16).bind fun x53 => ((z_gI h51 l0 9 35).bind fun x57 => ((z_uI h51 x53 x57 (3 : Int32)).bind fun h61 => ((z_gR h61 l0 9 17).bind fun x63 => ((z_gI h61 l0 9 35).bind fun x67 => ((z_uI h61 x63 x67 (0 : Int32)).bind fun h71 => ((z_gR h71 l0 9 18).bind fun x73 => ((z_gI h71 l0 9 35).bind fun x77 => ((z_uI h71 x73 x77 (0 : Int32)).bind fun h81 => ((z_gR h81 l0 9 19).bind fun x83 => ((z_gI h81 l0 9 35).bind fun x87 => ((z_uI h81 x83 x87 (0 : Int32)).bind fun h91 => ((z_gR h91 l0 9 20).bind fun x93 => ((z_gI h91 l0 9 35).bind fun x97 => ((z_uI h91 x93 x97 (0 : Int32)).bind fun h101 => ((z_gI h101 l0 9 35).bind fun x107 => ((z_sF h101 l0 9 36 (.int ((560 : Int32) * x107))).bind fun h111 => some h111))))))))))))))))))))))))))))))))
set_option maxHeartbeats 4000000 in
set_option maxRecDepth 100000 in
theorem lX9_clearBank {Γ : ZG} {l : Launch} (hO : z_OK Γ) {l0 : Nat} {h : ZH} {r : ZH} (hX : xX9_clearBank l0 h = some r) : z_M Γ l yX9_clearBank (z_ws1 yX9_clearBank cX9_clearBank 1 none) rmX9_clearBank [.ref l0] h none r := by
  refine z_start hO (plainFor_of_name (by decide)) (Nat.le_of_ble_eq_true rfl) ?_
  intro p e s m args below meth c G hr hnm
  refine z_lvc (lv2 := [(0, .ref l0)]) rfl ?_
  refine z_aload_n (pc := 0) G 0 dX9_clearBank_0 rfl rfl ?_
  obtain ⟨x1, hv1, hX⟩ := z_bd hX
  refine z_getR (pc := 1) G kK9 (k := 11) (by decide) kt_1237 dX9_clearBank_1 hv1 ?_
  refine z_aload_n (pc := 4) G 0 dX9_clearBank_4 rfl rfl ?_
  obtain ⟨x5, hv5, hX⟩ := z_bd hX
  refine z_getI (pc := 5) G kK9 (k := 35) (by decide) kt_1261 dX9_clearBank_5 hv5 ?_
  refine z_iconst (pc := 8) (v := 0) G dX9_clearBank_8 (by decide) ?_
  obtain ⟨h9, hv9, hX⟩ := z_bd hX
  refine z_iast (pc := 9) G dX9_clearBank_9 hv9 ?_
  refine z_aload_n (pc := 10) G 0 dX9_clearBank_10 rfl rfl ?_
  obtain ⟨x11, hv11, hX⟩ := z_bd hX
  refine z_getR (pc := 11) G kK9 (k := 12) (by decide) kt_1238 dX9_clearBank_11 hv11 ?_
  refine z_aload_n (pc := 14) G 0 dX9_clearBank_14 rfl rfl ?_
  obtain ⟨x15, hv15, hX⟩ := z_bd hX
  refine z_getI (pc := 15) G kK9 (k := 35) (by decide) kt_1261 dX9_clearBank_15 hv15 ?_
  refine z_bipush (pc := 18) (v := 12) G dX9_clearBank_18 (by decide) ?_
  obtain ⟨h20, hv20, hX⟩ := z_bd hX
  refine z_iast (pc := 20) G dX9_clearBank_20 hv20 ?_
  refine z_aload_n (pc := 21) G 0 dX9_clearBank_21 rfl rfl ?_
  obtain ⟨x22, hv22, hX⟩ := z_bd hX
  refine z_getR (pc := 22) G kK9 (k := 13) (by decide) kt_1239 dX9_clearBank_22 hv22 ?_
  refine z_aload_n (pc := 25) G 0 dX9_clearBank_25 rfl rfl ?_
  obtain ⟨x26, hv26, hX⟩ := z_bd hX
  refine z_getI (pc := 26) G kK9 (k := 35) (by decide) kt_1261 dX9_clearBank_26 hv26 ?_
  refine z_bipush (pc := 29) (v := 30) G dX9_clearBank_29 (by decide) ?_
  obtain ⟨h31, hv31, hX⟩ := z_bd hX
  refine z_iast (pc := 31) G dX9_clearBank_31 hv31 ?_
  refine z_aload_n (pc := 32) G 0 dX9_clearBank_32 rfl rfl ?_
  obtain ⟨x33, hv33, hX⟩ := z_bd hX
  refine z_getR (pc := 33) G kK9 (k := 14) (by decide) kt_1240 dX9_clearBank_33 hv33 ?_
  refine z_aload_n (pc := 36) G 0 dX9_clearBank_36 rfl rfl ?_
  obtain ⟨x37, hv37, hX⟩ := z_bd hX
  refine z_getI (pc := 37) G kK9 (k := 35) (by decide) kt_1261 dX9_clearBank_37 hv37 ?_
  refine z_iconst (pc := 40) (v := 2) G dX9_clearBank_40 (by decide) ?_
  obtain ⟨h41, hv41, hX⟩ := z_bd hX
  refine z_iast (pc := 41) G dX9_clearBank_41 hv41 ?_
  refine z_aload_n (pc := 42) G 0 dX9_clearBank_42 rfl rfl ?_
  obtain ⟨x43, hv43, hX⟩ := z_bd hX
  refine z_getR (pc := 43) G kK9 (k := 15) (by decide) kt_1241 dX9_clearBank_43 hv43 ?_
  refine z_aload_n (pc := 46) G 0 dX9_clearBank_46 rfl rfl ?_
  obtain ⟨x47, hv47, hX⟩ := z_bd hX
  refine z_getI (pc := 47) G kK9 (k := 35) (by decide) kt_1261 dX9_clearBank_47 hv47 ?_
  refine z_iconst (pc := 50) (v := 2) G dX9_clearBank_50 (by decide) ?_
  obtain ⟨h51, hv51, hX⟩ := z_bd hX
  refine z_iast (pc := 51) G dX9_clearBank_51 hv51 ?_
  refine z_aload_n (pc := 52) G 0 dX9_clearBank_52 rfl rfl ?_
  obtain ⟨x53, hv53, hX⟩ := z_bd hX
  refine z_getR (pc := 53) G kK9 (k := 16) (by decide) kt_1242 dX9_clearBank_53 hv53 ?_
  refine z_aload_n (pc := 56) G 0 dX9_clearBank_56 rfl rfl ?_
  obtain ⟨x57, hv57, hX⟩ := z_bd hX
  refine z_getI (pc := 57) G kK9 (k := 35) (by decide) kt_1261 dX9_clearBank_57 hv57 ?_
  refine z_iconst (pc := 60) (v := 3) G dX9_clearBank_60 (by decide) ?_
  obtain ⟨h61, hv61, hX⟩ := z_bd hX
  refine z_iast (pc := 61) G dX9_clearBank_61 hv61 ?_
  refine z_aload_n (pc := 62) G 0 dX9_clearBank_62 rfl rfl ?_
  obtain ⟨x63, hv63, hX⟩ := z_bd hX
  refine z_getR (pc := 63) G kK9 (k := 17) (by decide) kt_1243 dX9_clearBank_63 hv63 ?_
  refine z_aload_n (pc := 66) G 0 dX9_clearBank_66 rfl rfl ?_
  obtain ⟨x67, hv67, hX⟩ := z_bd hX
  refine z_getI (pc := 67) G kK9 (k := 35) (by decide) kt_1261 dX9_clearBank_67 hv67 ?_
  refine z_iconst (pc := 70) (v := 0) G dX9_clearBank_70 (by decide) ?_
  obtain ⟨h71, hv71, hX⟩ := z_bd hX
  refine z_iast (pc := 71) G dX9_clearBank_71 hv71 ?_
  refine z_aload_n (pc := 72) G 0 dX9_clearBank_72 rfl rfl ?_
  obtain ⟨x73, hv73, hX⟩ := z_bd hX
  refine z_getR (pc := 73) G kK9 (k := 18) (by decide) kt_1244 dX9_clearBank_73 hv73 ?_
  refine z_aload_n (pc := 76) G 0 dX9_clearBank_76 rfl rfl ?_
  obtain ⟨x77, hv77, hX⟩ := z_bd hX
  refine z_getI (pc := 77) G kK9 (k := 35) (by decide) kt_1261 dX9_clearBank_77 hv77 ?_
  refine z_iconst (pc := 80) (v := 0) G dX9_clearBank_80 (by decide) ?_
  obtain ⟨h81, hv81, hX⟩ := z_bd hX
  refine z_iast (pc := 81) G dX9_clearBank_81 hv81 ?_
  refine z_aload_n (pc := 82) G 0 dX9_clearBank_82 rfl rfl ?_
  obtain ⟨x83, hv83, hX⟩ := z_bd hX
  refine z_getR (pc := 83) G kK9 (k := 19) (by decide) kt_1245 dX9_clearBank_83 hv83 ?_
  refine z_aload_n (pc := 86) G 0 dX9_clearBank_86 rfl rfl ?_
  obtain ⟨x87, hv87, hX⟩ := z_bd hX
  refine z_getI (pc := 87) G kK9 (k := 35) (by decide) kt_1261 dX9_clearBank_87 hv87 ?_
  refine z_iconst (pc := 90) (v := 0) G dX9_clearBank_90 (by decide) ?_
  obtain ⟨h91, hv91, hX⟩ := z_bd hX
  refine z_iast (pc := 91) G dX9_clearBank_91 hv91 ?_
  refine z_aload_n (pc := 92) G 0 dX9_clearBank_92 rfl rfl ?_
  obtain ⟨x93, hv93, hX⟩ := z_bd hX
  refine z_getR (pc := 93) G kK9 (k := 20) (by decide) kt_1246 dX9_clearBank_93 hv93 ?_
  refine z_aload_n (pc := 96) G 0 dX9_clearBank_96 rfl rfl ?_
  obtain ⟨x97, hv97, hX⟩ := z_bd hX
  refine z_getI (pc := 97) G kK9 (k := 35) (by decide) kt_1261 dX9_clearBank_97 hv97 ?_
  refine z_iconst (pc := 100) (v := 0) G dX9_clearBank_100 (by decide) ?_
  obtain ⟨h101, hv101, hX⟩ := z_bd hX
  refine z_iast (pc := 101) G dX9_clearBank_101 hv101 ?_
  refine z_aload_n (pc := 102) G 0 dX9_clearBank_102 rfl rfl ?_
  refine z_sipush (pc := 103) (v := 560) G dX9_clearBank_103 (by decide) ?_
  refine z_aload_n (pc := 106) G 0 dX9_clearBank_106 rfl rfl ?_
  obtain ⟨x107, hv107, hX⟩ := z_bd hX
  refine z_getI (pc := 107) G kK9 (k := 35) (by decide) kt_1261 dX9_clearBank_107 hv107 ?_
  refine z_imul (pc := 110) G dX9_clearBank_110 ?_
  obtain ⟨h111, hv111, hX⟩ := z_bd hX
  refine z_putF (pc := 111) G kK9 (k := 36) (by decide) kt_1262 (Or.inl rfl) rfl rfl dX9_clearBank_111 hv111 ?_
  exact z_vretX (pc := 114) hX G hr dX9_clearBank_114 (by decide) (by decide)
theorem dX9_forget_0 : decode cX9_forget 0 = .ok (.aload_n 0, 1) := by decide +kernel
theorem dX9_forget_1 : decode cX9_forget 1 = .ok (.getfield 91, 3) := by decide +kernel
theorem dX9_forget_4 : decode cX9_forget 4 = .ok (.bipush 24, 2) := by decide +kernel
theorem dX9_forget_6 : decode cX9_forget 6 = .ok (.iload_n 1, 1) := by decide +kernel
theorem dX9_forget_7 : decode cX9_forget 7 = .ok (.iadd, 1) := by decide +kernel
theorem dX9_forget_8 : decode cX9_forget 8 = .ok (.iconst 0, 1) := by decide +kernel
theorem dX9_forget_9 : decode cX9_forget 9 = .ok (.iastore, 1) := by decide +kernel
theorem dX9_forget_10 : decode cX9_forget 10 = .ok (.iconst 0, 1) := by decide +kernel
theorem dX9_forget_11 : decode cX9_forget 11 = .ok (.istore_n 2, 1) := by decide +kernel
theorem dX9_forget_12 : decode cX9_forget 12 = .ok (.iload_n 2, 1) := by decide +kernel
theorem dX9_forget_13 : decode cX9_forget 13 = .ok (.bipush 30, 2) := by decide +kernel
theorem dX9_forget_15 : decode cX9_forget 15 = .ok (.if_icmp .ge 40, 3) := by decide +kernel
theorem dX9_forget_18 : decode cX9_forget 18 = .ok (.aload_n 0, 1) := by decide +kernel
theorem dX9_forget_19 : decode cX9_forget 19 = .ok (.getfield 91, 3) := by decide +kernel
theorem dX9_forget_22 : decode cX9_forget 22 = .ok (.bipush 84, 2) := by decide +kernel
theorem dX9_forget_24 : decode cX9_forget 24 = .ok (.bipush 30, 2) := by decide +kernel
theorem dX9_forget_26 : decode cX9_forget 26 = .ok (.iload_n 1, 1) := by decide +kernel
theorem dX9_forget_27 : decode cX9_forget 27 = .ok (.imul, 1) := by decide +kernel
theorem dX9_forget_28 : decode cX9_forget 28 = .ok (.iadd, 1) := by decide +kernel
theorem dX9_forget_29 : decode cX9_forget 29 = .ok (.iload_n 2, 1) := by decide +kernel
theorem dX9_forget_30 : decode cX9_forget 30 = .ok (.iadd, 1) := by decide +kernel
theorem dX9_forget_31 : decode cX9_forget 31 = .ok (.iconst (-1), 1) := by decide +kernel
theorem dX9_forget_32 : decode cX9_forget 32 = .ok (.iastore, 1) := by decide +kernel
theorem dX9_forget_33 : decode cX9_forget 33 = .ok (.aload_n 0, 1) := by decide +kernel
theorem dX9_forget_34 : decode cX9_forget 34 = .ok (.getfield 91, 3) := by decide +kernel
theorem dX9_forget_37 : decode cX9_forget 37 = .ok (.sipush 264, 3) := by decide +kernel
theorem dX9_forget_40 : decode cX9_forget 40 = .ok (.bipush 30, 2) := by decide +kernel
theorem dX9_forget_42 : decode cX9_forget 42 = .ok (.iload_n 1, 1) := by decide +kernel
theorem dX9_forget_43 : decode cX9_forget 43 = .ok (.imul, 1) := by decide +kernel
theorem dX9_forget_44 : decode cX9_forget 44 = .ok (.iadd, 1) := by decide +kernel
theorem dX9_forget_45 : decode cX9_forget 45 = .ok (.iload_n 2, 1) := by decide +kernel
theorem dX9_forget_46 : decode cX9_forget 46 = .ok (.iadd, 1) := by decide +kernel
theorem dX9_forget_47 : decode cX9_forget 47 = .ok (.iconst 0, 1) := by decide +kernel
theorem dX9_forget_48 : decode cX9_forget 48 = .ok (.iastore, 1) := by decide +kernel
theorem dX9_forget_49 : decode cX9_forget 49 = .ok (.iinc 2 1, 3) := by decide +kernel
theorem dX9_forget_52 : decode cX9_forget 52 = .ok (.goto (-40), 3) := by decide +kernel
theorem dX9_forget_55 : decode cX9_forget 55 = .ok (.iconst 0, 1) := by decide +kernel
theorem dX9_forget_56 : decode cX9_forget 56 = .ok (.istore_n 2, 1) := by decide +kernel
theorem dX9_forget_57 : decode cX9_forget 57 = .ok (.iload_n 2, 1) := by decide +kernel
theorem dX9_forget_58 : decode cX9_forget 58 = .ok (.bipush 6, 2) := by decide +kernel
theorem dX9_forget_60 : decode cX9_forget 60 = .ok (.if_icmp .ge 41, 3) := by decide +kernel
theorem dX9_forget_63 : decode cX9_forget 63 = .ok (.aload_n 0, 1) := by decide +kernel
theorem dX9_forget_64 : decode cX9_forget 64 = .ok (.getfield 91, 3) := by decide +kernel
theorem dX9_forget_67 : decode cX9_forget 67 = .ok (.sipush 444, 3) := by decide +kernel
theorem dX9_forget_70 : decode cX9_forget 70 = .ok (.bipush 6, 2) := by decide +kernel
theorem dX9_forget_72 : decode cX9_forget 72 = .ok (.iload_n 1, 1) := by decide +kernel
theorem dX9_forget_73 : decode cX9_forget 73 = .ok (.imul, 1) := by decide +kernel
theorem dX9_forget_74 : decode cX9_forget 74 = .ok (.iadd, 1) := by decide +kernel
theorem dX9_forget_75 : decode cX9_forget 75 = .ok (.iload_n 2, 1) := by decide +kernel
theorem dX9_forget_76 : decode cX9_forget 76 = .ok (.iadd, 1) := by decide +kernel
theorem dX9_forget_77 : decode cX9_forget 77 = .ok (.iconst (-1), 1) := by decide +kernel
theorem dX9_forget_78 : decode cX9_forget 78 = .ok (.iastore, 1) := by decide +kernel
theorem dX9_forget_79 : decode cX9_forget 79 = .ok (.aload_n 0, 1) := by decide +kernel
theorem dX9_forget_80 : decode cX9_forget 80 = .ok (.getfield 91, 3) := by decide +kernel
theorem dX9_forget_83 : decode cX9_forget 83 = .ok (.sipush 480, 3) := by decide +kernel
theorem dX9_forget_86 : decode cX9_forget 86 = .ok (.bipush 6, 2) := by decide +kernel
theorem dX9_forget_88 : decode cX9_forget 88 = .ok (.iload_n 1, 1) := by decide +kernel
theorem dX9_forget_89 : decode cX9_forget 89 = .ok (.imul, 1) := by decide +kernel
theorem dX9_forget_90 : decode cX9_forget 90 = .ok (.iadd, 1) := by decide +kernel
theorem dX9_forget_91 : decode cX9_forget 91 = .ok (.iload_n 2, 1) := by decide +kernel
theorem dX9_forget_92 : decode cX9_forget 92 = .ok (.iadd, 1) := by decide +kernel
theorem dX9_forget_93 : decode cX9_forget 93 = .ok (.iconst (-1), 1) := by decide +kernel
theorem dX9_forget_94 : decode cX9_forget 94 = .ok (.iastore, 1) := by decide +kernel
theorem dX9_forget_95 : decode cX9_forget 95 = .ok (.iinc 2 1, 3) := by decide +kernel
theorem dX9_forget_98 : decode cX9_forget 98 = .ok (.goto (-41), 3) := by decide +kernel
theorem dX9_forget_101 : decode cX9_forget 101 = .ok (.return_, 1) := by decide +kernel
theorem ydX9_forget : z_yd yX9_forget 1 := ⟨by decide, by decide, by decide +kernel⟩
abbrev rmX9_forget : Room := { frames := 0, cells := 0, slots := 0, locals := 0 }
noncomputable def xX9_forget_B57 (r57 : Nat → Int32 → Int32 → ZH → Option ZH) (l0 : Nat) (l1 : Int32) (l2 : Int32) (h : ZH) : Option ZH := (if (6 : Int32) ≤ l2 then some h else ((z_gR h l0 9 41).bind fun x64 => ((z_uI h x64 (((444 : Int32) + ((6 : Int32) * l1)) + l2) (-1 : Int32)).bind fun h78 => ((z_gR h78 l0 9 41).bind fun x80 => ((z_uI h78 x80 (((480 : Int32) + ((6 : Int32) * l1)) + l2) (-1 : Int32)).bind fun h94 => r57 l0 l1 (l2 + 1) h94)))))
noncomputable def xX9_forget_L57 (n : Nat) : Nat → Int32 → Int32 → ZH → Option ZH := Nat.rec (motive := fun _ => Nat → Int32 → Int32 → ZH → Option ZH) (fun _ _ _ _ => none) (fun _ rec => xX9_forget_B57  rec) n
set_option maxHeartbeats 4000000 in
set_option maxRecDepth 100000 in
theorem wX9_forget_B57 {Γ : ZG} {p : Program} {l : Launch} {e : Env} {s : State} {m : MethodId} {args : Array Value} {below : List Frame} {meth : Method} {c : Code} (hO : z_OK Γ) (G : z_GG Γ p s m args meth c cX9_forget 3 RX9) (hr : meth.sig.returnType = none) (hnm : meth.name = "forget") {r : ZH} {r57 : Nat → Int32 → Int32 → ZH → Option ZH} (H57 : ∀ (l0 : Nat) (l1 : Int32) (l2 : Int32) (h : ZH), r57 l0 l1 l2 h = some r → z_W Γ p l e rmX9_forget s m args below meth c 3 0 0 (MQ below (z_Qc Γ none r) args s rmX9_forget.cells rmX9_forget.slots (z_A Γ)) 57 [(0, .ref l0), (1, .int l1), (2, .int l2)] [] h) : ∀ (l0 : Nat) (l1 : Int32) (l2 : Int32) (h : ZH), xX9_forget_B57  r57 l0 l1 l2 h = some r → z_W Γ p l e rmX9_forget s m args below meth c 3 0 0 (MQ below (z_Qc Γ none r) args s rmX9_forget.cells rmX9_forget.slots (z_A Γ)) 57 [(0, .ref l0), (1, .int l1), (2, .int l2)] [] h := by
  intro l0 l1 l2 h hX
  refine z_iload_n (pc := 57) G 2 dX9_forget_57 rfl rfl ?_
  refine z_bipush (pc := 58) (v := 6) G dX9_forget_58 (by decide) ?_
  refine z_icmp_ge (pc := 60) (tgt := 101) G dX9_forget_60 (by decide) (fun hc60 => ?_) (fun hc60 => ?_)
  · have hX := z_it hc60 hX
    exact z_vretX (pc := 101) hX G hr dX9_forget_101 (by decide) (by decide)
  · have hX := z_if hc60 hX
    refine z_aload_n (pc := 63) G 0 dX9_forget_63 rfl rfl ?_
    obtain ⟨x64, hv64, hX⟩ := z_bd hX
    refine z_getR (pc := 64) G kK9 (k := 41) (by decide) kt_1267 dX9_forget_64 hv64 ?_
    refine z_sipush (pc := 67) (v := 444) G dX9_forget_67 (by decide) ?_
    refine z_bipush (pc := 70) (v := 6) G dX9_forget_70 (by decide) ?_
    refine z_iload_n (pc := 72) G 1 dX9_forget_72 rfl rfl ?_
    refine z_imul (pc := 73) G dX9_forget_73 ?_
    refine z_iadd (pc := 74) G dX9_forget_74 ?_
    refine z_iload_n (pc := 75) G 2 dX9_forget_75 rfl rfl ?_
    refine z_iadd (pc := 76) G dX9_forget_76 ?_
    refine z_iconst (pc := 77) (v := (-1)) G dX9_forget_77 (by decide) ?_
    obtain ⟨h78, hv78, hX⟩ := z_bd hX
    refine z_iast (pc := 78) G dX9_forget_78 hv78 ?_
    refine z_aload_n (pc := 79) G 0 dX9_forget_79 rfl rfl ?_
    obtain ⟨x80, hv80, hX⟩ := z_bd hX
    refine z_getR (pc := 80) G kK9 (k := 41) (by decide) kt_1267 dX9_forget_80 hv80 ?_
    refine z_sipush (pc := 83) (v := 480) G dX9_forget_83 (by decide) ?_
    refine z_bipush (pc := 86) (v := 6) G dX9_forget_86 (by decide) ?_
    refine z_iload_n (pc := 88) G 1 dX9_forget_88 rfl rfl ?_
    refine z_imul (pc := 89) G dX9_forget_89 ?_
    refine z_iadd (pc := 90) G dX9_forget_90 ?_
    refine z_iload_n (pc := 91) G 2 dX9_forget_91 rfl rfl ?_
    refine z_iadd (pc := 92) G dX9_forget_92 ?_
    refine z_iconst (pc := 93) (v := (-1)) G dX9_forget_93 (by decide) ?_
    obtain ⟨h94, hv94, hX⟩ := z_bd hX
    refine z_iast (pc := 94) G dX9_forget_94 hv94 ?_
    refine z_iincw (pc := 95) (w := 1) (lv2 := [(0, .ref l0), (1, .int l1), (2, .int (l2 + 1))]) G 2 dX9_forget_95 rfl (by decide) (by decide) rfl rfl ?_
    refine z_goto (pc := 98) (tgt := 57) G dX9_forget_98 (by decide) ?_
    exact H57 _ _ _ _ hX
set_option maxHeartbeats 4000000 in
set_option maxRecDepth 100000 in
theorem wX9_forget_L57 {Γ : ZG} {p : Program} {l : Launch} {e : Env} {s : State} {m : MethodId} {args : Array Value} {below : List Frame} {meth : Method} {c : Code} (hO : z_OK Γ) (G : z_GG Γ p s m args meth c cX9_forget 3 RX9) (hr : meth.sig.returnType = none) (hnm : meth.name = "forget") {r : ZH} : ∀ (nn : Nat) (l0 : Nat) (l1 : Int32) (l2 : Int32) (h : ZH), xX9_forget_L57  nn l0 l1 l2 h = some r → z_W Γ p l e rmX9_forget s m args below meth c 3 0 0 (MQ below (z_Qc Γ none r) args s rmX9_forget.cells rmX9_forget.slots (z_A Γ)) 57 [(0, .ref l0), (1, .int l1), (2, .int l2)] [] h := by
  intro nn
  induction nn with
  | zero => intro l0 l1 l2 h hX; cases hX
  | succ nn ih => intro l0 l1 l2 h hX; exact wX9_forget_B57 hO G hr hnm  ih l0 l1 l2 h hX
noncomputable def xX9_forget_B12 (r12 : Nat → Int32 → Int32 → ZH → Option ZH) (l0 : Nat) (l1 : Int32) (l2 : Int32) (h : ZH) : Option ZH := (if (30 : Int32) ≤ l2 then xX9_forget_L57 zFU l0 l1 (0 : Int32) h else ((z_gR h l0 9 41).bind fun x19 => ((z_uI h x19 (((84 : Int32) + ((30 : Int32) * l1)) + l2) (-1 : Int32)).bind fun h32 => ((z_gR h32 l0 9 41).bind fun x34 => ((z_uI h32 x34 (((264 : Int32) + ((30 : Int32) * l1)) + l2) (0 : Int32)).bind fun h48 => r12 l0 l1 (l2 + 1) h48)))))
noncomputable def xX9_forget_L12 (n : Nat) : Nat → Int32 → Int32 → ZH → Option ZH := Nat.rec (motive := fun _ => Nat → Int32 → Int32 → ZH → Option ZH) (fun _ _ _ _ => none) (fun _ rec => xX9_forget_B12  rec) n
set_option maxHeartbeats 4000000 in
set_option maxRecDepth 100000 in
theorem wX9_forget_B12 {Γ : ZG} {p : Program} {l : Launch} {e : Env} {s : State} {m : MethodId} {args : Array Value} {below : List Frame} {meth : Method} {c : Code} (hO : z_OK Γ) (G : z_GG Γ p s m args meth c cX9_forget 3 RX9) (hr : meth.sig.returnType = none) (hnm : meth.name = "forget") {r : ZH} {r12 : Nat → Int32 → Int32 → ZH → Option ZH} (H12 : ∀ (l0 : Nat) (l1 : Int32) (l2 : Int32) (h : ZH), r12 l0 l1 l2 h = some r → z_W Γ p l e rmX9_forget s m args below meth c 3 0 0 (MQ below (z_Qc Γ none r) args s rmX9_forget.cells rmX9_forget.slots (z_A Γ)) 12 [(0, .ref l0), (1, .int l1), (2, .int l2)] [] h) : ∀ (l0 : Nat) (l1 : Int32) (l2 : Int32) (h : ZH), xX9_forget_B12  r12 l0 l1 l2 h = some r → z_W Γ p l e rmX9_forget s m args below meth c 3 0 0 (MQ below (z_Qc Γ none r) args s rmX9_forget.cells rmX9_forget.slots (z_A Γ)) 12 [(0, .ref l0), (1, .int l1), (2, .int l2)] [] h := by
  intro l0 l1 l2 h hX
  refine z_iload_n (pc := 12) G 2 dX9_forget_12 rfl rfl ?_
  refine z_bipush (pc := 13) (v := 30) G dX9_forget_13 (by decide) ?_
  refine z_icmp_ge (pc := 15) (tgt := 55) G dX9_forget_15 (by decide) (fun hc15 => ?_) (fun hc15 => ?_)
  · have hX := z_it hc15 hX
    refine z_iconst (pc := 55) (v := 0) G dX9_forget_55 (by decide) ?_
    refine z_istore_n (pc := 56) (lv2 := [(0, .ref l0), (1, .int l1), (2, .int (0 : Int32))]) G dX9_forget_56 rfl (by decide) rfl rfl ?_
    exact wX9_forget_L57 hO G hr hnm zFU _ _ _ _ hX
  · have hX := z_if hc15 hX
    refine z_aload_n (pc := 18) G 0 dX9_forget_18 rfl rfl ?_
    obtain ⟨x19, hv19, hX⟩ := z_bd hX
    refine z_getR (pc := 19) G kK9 (k := 41) (by decide) kt_1267 dX9_forget_19 hv19 ?_
    refine z_bipush (pc := 22) (v := 84) G dX9_forget_22 (by decide) ?_
    refine z_bipush (pc := 24) (v := 30) G dX9_forget_24 (by decide) ?_
    refine z_iload_n (pc := 26) G 1 dX9_forget_26 rfl rfl ?_
    refine z_imul (pc := 27) G dX9_forget_27 ?_
    refine z_iadd (pc := 28) G dX9_forget_28 ?_
    refine z_iload_n (pc := 29) G 2 dX9_forget_29 rfl rfl ?_
    refine z_iadd (pc := 30) G dX9_forget_30 ?_
    refine z_iconst (pc := 31) (v := (-1)) G dX9_forget_31 (by decide) ?_
    obtain ⟨h32, hv32, hX⟩ := z_bd hX
    refine z_iast (pc := 32) G dX9_forget_32 hv32 ?_
    refine z_aload_n (pc := 33) G 0 dX9_forget_33 rfl rfl ?_
    obtain ⟨x34, hv34, hX⟩ := z_bd hX
    refine z_getR (pc := 34) G kK9 (k := 41) (by decide) kt_1267 dX9_forget_34 hv34 ?_
    refine z_sipush (pc := 37) (v := 264) G dX9_forget_37 (by decide) ?_
    refine z_bipush (pc := 40) (v := 30) G dX9_forget_40 (by decide) ?_
    refine z_iload_n (pc := 42) G 1 dX9_forget_42 rfl rfl ?_
    refine z_imul (pc := 43) G dX9_forget_43 ?_
    refine z_iadd (pc := 44) G dX9_forget_44 ?_
    refine z_iload_n (pc := 45) G 2 dX9_forget_45 rfl rfl ?_
    refine z_iadd (pc := 46) G dX9_forget_46 ?_
    refine z_iconst (pc := 47) (v := 0) G dX9_forget_47 (by decide) ?_
    obtain ⟨h48, hv48, hX⟩ := z_bd hX
    refine z_iast (pc := 48) G dX9_forget_48 hv48 ?_
    refine z_iincw (pc := 49) (w := 1) (lv2 := [(0, .ref l0), (1, .int l1), (2, .int (l2 + 1))]) G 2 dX9_forget_49 rfl (by decide) (by decide) rfl rfl ?_
    refine z_goto (pc := 52) (tgt := 12) G dX9_forget_52 (by decide) ?_
    exact H12 _ _ _ _ hX
set_option maxHeartbeats 4000000 in
set_option maxRecDepth 100000 in
theorem wX9_forget_L12 {Γ : ZG} {p : Program} {l : Launch} {e : Env} {s : State} {m : MethodId} {args : Array Value} {below : List Frame} {meth : Method} {c : Code} (hO : z_OK Γ) (G : z_GG Γ p s m args meth c cX9_forget 3 RX9) (hr : meth.sig.returnType = none) (hnm : meth.name = "forget") {r : ZH} : ∀ (nn : Nat) (l0 : Nat) (l1 : Int32) (l2 : Int32) (h : ZH), xX9_forget_L12  nn l0 l1 l2 h = some r → z_W Γ p l e rmX9_forget s m args below meth c 3 0 0 (MQ below (z_Qc Γ none r) args s rmX9_forget.cells rmX9_forget.slots (z_A Γ)) 12 [(0, .ref l0), (1, .int l1), (2, .int l2)] [] h := by
  intro nn
  induction nn with
  | zero => intro l0 l1 l2 h hX; cases hX
  | succ nn ih => intro l0 l1 l2 h hX; exact wX9_forget_B12 hO G hr hnm  ih l0 l1 l2 h hX
noncomputable def xX9_forget (l0 : Nat) (l1 : Int32) (h : ZH) : Option ZH := ((z_gR h l0 9 41).bind fun x1 => ((z_uI h x1 ((24 : Int32) + l1) (0 : Int32)).bind fun h9 => xX9_forget_L12 zFU l0 l1 (0 : Int32) h9))
set_option maxHeartbeats 4000000 in
set_option maxRecDepth 100000 in
theorem lX9_forget {Γ : ZG} {l : Launch} (hO : z_OK Γ) {l0 : Nat} {l1 : Int32} {h : ZH} {r : ZH} (hX : xX9_forget l0 l1 h = some r) : z_M Γ l yX9_forget (z_ws1 yX9_forget cX9_forget 3 none) rmX9_forget [.ref l0, .int l1] h none r := by
  refine z_start hO (plainFor_of_name (by decide)) (Nat.le_of_ble_eq_true rfl) ?_
  intro p e s m args below meth c G hr hnm
  refine z_lvc (lv2 := [(0, .ref l0), (1, .int l1)]) rfl ?_
  refine z_aload_n (pc := 0) G 0 dX9_forget_0 rfl rfl ?_
  obtain ⟨x1, hv1, hX⟩ := z_bd hX
  refine z_getR (pc := 1) G kK9 (k := 41) (by decide) kt_1267 dX9_forget_1 hv1 ?_
  refine z_bipush (pc := 4) (v := 24) G dX9_forget_4 (by decide) ?_
  refine z_iload_n (pc := 6) G 1 dX9_forget_6 rfl rfl ?_
  refine z_iadd (pc := 7) G dX9_forget_7 ?_
  refine z_iconst (pc := 8) (v := 0) G dX9_forget_8 (by decide) ?_
  obtain ⟨h9, hv9, hX⟩ := z_bd hX
  refine z_iast (pc := 9) G dX9_forget_9 hv9 ?_
  refine z_iconst (pc := 10) (v := 0) G dX9_forget_10 (by decide) ?_
  refine z_istore_n (pc := 11) (lv2 := [(0, .ref l0), (1, .int l1), (2, .int (0 : Int32))]) G dX9_forget_11 rfl (by decide) rfl rfl ?_
  exact wX9_forget_L12 hO G hr hnm zFU _ _ _ _ hX
