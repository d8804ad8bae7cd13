theorem dX9_freeOf_0 : decode cX9_freeOf 0 = .ok (.iconst 0, 1) := by decide +kernel
theorem dX9_freeOf_1 : decode cX9_freeOf 1 = .ok (.istore_n 2, 1) := by decide +kernel
theorem dX9_freeOf_2 : decode cX9_freeOf 2 = .ok (.iconst 0, 1) := by decide +kernel
theorem dX9_freeOf_3 : decode cX9_freeOf 3 = .ok (.istore_n 3, 1) := by decide +kernel
theorem dX9_freeOf_4 : decode cX9_freeOf 4 = .ok (.iload_n 3, 1) := by decide +kernel
theorem dX9_freeOf_5 : decode cX9_freeOf 5 = .ok (.aload_n 0, 1) := by decide +kernel
theorem dX9_freeOf_6 : decode cX9_freeOf 6 = .ok (.invokevirtual 344, 3) := by decide +kernel
theorem dX9_freeOf_9 : decode cX9_freeOf 9 = .ok (.if_icmp .ge 36, 3) := by decide +kernel
theorem dX9_freeOf_12 : decode cX9_freeOf 12 = .ok (.aload_n 0, 1) := by decide +kernel
theorem dX9_freeOf_13 : decode cX9_freeOf 13 = .ok (.iload_n 1, 1) := by decide +kernel
theorem dX9_freeOf_14 : decode cX9_freeOf 14 = .ok (.iload_n 3, 1) := by decide +kernel
theorem dX9_freeOf_15 : decode cX9_freeOf 15 = .ok (.invokevirtual 356, 3) := by decide +kernel
theorem dX9_freeOf_18 : decode cX9_freeOf 18 = .ok (.ifCond .ge 21, 3) := by decide +kernel
theorem dX9_freeOf_21 : decode cX9_freeOf 21 = .ok (.aload_n 0, 1) := by decide +kernel
theorem dX9_freeOf_22 : decode cX9_freeOf 22 = .ok (.iload_n 1, 1) := by decide +kernel
theorem dX9_freeOf_23 : decode cX9_freeOf 23 = .ok (.invokevirtual 387, 3) := by decide +kernel
theorem dX9_freeOf_26 : decode cX9_freeOf 26 = .ok (.iload_n 3, 1) := by decide +kernel
theorem dX9_freeOf_27 : decode cX9_freeOf 27 = .ok (.invokestatic 265, 3) := by decide +kernel
theorem dX9_freeOf_30 : decode cX9_freeOf 30 = .ok (.ifCond .ne 9, 3) := by decide +kernel
theorem dX9_freeOf_33 : decode cX9_freeOf 33 = .ok (.iload_n 2, 1) := by decide +kernel
theorem dX9_freeOf_34 : decode cX9_freeOf 34 = .ok (.iconst 1, 1) := by decide +kernel
theorem dX9_freeOf_35 : decode cX9_freeOf 35 = .ok (.iload_n 3, 1) := by decide +kernel
theorem dX9_freeOf_36 : decode cX9_freeOf 36 = .ok (.ishl, 1) := by decide +kernel
theorem dX9_freeOf_37 : decode cX9_freeOf 37 = .ok (.ior, 1) := by decide +kernel
theorem dX9_freeOf_38 : decode cX9_freeOf 38 = .ok (.istore_n 2, 1) := by decide +kernel
theorem dX9_freeOf_39 : decode cX9_freeOf 39 = .ok (.iinc 3 1, 3) := by decide +kernel
theorem dX9_freeOf_42 : decode cX9_freeOf 42 = .ok (.goto (-38), 3) := by decide +kernel
theorem dX9_freeOf_45 : decode cX9_freeOf 45 = .ok (.iload_n 2, 1) := by decide +kernel
theorem dX9_freeOf_46 : decode cX9_freeOf 46 = .ok (.ireturn, 1) := by decide +kernel
theorem ydX9_freeOf : z_yd yX9_freeOf 1 := ⟨by decide, by decide, by decide +kernel⟩
abbrev rmX9_freeOf : Room := { frames := 1, cells := 0, slots := 0, locals := 23 }
noncomputable def xX9_freeOf_B4 (r4 : Nat → Int32 → Int32 → Int32 → ZH → Option (Int32 × ZH)) (l0 : Nat) (l1 : Int32) (l2 : Int32) (l3 : Int32) (h : ZH) : Option (Int32 × ZH) := (z_gu (z_is h l0 9) ((xX9_round l0 h).bind fun r6 => (if r6.1 ≤ l3 then some (l2, r6.2) else (z_gu (z_is r6.2 l0 9) ((xX9_holderIn l0 l1 l3 r6.2).bind fun r15 => (if 0 ≤ r15.1 then r4 l0 l1 l2 (l3 + 1) r15.2 else (z_gu (z_is r15.2 l0 9) ((xX9_ownedBy l0 l1 r15.2).bind fun r23 => ((xX9_bit r23.1 l3 r23.2).bind fun r27 => (if r27.1 = 0 then r4 l0 l1 (l2 ||| ((1 : Int32) <<< (l3 &&& 31))) (l3 + 1) r27.2 else r4 l0 l1 l2 (l3 + 1) r27.2))))))))))
noncomputable def xX9_freeOf_L4 (n : Nat) : Nat → Int32 → Int32 → Int32 → ZH → Option (Int32 × ZH) := Nat.rec (motive := fun _ => Nat → Int32 → Int32 → Int32 → ZH → Option (Int32 × ZH)) (fun _ _ _ _ _ => none) (fun _ rec => xX9_freeOf_B4  rec) n
set_option maxHeartbeats 4000000 in
set_option maxRecDepth 100000 in
theorem wX9_freeOf_B4 {Γ : ZG} {p : Program} {l : Launch} {e : Env} {s : State} {m : MethodId} {args : Array Value} {below : List Frame} {meth : Method} {c : Code} (hO : z_OK Γ) (G : z_GG Γ p s m args meth c cX9_freeOf 4 RX9) (hr : meth.sig.returnType = (some .int)) (hnm : meth.name = "freeOf") {r : (Int32 × ZH)} {r4 : Nat → Int32 → Int32 → Int32 → ZH → Option (Int32 × ZH)} (H4 : ∀ (l0 : Nat) (l1 : Int32) (l2 : Int32) (l3 : Int32) (h : ZH), r4 l0 l1 l2 l3 h = some r → z_W Γ p l e rmX9_freeOf s m args below meth c 4 0 0 (MQ below (z_Qc Γ (some (.int r.1)) r.2) args s rmX9_freeOf.cells rmX9_freeOf.slots (z_A Γ)) 4 [(0, .ref l0), (1, .int l1), (2, .int l2), (3, .int l3)] [] h) : ∀ (l0 : Nat) (l1 : Int32) (l2 : Int32) (l3 : Int32) (h : ZH), xX9_freeOf_B4  r4 l0 l1 l2 l3 h = some r → z_W Γ p l e rmX9_freeOf s m args below meth c 4 0 0 (MQ below (z_Qc Γ (some (.int r.1)) r.2) args s rmX9_freeOf.cells rmX9_freeOf.slots (z_A Γ)) 4 [(0, .ref l0), (1, .int l1), (2, .int l2), (3, .int l3)] [] h := by
  intro l0 l1 l2 l3 h hX
  refine z_iload_n (pc := 4) G 3 dX9_freeOf_4 rfl rfl ?_
  refine z_aload_n (pc := 5) G 0 dX9_freeOf_5 rfl rfl ?_
  obtain ⟨hi6, hX⟩ := z_gu_s hX
  obtain ⟨r6, hv6, hX⟩ := z_bd hX
  refine z_cVI (pc := 6) (As := []) (c2 := 0) (s2 := 0) G kK9 (lX9_round hO hv6) hi6 kt_1575 kt_11 kt_1572 kt_1574 ks_66 ydX9_round ⟨by decide, by decide⟩ rfl (Nat.le_of_ble_eq_true rfl) ⟨rfl, rfl⟩ ⟨by decide, by decide⟩ rfl dX9_freeOf_6 ?_
  refine z_icmp_ge (pc := 9) (tgt := 45) G dX9_freeOf_9 (by decide) (fun hc9 => ?_) (fun hc9 => ?_)
  · have hX := z_it hc9 hX
    refine z_iload_n (pc := 45) G 2 dX9_freeOf_45 rfl rfl ?_
    exact z_iretX (pc := 46) hX G hr dX9_freeOf_46 (by decide) (by decide)
  · have hX := z_if hc9 hX
    refine z_aload_n (pc := 12) G 0 dX9_freeOf_12 rfl rfl ?_
    refine z_iload_n (pc := 13) G 1 dX9_freeOf_13 rfl rfl ?_
    refine z_iload_n (pc := 14) G 3 dX9_freeOf_14 rfl rfl ?_
    obtain ⟨hi15, hX⟩ := z_gu_s hX
    obtain ⟨r15, hv15, hX⟩ := z_bd hX
    refine z_cVI (pc := 15) (As := [.int l1, .int l3]) (c2 := 0) (s2 := 0) G kK9 (lX9_holderIn hO hv15) hi15 kt_1579 kt_11 kt_1576 kt_1578 ks_67 ydX9_holderIn ⟨by decide, by decide⟩ rfl (Nat.le_of_ble_eq_true rfl) ⟨rfl, rfl⟩ ⟨by decide, by decide⟩ rfl dX9_freeOf_15 ?_
    refine z_if_ge (pc := 18) (tgt := 39) G dX9_freeOf_18 (by decide) (fun hc18 => ?_) (fun hc18 => ?_)
    · have hX := z_it hc18 hX
      refine z_iincw (pc := 39) (w := 1) (lv2 := [(0, .ref l0), (1, .int l1), (2, .int l2), (3, .int (l3 + 1))]) G 3 dX9_freeOf_39 rfl (by decide) (by decide) rfl rfl ?_
      refine z_goto (pc := 42) (tgt := 4) G dX9_freeOf_42 (by decide) ?_
      exact H4 _ _ _ _ _ hX
    · have hX := z_if hc18 hX
      refine z_aload_n (pc := 21) G 0 dX9_freeOf_21 rfl rfl ?_
      refine z_iload_n (pc := 22) G 1 dX9_freeOf_22 rfl rfl ?_
      obtain ⟨hi23, hX⟩ := z_gu_s hX
      obtain ⟨r23, hv23, hX⟩ := z_bd hX
      refine z_cVI (pc := 23) (As := [.int l1]) (c2 := 0) (s2 := 0) G kK9 (lX9_ownedBy hO hv23) hi23 kt_1629 kt_11 kt_1626 kt_1628 ks_73 ydX9_ownedBy ⟨by decide, by decide⟩ rfl (Nat.le_of_ble_eq_true rfl) ⟨rfl, rfl⟩ ⟨by decide, by decide⟩ rfl dX9_freeOf_23 ?_
      refine z_iload_n (pc := 26) G 3 dX9_freeOf_26 rfl rfl ?_
      obtain ⟨r27, hv27, hX⟩ := z_bd hX
      refine z_cSI (pc := 27) (As := [.int r23.1, .int l3]) (c2 := 0) (s2 := 0) G (lX9_bit hO hv27) kt_1476 kt_11 kt_1474 kt_1475 ydX9_bit ⟨by decide, by decide⟩ rfl (Nat.le_of_ble_eq_true rfl) ⟨rfl, rfl⟩ ⟨by decide, by decide⟩ rfl dX9_freeOf_27 ?_
      refine z_if_ne (pc := 30) (tgt := 39) G dX9_freeOf_30 (by decide) (fun hc30 => ?_) (fun hc30 => ?_)
      · have hX := z_if hc30 hX
        refine z_iincw (pc := 39) (w := 1) (lv2 := [(0, .ref l0), (1, .int l1), (2, .int l2), (3, .int (l3 + 1))]) G 3 dX9_freeOf_39 rfl (by decide) (by decide) rfl rfl ?_
        refine z_goto (pc := 42) (tgt := 4) G dX9_freeOf_42 (by decide) ?_
        exact H4 _ _ _ _ _ hX
      · have hX := z_it hc30 hX
        refine z_iload_n (pc := 33) G 2 dX9_freeOf_33 rfl rfl ?_
        refine z_iconst (pc := 34) (v := 1) G dX9_freeOf_34 (by decide) ?_
        refine z_iload_n (pc := 35) G 3 dX9_freeOf_35 rfl rfl ?_
        refine z_ishl (pc := 36) G dX9_freeOf_36 ?_
        refine z_ior (pc := 37) G dX9_freeOf_37 ?_
        refine z_istore_n (pc := 38) (lv2 := [(0, .ref l0), (1, .int l1), (2, .int (l2 ||| ((1 : Int32) <<< (l3 &&& 31)))), (3, .int l3)]) G dX9_freeOf_38 rfl (by decide) rfl rfl ?_
        refine z_iincw (pc := 39) (w := 1) (lv2 := [(0, .ref l0), (1, .int l1), (2, .int (l2 ||| ((1 : Int32) <<< (l3 &&& 31)))), (3, .int (l3 + 1))]) G 3 dX9_freeOf_39 rfl (by decide) (by decide) rfl rfl ?_
        refine z_goto (pc := 42) (tgt := 4) G dX9_freeOf_42 (by decide) ?_
        exact H4 _ _ _ _ _ hX
set_option maxHeartbeats 4000000 in
set_option maxRecDepth 100000 in
theorem wX9_freeOf_L4 {Γ : ZG} {p : Program} {l : Launch} {e : Env} {s : State} {m : MethodId} {args : Array Value} {below : List Frame} {meth : Method} {c : Code} (hO : z_OK Γ) (G : z_GG Γ p s m args meth c cX9_freeOf 4 RX9) (hr : meth.sig.returnType = (some .int)) (hnm : meth.name = "freeOf") {r : (Int32 × ZH)} : ∀ (nn : Nat) (l0 : Nat) (l1 : Int32) (l2 : Int32) (l3 : Int32) (h : ZH), xX9_freeOf_L4  nn l0 l1 l2 l3 h = some r → z_W Γ p l e rmX9_freeOf s m args below meth c 4 0 0 (MQ below (z_Qc Γ (some (.int r.1)) r.2) args s rmX9_freeOf.cells rmX9_freeOf.slots (z_A Γ)) 4 [(0, .ref l0), (1, .int l1), (2, .int l2), (3, .int l3)] [] h := by
  intro nn
  induction nn with
  | zero => intro l0 l1 l2 l3 h hX; cases hX
  | succ nn ih => intro l0 l1 l2 l3 h hX; exact wX9_freeOf_B4 hO G hr hnm  ih l0 l1 l2 l3 h hX
noncomputable def xX9_freeOf (l0 : Nat) (l1 : Int32) (h : ZH) : Option (Int32 × ZH) := xX9_freeOf_L4 zFU l0 l1 (0 : Int32) (0 : Int32) h
set_option maxHeartbeats 4000000 in
set_option maxRecDepth 100000 in
theorem lX9_freeOf {Γ : ZG} {l : Launch} (hO : z_OK Γ) {l0 : Nat} {l1 : Int32} {h : ZH} {r : (Int32 × ZH)} (hX : xX9_freeOf l0 l1 h = some r) : z_M Γ l yX9_freeOf (z_ws1 yX9_freeOf cX9_freeOf 4 (some .int)) rmX9_freeOf [.ref l0, .int l1] h (some (.int r.1)) r.2 := by
  refine z_start hO (plainFor_of_name (by decide)) (Nat.le_of_ble_eq_true rfl) ?_
  intro p e s m args below meth c G hr hnm
  refine z_lvc (lv2 := [(0, .ref l0), (1, .int l1)]) rfl ?_
  refine z_iconst (pc := 0) (v := 0) G dX9_freeOf_0 (by decide) ?_
  refine z_istore_n (pc := 1) (lv2 := [(0, .ref l0), (1, .int l1), (2, .int (0 : Int32))]) G dX9_freeOf_1 rfl (by decide) rfl rfl ?_
  refine z_iconst (pc := 2) (v := 0) G dX9_freeOf_2 (by decide) ?_
  refine z_istore_n (pc := 3) (lv2 := [(0, .ref l0), (1, .int l1), (2, .int (0 : Int32)), (3, .int (0 : Int32))]) G dX9_freeOf_3 rfl (by decide) rfl rfl ?_
  exact wX9_freeOf_L4 hO G hr hnm zFU _ _ _ _ _ hX
theorem dX9_candidatesOf_0 : decode cX9_candidatesOf 0 = .ok (.aload_n 0, 1) := by decide +kernel
theorem dX9_candidatesOf_1 : decode cX9_candidatesOf 1 = .ok (.iload_n 2, 1) := by decide +kernel
theorem dX9_candidatesOf_2 : decode cX9_candidatesOf 2 = .ok (.invokevirtual 393, 3) := by decide +kernel
theorem dX9_candidatesOf_5 : decode cX9_candidatesOf 5 = .ok (.istore_n 3, 1) := by decide +kernel
theorem dX9_candidatesOf_6 : decode cX9_candidatesOf 6 = .ok (.iconst 0, 1) := by decide +kernel
theorem dX9_candidatesOf_7 : decode cX9_candidatesOf 7 = .ok (.istore 4, 2) := by decide +kernel
theorem dX9_candidatesOf_9 : decode cX9_candidatesOf 9 = .ok (.iconst 0, 1) := by decide +kernel
theorem dX9_candidatesOf_10 : decode cX9_candidatesOf 10 = .ok (.istore 5, 2) := by decide +kernel
theorem dX9_candidatesOf_12 : decode cX9_candidatesOf 12 = .ok (.iload 5, 2) := by decide +kernel
theorem dX9_candidatesOf_14 : decode cX9_candidatesOf 14 = .ok (.iload_n 3, 1) := by decide +kernel
theorem dX9_candidatesOf_15 : decode cX9_candidatesOf 15 = .ok (.if_icmp .ge 29, 3) := by decide +kernel
theorem dX9_candidatesOf_18 : decode cX9_candidatesOf 18 = .ok (.iload 4, 2) := by decide +kernel
theorem dX9_candidatesOf_20 : decode cX9_candidatesOf 20 = .ok (.aload_n 0, 1) := by decide +kernel
theorem dX9_candidatesOf_21 : decode cX9_candidatesOf 21 = .ok (.iload_n 1, 1) := by decide +kernel
theorem dX9_candidatesOf_22 : decode cX9_candidatesOf 22 = .ok (.invokevirtual 396, 3) := by decide +kernel
theorem dX9_candidatesOf_25 : decode cX9_candidatesOf 25 = .ok (.iconst 1, 1) := by decide +kernel
theorem dX9_candidatesOf_26 : decode cX9_candidatesOf 26 = .ok (.aload_n 0, 1) := by decide +kernel
theorem dX9_candidatesOf_27 : decode cX9_candidatesOf 27 = .ok (.getfield 100, 3) := by decide +kernel
theorem dX9_candidatesOf_30 : decode cX9_candidatesOf 30 = .ok (.iload 5, 2) := by decide +kernel
theorem dX9_candidatesOf_32 : decode cX9_candidatesOf 32 = .ok (.iaload, 1) := by decide +kernel
theorem dX9_candidatesOf_33 : decode cX9_candidatesOf 33 = .ok (.ishl, 1) := by decide +kernel
theorem dX9_candidatesOf_34 : decode cX9_candidatesOf 34 = .ok (.iand, 1) := by decide +kernel
theorem dX9_candidatesOf_35 : decode cX9_candidatesOf 35 = .ok (.ior, 1) := by decide +kernel
theorem dX9_candidatesOf_36 : decode cX9_candidatesOf 36 = .ok (.istore 4, 2) := by decide +kernel
theorem dX9_candidatesOf_38 : decode cX9_candidatesOf 38 = .ok (.iinc 5 1, 3) := by decide +kernel
theorem dX9_candidatesOf_41 : decode cX9_candidatesOf 41 = .ok (.goto (-29), 3) := by decide +kernel
theorem dX9_candidatesOf_44 : decode cX9_candidatesOf 44 = .ok (.iconst 0, 1) := by decide +kernel
theorem dX9_candidatesOf_45 : decode cX9_candidatesOf 45 = .ok (.istore 5, 2) := by decide +kernel
theorem dX9_candidatesOf_47 : decode cX9_candidatesOf 47 = .ok (.iload 4, 2) := by decide +kernel
theorem dX9_candidatesOf_49 : decode cX9_candidatesOf 49 = .ok (.invokestatic 359, 3) := by decide +kernel
theorem dX9_candidatesOf_52 : decode cX9_candidatesOf 52 = .ok (.aload_n 0, 1) := by decide +kernel
theorem dX9_candidatesOf_53 : decode cX9_candidatesOf 53 = .ok (.getfield 33, 3) := by decide +kernel
theorem dX9_candidatesOf_56 : decode cX9_candidatesOf 56 = .ok (.aload_n 0, 1) := by decide +kernel
theorem dX9_candidatesOf_57 : decode cX9_candidatesOf 57 = .ok (.getfield 255, 3) := by decide +kernel
theorem dX9_candidatesOf_60 : decode cX9_candidatesOf 60 = .ok (.iaload, 1) := by decide +kernel
theorem dX9_candidatesOf_61 : decode cX9_candidatesOf 61 = .ok (.if_icmp .ge 35, 3) := by decide +kernel
theorem dX9_candidatesOf_64 : decode cX9_candidatesOf 64 = .ok (.iload 5, 2) := by decide +kernel
theorem dX9_candidatesOf_66 : decode cX9_candidatesOf 66 = .ok (.ifCond .lt 30, 3) := by decide +kernel
theorem dX9_candidatesOf_69 : decode cX9_candidatesOf 69 = .ok (.aload_n 0, 1) := by decide +kernel
theorem dX9_candidatesOf_70 : decode cX9_candidatesOf 70 = .ok (.iload_n 1, 1) := by decide +kernel
theorem dX9_candidatesOf_71 : decode cX9_candidatesOf 71 = .ok (.iload_n 3, 1) := by decide +kernel
theorem dX9_candidatesOf_72 : decode cX9_candidatesOf 72 = .ok (.iload 4, 2) := by decide +kernel
theorem dX9_candidatesOf_74 : decode cX9_candidatesOf 74 = .ok (.invokevirtual 399, 3) := by decide +kernel
theorem dX9_candidatesOf_77 : decode cX9_candidatesOf 77 = .ok (.istore 5, 2) := by decide +kernel
theorem dX9_candidatesOf_79 : decode cX9_candidatesOf 79 = .ok (.iload 5, 2) := by decide +kernel
theorem dX9_candidatesOf_81 : decode cX9_candidatesOf 81 = .ok (.ifCond .lt (-34), 3) := by decide +kernel
theorem dX9_candidatesOf_84 : decode cX9_candidatesOf 84 = .ok (.iload 4, 2) := by decide +kernel
theorem dX9_candidatesOf_86 : decode cX9_candidatesOf 86 = .ok (.iconst 1, 1) := by decide +kernel
theorem dX9_candidatesOf_87 : decode cX9_candidatesOf 87 = .ok (.iload 5, 2) := by decide +kernel
theorem dX9_candidatesOf_89 : decode cX9_candidatesOf 89 = .ok (.ishl, 1) := by decide +kernel
theorem dX9_candidatesOf_90 : decode cX9_candidatesOf 90 = .ok (.ior, 1) := by decide +kernel
theorem dX9_candidatesOf_91 : decode cX9_candidatesOf 91 = .ok (.istore 4, 2) := by decide +kernel
theorem dX9_candidatesOf_93 : decode cX9_candidatesOf 93 = .ok (.goto (-46), 3) := by decide +kernel
theorem dX9_candidatesOf_96 : decode cX9_candidatesOf 96 = .ok (.iload 4, 2) := by decide +kernel
theorem dX9_candidatesOf_98 : decode cX9_candidatesOf 98 = .ok (.ireturn, 1) := by decide +kernel
theorem ydX9_candidatesOf : z_yd yX9_candidatesOf 2 := ⟨by decide, by decide, by decide +kernel⟩
abbrev rmX9_candidatesOf : Room := { frames := 3, cells := 0, slots := 0, locals := 69 }
noncomputable def xX9_candidatesOf_B47 (r47 : Nat → Int32 → Int32 → Int32 → Int32 → ZH → Option (Int32 × ZH)) (l0 : Nat) (l1 : Int32) (l3 : Int32) (l4 : Int32) (l5 : Int32) (h : ZH) : Option (Int32 × ZH) := ((xX9_bitsOf l4 h).bind fun r49 => ((z_gR r49.2 l0 9 15).bind fun x53 => ((z_gI r49.2 l0 9 34).bind fun x57 => ((z_aI r49.2 x53 x57).bind fun x60 => (if x60 ≤ r49.1 then some (l4, r49.2) else (if l5 < 0 then some (l4, r49.2) else (z_gu (z_is r49.2 l0 9) ((xX9_farthestOf l0 l1 l3 l4 r49.2).bind fun r74 => (if r74.1 < 0 then r47 l0 l1 l3 l4 r74.1 r74.2 else r47 l0 l1 l3 (l4 ||| ((1 : Int32) <<< (r74.1 &&& 31))) r74.1 r74.2)))))))))
noncomputable def xX9_candidatesOf_L47 (n : Nat) : Nat → Int32 → Int32 → Int32 → Int32 → ZH → Option (Int32 × ZH) := Nat.rec (motive := fun _ => Nat → Int32 → Int32 → Int32 → Int32 → ZH → Option (Int32 × ZH)) (fun _ _ _ _ _ _ => none) (fun _ rec => xX9_candidatesOf_B47  rec) n
set_option maxHeartbeats 4000000 in
set_option maxRecDepth 100000 in
theorem wX9_candidatesOf_B47 {Γ : ZG} {p : Program} {l : Launch} {e : Env} {s : State} {m : MethodId} {args : Array Value} {below : List Frame} {meth : Method} {c : Code} (hO : z_OK Γ) (G : z_GG Γ p s m args meth c cX9_candidatesOf 6 RX9) (hr : meth.sig.returnType = (some .int)) (hnm : meth.name = "candidatesOf") {r : (Int32 × ZH)} {r47 : Nat → Int32 → Int32 → Int32 → Int32 → ZH → Option (Int32 × ZH)} (H47 : ∀ (l0 : Nat) (l1 : Int32) (l3 : Int32) (l4 : Int32) (l5 : Int32) (h : ZH), r47 l0 l1 l3 l4 l5 h = some r → z_W Γ p l e rmX9_candidatesOf s m args below meth c 6 0 0 (MQ below (z_Qc Γ (some (.int r.1)) r.2) args s rmX9_candidatesOf.cells rmX9_candidatesOf.slots (z_A Γ)) 47 [(0, .ref l0), (1, .int l1), (3, .int l3), (4, .int l4), (5, .int l5)] [] h) : ∀ (l0 : Nat) (l1 : Int32) (l3 : Int32) (l4 : Int32) (l5 : Int32) (h : ZH), xX9_candidatesOf_B47  r47 l0 l1 l3 l4 l5 h = some r → z_W Γ p l e rmX9_candidatesOf s m args below meth c 6 0 0 (MQ below (z_Qc Γ (some (.int r.1)) r.2) args s rmX9_candidatesOf.cells rmX9_candidatesOf.slots (z_A Γ)) 47 [(0, .ref l0), (1, .int l1), (3, .int l3), (4, .int l4), (5, .int l5)] [] h := by
  intro l0 l1 l3 l4 l5 h hX
  refine z_iload (pc := 47) G 3 dX9_candidatesOf_47 rfl ?_
  obtain ⟨r49, hv49, hX⟩ := z_bd hX
  refine z_cSI (pc := 49) (As := [.int l4]) (c2 := 0) (s2 := 0) G (lX9_bitsOf hO hv49) kt_1582 kt_11 kt_1580 kt_1581 ydX9_bitsOf ⟨by decide, by decide⟩ rfl (Nat.le_of_ble_eq_true rfl) ⟨rfl, rfl⟩ ⟨by decide, by decide⟩ rfl dX9_candidatesOf_49 ?_
  refine z_aload_n (pc := 52) G 0 dX9_candidatesOf_52 rfl rfl ?_
  obtain ⟨x53, hv53, hX⟩ := z_bd hX
  refine z_getR (pc := 53) G kK9 (k := 15) (by decide) kt_1241 dX9_candidatesOf_53 hv53 ?_
  refine z_aload_n (pc := 56) G 0 dX9_candidatesOf_56 rfl rfl ?_
  obtain ⟨x57, hv57, hX⟩ := z_bd hX
  refine z_getI (pc := 57) G kK9 (k := 34) (by decide) kt_1260 dX9_candidatesOf_57 hv57 ?_
  obtain ⟨x60, hv60, hX⟩ := z_bd hX
  refine z_iald (pc := 60) G dX9_candidatesOf_60 hv60 ?_
  refine z_icmp_ge (pc := 61) (tgt := 96) G dX9_candidatesOf_61 (by decide) (fun hc61 => ?_) (fun hc61 => ?_)
  · have hX := z_it hc61 hX
    refine z_iload (pc := 96) G 3 dX9_candidatesOf_96 rfl ?_
    exact z_iretX (pc := 98) hX G hr dX9_candidatesOf_98 (by decide) (by decide)
  · have hX := z_if hc61 hX
    refine z_iload (pc := 64) G 4 dX9_candidatesOf_64 rfl ?_
    refine z_if_lt (pc := 66) (tgt := 96) G dX9_candidatesOf_66 (by decide) (fun hc66 => ?_) (fun hc66 => ?_)
    · have hX := z_it hc66 hX
      refine z_iload (pc := 96) G 3 dX9_candidatesOf_96 rfl ?_
      exact z_iretX (pc := 98) hX G hr dX9_candidatesOf_98 (by decide) (by decide)
    · have hX := z_if hc66 hX
      refine z_aload_n (pc := 69) G 0 dX9_candidatesOf_69 rfl rfl ?_
      refine z_iload_n (pc := 70) G 1 dX9_candidatesOf_70 rfl rfl ?_
      refine z_iload_n (pc := 71) G 2 dX9_candidatesOf_71 rfl rfl ?_
      refine z_iload (pc := 72) G 3 dX9_candidatesOf_72 rfl ?_
      obtain ⟨hi74, hX⟩ := z_gu_s hX
      obtain ⟨r74, hv74, hX⟩ := z_bd hX
      refine z_cVI (pc := 74) (As := [.int l1, .int l3, .int l4]) (c2 := 0) (s2 := 0) G kK9 (lX9_farthestOf hO hv74) hi74 kt_1633 kt_11 kt_1630 kt_1632 ks_74 ydX9_farthestOf ⟨by decide, by decide⟩ rfl (Nat.le_of_ble_eq_true rfl) ⟨rfl, rfl⟩ ⟨by decide, by decide⟩ rfl dX9_candidatesOf_74 ?_
      refine z_istore (pc := 77) (lv2 := [(0, .ref l0), (1, .int l1), (3, .int l3), (4, .int l4), (5, .int r74.1)]) G dX9_candidatesOf_77 (by decide) rfl rfl ?_
      refine z_iload (pc := 79) G 4 dX9_candidatesOf_79 rfl ?_
      refine z_if_lt (pc := 81) (tgt := 47) G dX9_candidatesOf_81 (by decide) (fun hc81 => ?_) (fun hc81 => ?_)
      · have hX := z_it hc81 hX
        exact H47 _ _ _ _ _ _ hX
      · have hX := z_if hc81 hX
        refine z_iload (pc := 84) G 3 dX9_candidatesOf_84 rfl ?_
        refine z_iconst (pc := 86) (v := 1) G dX9_candidatesOf_86 (by decide) ?_
        refine z_iload (pc := 87) G 4 dX9_candidatesOf_87 rfl ?_
        refine z_ishl (pc := 89) G dX9_candidatesOf_89 ?_
        refine z_ior (pc := 90) G dX9_candidatesOf_90 ?_
        refine z_istore (pc := 91) (lv2 := [(0, .ref l0), (1, .int l1), (3, .int l3), (4, .int (l4 ||| ((1 : Int32) <<< (r74.1 &&& 31)))), (5, .int r74.1)]) G dX9_candidatesOf_91 (by decide) rfl rfl ?_
        refine z_goto (pc := 93) (tgt := 47) G dX9_candidatesOf_93 (by decide) ?_
        exact H47 _ _ _ _ _ _ hX
set_option maxHeartbeats 4000000 in
set_option maxRecDepth 100000 in
theorem wX9_candidatesOf_L47 {Γ : ZG} {p : Program} {l : Launch} {e : Env} {s : State} {m : MethodId} {args : Array Value} {below : List Frame} {meth : Method} {c : Code} (hO : z_OK Γ) (G : z_GG Γ p s m args meth c cX9_candidatesOf 6 RX9) (hr : meth.sig.returnType = (some .int)) (hnm : meth.name = "candidatesOf") {r : (Int32 × ZH)} : ∀ (nn : Nat) (l0 : Nat) (l1 : Int32) (l3 : Int32) (l4 : Int32) (l5 : Int32) (h : ZH), xX9_candidatesOf_L47  nn l0 l1 l3 l4 l5 h = some r → z_W Γ p l e rmX9_candidatesOf s m args below meth c 6 0 0 (MQ below (z_Qc Γ (some (.int r.1)) r.2) args s rmX9_candidatesOf.cells rmX9_candidatesOf.slots (z_A Γ)) 47 [(0, .ref l0), (1, .int l1), (3, .int l3), (4, .int l4), (5, .int l5)] [] h := by
  intro nn
  induction nn with
  | zero => intro l0 l1 l3 l4 l5 h hX; cases hX
  | succ nn ih => intro l0 l1 l3 l4 l5 h hX; exact wX9_candidatesOf_B47 hO G hr hnm  ih l0 l1 l3 l4 l5 h hX
noncomputable def xX9_candidatesOf_B12 (r12 : Nat → Int32 → Int32 → Int32 → Int32 → ZH → Option (Int32 × ZH)) (l0 : Nat) (l1 : Int32) (l3 : Int32) (l4 : Int32) (l5 : Int32) (h : ZH) : Option (Int32 × ZH) := (if l3 ≤ l5 then xX9_candidatesOf_L47 zFU l0 l1 l3 l4 (0 : Int32) h else (z_gu (z_is h l0 9) ((xX9_freeOf l0 l1 h).bind fun r22 => ((z_gR r22.2 l0 9 44).bind fun x27 => ((z_aI r22.2 x27 l5).bind fun x32 => r12 l0 l1 l3 (l4 ||| (r22.1 &&& ((1 : Int32) <<< (x32 &&& 31)))) (l5 + 1) r22.2)))))
noncomputable def xX9_candidatesOf_L12 (n : Nat) : Nat → Int32 → Int32 → Int32 → Int32 → ZH → Option (Int32 × ZH) := Nat.rec (motive := fun _ => Nat → Int32 → Int32 → Int32 → Int32 → ZH → Option (Int32 × ZH)) (fun _ _ _ _ _ _ => none) (fun _ rec => xX9_candidatesOf_B12  rec) n
set_option maxHeartbeats 4000000 in
set_option maxRecDepth 100000 in
theorem wX9_candidatesOf_B12 {Γ : ZG} {p : Program} {l : Launch} {e : Env} {s : State} {m : MethodId} {args : Array Value} {below : List Frame} {meth : Method} {c : Code} (hO : z_OK Γ) (G : z_GG Γ p s m args meth c cX9_candidatesOf 6 RX9) (hr : meth.sig.returnType = (some .int)) (hnm : meth.name = "candidatesOf") {r : (Int32 × ZH)} {r12 : Nat → Int32 → Int32 → Int32 → Int32 → ZH → Option (Int32 × ZH)} (H12 : ∀ (l0 : Nat) (l1 : Int32) (l3 : Int32) (l4 : Int32) (l5 : Int32) (h : ZH), r12 l0 l1 l3 l4 l5 h = some r → z_W Γ p l e rmX9_candidatesOf s m args below meth c 6 0 0 (MQ below (z_Qc Γ (some (.int r.1)) r.2) args s rmX9_candidatesOf.cells rmX9_candidatesOf.slots (z_A Γ)) 12 [(0, .ref l0), (1, .int l1), (3, .int l3), (4, .int l4), (5, .int l5)] [] h) : ∀ (l0 : Nat) (l1 : Int32) (l3 : Int32) (l4 : Int32) (l5 : Int32) (h : ZH), xX9_candidatesOf_B12  r12 l0 l1 l3 l4 l5 h = some r → z_W Γ p l e rmX9_candidatesOf s m args below meth c 6 0 0 (MQ below (z_Qc Γ (some (.int r.1)) r.2) args s rmX9_candidatesOf.cells rmX9_candidatesOf.slots (z_A Γ)) 12 [(0, .ref l0), (1, .int l1), (3, .int l3), (4, .int l4), (5, .int l5)] [] h := by
  intro l0 l1 l3 l4 l5 h hX
  refine z_iload (pc := 12) G 4 dX9_candidatesOf_12 rfl ?_
  refine z_iload_n (pc := 14) G 2 dX9_candidatesOf_14 rfl rfl ?_
  refine z_icmp_ge (pc := 15) (tgt := 44) G dX9_candidatesOf_15 (by decide) (fun hc15 => ?_) (fun hc15 => ?_)
  · have hX := z_it hc15 hX
    refine z_iconst (pc := 44) (v := 0) G dX9_candidatesOf_44 (by decide) ?_
    refine z_istore (pc := 45) (lv2 := [(0, .ref l0), (1, .int l1), (3, .int l3), (4, .int l4), (5, .int (0 : Int32))]) G dX9_candidatesOf_45 (by decide) rfl rfl ?_
    exact wX9_candidatesOf_L47 hO G hr hnm zFU _ _ _ _ _ _ hX
  · have hX := z_if hc15 hX
    refine z_iload (pc := 18) G 3 dX9_candidatesOf_18 rfl ?_
    refine z_aload_n (pc := 20) G 0 dX9_candidatesOf_20 rfl rfl ?_
    refine z_iload_n (pc := 21) G 1 dX9_candidatesOf_21 rfl rfl ?_
    obtain ⟨hi22, hX⟩ := z_gu_s hX
    obtain ⟨r22, hv22, hX⟩ := z_bd hX
    refine z_cVI (pc := 22) (As := [.int l1]) (c2 := 0) (s2 := 0) G kK9 (lX9_freeOf hO hv22) hi22 kt_1625 kt_11 kt_1622 kt_1624 ks_72 ydX9_freeOf ⟨by decide, by decide⟩ rfl (Nat.le_of_ble_eq_true rfl) ⟨rfl, rfl⟩ ⟨by decide, by decide⟩ rfl dX9_candidatesOf_22 ?_
    refine z_iconst (pc := 25) (v := 1) G dX9_candidatesOf_25 (by decide) ?_
    refine z_aload_n (pc := 26) G 0 dX9_candidatesOf_26 rfl rfl ?_
    obtain ⟨x27, hv27, hX⟩ := z_bd hX
    refine z_getR (pc := 27) G kK9 (k := 44) (by decide) kt_1270 dX9_candidatesOf_27 hv27 ?_
    refine z_iload (pc := 30) G 4 dX9_candidatesOf_30 rfl ?_
    obtain ⟨x32, hv32, hX⟩ := z_bd hX
    refine z_iald (pc := 32) G dX9_candidatesOf_32 hv32 ?_
    refine z_ishl (pc := 33) G dX9_candidatesOf_33 ?_
    refine z_iand (pc := 34) G dX9_candidatesOf_34 ?_
    refine z_ior (pc := 35) G dX9_candidatesOf_35 ?_
    refine z_istore (pc := 36) (lv2 := [(0, .ref l0), (1, .int l1), (3, .int l3), (4, .int (l4 ||| (r22.1 &&& ((1 : Int32) <<< (x32 &&& 31))))), (5, .int l5)]) G dX9_candidatesOf_36 (by decide) rfl rfl ?_
    refine z_iincw (pc := 38) (w := 1) (lv2 := [(0, .ref l0), (1, .int l1), (3, .int l3), (4, .int (l4 ||| (r22.1 &&& ((1 : Int32) <<< (x32 &&& 31))))), (5, .int (l5 + 1))]) G 4 dX9_candidatesOf_38 rfl (by decide) (by decide) rfl rfl ?_
    refine z_goto (pc := 41) (tgt := 12) G dX9_candidatesOf_41 (by decide) ?_
    exact H12 _ _ _ _ _ _ hX
set_option maxHeartbeats 4000000 in
set_option maxRecDepth 100000 in
theorem wX9_candidatesOf_L12 {Γ : ZG} {p : Program} {l : Launch} {e : Env} {s : State} {m : MethodId} {args : Array Value} {below : List Frame} {meth : Method} {c : Code} (hO : z_OK Γ) (G : z_GG Γ p s m args meth c cX9_candidatesOf 6 RX9) (hr : meth.sig.returnType = (some .int)) (hnm : meth.name = "candidatesOf") {r : (Int32 × ZH)} : ∀ (nn : Nat) (l0 : Nat) (l1 : Int32) (l3 : Int32) (l4 : Int32) (l5 : Int32) (h : ZH), xX9_candidatesOf_L12  nn l0 l1 l3 l4 l5 h = some r → z_W Γ p l e rmX9_candidatesOf s m args below meth c 6 0 0 (MQ below (z_Qc Γ (some (.int r.1)) r.2) args s rmX9_candidatesOf.cells rmX9_candidatesOf.slots (z_A Γ)) 12 [(0, .ref l0), (1, .int l1), (3, .int l3), (4, .int l4), (5, .int l5)] [] h := by
  intro nn
  induction nn with
  | zero => intro l0 l1 l3 l4 l5 h hX; cases hX
  | succ nn ih => intro l0 l1 l3 l4 l5 h hX; exact wX9_candidatesOf_B12 hO G hr hnm  ih l0 l1 l3 l4 l5 h hX
noncomputable def xX9_candidatesOf (l0 : Nat) (l1 : Int32) (l2 : Int32) (h : ZH) : Option (Int32 × ZH) := (z_gu (z_is h l0 9) ((xX9_layWindow l0 l2 h).bind fun r2 => xX9_candidatesOf_L12 zFU l0 l1 r2.1 (0 : Int32) (0 : Int32) r2.2))
set_option maxHeartbeats 4000000 in
set_option maxRecDepth 100000 in
theorem lX9_candidatesOf {Γ : ZG} {l : Launch} (hO : z_OK Γ) {l0 : Nat} {l1 : Int32} {l2 : Int32} {h : ZH} {r : (Int32 × ZH)} (hX : xX9_candidatesOf l0 l1 l2 h = some r) : z_M Γ l yX9_candidatesOf (z_ws1 yX9_candidatesOf cX9_candidatesOf 6 (some .int)) rmX9_candidatesOf [.ref l0, .int l1, .int l2] h (some (.int r.1)) r.2 := by
  refine z_start hO (plainFor_of_name (by decide)) (Nat.le_of_ble_eq_true rfl) ?_
  intro p e s m args below meth c G hr hnm
  refine z_lvc (lv2 := [(0, .ref l0), (1, .int l1), (2, .int l2)]) rfl ?_
  refine z_aload_n (pc := 0) G 0 dX9_candidatesOf_0 rfl rfl ?_
  refine z_iload_n (pc := 1) G 2 dX9_candidatesOf_1 rfl rfl ?_
  obtain ⟨hi2, hX⟩ := z_gu_s hX
  obtain ⟨r2, hv2, hX⟩ := z_bd hX
  refine z_cVI (pc := 2) (As := [.int l2]) (c2 := 0) (s2 := 0) G kK9 (lX9_layWindow hO hv2) hi2 kt_1621 kt_11 kt_1618 kt_1620 ks_71 ydX9_layWindow ⟨by decide, by decide⟩ rfl (Nat.le_of_ble_eq_true rfl) ⟨rfl, rfl⟩ ⟨by decide, by decide⟩ rfl dX9_candidatesOf_2 ?_
  refine z_istore_n (pc := 5) (lv2 := [(0, .ref l0), (1, .int l1), (2, .int l2), (3, .int r2.1)]) G dX9_candidatesOf_5 rfl (by decide) rfl rfl ?_
  refine z_iconst (pc := 6) (v := 0) G dX9_candidatesOf_6 (by decide) ?_
  refine z_istore (pc := 7) (lv2 := [(0, .ref l0), (1, .int l1), (2, .int l2), (3, .int r2.1), (4, .int (0 : Int32))]) G dX9_candidatesOf_7 (by decide) rfl rfl ?_
  refine z_iconst (pc := 9) (v := 0) G dX9_candidatesOf_9 (by decide) ?_
  refine z_istore (pc := 10) (lv2 := [(0, .ref l0), (1, .int l1), (2, .int l2), (3, .int r2.1), (4, .int (0 : Int32)), (5, .int (0 : Int32))]) G dX9_candidatesOf_10 (by decide) rfl rfl ?_
  refine z_drop (lv2 := [(0, .ref l0), (1, .int l1), (3, .int r2.1), (4, .int (0 : Int32)), (5, .int (0 : Int32))]) [0, 1, 3, 4, 5] rfl ?_
  exact wX9_candidatesOf_L12 hO G hr hnm zFU _ _ _ _ _ _ hX
theorem dX9_choose_0 : decode cX9_choose 0 = .ok (.aload_n 0, 1) := by decide +kernel
theorem dX9_choose_1 : decode cX9_choose 1 = .ok (.iload_n 1, 1) := by decide +kernel
theorem dX9_choose_2 : decode cX9_choose 2 = .ok (.iload_n 2, 1) := by decide +kernel
theorem dX9_choose_3 : decode cX9_choose 3 = .ok (.invokevirtual 402, 3) := by decide +kernel
theorem dX9_choose_6 : decode cX9_choose 6 = .ok (.istore_n 3, 1) := by decide +kernel
theorem dX9_choose_7 : decode cX9_choose 7 = .ok (.iload_n 3, 1) := by decide +kernel
theorem dX9_choose_8 : decode cX9_choose 8 = .ok (.ifCond .ne 5, 3) := by decide +kernel
theorem dX9_choose_11 : decode cX9_choose 11 = .ok (.iconst (-1), 1) := by decide +kernel
theorem dX9_choose_12 : decode cX9_choose 12 = .ok (.ireturn, 1) := by decide +kernel
theorem dX9_choose_13 : decode cX9_choose 13 = .ok (.aload_n 0, 1) := by decide +kernel
theorem dX9_choose_14 : decode cX9_choose 14 = .ok (.invokevirtual 405, 3) := by decide +kernel
theorem dX9_choose_17 : decode cX9_choose 17 = .ok (.iload_n 3, 1) := by decide +kernel
theorem dX9_choose_18 : decode cX9_choose 18 = .ok (.invokestatic 359, 3) := by decide +kernel
theorem dX9_choose_21 : decode cX9_choose 21 = .ok (.irem, 1) := by decide +kernel
theorem dX9_choose_22 : decode cX9_choose 22 = .ok (.istore 4, 2) := by decide +kernel
theorem dX9_choose_24 : decode cX9_choose 24 = .ok (.iconst 0, 1) := by decide +kernel
theorem dX9_choose_25 : decode cX9_choose 25 = .ok (.istore 5, 2) := by decide +kernel
theorem dX9_choose_27 : decode cX9_choose 27 = .ok (.iload 4, 2) := by decide +kernel
theorem dX9_choose_29 : decode cX9_choose 29 = .ok (.ifCond .gt 17, 3) := by decide +kernel
theorem dX9_choose_32 : decode cX9_choose 32 = .ok (.iload_n 3, 1) := by decide +kernel
theorem dX9_choose_33 : decode cX9_choose 33 = .ok (.aload_n 0, 1) := by decide +kernel
theorem dX9_choose_34 : decode cX9_choose 34 = .ok (.getfield 100, 3) := by decide +kernel
theorem dX9_choose_37 : decode cX9_choose 37 = .ok (.iload 5, 2) := by decide +kernel
theorem dX9_choose_39 : decode cX9_choose 39 = .ok (.iaload, 1) := by decide +kernel
theorem dX9_choose_40 : decode cX9_choose 40 = .ok (.invokestatic 265, 3) := by decide +kernel
theorem dX9_choose_43 : decode cX9_choose 43 = .ok (.ifCond .ne 26, 3) := by decide +kernel
theorem dX9_choose_46 : decode cX9_choose 46 = .ok (.iload_n 3, 1) := by decide +kernel
theorem dX9_choose_47 : decode cX9_choose 47 = .ok (.aload_n 0, 1) := by decide +kernel
theorem dX9_choose_48 : decode cX9_choose 48 = .ok (.getfield 100, 3) := by decide +kernel
theorem dX9_choose_51 : decode cX9_choose 51 = .ok (.iload 5, 2) := by decide +kernel
theorem dX9_choose_53 : decode cX9_choose 53 = .ok (.iaload, 1) := by decide +kernel
theorem dX9_choose_54 : decode cX9_choose 54 = .ok (.invokestatic 265, 3) := by decide +kernel
theorem dX9_choose_57 : decode cX9_choose 57 = .ok (.ifCond .eq 6, 3) := by decide +kernel
theorem dX9_choose_60 : decode cX9_choose 60 = .ok (.iinc 4 (-1), 3) := by decide +kernel
theorem dX9_choose_63 : decode cX9_choose 63 = .ok (.iinc 5 1, 3) := by decide +kernel
theorem dX9_choose_66 : decode cX9_choose 66 = .ok (.goto (-39), 3) := by decide +kernel
theorem dX9_choose_69 : decode cX9_choose 69 = .ok (.aload_n 0, 1) := by decide +kernel
theorem dX9_choose_70 : decode cX9_choose 70 = .ok (.getfield 100, 3) := by decide +kernel
theorem dX9_choose_73 : decode cX9_choose 73 = .ok (.iload 5, 2) := by decide +kernel
theorem dX9_choose_75 : decode cX9_choose 75 = .ok (.iaload, 1) := by decide +kernel
theorem dX9_choose_76 : decode cX9_choose 76 = .ok (.ireturn, 1) := by decide +kernel
theorem ydX9_choose : z_yd yX9_choose 2 := ⟨by decide, by decide, by decide +kernel⟩
abbrev rmX9_choose : Room := { frames := 4, cells := 0, slots := 0, locals := 94 }
noncomputable def xX9_choose_B46 (r27 : Nat → Int32 → Int32 → Int32 → ZH → Option (Int32 × ZH)) (l0 : Nat) (l3 : Int32) (l4 : Int32) (l5 : Int32) (h : ZH) : Option (Int32 × ZH) := ((z_gR h l0 9 44).bind fun x48 => ((z_aI h x48 l5).bind fun x53 => ((xX9_bit l3 x53 h).bind fun r54 => (if r54.1 = 0 then r27 l0 l3 l4 (l5 + 1) r54.2 else r27 l0 l3 (l4 + (-1)) (l5 + 1) r54.2))))
set_option maxHeartbeats 4000000 in
set_option maxRecDepth 100000 in
theorem wX9_choose_B46 {Γ : ZG} {p : Program} {l : Launch} {e : Env} {s : State} {m : MethodId} {args : Array Value} {below : List Frame} {meth : Method} {c : Code} (hO : z_OK Γ) (G : z_GG Γ p s m args meth c cX9_choose 6 RX9) (hr : meth.sig.returnType = (some .int)) (hnm : meth.name = "choose") {r : (Int32 × ZH)} {r27 : Nat → Int32 → Int32 → Int32 → ZH → Option (Int32 × ZH)} (H27 : ∀ (l0 : Nat) (l3 : Int32) (l4 : Int32) (l5 : Int32) (h : ZH), r27 l0 l3 l4 l5 h = some r → z_W Γ p l e rmX9_choose s m args below meth c 6 0 0 (MQ below (z_Qc Γ (some (.int r.1)) r.2) args s rmX9_choose.cells rmX9_choose.slots (z_A Γ)) 27 [(0, .ref l0), (3, .int l3), (4, .int l4), (5, .int l5)] [] h) : ∀ (l0 : Nat) (l3 : Int32) (l4 : Int32) (l5 : Int32) (h : ZH), xX9_choose_B46  r27 l0 l3 l4 l5 h = some r → z_W Γ p l e rmX9_choose s m args below meth c 6 0 0 (MQ below (z_Qc Γ (some (.int r.1)) r.2) args s rmX9_choose.cells rmX9_choose.slots (z_A Γ)) 46 [(0, .ref l0), (3, .int l3), (4, .int l4), (5, .int l5)] [] h := by
  intro l0 l3 l4 l5 h hX
  refine z_iload_n (pc := 46) G 1 dX9_choose_46 rfl rfl ?_
  refine z_aload_n (pc := 47) G 0 dX9_choose_47 rfl rfl ?_
  obtain ⟨x48, hv48, hX⟩ := z_bd hX
  refine z_getR (pc := 48) G kK9 (k := 44) (by decide) kt_1270 dX9_choose_48 hv48 ?_
  refine z_iload (pc := 51) G 3 dX9_choose_51 rfl ?_
  obtain ⟨x53, hv53, hX⟩ := z_bd hX
  refine z_iald (pc := 53) G dX9_choose_53 hv53 ?_
  obtain ⟨r54, hv54, hX⟩ := z_bd hX
  refine z_cSI (pc := 54) (As := [.int l3, .int x53]) (c2 := 0) (s2 := 0) G (lX9_bit hO hv54) kt_1476 kt_11 kt_1474 kt_1475 ydX9_bit ⟨by decide, by decide⟩ rfl (Nat.le_of_ble_eq_true rfl) ⟨rfl, rfl⟩ ⟨by decide, by decide⟩ rfl dX9_choose_54 ?_
  refine z_if_eq (pc := 57) (tgt := 63) G dX9_choose_57 (by decide) (fun hc57 => ?_) (fun hc57 => ?_)
  · have hX := z_it hc57 hX
    refine z_iincw (pc := 63) (w := 1) (lv2 := [(0, .ref l0), (3, .int l3), (4, .int l4), (5, .int (l5 + 1))]) G 3 dX9_choose_63 rfl (by decide) (by decide) rfl rfl ?_
    refine z_goto (pc := 66) (tgt := 27) G dX9_choose_66 (by decide) ?_
    exact H27 _ _ _ _ _ hX
  · have hX := z_if hc57 hX
    refine z_iincw (pc := 60) (w := (-1)) (lv2 := [(0, .ref l0), (3, .int l3), (4, .int (l4 + (-1))), (5, .int l5)]) G 2 dX9_choose_60 rfl (by decide) (by decide) rfl rfl ?_
    refine z_iincw (pc := 63) (w := 1) (lv2 := [(0, .ref l0), (3, .int l3), (4, .int (l4 + (-1))), (5, .int (l5 + 1))]) G 3 dX9_choose_63 rfl (by decide) (by decide) rfl rfl ?_
    refine z_goto (pc := 66) (tgt := 27) G dX9_choose_66 (by decide) ?_
    exact H27 _ _ _ _ _ hX
noncomputable def xX9_choose_B27 (r27 : Nat → Int32 → Int32 → Int32 → ZH → Option (Int32 × ZH)) (l0 : Nat) (l3 : Int32) (l4 : Int32) (l5 : Int32) (h : ZH) : Option (Int32 × ZH) := (if 0 < l4 then xX9_choose_B46 r27 l0 l3 l4 l5 h else ((z_gR h l0 9 44).bind fun x34 => ((z_aI h x34 l5).bind fun x39 => ((xX9_bit l3 x39 h).bind fun r40 => (if r40.1 = 0 then xX9_choose_B46 r27 l0 l3 l4 l5 r40.2 else ((z_gR r40.2 l0 9 44).bind fun x70 => ((z_aI r40.2 x70 l5).bind fun x75 => some (x75, r40.2))))))))
noncomputable def xX9_choose_L27 (n : Nat) : Nat → Int32 → Int32 → Int32 → ZH → Option (Int32 × ZH) := Nat.rec (motive := fun _ => Nat → Int32 → Int32 → Int32 → ZH → Option (Int32 × ZH)) (fun _ _ _ _ _ => none) (fun _ rec => xX9_choose_B27  rec) n
set_option maxHeartbeats 4000000 in
set_option maxRecDepth 100000 in
theorem wX9_choose_B27 {Γ : ZG} {p : Program} {l : Launch} {e : Env} {s : State} {m : MethodId} {args : Array Value} {below : List Frame} {meth : Method} {c : Code} (hO : z_OK Γ) (G : z_GG Γ p s m args meth c cX9_choose 6 RX9) (hr : meth.sig.returnType = (some .int)) (hnm : meth.name = "choose") {r : (Int32 × ZH)} {r27 : Nat → Int32 → Int32 → Int32 → ZH → Option (Int32 × ZH)} (H27 : ∀ (l0 : Nat) (l3 : Int32) (l4 : Int32) (l5 : Int32) (h : ZH), r27 l0 l3 l4 l5 h = some r → z_W Γ p l e rmX9_choose s m args below meth c 6 0 0 (MQ below (z_Qc Γ (some (.int r.1)) r.2) args s rmX9_choose.cells rmX9_choose.slots (z_A Γ)) 27 [(0, .ref l0), (3, .int l3), (4, .int l4), (5, .int l5)] [] h) : ∀ (l0 : Nat) (l3 : Int32) (l4 : Int32) (l5 : Int32) (h : ZH), xX9_choose_B27  r27 l0 l3 l4 l5 h = some r → z_W Γ p l e rmX9_choose s m args below meth c 6 0 0 (MQ below (z_Qc Γ (some (.int r.1)) r.2) args s rmX9_choose.cells rmX9_choose.slots (z_A Γ)) 27 [(0, .ref l0), (3, .int l3), (4, .int l4), (5, .int l5)] [] h := by
  intro l0 l3 l4 l5 h hX
  refine z_iload (pc := 27) G 2 dX9_choose_27 rfl ?_
  refine z_if_gt (pc := 29) (tgt := 46) G dX9_choose_29 (by decide) (fun hc29 => ?_) (fun hc29 => ?_)
  · have hX := z_it hc29 hX
    exact wX9_choose_B46 hO G hr hnm H27 _ _ _ _ _ hX
  · have hX := z_if hc29 hX
    refine z_iload_n (pc := 32) G 1 dX9_choose_32 rfl rfl ?_
    refine z_aload_n (pc := 33) G 0 dX9_choose_33 rfl rfl ?_
    obtain ⟨x34, hv34, hX⟩ := z_bd hX
    refine z_getR (pc := 34) G kK9 (k := 44) (by decide) kt_1270 dX9_choose_34 hv34 ?_
    refine z_iload (pc := 37) G 3 dX9_choose_37 rfl ?_
    obtain ⟨x39, hv39, hX⟩ := z_bd hX
    refine z_iald (pc := 39) G dX9_choose_39 hv39 ?_
    obtain ⟨r40, hv40, hX⟩ := z_bd hX
    refine z_cSI (pc := 40) (As := [.int l3, .int x39]) (c2 := 0) (s2 := 0) G (lX9_bit hO hv40) kt_1476 kt_11 kt_1474 kt_1475 ydX9_bit ⟨by decide, by decide⟩ rfl (Nat.le_of_ble_eq_true rfl) ⟨rfl, rfl⟩ ⟨by decide, by decide⟩ rfl dX9_choose_40 ?_
    refine z_if_ne (pc := 43) (tgt := 69) G dX9_choose_43 (by decide) (fun hc43 => ?_) (fun hc43 => ?_)
    · have hX := z_if hc43 hX
      refine z_aload_n (pc := 69) G 0 dX9_choose_69 rfl rfl ?_
      obtain ⟨x70, hv70, hX⟩ := z_bd hX
      refine z_getR (pc := 70) G kK9 (k := 44) (by decide) kt_1270 dX9_choose_70 hv70 ?_
      refine z_iload (pc := 73) G 3 dX9_choose_73 rfl ?_
      obtain ⟨x75, hv75, hX⟩ := z_bd hX
      refine z_iald (pc := 75) G dX9_choose_75 hv75 ?_
      exact z_iretX (pc := 76) hX G hr dX9_choose_76 (by decide) (by decide)
    · have hX := z_it hc43 hX
      exact wX9_choose_B46 hO G hr hnm H27 _ _ _ _ _ hX
set_option maxHeartbeats 4000000 in
set_option maxRecDepth 100000 in
theorem wX9_choose_L27 {Γ : ZG} {p : Program} {l : Launch} {e : Env} {s : State} {m : MethodId} {args : Array Value} {below : List Frame} {meth : Method} {c : Code} (hO : z_OK Γ) (G : z_GG Γ p s m args meth c cX9_choose 6 RX9) (hr : meth.sig.returnType = (some .int)) (hnm : meth.name = "choose") {r : (Int32 × ZH)} : ∀ (nn : Nat) (l0 : Nat) (l3 : Int32) (l4 : Int32) (l5 : Int32) (h : ZH), xX9_choose_L27  nn l0 l3 l4 l5 h = some r → z_W Γ p l e rmX9_choose s m args below meth c 6 0 0 (MQ below (z_Qc Γ (some (.int r.1)) r.2) args s rmX9_choose.cells rmX9_choose.slots (z_A Γ)) 27 [(0, .ref l0), (3, .int l3), (4, .int l4), (5, .int l5)] [] h := by
  intro nn
  induction nn with
  | zero => intro l0 l3 l4 l5 h hX; cases hX
  | succ nn ih => intro l0 l3 l4 l5 h hX; exact wX9_choose_B27 hO G hr hnm  ih l0 l3 l4 l5 h hX
noncomputable def xX9_choose (l0 : Nat) (l1 : Int32) (l2 : Int32) (h : ZH) : Option (Int32 × ZH) := (z_gu (z_is h l0 9) ((xX9_candidatesOf l0 l1 l2 h).bind fun r3 => (if r3.1 = 0 then some ((-1 : Int32), r3.2) else (z_gu (z_is r3.2 l0 9) ((xX9_drawOn l0 r3.2).bind fun r14 => ((xX9_bitsOf r3.1 r14.2).bind fun r18 => (if r18.1 = 0 then none else xX9_choose_L27 zFU l0 r3.1 (r14.1 - r14.1 / r18.1 * r18.1) (0 : Int32) r18.2)))))))
set_option maxHeartbeats 4000000 in
set_option maxRecDepth 100000 in
theorem lX9_choose {Γ : ZG} {l : Launch} (hO : z_OK Γ) {l0 : Nat} {l1 : Int32} {l2 : Int32} {h : ZH} {r : (Int32 × ZH)} (hX : xX9_choose l0 l1 l2 h = some r) : z_M Γ l yX9_choose (z_ws1 yX9_choose cX9_choose 6 (some .int)) rmX9_choose [.ref l0, .int l1, .int l2] h (some (.int r.1)) r.2 := by
  refine z_start hO (plainFor_of_name (by decide)) (Nat.le_of_ble_eq_true rfl) ?_
  intro p e s m args below meth c G hr hnm
  refine z_lvc (lv2 := [(0, .ref l0), (1, .int l1), (2, .int l2)]) rfl ?_
  refine z_aload_n (pc := 0) G 0 dX9_choose_0 rfl rfl ?_
  refine z_iload_n (pc := 1) G 1 dX9_choose_1 rfl rfl ?_
  refine z_iload_n (pc := 2) G 2 dX9_choose_2 rfl rfl ?_
  obtain ⟨hi3, hX⟩ := z_gu_s hX
  obtain ⟨r3, hv3, hX⟩ := z_bd hX
  refine z_cVI (pc := 3) (As := [.int l1, .int l2]) (c2 := 0) (s2 := 0) G kK9 (lX9_candidatesOf hO hv3) hi3 kt_1617 kt_11 kt_1614 kt_1616 ks_70 ydX9_candidatesOf ⟨by decide, by decide⟩ rfl (Nat.le_of_ble_eq_true rfl) ⟨rfl, rfl⟩ ⟨by decide, by decide⟩ rfl dX9_choose_3 ?_
  refine z_istore_n (pc := 6) (lv2 := [(0, .ref l0), (1, .int l1), (2, .int l2), (3, .int r3.1)]) G dX9_choose_6 rfl (by decide) rfl rfl ?_
  refine z_iload_n (pc := 7) G 3 dX9_choose_7 rfl rfl ?_
  refine z_if_ne (pc := 8) (tgt := 13) G dX9_choose_8 (by decide) (fun hc8 => ?_) (fun hc8 => ?_)
  · have hX := z_if hc8 hX
    refine z_aload_n (pc := 13) G 0 dX9_choose_13 rfl rfl ?_
    obtain ⟨hi14, hX⟩ := z_gu_s hX
    obtain ⟨r14, hv14, hX⟩ := z_bd hX
    refine z_cVI (pc := 14) (As := []) (c2 := 0) (s2 := 0) G kK9 (lX9_drawOn hO hv14) hi14 kt_1743 kt_11 kt_1740 kt_1742 ks_87 ydX9_drawOn ⟨by decide, by decide⟩ rfl (Nat.le_of_ble_eq_true rfl) ⟨rfl, rfl⟩ ⟨by decide, by decide⟩ rfl dX9_choose_14 ?_
    refine z_iload_n (pc := 17) G 3 dX9_choose_17 rfl rfl ?_
    obtain ⟨r18, hv18, hX⟩ := z_bd hX
    refine z_cSI (pc := 18) (As := [.int r3.1]) (c2 := 0) (s2 := 0) G (lX9_bitsOf hO hv18) kt_1582 kt_11 kt_1580 kt_1581 ydX9_bitsOf ⟨by decide, by decide⟩ rfl (Nat.le_of_ble_eq_true rfl) ⟨rfl, rfl⟩ ⟨by decide, by decide⟩ rfl dX9_choose_18 ?_
    obtain ⟨hn21, hX⟩ := z_ng hX
    refine z_irem (pc := 21) G dX9_choose_21 hn21 ?_
    refine z_istore (pc := 22) (lv2 := [(0, .ref l0), (1, .int l1), (2, .int l2), (3, .int r3.1), (4, .int (r14.1 - r14.1 / r18.1 * r18.1))]) G dX9_choose_22 (by decide) rfl rfl ?_
    refine z_iconst (pc := 24) (v := 0) G dX9_choose_24 (by decide) ?_
    refine z_istore (pc := 25) (lv2 := [(0, .ref l0), (1, .int l1), (2, .int l2), (3, .int r3.1), (4, .int (r14.1 - r14.1 / r18.1 * r18.1)), (5, .int (0 : Int32))]) G dX9_choose_25 (by decide) rfl rfl ?_
    refine z_drop (lv2 := [(0, .ref l0), (3, .int r3.1), (4, .int (r14.1 - r14.1 / r18.1 * r18.1)), (5, .int (0 : Int32))]) [0, 3, 4, 5] rfl ?_
    exact wX9_choose_L27 hO G hr hnm zFU _ _ _ _ _ hX
  · have hX := z_it hc8 hX
    refine z_iconst (pc := 11) (v := (-1)) G dX9_choose_11 (by decide) ?_
    exact z_iretX (pc := 12) hX G hr dX9_choose_12 (by decide) (by decide)
theorem dX9_newLeft_0 : decode cX9_newLeft 0 = .ok (.iconst 1, 1) := by decide +kernel
theorem dX9_newLeft_1 : decode cX9_newLeft 1 = .ok (.aload_n 0, 1) := by decide +kernel
theorem dX9_newLeft_2 : decode cX9_newLeft 2 = .ok (.invokevirtual 405, 3) := by decide +kernel
theorem dX9_newLeft_5 : decode cX9_newLeft 5 = .ok (.aload_n 0, 1) := by decide +kernel
theorem dX9_newLeft_6 : decode cX9_newLeft 6 = .ok (.getfield 36, 3) := by decide +kernel
theorem dX9_newLeft_9 : decode cX9_newLeft 9 = .ok (.aload_n 0, 1) := by decide +kernel
theorem dX9_newLeft_10 : decode cX9_newLeft 10 = .ok (.getfield 255, 3) := by decide +kernel
theorem dX9_newLeft_13 : decode cX9_newLeft 13 = .ok (.iaload, 1) := by decide +kernel
theorem dX9_newLeft_14 : decode cX9_newLeft 14 = .ok (.irem, 1) := by decide +kernel
theorem dX9_newLeft_15 : decode cX9_newLeft 15 = .ok (.iadd, 1) := by decide +kernel
theorem dX9_newLeft_16 : decode cX9_newLeft 16 = .ok (.ireturn, 1) := by decide +kernel
theorem ydX9_newLeft : z_yd yX9_newLeft 0 := ⟨by decide, by decide, by decide +kernel⟩
abbrev rmX9_newLeft : Room := { frames := 1, cells := 0, slots := 0, locals := 20 }
noncomputable def xX9_newLeft (l0 : Nat) (h : ZH) : Option (Int32 × ZH) := (z_gu (z_is h l0 9) ((xX9_drawOn l0 h).bind fun r2 => ((z_gR r2.2 l0 9 16).bind fun x6 => ((z_gI r2.2 l0 9 34).bind fun x10 => ((z_aI r2.2 x6 x10).bind fun x13 => (if x13 = 0 then none else some (((1 : Int32) + (r2.1 - r2.1 / x13 * x13)), r2.2)))))))
set_option maxHeartbeats 4000000 in
set_option maxRecDepth 100000 in
theorem lX9_newLeft {Γ : ZG} {l : Launch} (hO : z_OK Γ) {l0 : Nat} {h : ZH} {r : (Int32 × ZH)} (hX : xX9_newLeft l0 h = some r) : z_M Γ l yX9_newLeft (z_ws1 yX9_newLeft cX9_newLeft 1 (some .int)) rmX9_newLeft [.ref l0] h (some (.int r.1)) r.2 := by
  refine z_start hO (plainFor_of_name (by decide)) (Nat.le_of_ble_eq_true rfl) ?_
  intro p e s m args below meth c G hr hnm
  refine z_lvc (lv2 := [(0, .ref l0)]) rfl ?_
  refine z_iconst (pc := 0) (v := 1) G dX9_newLeft_0 (by decide) ?_
  refine z_aload_n (pc := 1) G 0 dX9_newLeft_1 rfl rfl ?_
  obtain ⟨hi2, hX⟩ := z_gu_s hX
  obtain ⟨r2, hv2, hX⟩ := z_bd hX
  refine z_cVI (pc := 2) (As := []) (c2 := 0) (s2 := 0) G kK9 (lX9_drawOn hO hv2) hi2 kt_1743 kt_11 kt_1740 kt_1742 ks_87 ydX9_drawOn ⟨by decide, by decide⟩ rfl (Nat.le_of_ble_eq_true rfl) ⟨rfl, rfl⟩ ⟨by decide, by decide⟩ rfl dX9_newLeft_2 ?_
  refine z_aload_n (pc := 5) G 0 dX9_newLeft_5 rfl rfl ?_
  obtain ⟨x6, hv6, hX⟩ := z_bd hX
  refine z_getR (pc := 6) G kK9 (k := 16) (by decide) kt_1242 dX9_newLeft_6 hv6 ?_
  refine z_aload_n (pc := 9) G 0 dX9_newLeft_9 rfl rfl ?_
  obtain ⟨x10, hv10, hX⟩ := z_bd hX
  refine z_getI (pc := 10) G kK9 (k := 34) (by decide) kt_1260 dX9_newLeft_10 hv10 ?_
  obtain ⟨x13, hv13, hX⟩ := z_bd hX
  refine z_iald (pc := 13) G dX9_newLeft_13 hv13 ?_
  obtain ⟨hn14, hX⟩ := z_ng hX
  refine z_irem (pc := 14) G dX9_newLeft_14 hn14 ?_
  refine z_iadd (pc := 15) G dX9_newLeft_15 ?_
  exact z_iretX (pc := 16) hX G hr dX9_newLeft_16 (by decide) (by decide)
theorem dX9_ageEntry_0 : decode cX9_ageEntry 0 = .ok (.aload_n 0, 1) := by decide +kernel
theorem dX9_ageEntry_1 : decode cX9_ageEntry 1 = .ok (.getfield 91, 3) := by decide +kernel
theorem dX9_ageEntry_4 : decode cX9_ageEntry 4 = .ok (.sipush 264, 3) := by decide +kernel
theorem dX9_ageEntry_7 : decode cX9_ageEntry 7 = .ok (.iload_n 1, 1) := by decide +kernel
theorem dX9_ageEntry_8 : decode cX9_ageEntry 8 = .ok (.iadd, 1) := by decide +kernel
theorem dX9_ageEntry_9 : decode cX9_ageEntry 9 = .ok (.iaload, 1) := by decide +kernel
theorem dX9_ageEntry_10 : decode cX9_ageEntry 10 = .ok (.ifCond .ne 4, 3) := by decide +kernel
theorem dX9_ageEntry_13 : decode cX9_ageEntry 13 = .ok (.return_, 1) := by decide +kernel
theorem dX9_ageEntry_14 : decode cX9_ageEntry 14 = .ok (.aload_n 0, 1) := by decide +kernel
theorem dX9_ageEntry_15 : decode cX9_ageEntry 15 = .ok (.getfield 91, 3) := by decide +kernel
theorem dX9_ageEntry_18 : decode cX9_ageEntry 18 = .ok (.sipush 264, 3) := by decide +kernel
theorem dX9_ageEntry_21 : decode cX9_ageEntry 21 = .ok (.iload_n 1, 1) := by decide +kernel
theorem dX9_ageEntry_22 : decode cX9_ageEntry 22 = .ok (.iadd, 1) := by decide +kernel
theorem dX9_ageEntry_23 : decode cX9_ageEntry 23 = .ok (.dup2, 1) := by decide +kernel
theorem dX9_ageEntry_24 : decode cX9_ageEntry 24 = .ok (.iaload, 1) := by decide +kernel
theorem dX9_ageEntry_25 : decode cX9_ageEntry 25 = .ok (.iconst 1, 1) := by decide +kernel
theorem dX9_ageEntry_26 : decode cX9_ageEntry 26 = .ok (.isub, 1) := by decide +kernel
theorem dX9_ageEntry_27 : decode cX9_ageEntry 27 = .ok (.iastore, 1) := by decide +kernel
theorem dX9_ageEntry_28 : decode cX9_ageEntry 28 = .ok (.aload_n 0, 1) := by decide +kernel
theorem dX9_ageEntry_29 : decode cX9_ageEntry 29 = .ok (.getfield 91, 3) := by decide +kernel
theorem dX9_ageEntry_32 : decode cX9_ageEntry 32 = .ok (.sipush 264, 3) := by decide +kernel
theorem dX9_ageEntry_35 : decode cX9_ageEntry 35 = .ok (.iload_n 1, 1) := by decide +kernel
theorem dX9_ageEntry_36 : decode cX9_ageEntry 36 = .ok (.iadd, 1) := by decide +kernel
theorem dX9_ageEntry_37 : decode cX9_ageEntry 37 = .ok (.iaload, 1) := by decide +kernel
theorem dX9_ageEntry_38 : decode cX9_ageEntry 38 = .ok (.ifCond .ne 13, 3) := by decide +kernel
theorem dX9_ageEntry_41 : decode cX9_ageEntry 41 = .ok (.aload_n 0, 1) := by decide +kernel
theorem dX9_ageEntry_42 : decode cX9_ageEntry 42 = .ok (.getfield 91, 3) := by decide +kernel
theorem dX9_ageEntry_45 : decode cX9_ageEntry 45 = .ok (.bipush 84, 2) := by decide +kernel
theorem dX9_ageEntry_47 : decode cX9_ageEntry 47 = .ok (.iload_n 1, 1) := by decide +kernel
theorem dX9_ageEntry_48 : decode cX9_ageEntry 48 = .ok (.iadd, 1) := by decide +kernel
theorem dX9_ageEntry_49 : decode cX9_ageEntry 49 = .ok (.iconst (-1), 1) := by decide +kernel
theorem dX9_ageEntry_50 : decode cX9_ageEntry 50 = .ok (.iastore, 1) := by decide +kernel
theorem dX9_ageEntry_51 : decode cX9_ageEntry 51 = .ok (.return_, 1) := by decide +kernel
theorem ydX9_ageEntry : z_yd yX9_ageEntry 1 := ⟨by decide, by decide, by decide +kernel⟩
abbrev rmX9_ageEntry : Room := { frames := 0, cells := 0, slots := 0, locals := 0 }
noncomputable def xX9_ageEntry (l0 : Nat) (l1 : Int32) (h : ZH) : Option ZH := ((z_gR h l0 9 41).bind fun x1 => ((z_aI h x1 ((264 : Int32) + l1)).bind fun x9 => (if x9 = 0 then some h else ((z_gR h l0 9 41).bind fun x15 => ((z_aI h x15 ((264 : Int32) + l1)).bind fun x24 => ((z_uI h x15 ((264 : Int32) + l1) (x24 - (1 : Int32))).bind fun h27 => ((z_gR h27 l0 9 41).bind fun x29 => ((z_aI h27 x29 ((264 : Int32) + l1)).bind fun x37 => (if x37 = 0 then ((z_gR h27 l0 9 41).bind fun x42 => ((z_uI h27 x42 ((84 : Int32) + l1) (-1 : Int32)).bind fun h50 => some h50)) else some h27)))))))))
set_option maxHeartbeats 4000000 in
set_option maxRecDepth 100000 in
theorem lX9_ageEntry {Γ : ZG} {l : Launch} (hO : z_OK Γ) {l0 : Nat} {l1 : Int32} {h : ZH} {r : ZH} (hX : xX9_ageEntry l0 l1 h = some r) : z_M Γ l yX9_ageEntry (z_ws1 yX9_ageEntry cX9_ageEntry 2 none) rmX9_ageEntry [.ref l0, .int l1] h none r := by
  refine z_start hO (plainFor_of_name (by decide)) (Nat.le_of_ble_eq_true rfl) ?_
  intro p e s m args below meth c G hr hnm
  refine z_lvc (lv2 := [(0, .ref l0), (1, .int l1)]) rfl ?_
  refine z_aload_n (pc := 0) G 0 dX9_ageEntry_0 rfl rfl ?_
  obtain ⟨x1, hv1, hX⟩ := z_bd hX
  refine z_getR (pc := 1) G kK9 (k := 41) (by decide) kt_1267 dX9_ageEntry_1 hv1 ?_
  refine z_sipush (pc := 4) (v := 264) G dX9_ageEntry_4 (by decide) ?_
  refine z_iload_n (pc := 7) G 1 dX9_ageEntry_7 rfl rfl ?_
  refine z_iadd (pc := 8) G dX9_ageEntry_8 ?_
  obtain ⟨x9, hv9, hX⟩ := z_bd hX
  refine z_iald (pc := 9) G dX9_ageEntry_9 hv9 ?_
  refine z_if_ne (pc := 10) (tgt := 14) G dX9_ageEntry_10 (by decide) (fun hc10 => ?_) (fun hc10 => ?_)
  · have hX := z_if hc10 hX
    refine z_aload_n (pc := 14) G 0 dX9_ageEntry_14 rfl rfl ?_
    obtain ⟨x15, hv15, hX⟩ := z_bd hX
    refine z_getR (pc := 15) G kK9 (k := 41) (by decide) kt_1267 dX9_ageEntry_15 hv15 ?_
    refine z_sipush (pc := 18) (v := 264) G dX9_ageEntry_18 (by decide) ?_
    refine z_iload_n (pc := 21) G 1 dX9_ageEntry_21 rfl rfl ?_
    refine z_iadd (pc := 22) G dX9_ageEntry_22 ?_
    refine z_dup2 (pc := 23) G dX9_ageEntry_23 rfl rfl ?_
    obtain ⟨x24, hv24, hX⟩ := z_bd hX
    refine z_iald (pc := 24) G dX9_ageEntry_24 hv24 ?_
    refine z_iconst (pc := 25) (v := 1) G dX9_ageEntry_25 (by decide) ?_
    refine z_isub (pc := 26) G dX9_ageEntry_26 ?_
    obtain ⟨h27, hv27, hX⟩ := z_bd hX
    refine z_iast (pc := 27) G dX9_ageEntry_27 hv27 ?_
    refine z_aload_n (pc := 28) G 0 dX9_ageEntry_28 rfl rfl ?_
    obtain ⟨x29, hv29, hX⟩ := z_bd hX
    refine z_getR (pc := 29) G kK9 (k := 41) (by decide) kt_1267 dX9_ageEntry_29 hv29 ?_
    refine z_sipush (pc := 32) (v := 264) G dX9_ageEntry_32 (by decide) ?_
    refine z_iload_n (pc := 35) G 1 dX9_ageEntry_35 rfl rfl ?_
    refine z_iadd (pc := 36) G dX9_ageEntry_36 ?_
    obtain ⟨x37, hv37, hX⟩ := z_bd hX
    refine z_iald (pc := 37) G dX9_ageEntry_37 hv37 ?_
    refine z_if_ne (pc := 38) (tgt := 51) G dX9_ageEntry_38 (by decide) (fun hc38 => ?_) (fun hc38 => ?_)
    · have hX := z_if hc38 hX
      exact z_vretX (pc := 51) hX G hr dX9_ageEntry_51 (by decide) (by decide)
    · have hX := z_it hc38 hX
      refine z_aload_n (pc := 41) G 0 dX9_ageEntry_41 rfl rfl ?_
      obtain ⟨x42, hv42, hX⟩ := z_bd hX
      refine z_getR (pc := 42) G kK9 (k := 41) (by decide) kt_1267 dX9_ageEntry_42 hv42 ?_
      refine z_bipush (pc := 45) (v := 84) G dX9_ageEntry_45 (by decide) ?_
      refine z_iload_n (pc := 47) G 1 dX9_ageEntry_47 rfl rfl ?_
      refine z_iadd (pc := 48) G dX9_ageEntry_48 ?_
      refine z_iconst (pc := 49) (v := (-1)) G dX9_ageEntry_49 (by decide) ?_
      obtain ⟨h50, hv50, hX⟩ := z_bd hX
      refine z_iast (pc := 50) G dX9_ageEntry_50 hv50 ?_
      exact z_vretX (pc := 51) hX G hr dX9_ageEntry_51 (by decide) (by decide)
  · have hX := z_it hc10 hX
    exact z_vretX (pc := 13) hX G hr dX9_ageEntry_13 (by decide) (by decide)
theorem dX9_own1_0 : decode cX9_own1 0 = .ok (.aload_n 0, 1) := by decide +kernel
theorem dX9_own1_1 : decode cX9_own1 1 = .ok (.getfield 91, 3) := by decide +kernel
theorem dX9_own1_4 : decode cX9_own1 4 = .ok (.bipush 30, 2) := by decide +kernel
theorem dX9_own1_6 : decode cX9_own1 6 = .ok (.iconst 3, 1) := by decide +kernel
theorem dX9_own1_7 : decode cX9_own1 7 = .ok (.iload_n 1, 1) := by decide +kernel
theorem dX9_own1_8 : decode cX9_own1 8 = .ok (.imul, 1) := by decide +kernel
theorem dX9_own1_9 : decode cX9_own1 9 = .ok (.iadd, 1) := by decide +kernel
theorem dX9_own1_10 : decode cX9_own1 10 = .ok (.iload_n 2, 1) := by decide +kernel
theorem dX9_own1_11 : decode cX9_own1 11 = .ok (.iadd, 1) := by decide +kernel
theorem dX9_own1_12 : decode cX9_own1 12 = .ok (.iload_n 3, 1) := by decide +kernel
theorem dX9_own1_13 : decode cX9_own1 13 = .ok (.iastore, 1) := by decide +kernel
theorem dX9_own1_14 : decode cX9_own1 14 = .ok (.aload_n 0, 1) := by decide +kernel
theorem dX9_own1_15 : decode cX9_own1 15 = .ok (.getfield 91, 3) := by decide +kernel
theorem dX9_own1_18 : decode cX9_own1 18 = .ok (.bipush 48, 2) := by decide +kernel
theorem dX9_own1_20 : decode cX9_own1 20 = .ok (.iconst 3, 1) := by decide +kernel
theorem dX9_own1_21 : decode cX9_own1 21 = .ok (.iload_n 1, 1) := by decide +kernel
theorem dX9_own1_22 : decode cX9_own1 22 = .ok (.imul, 1) := by decide +kernel
theorem dX9_own1_23 : decode cX9_own1 23 = .ok (.iadd, 1) := by decide +kernel
theorem dX9_own1_24 : decode cX9_own1 24 = .ok (.iload_n 2, 1) := by decide +kernel
theorem dX9_own1_25 : decode cX9_own1 25 = .ok (.iadd, 1) := by decide +kernel
theorem dX9_own1_26 : decode cX9_own1 26 = .ok (.iload 4, 2) := by decide +kernel
theorem dX9_own1_28 : decode cX9_own1 28 = .ok (.iastore, 1) := by decide +kernel
theorem dX9_own1_29 : decode cX9_own1 29 = .ok (.aload_n 0, 1) := by decide +kernel
theorem dX9_own1_30 : decode cX9_own1 30 = .ok (.getfield 91, 3) := by decide +kernel
theorem dX9_own1_33 : decode cX9_own1 33 = .ok (.bipush 66, 2) := by decide +kernel
theorem dX9_own1_35 : decode cX9_own1 35 = .ok (.iconst 3, 1) := by decide +kernel
theorem dX9_own1_36 : decode cX9_own1 36 = .ok (.iload_n 1, 1) := by decide +kernel
theorem dX9_own1_37 : decode cX9_own1 37 = .ok (.imul, 1) := by decide +kernel
theorem dX9_own1_38 : decode cX9_own1 38 = .ok (.iadd, 1) := by decide +kernel
theorem dX9_own1_39 : decode cX9_own1 39 = .ok (.iload_n 2, 1) := by decide +kernel
theorem dX9_own1_40 : decode cX9_own1 40 = .ok (.iadd, 1) := by decide +kernel
theorem dX9_own1_41 : decode cX9_own1 41 = .ok (.iload 5, 2) := by decide +kernel
theorem dX9_own1_43 : decode cX9_own1 43 = .ok (.iastore, 1) := by decide +kernel
theorem dX9_own1_44 : decode cX9_own1 44 = .ok (.return_, 1) := by decide +kernel
theorem ydX9_own1 : z_yd yX9_own1 5 := ⟨by decide, by decide, by decide +kernel⟩
abbrev rmX9_own1 : Room := { frames := 0, cells := 0, slots := 0, locals := 0 }
noncomputable def xX9_own1 (l0 : Nat) (l1 : Int32) (l2 : Int32) (l3 : Int32) (l4 : Int32) (l5 : Int32) (h : ZH) : Option ZH := ((z_gR h l0 9 41).bind fun x1 => ((z_uI h x1 (((30 : Int32) + ((3 : Int32) * l1)) + l2) l3).bind fun h13 => ((z_gR h13 l0 9 41).bind fun x15 => ((z_uI h13 x15 (((48 : Int32) + ((3 : Int32) * l1)) + l2) l4).bind fun h28 => ((z_gR h28 l0 9 41).bind fun x30 => ((z_uI h28 x30 (((66 : Int32) + ((3 : Int32) * l1)) + l2) l5).bind fun h43 => some h43))))))
set_option maxHeartbeats 4000000 in
set_option maxRecDepth 100000 in
theorem lX9_own1 {Γ : ZG} {l : Launch} (hO : z_OK Γ) {l0 : Nat} {l1 : Int32} {l2 : Int32} {l3 : Int32} {l4 : Int32} {l5 : Int32} {h : ZH} {r : ZH} (hX : xX9_own1 l0 l1 l2 l3 l4 l5 h = some r) : z_M Γ l yX9_own1 (z_ws1 yX9_own1 cX9_own1 6 none) rmX9_own1 [.ref l0, .int l1, .int l2, .int l3, .int l4, .int l5] h none r := by
  refine z_start hO (plainFor_of_name (by decide)) (Nat.le_of_ble_eq_true rfl) ?_
  intro p e s m args below meth c G hr hnm
  refine z_lvc (lv2 := [(0, .ref l0), (1, .int l1), (2, .int l2), (3, .int l3), (4, .int l4), (5, .int l5)]) rfl ?_
  refine z_aload_n (pc := 0) G 0 dX9_own1_0 rfl rfl ?_
  obtain ⟨x1, hv1, hX⟩ := z_bd hX
  refine z_getR (pc := 1) G kK9 (k := 41) (by decide) kt_1267 dX9_own1_1 hv1 ?_
  refine z_bipush (pc := 4) (v := 30) G dX9_own1_4 (by decide) ?_
  refine z_iconst (pc := 6) (v := 3) G dX9_own1_6 (by decide) ?_
  refine z_iload_n (pc := 7) G 1 dX9_own1_7 rfl rfl ?_
  refine z_imul (pc := 8) G dX9_own1_8 ?_
  refine z_iadd (pc := 9) G dX9_own1_9 ?_
  refine z_iload_n (pc := 10) G 2 dX9_own1_10 rfl rfl ?_
  refine z_iadd (pc := 11) G dX9_own1_11 ?_
  refine z_iload_n (pc := 12) G 3 dX9_own1_12 rfl rfl ?_
  obtain ⟨h13, hv13, hX⟩ := z_bd hX
  refine z_iast (pc := 13) G dX9_own1_13 hv13 ?_
  refine z_aload_n (pc := 14) G 0 dX9_own1_14 rfl rfl ?_
  obtain ⟨x15, hv15, hX⟩ := z_bd hX
  refine z_getR (pc := 15) G kK9 (k := 41) (by decide) kt_1267 dX9_own1_15 hv15 ?_
  refine z_bipush (pc := 18) (v := 48) G dX9_own1_18 (by decide) ?_
  refine z_iconst (pc := 20) (v := 3) G dX9_own1_20 (by decide) ?_
  refine z_iload_n (pc := 21) G 1 dX9_own1_21 rfl rfl ?_
  refine z_imul (pc := 22) G dX9_own1_22 ?_
  refine z_iadd (pc := 23) G dX9_own1_23 ?_
  refine z_iload_n (pc := 24) G 2 dX9_own1_24 rfl rfl ?_
  refine z_iadd (pc := 25) G dX9_own1_25 ?_
  refine z_iload (pc := 26) G 4 dX9_own1_26 rfl ?_
  obtain ⟨h28, hv28, hX⟩ := z_bd hX
  refine z_iast (pc := 28) G dX9_own1_28 hv28 ?_
  refine z_aload_n (pc := 29) G 0 dX9_own1_29 rfl rfl ?_
  obtain ⟨x30, hv30, hX⟩ := z_bd hX
  refine z_getR (pc := 30) G kK9 (k := 41) (by decide) kt_1267 dX9_own1_30 hv30 ?_
  refine z_bipush (pc := 33) (v := 66) G dX9_own1_33 (by decide) ?_
  refine z_iconst (pc := 35) (v := 3) G dX9_own1_35 (by decide) ?_
  refine z_iload_n (pc := 36) G 1 dX9_own1_36 rfl rfl ?_
  refine z_imul (pc := 37) G dX9_own1_37 ?_
  refine z_iadd (pc := 38) G dX9_own1_38 ?_
  refine z_iload_n (pc := 39) G 2 dX9_own1_39 rfl rfl ?_
  refine z_iadd (pc := 40) G dX9_own1_40 ?_
  refine z_iload (pc := 41) G 5 dX9_own1_41 rfl ?_
  obtain ⟨h43, hv43, hX⟩ := z_bd hX
  refine z_iast (pc := 43) G dX9_own1_43 hv43 ?_
  exact z_vretX (pc := 44) hX G hr dX9_own1_44 (by decide) (by decide)
theorem dX9_seekSlots_0 : decode cX9_seekSlots 0 = .ok (.aload_n 0, 1) := by decide +kernel
theorem dX9_seekSlots_1 : decode cX9_seekSlots 1 = .ok (.iload_n 1, 1) := by decide +kernel
theorem dX9_seekSlots_2 : decode cX9_seekSlots 2 = .ok (.invokevirtual 414, 3) := by decide +kernel
theorem dX9_seekSlots_5 : decode cX9_seekSlots 5 = .ok (.istore_n 2, 1) := by decide +kernel
theorem dX9_seekSlots_6 : decode cX9_seekSlots 6 = .ok (.aload_n 0, 1) := by decide +kernel
theorem dX9_seekSlots_7 : decode cX9_seekSlots 7 = .ok (.getfield 91, 3) := by decide +kernel
theorem dX9_seekSlots_10 : decode cX9_seekSlots 10 = .ok (.bipush 24, 2) := by decide +kernel
theorem dX9_seekSlots_12 : decode cX9_seekSlots 12 = .ok (.iload_n 1, 1) := by decide +kernel
theorem dX9_seekSlots_13 : decode cX9_seekSlots 13 = .ok (.iadd, 1) := by decide +kernel
theorem dX9_seekSlots_14 : decode cX9_seekSlots 14 = .ok (.iaload, 1) := by decide +kernel
theorem dX9_seekSlots_15 : decode cX9_seekSlots 15 = .ok (.iload_n 2, 1) := by decide +kernel
theorem dX9_seekSlots_16 : decode cX9_seekSlots 16 = .ok (.if_icmp .le 13, 3) := by decide +kernel
theorem dX9_seekSlots_19 : decode cX9_seekSlots 19 = .ok (.aload_n 0, 1) := by decide +kernel
theorem dX9_seekSlots_20 : decode cX9_seekSlots 20 = .ok (.getfield 91, 3) := by decide +kernel
theorem dX9_seekSlots_23 : decode cX9_seekSlots 23 = .ok (.bipush 24, 2) := by decide +kernel
theorem dX9_seekSlots_25 : decode cX9_seekSlots 25 = .ok (.iload_n 1, 1) := by decide +kernel
theorem dX9_seekSlots_26 : decode cX9_seekSlots 26 = .ok (.iadd, 1) := by decide +kernel
theorem dX9_seekSlots_27 : decode cX9_seekSlots 27 = .ok (.iload_n 2, 1) := by decide +kernel
theorem dX9_seekSlots_28 : decode cX9_seekSlots 28 = .ok (.iastore, 1) := by decide +kernel
theorem dX9_seekSlots_29 : decode cX9_seekSlots 29 = .ok (.iconst 1, 1) := by decide +kernel
theorem dX9_seekSlots_30 : decode cX9_seekSlots 30 = .ok (.istore_n 3, 1) := by decide +kernel
theorem dX9_seekSlots_31 : decode cX9_seekSlots 31 = .ok (.iload_n 3, 1) := by decide +kernel
theorem dX9_seekSlots_32 : decode cX9_seekSlots 32 = .ok (.ifCond .eq 137, 3) := by decide +kernel
theorem dX9_seekSlots_35 : decode cX9_seekSlots 35 = .ok (.aload_n 0, 1) := by decide +kernel
theorem dX9_seekSlots_36 : decode cX9_seekSlots 36 = .ok (.getfield 91, 3) := by decide +kernel
theorem dX9_seekSlots_39 : decode cX9_seekSlots 39 = .ok (.bipush 24, 2) := by decide +kernel
theorem dX9_seekSlots_41 : decode cX9_seekSlots 41 = .ok (.iload_n 1, 1) := by decide +kernel
theorem dX9_seekSlots_42 : decode cX9_seekSlots 42 = .ok (.iadd, 1) := by decide +kernel
theorem dX9_seekSlots_43 : decode cX9_seekSlots 43 = .ok (.iaload, 1) := by decide +kernel
theorem dX9_seekSlots_44 : decode cX9_seekSlots 44 = .ok (.iload_n 2, 1) := by decide +kernel
theorem dX9_seekSlots_45 : decode cX9_seekSlots 45 = .ok (.if_icmp .ge 124, 3) := by decide +kernel
theorem dX9_seekSlots_48 : decode cX9_seekSlots 48 = .ok (.aload_n 0, 1) := by decide +kernel
theorem dX9_seekSlots_49 : decode cX9_seekSlots 49 = .ok (.getfield 91, 3) := by decide +kernel
theorem dX9_seekSlots_52 : decode cX9_seekSlots 52 = .ok (.bipush 24, 2) := by decide +kernel
theorem dX9_seekSlots_54 : decode cX9_seekSlots 54 = .ok (.iload_n 1, 1) := by decide +kernel
theorem dX9_seekSlots_55 : decode cX9_seekSlots 55 = .ok (.iadd, 1) := by decide +kernel
theorem dX9_seekSlots_56 : decode cX9_seekSlots 56 = .ok (.iaload, 1) := by decide +kernel
theorem dX9_seekSlots_57 : decode cX9_seekSlots 57 = .ok (.istore 4, 2) := by decide +kernel
theorem dX9_seekSlots_59 : decode cX9_seekSlots 59 = .ok (.iload 4, 2) := by decide +kernel
theorem dX9_seekSlots_61 : decode cX9_seekSlots 61 = .ok (.ifCond .ne 15, 3) := by decide +kernel
theorem dX9_seekSlots_64 : decode cX9_seekSlots 64 = .ok (.aload_n 0, 1) := by decide +kernel
theorem dX9_seekSlots_65 : decode cX9_seekSlots 65 = .ok (.invokevirtual 405, 3) := by decide +kernel
theorem dX9_seekSlots_68 : decode cX9_seekSlots 68 = .ok (.aload_n 0, 1) := by decide +kernel
theorem dX9_seekSlots_69 : decode cX9_seekSlots 69 = .ok (.invokevirtual 344, 3) := by decide +kernel
theorem dX9_seekSlots_72 : decode cX9_seekSlots 72 = .ok (.irem, 1) := by decide +kernel
theorem dX9_seekSlots_73 : decode cX9_seekSlots 73 = .ok (.goto 29, 3) := by decide +kernel
theorem dX9_seekSlots_76 : decode cX9_seekSlots 76 = .ok (.aload_n 0, 1) := by decide +kernel
theorem dX9_seekSlots_77 : decode cX9_seekSlots 77 = .ok (.getfield 91, 3) := by decide +kernel
theorem dX9_seekSlots_80 : decode cX9_seekSlots 80 = .ok (.bipush 30, 2) := by decide +kernel
theorem dX9_seekSlots_82 : decode cX9_seekSlots 82 = .ok (.iconst 3, 1) := by decide +kernel
theorem dX9_seekSlots_83 : decode cX9_seekSlots 83 = .ok (.iload_n 1, 1) := by decide +kernel
theorem dX9_seekSlots_84 : decode cX9_seekSlots 84 = .ok (.imul, 1) := by decide +kernel
theorem dX9_seekSlots_85 : decode cX9_seekSlots 85 = .ok (.iadd, 1) := by decide +kernel
theorem dX9_seekSlots_86 : decode cX9_seekSlots 86 = .ok (.iaload, 1) := by decide +kernel
theorem dX9_seekSlots_87 : decode cX9_seekSlots 87 = .ok (.iload 4, 2) := by decide +kernel
theorem dX9_seekSlots_89 : decode cX9_seekSlots 89 = .ok (.aload_n 0, 1) := by decide +kernel
theorem dX9_seekSlots_90 : decode cX9_seekSlots 90 = .ok (.invokevirtual 344, 3) := by decide +kernel
theorem dX9_seekSlots_93 : decode cX9_seekSlots 93 = .ok (.iload_n 2, 1) := by decide +kernel
theorem dX9_seekSlots_94 : decode cX9_seekSlots 94 = .ok (.idiv, 1) := by decide +kernel
theorem dX9_seekSlots_95 : decode cX9_seekSlots 95 = .ok (.imul, 1) := by decide +kernel
theorem dX9_seekSlots_96 : decode cX9_seekSlots 96 = .ok (.iadd, 1) := by decide +kernel
theorem dX9_seekSlots_97 : decode cX9_seekSlots 97 = .ok (.aload_n 0, 1) := by decide +kernel
theorem dX9_seekSlots_98 : decode cX9_seekSlots 98 = .ok (.invokevirtual 344, 3) := by decide +kernel
theorem dX9_seekSlots_101 : decode cX9_seekSlots 101 = .ok (.irem, 1) := by decide +kernel
theorem dX9_seekSlots_102 : decode cX9_seekSlots 102 = .ok (.istore 5, 2) := by decide +kernel
theorem dX9_seekSlots_104 : decode cX9_seekSlots 104 = .ok (.aload_n 0, 1) := by decide +kernel
theorem dX9_seekSlots_105 : decode cX9_seekSlots 105 = .ok (.iload_n 1, 1) := by decide +kernel
theorem dX9_seekSlots_106 : decode cX9_seekSlots 106 = .ok (.iload 5, 2) := by decide +kernel
theorem dX9_seekSlots_108 : decode cX9_seekSlots 108 = .ok (.invokevirtual 417, 3) := by decide +kernel
theorem dX9_seekSlots_111 : decode cX9_seekSlots 111 = .ok (.istore 6, 2) := by decide +kernel
theorem dX9_seekSlots_113 : decode cX9_seekSlots 113 = .ok (.iload 6, 2) := by decide +kernel
theorem dX9_seekSlots_115 : decode cX9_seekSlots 115 = .ok (.ifCond .lt 7, 3) := by decide +kernel
theorem dX9_seekSlots_118 : decode cX9_seekSlots 118 = .ok (.iconst 1, 1) := by decide +kernel
theorem dX9_seekSlots_119 : decode cX9_seekSlots 119 = .ok (.goto 4, 3) := by decide +kernel
theorem dX9_seekSlots_122 : decode cX9_seekSlots 122 = .ok (.iconst 0, 1) := by decide +kernel
theorem dX9_seekSlots_123 : decode cX9_seekSlots 123 = .ok (.istore_n 3, 1) := by decide +kernel
theorem dX9_seekSlots_124 : decode cX9_seekSlots 124 = .ok (.iload_n 3, 1) := by decide +kernel
theorem dX9_seekSlots_125 : decode cX9_seekSlots 125 = .ok (.ifCond .eq 24, 3) := by decide +kernel
theorem dX9_seekSlots_128 : decode cX9_seekSlots 128 = .ok (.aload_n 0, 1) := by decide +kernel
theorem dX9_seekSlots_129 : decode cX9_seekSlots 129 = .ok (.iload_n 1, 1) := by decide +kernel
theorem dX9_seekSlots_130 : decode cX9_seekSlots 130 = .ok (.iload 4, 2) := by decide +kernel
theorem dX9_seekSlots_132 : decode cX9_seekSlots 132 = .ok (.iload 6, 2) := by decide +kernel
theorem dX9_seekSlots_134 : decode cX9_seekSlots 134 = .ok (.aload_n 0, 1) := by decide +kernel
theorem dX9_seekSlots_135 : decode cX9_seekSlots 135 = .ok (.invokevirtual 420, 3) := by decide +kernel
theorem dX9_seekSlots_138 : decode cX9_seekSlots 138 = .ok (.aload_n 0, 1) := by decide +kernel
theorem dX9_seekSlots_139 : decode cX9_seekSlots 139 = .ok (.getfield 91, 3) := by decide +kernel
theorem dX9_seekSlots_142 : decode cX9_seekSlots 142 = .ok (.sipush 517, 3) := by decide +kernel
theorem dX9_seekSlots_145 : decode cX9_seekSlots 145 = .ok (.iaload, 1) := by decide +kernel
theorem dX9_seekSlots_146 : decode cX9_seekSlots 146 = .ok (.invokevirtual 423, 3) := by decide +kernel
theorem dX9_seekSlots_149 : decode cX9_seekSlots 149 = .ok (.iload_n 3, 1) := by decide +kernel
theorem dX9_seekSlots_150 : decode cX9_seekSlots 150 = .ok (.ifCond .eq 16, 3) := by decide +kernel
theorem dX9_seekSlots_153 : decode cX9_seekSlots 153 = .ok (.aload_n 0, 1) := by decide +kernel
theorem dX9_seekSlots_154 : decode cX9_seekSlots 154 = .ok (.getfield 91, 3) := by decide +kernel
theorem dX9_seekSlots_157 : decode cX9_seekSlots 157 = .ok (.bipush 24, 2) := by decide +kernel
theorem dX9_seekSlots_159 : decode cX9_seekSlots 159 = .ok (.iload_n 1, 1) := by decide +kernel
theorem dX9_seekSlots_160 : decode cX9_seekSlots 160 = .ok (.iadd, 1) := by decide +kernel
theorem dX9_seekSlots_161 : decode cX9_seekSlots 161 = .ok (.dup2, 1) := by decide +kernel
theorem dX9_seekSlots_162 : decode cX9_seekSlots 162 = .ok (.iaload, 1) := by decide +kernel
theorem dX9_seekSlots_163 : decode cX9_seekSlots 163 = .ok (.iconst 1, 1) := by decide +kernel
theorem dX9_seekSlots_164 : decode cX9_seekSlots 164 = .ok (.iadd, 1) := by decide +kernel
theorem dX9_seekSlots_165 : decode cX9_seekSlots 165 = .ok (.iastore, 1) := by decide +kernel
theorem dX9_seekSlots_166 : decode cX9_seekSlots 166 = .ok (.goto (-135), 3) := by decide +kernel
theorem dX9_seekSlots_169 : decode cX9_seekSlots 169 = .ok (.return_, 1) := by decide +kernel
theorem ydX9_seekSlots : z_yd yX9_seekSlots 1 := ⟨by decide, by decide, by decide +kernel⟩
abbrev rmX9_seekSlots : Room := { frames := 5, cells := 0, slots := 0, locals := 119 }
noncomputable def xX9_seekSlots_B149 (r31 : Nat → Int32 → Int32 → Int32 → ZH → Option ZH) (l0 : Nat) (l1 : Int32) (l2 : Int32) (l3 : Int32) (h : ZH) : Option ZH := (if l3 = 0 then r31 l0 l1 l2 l3 h else ((z_gR h l0 9 41).bind fun x154 => ((z_aI h x154 ((24 : Int32) + l1)).bind fun x162 => ((z_uI h x154 ((24 : Int32) + l1) (x162 + (1 : Int32))).bind fun h165 => r31 l0 l1 l2 l3 h165))))
set_option maxHeartbeats 4000000 in
set_option maxRecDepth 100000 in
theorem wX9_seekSlots_B149 {Γ : ZG} {p : Program} {l : Launch} {e : Env} {s : State} {m : MethodId} {args : Array Value} {below : List Frame} {meth : Method} {c : Code} (hO : z_OK Γ) (G : z_GG Γ p s m args meth c cX9_seekSlots 7 RX9) (hr : meth.sig.returnType = none) (hnm : meth.name = "seekSlots") {r : ZH} {r31 : Nat → Int32 → Int32 → Int32 → ZH → Option ZH} (H31 : ∀ (l0 : Nat) (l1 : Int32) (l2 : Int32) (l3 : Int32) (h : ZH), r31 l0 l1 l2 l3 h = some r → z_W Γ p l e rmX9_seekSlots s m args below meth c 7 0 0 (MQ below (z_Qc Γ none r) args s rmX9_seekSlots.cells rmX9_seekSlots.slots (z_A Γ)) 31 [(0, .ref l0), (1, .int l1), (2, .int l2), (3, .int l3)] [] h) : ∀ (l0 : Nat) (l1 : Int32) (l2 : Int32) (l3 : Int32) (h : ZH), xX9_seekSlots_B149  r31 l0 l1 l2 l3 h = some r → z_W Γ p l e rmX9_seekSlots s m args below meth c 7 0 0 (MQ below (z_Qc Γ none r) args s rmX9_seekSlots.cells rmX9_seekSlots.slots (z_A Γ)) 149 [(0, .ref l0), (1, .int l1), (2, .int l2), (3, .int l3)] [] h := by
  intro l0 l1 l2 l3 h hX
  refine z_iload_n (pc := 149) G 3 dX9_seekSlots_149 rfl rfl ?_
  refine z_if_eq (pc := 150) (tgt := 166) G dX9_seekSlots_150 (by decide) (fun hc150 => ?_) (fun hc150 => ?_)
  · have hX := z_it hc150 hX
    refine z_goto (pc := 166) (tgt := 31) G dX9_seekSlots_166 (by decide) ?_
    exact H31 _ _ _ _ _ hX
  · have hX := z_if hc150 hX
    refine z_aload_n (pc := 153) G 0 dX9_seekSlots_153 rfl rfl ?_
    obtain ⟨x154, hv154, hX⟩ := z_bd hX
    refine z_getR (pc := 154) G kK9 (k := 41) (by decide) kt_1267 dX9_seekSlots_154 hv154 ?_
    refine z_bipush (pc := 157) (v := 24) G dX9_seekSlots_157 (by decide) ?_
    refine z_iload_n (pc := 159) G 1 dX9_seekSlots_159 rfl rfl ?_
    refine z_iadd (pc := 160) G dX9_seekSlots_160 ?_
    refine z_dup2 (pc := 161) G dX9_seekSlots_161 rfl rfl ?_
    obtain ⟨x162, hv162, hX⟩ := z_bd hX
    refine z_iald (pc := 162) G dX9_seekSlots_162 hv162 ?_
    refine z_iconst (pc := 163) (v := 1) G dX9_seekSlots_163 (by decide) ?_
    refine z_iadd (pc := 164) G dX9_seekSlots_164 ?_
    obtain ⟨h165, hv165, hX⟩ := z_bd hX
    refine z_iast (pc := 165) G dX9_seekSlots_165 hv165 ?_
    refine z_goto (pc := 166) (tgt := 31) G dX9_seekSlots_166 (by decide) ?_
    exact H31 _ _ _ _ _ hX
noncomputable def xX9_seekSlots_B123 (r31 : Nat → Int32 → Int32 → Int32 → ZH → Option ZH) (l0 : Nat) (l1 : Int32) (l2 : Int32) (l4 : Int32) (l6 : Int32) (s0 : Int32) (h : ZH) : Option ZH := (if s0 = 0 then xX9_seekSlots_B149 r31 l0 l1 l2 s0 h else (z_gu (z_is h l0 9) ((xX9_newLeft l0 h).bind fun r135 => ((z_gR r135.2 l0 9 41).bind fun x139 => ((z_aI r135.2 x139 (517 : Int32)).bind fun x145 => (z_gu (z_is r135.2 l0 9) ((xX9_own1 l0 l1 l4 l6 r135.1 x145 r135.2).bind fun h146 => xX9_seekSlots_B149 r31 l0 l1 l2 s0 h146)))))))
set_option maxHeartbeats 4000000 in
set_option maxRecDepth 100000 in
theorem wX9_seekSlots_B123 {Γ : ZG} {p : Program} {l : Launch} {e : Env} {s : State} {m : MethodId} {args : Array Value} {below : List Frame} {meth : Method} {c : Code} (hO : z_OK Γ) (G : z_GG Γ p s m args meth c cX9_seekSlots 7 RX9) (hr : meth.sig.returnType = none) (hnm : meth.name = "seekSlots") {r : ZH} {r31 : Nat → Int32 → Int32 → Int32 → ZH → Option ZH} (H31 : ∀ (l0 : Nat) (l1 : Int32) (l2 : Int32) (l3 : Int32) (h : ZH), r31 l0 l1 l2 l3 h = some r → z_W Γ p l e rmX9_seekSlots s m args below meth c 7 0 0 (MQ below (z_Qc Γ none r) args s rmX9_seekSlots.cells rmX9_seekSlots.slots (z_A Γ)) 31 [(0, .ref l0), (1, .int l1), (2, .int l2), (3, .int l3)] [] h) : ∀ (l0 : Nat) (l1 : Int32) (l2 : Int32) (l4 : Int32) (l6 : Int32) (s0 : Int32) (h : ZH), xX9_seekSlots_B123  r31 l0 l1 l2 l4 l6 s0 h = some r → z_W Γ p l e rmX9_seekSlots s m args below meth c 7 0 0 (MQ below (z_Qc Γ none r) args s rmX9_seekSlots.cells rmX9_seekSlots.slots (z_A Γ)) 123 [(0, .ref l0), (1, .int l1), (2, .int l2), (4, .int l4), (6, .int l6)] [.int s0] h := by
  intro l0 l1 l2 l4 l6 s0 h hX
  refine z_istore_n (pc := 123) (lv2 := [(0, .ref l0), (1, .int l1), (2, .int l2), (4, .int l4), (6, .int l6), (3, .int s0)]) G dX9_seekSlots_123 rfl (by decide) rfl rfl ?_
  refine z_drop (lv2 := [(0, .ref l0), (1, .int l1), (2, .int l2), (3, .int s0), (4, .int l4), (6, .int l6)]) [0, 1, 2, 5, 3, 4] rfl ?_
  refine z_iload_n (pc := 124) G 3 dX9_seekSlots_124 rfl rfl ?_
  refine z_if_eq (pc := 125) (tgt := 149) G dX9_seekSlots_125 (by decide) (fun hc125 => ?_) (fun hc125 => ?_)
  · have hX := z_it hc125 hX
    refine z_drop (lv2 := [(0, .ref l0), (1, .int l1), (2, .int l2), (3, .int s0)]) [0, 1, 2, 3] rfl ?_
    exact wX9_seekSlots_B149 hO G hr hnm H31 _ _ _ _ _ hX
  · have hX := z_if hc125 hX
    refine z_aload_n (pc := 128) G 0 dX9_seekSlots_128 rfl rfl ?_
    refine z_iload_n (pc := 129) G 1 dX9_seekSlots_129 rfl rfl ?_
    refine z_iload (pc := 130) G 4 dX9_seekSlots_130 rfl ?_
    refine z_iload (pc := 132) G 5 dX9_seekSlots_132 rfl ?_
    refine z_aload_n (pc := 134) G 0 dX9_seekSlots_134 rfl rfl ?_
    obtain ⟨hi135, hX⟩ := z_gu_s hX
    obtain ⟨r135, hv135, hX⟩ := z_bd hX
    refine z_cVI (pc := 135) (As := []) (c2 := 0) (s2 := 0) G kK9 (lX9_newLeft hO hv135) hi135 kt_1751 kt_11 kt_1748 kt_1750 ks_89 ydX9_newLeft ⟨by decide, by decide⟩ rfl (Nat.le_of_ble_eq_true rfl) ⟨rfl, rfl⟩ ⟨by decide, by decide⟩ rfl dX9_seekSlots_135 ?_
    refine z_aload_n (pc := 138) G 0 dX9_seekSlots_138 rfl rfl ?_
    obtain ⟨x139, hv139, hX⟩ := z_bd hX
    refine z_getR (pc := 139) G kK9 (k := 41) (by decide) kt_1267 dX9_seekSlots_139 hv139 ?_
    refine z_sipush (pc := 142) (v := 517) G dX9_seekSlots_142 (by decide) ?_
    obtain ⟨x145, hv145, hX⟩ := z_bd hX
    refine z_iald (pc := 145) G dX9_seekSlots_145 hv145 ?_
    obtain ⟨hi146, hX⟩ := z_gu_s hX
    obtain ⟨h146, hv146, hX⟩ := z_bd hX
    refine z_cVV (pc := 146) (As := [.int l1, .int l4, .int l6, .int r135.1, .int x145]) (c2 := 0) (s2 := 0) G kK9 (lX9_own1 hO hv146) hi146 kt_1755 kt_11 kt_1752 kt_1754 ks_90 ydX9_own1 ⟨by decide, by decide⟩ rfl (Nat.le_of_ble_eq_true rfl) ⟨rfl, rfl⟩ ⟨by decide, by decide⟩ rfl dX9_seekSlots_146 ?_
    refine z_drop (lv2 := [(0, .ref l0), (1, .int l1), (2, .int l2), (3, .int s0)]) [0, 1, 2, 3] rfl ?_
    exact wX9_seekSlots_B149 hO G hr hnm H31 _ _ _ _ _ hX
noncomputable def xX9_seekSlots_B102 (r31 : Nat → Int32 → Int32 → Int32 → ZH → Option ZH) (l0 : Nat) (l1 : Int32) (l2 : Int32) (l4 : Int32) (s0 : Int32) (h : ZH) : Option ZH := (z_gu (z_is h l0 9) ((xX9_choose l0 l1 s0 h).bind fun r108 => (if r108.1 < 0 then xX9_seekSlots_B123 r31 l0 l1 l2 l4 r108.1 (0 : Int32) r108.2 else xX9_seekSlots_B123 r31 l0 l1 l2 l4 r108.1 (1 : Int32) r108.2)))
set_option maxHeartbeats 4000000 in
set_option maxRecDepth 100000 in
theorem wX9_seekSlots_B102 {Γ : ZG} {p : Program} {l : Launch} {e : Env} {s : State} {m : MethodId} {args : Array Value} {below : List Frame} {meth : Method} {c : Code} (hO : z_OK Γ) (G : z_GG Γ p s m args meth c cX9_seekSlots 7 RX9) (hr : meth.sig.returnType = none) (hnm : meth.name = "seekSlots") {r : ZH} {r31 : Nat → Int32 → Int32 → Int32 → ZH → Option ZH} (H31 : ∀ (l0 : Nat) (l1 : Int32) (l2 : Int32) (l3 : Int32) (h : ZH), r31 l0 l1 l2 l3 h = some r → z_W Γ p l e rmX9_seekSlots s m args below meth c 7 0 0 (MQ below (z_Qc Γ none r) args s rmX9_seekSlots.cells rmX9_seekSlots.slots (z_A Γ)) 31 [(0, .ref l0), (1, .int l1), (2, .int l2), (3, .int l3)] [] h) : ∀ (l0 : Nat) (l1 : Int32) (l2 : Int32) (l4 : Int32) (s0 : Int32) (h : ZH), xX9_seekSlots_B102  r31 l0 l1 l2 l4 s0 h = some r → z_W Γ p l e rmX9_seekSlots s m args below meth c 7 0 0 (MQ below (z_Qc Γ none r) args s rmX9_seekSlots.cells rmX9_seekSlots.slots (z_A Γ)) 102 [(0, .ref l0), (1, .int l1), (2, .int l2), (4, .int l4)] [.int s0] h := by
  intro l0 l1 l2 l4 s0 h hX
  refine z_istore (pc := 102) (lv2 := [(0, .ref l0), (1, .int l1), (2, .int l2), (4, .int l4), (5, .int s0)]) G dX9_seekSlots_102 (by decide) rfl rfl ?_
  refine z_aload_n (pc := 104) G 0 dX9_seekSlots_104 rfl rfl ?_
  refine z_iload_n (pc := 105) G 1 dX9_seekSlots_105 rfl rfl ?_
  refine z_iload (pc := 106) G 4 dX9_seekSlots_106 rfl ?_
  obtain ⟨hi108, hX⟩ := z_gu_s hX
  obtain ⟨r108, hv108, hX⟩ := z_bd hX
  refine z_cVI (pc := 108) (As := [.int l1, .int s0]) (c2 := 0) (s2 := 0) G kK9 (lX9_choose hO hv108) hi108 kt_1747 kt_11 kt_1744 kt_1746 ks_88 ydX9_choose ⟨by decide, by decide⟩ rfl (Nat.le_of_ble_eq_true rfl) ⟨rfl, rfl⟩ ⟨by decide, by decide⟩ rfl dX9_seekSlots_108 ?_
  refine z_istore (pc := 111) (lv2 := [(0, .ref l0), (1, .int l1), (2, .int l2), (4, .int l4), (5, .int s0), (6, .int r108.1)]) G dX9_seekSlots_111 (by decide) rfl rfl ?_
  refine z_iload (pc := 113) G 5 dX9_seekSlots_113 rfl ?_
  refine z_if_lt (pc := 115) (tgt := 122) G dX9_seekSlots_115 (by decide) (fun hc115 => ?_) (fun hc115 => ?_)
  · have hX := z_it hc115 hX
    refine z_iconst (pc := 122) (v := 0) G dX9_seekSlots_122 (by decide) ?_
    refine z_drop (lv2 := [(0, .ref l0), (1, .int l1), (2, .int l2), (4, .int l4), (6, .int r108.1)]) [0, 1, 2, 3, 5] rfl ?_
    exact wX9_seekSlots_B123 hO G hr hnm H31 _ _ _ _ _ _ _ hX
  · have hX := z_if hc115 hX
    refine z_iconst (pc := 118) (v := 1) G dX9_seekSlots_118 (by decide) ?_
    refine z_goto (pc := 119) (tgt := 123) G dX9_seekSlots_119 (by decide) ?_
    refine z_drop (lv2 := [(0, .ref l0), (1, .int l1), (2, .int l2), (4, .int l4), (6, .int r108.1)]) [0, 1, 2, 3, 5] rfl ?_
    exact wX9_seekSlots_B123 hO G hr hnm H31 _ _ _ _ _ _ _ hX
noncomputable def xX9_seekSlots_B31 (r31 : Nat → Int32 → Int32 → Int32 → ZH → Option ZH) (l0 : Nat) (l1 : Int32) (l2 : Int32) (l3 : Int32) (h : ZH) : Option ZH := (if l3 = 0 then some h else ((z_gR h l0 9 41).bind fun x36 => ((z_aI h x36 ((24 : Int32) + l1)).bind fun x43 => (if l2 ≤ x43 then some h else ((z_gR h l0 9 41).bind fun x49 => ((z_aI h x49 ((24 : Int32) + l1)).bind fun x56 => (if x56 = 0 then (z_gu (z_is h l0 9) ((xX9_drawOn l0 h).bind fun r65 => (z_gu (z_is r65.2 l0 9) ((xX9_round l0 r65.2).bind fun r69 => (if r69.1 = 0 then none else xX9_seekSlots_B102 r31 l0 l1 l2 x56 (r65.1 - r65.1 / r69.1 * r69.1) r69.2))))) else ((z_gR h l0 9 41).bind fun x77 => ((z_aI h x77 ((30 : Int32) + ((3 : Int32) * l1))).bind fun x86 => (z_gu (z_is h l0 9) ((xX9_round l0 h).bind fun r90 => (if l2 = 0 then none else (z_gu (z_is r90.2 l0 9) ((xX9_round l0 r90.2).bind fun r98 => (if r98.1 = 0 then none else xX9_seekSlots_B102 r31 l0 l1 l2 x56 ((x86 + (x56 * (r90.1 / l2))) - (x86 + (x56 * (r90.1 / l2))) / r98.1 * r98.1) r98.2)))))))))))))))
noncomputable def xX9_seekSlots_L31 (n : Nat) : Nat → Int32 → Int32 → Int32 → ZH → Option ZH := Nat.rec (motive := fun _ => Nat → Int32 → Int32 → Int32 → ZH → Option ZH) (fun _ _ _ _ _ => none) (fun _ rec => xX9_seekSlots_B31  rec) n
set_option maxHeartbeats 4000000 in
set_option maxRecDepth 100000 in
theorem wX9_seekSlots_B31 {Γ : ZG} {p : Program} {l : Launch} {e : Env} {s : State} {m : MethodId} {args : Array Value} {below : List Frame} {meth : Method} {c : Code} (hO : z_OK Γ) (G : z_GG Γ p s m args meth c cX9_seekSlots 7 RX9) (hr : meth.sig.returnType = none) (hnm : meth.name = "seekSlots") {r : ZH} {r31 : Nat → Int32 → Int32 → Int32 → ZH → Option ZH} (H31 : ∀ (l0 : Nat) (l1 : Int32) (l2 : Int32) (l3 : Int32) (h : ZH), r31 l0 l1 l2 l3 h = some r → z_W Γ p l e rmX9_seekSlots s m args below meth c 7 0 0 (MQ below (z_Qc Γ none r) args s rmX9_seekSlots.cells rmX9_seekSlots.slots (z_A Γ)) 31 [(0, .ref l0), (1, .int l1), (2, .int l2), (3, .int l3)] [] h) : ∀ (l0 : Nat) (l1 : Int32) (l2 : Int32) (l3 : Int32) (h : ZH), xX9_seekSlots_B31  r31 l0 l1 l2 l3 h = some r → z_W Γ p l e rmX9_seekSlots s m args below meth c 7 0 0 (MQ below (z_Qc Γ none r) args s rmX9_seekSlots.cells rmX9_seekSlots.slots (z_A Γ)) 31 [(0, .ref l0), (1, .int l1), (2, .int l2), (3, .int l3)] [] h := by
  intro l0 l1 l2 l3 h hX
  refine z_iload_n (pc := 31) G 3 dX9_seekSlots_31 rfl rfl ?_
  refine z_if_eq (pc := 32) (tgt := 169) G dX9_seekSlots_32 (by decide) (fun hc32 => ?_) (fun hc32 => ?_)
  · have hX := z_it hc32 hX
    exact z_vretX (pc := 169) hX G hr dX9_seekSlots_169 (by decide) (by decide)
  · have hX := z_if hc32 hX
    refine z_aload_n (pc := 35) G 0 dX9_seekSlots_35 rfl rfl ?_
    obtain ⟨x36, hv36, hX⟩ := z_bd hX
    refine z_getR (pc := 36) G kK9 (k := 41) (by decide) kt_1267 dX9_seekSlots_36 hv36 ?_
    refine z_bipush (pc := 39) (v := 24) G dX9_seekSlots_39 (by decide) ?_
    refine z_iload_n (pc := 41) G 1 dX9_seekSlots_41 rfl rfl ?_
    refine z_iadd (pc := 42) G dX9_seekSlots_42 ?_
    obtain ⟨x43, hv43, hX⟩ := z_bd hX
    refine z_iald (pc := 43) G dX9_seekSlots_43 hv43 ?_
    refine z_iload_n (pc := 44) G 2 dX9_seekSlots_44 rfl rfl ?_
    refine z_icmp_ge (pc := 45) (tgt := 169) G dX9_seekSlots_45 (by decide) (fun hc45 => ?_) (fun hc45 => ?_)
    · have hX := z_it hc45 hX
      exact z_vretX (pc := 169) hX G hr dX9_seekSlots_169 (by decide) (by decide)
    · have hX := z_if hc45 hX
      refine z_aload_n (pc := 48) G 0 dX9_seekSlots_48 rfl rfl ?_
      obtain ⟨x49, hv49, hX⟩ := z_bd hX
      refine z_getR (pc := 49) G kK9 (k := 41) (by decide) kt_1267 dX9_seekSlots_49 hv49 ?_
      refine z_bipush (pc := 52) (v := 24) G dX9_seekSlots_52 (by decide) ?_
      refine z_iload_n (pc := 54) G 1 dX9_seekSlots_54 rfl rfl ?_
      refine z_iadd (pc := 55) G dX9_seekSlots_55 ?_
      obtain ⟨x56, hv56, hX⟩ := z_bd hX
      refine z_iald (pc := 56) G dX9_seekSlots_56 hv56 ?_
      refine z_istore (pc := 57) (lv2 := [(0, .ref l0), (1, .int l1), (2, .int l2), (3, .int l3), (4, .int x56)]) G dX9_seekSlots_57 (by decide) rfl rfl ?_
      refine z_iload (pc := 59) G 4 dX9_seekSlots_59 rfl ?_
      refine z_if_ne (pc := 61) (tgt := 76) G dX9_seekSlots_61 (by decide) (fun hc61 => ?_) (fun hc61 => ?_)
      · have hX := z_if hc61 hX
        refine z_aload_n (pc := 76) G 0 dX9_seekSlots_76 rfl rfl ?_
        obtain ⟨x77, hv77, hX⟩ := z_bd hX
        refine z_getR (pc := 77) G kK9 (k := 41) (by decide) kt_1267 dX9_seekSlots_77 hv77 ?_
        refine z_bipush (pc := 80) (v := 30) G dX9_seekSlots_80 (by decide) ?_
        refine z_iconst (pc := 82) (v := 3) G dX9_seekSlots_82 (by decide) ?_
        refine z_iload_n (pc := 83) G 1 dX9_seekSlots_83 rfl rfl ?_
        refine z_imul (pc := 84) G dX9_seekSlots_84 ?_
        refine z_iadd (pc := 85) G dX9_seekSlots_85 ?_
        obtain ⟨x86, hv86, hX⟩ := z_bd hX
        refine z_iald (pc := 86) G dX9_seekSlots_86 hv86 ?_
        refine z_iload (pc := 87) G 4 dX9_seekSlots_87 rfl ?_
        refine z_aload_n (pc := 89) G 0 dX9_seekSlots_89 rfl rfl ?_
        obtain ⟨hi90, hX⟩ := z_gu_s hX
        obtain ⟨r90, hv90, hX⟩ := z_bd hX
        refine z_cVI (pc := 90) (As := []) (c2 := 0) (s2 := 0) G kK9 (lX9_round hO hv90) hi90 kt_1575 kt_11 kt_1572 kt_1574 ks_66 ydX9_round ⟨by decide, by decide⟩ rfl (Nat.le_of_ble_eq_true rfl) ⟨rfl, rfl⟩ ⟨by decide, by decide⟩ rfl dX9_seekSlots_90 ?_
        refine z_iload_n (pc := 93) G 2 dX9_seekSlots_93 rfl rfl ?_
        obtain ⟨hn94, hX⟩ := z_ng hX
        refine z_idiv (pc := 94) G dX9_seekSlots_94 hn94 ?_
        refine z_imul (pc := 95) G dX9_seekSlots_95 ?_
        refine z_iadd (pc := 96) G dX9_seekSlots_96 ?_
        refine z_aload_n (pc := 97) G 0 dX9_seekSlots_97 rfl rfl ?_
        obtain ⟨hi98, hX⟩ := z_gu_s hX
        obtain ⟨r98, hv98, hX⟩ := z_bd hX
        refine z_cVI (pc := 98) (As := []) (c2 := 0) (s2 := 0) G kK9 (lX9_round hO hv98) hi98 kt_1575 kt_11 kt_1572 kt_1574 ks_66 ydX9_round ⟨by decide, by decide⟩ rfl (Nat.le_of_ble_eq_true rfl) ⟨rfl, rfl⟩ ⟨by decide, by decide⟩ rfl dX9_seekSlots_98 ?_
        obtain ⟨hn101, hX⟩ := z_ng hX
        refine z_irem (pc := 101) G dX9_seekSlots_101 hn101 ?_
        refine z_drop (lv2 := [(0, .ref l0), (1, .int l1), (2, .int l2), (4, .int x56)]) [0, 1, 2, 4] rfl ?_
        exact wX9_seekSlots_B102 hO G hr hnm H31 _ _ _ _ _ _ hX
      · have hX := z_it hc61 hX
        refine z_aload_n (pc := 64) G 0 dX9_seekSlots_64 rfl rfl ?_
        obtain ⟨hi65, hX⟩ := z_gu_s hX
        obtain ⟨r65, hv65, hX⟩ := z_bd hX
        refine z_cVI (pc := 65) (As := []) (c2 := 0) (s2 := 0) G kK9 (lX9_drawOn hO hv65) hi65 kt_1743 kt_11 kt_1740 kt_1742 ks_87 ydX9_drawOn ⟨by decide, by decide⟩ rfl (Nat.le_of_ble_eq_true rfl) ⟨rfl, rfl⟩ ⟨by decide, by decide⟩ rfl dX9_seekSlots_65 ?_
        refine z_aload_n (pc := 68) G 0 dX9_seekSlots_68 rfl rfl ?_
        obtain ⟨hi69, hX⟩ := z_gu_s hX
        obtain ⟨r69, hv69, hX⟩ := z_bd hX
        refine z_cVI (pc := 69) (As := []) (c2 := 0) (s2 := 0) G kK9 (lX9_round hO hv69) hi69 kt_1575 kt_11 kt_1572 kt_1574 ks_66 ydX9_round ⟨by decide, by decide⟩ rfl (Nat.le_of_ble_eq_true rfl) ⟨rfl, rfl⟩ ⟨by decide, by decide⟩ rfl dX9_seekSlots_69 ?_
        obtain ⟨hn72, hX⟩ := z_ng hX
        refine z_irem (pc := 72) G dX9_seekSlots_72 hn72 ?_
        refine z_goto (pc := 73) (tgt := 102) G dX9_seekSlots_73 (by decide) ?_
        refine z_drop (lv2 := [(0, .ref l0), (1, .int l1), (2, .int l2), (4, .int x56)]) [0, 1, 2, 4] rfl ?_
        exact wX9_seekSlots_B102 hO G hr hnm H31 _ _ _ _ _ _ hX
set_option maxHeartbeats 4000000 in
set_option maxRecDepth 100000 in
theorem wX9_seekSlots_L31 {Γ : ZG} {p : Program} {l : Launch} {e : Env} {s : State} {m : MethodId} {args : Array Value} {below : List Frame} {meth : Method} {c : Code} (hO : z_OK Γ) (G : z_GG Γ p s m args meth c cX9_seekSlots 7 RX9) (hr : meth.sig.returnType = none) (hnm : meth.name = "seekSlots") {r : ZH} : ∀ (nn : Nat) (l0 : Nat) (l1 : Int32) (l2 : Int32) (l3 : Int32) (h : ZH), xX9_seekSlots_L31  nn l0 l1 l2 l3 h = some r → z_W Γ p l e rmX9_seekSlots s m args below meth c 7 0 0 (MQ below (z_Qc Γ none r) args s rmX9_seekSlots.cells rmX9_seekSlots.slots (z_A Γ)) 31 [(0, .ref l0), (1, .int l1), (2, .int l2), (3, .int l3)] [] h := by
  intro nn
  induction nn with
  | zero => intro l0 l1 l2 l3 h hX; cases hX
  | succ nn ih => intro l0 l1 l2 l3 h hX; exact wX9_seekSlots_B31 hO G hr hnm  ih l0 l1 l2 l3 h hX
noncomputable def xX9_seekSlots (l0 : Nat) (l1 : Int32) (h : ZH) : Option ZH := (z_gu (z_is h l0 9) ((xX9_rateOf l0 l1 h).bind fun r2 => ((z_gR r2.2 l0 9 41).bind fun x7 => ((z_aI r2.2 x7 ((24 : Int32) + l1)).bind fun x14 => (if x14 ≤ r2.1 then xX9_seekSlots_L31 zFU l0 l1 r2.1 (1 : Int32) r2.2 else ((z_gR r2.2 l0 9 41).bind fun x20 => ((z_uI r2.2 x20 ((24 : Int32) + l1) r2.1).bind fun h28 => xX9_seekSlots_L31 zFU l0 l1 r2.1 (1 : Int32) h28)))))))
set_option maxHeartbeats 4000000 in
set_option maxRecDepth 100000 in
theorem lX9_seekSlots {Γ : ZG} {l : Launch} (hO : z_OK Γ) {l0 : Nat} {l1 : Int32} {h : ZH} {r : ZH} (hX : xX9_seekSlots l0 l1 h = some r) : z_M Γ l yX9_seekSlots (z_ws1 yX9_seekSlots cX9_seekSlots 7 none) rmX9_seekSlots [.ref l0, .int l1] h none r := by
  refine z_start hO (plainFor_of_name (by decide)) (Nat.le_of_ble_eq_true rfl) ?_
  intro p e s m args below meth c G hr hnm
  refine z_lvc (lv2 := [(0, .ref l0), (1, .int l1)]) rfl ?_
  refine z_aload_n (pc := 0) G 0 dX9_seekSlots_0 rfl rfl ?_
  refine z_iload_n (pc := 1) G 1 dX9_seekSlots_1 rfl rfl ?_
  obtain ⟨hi2, hX⟩ := z_gu_s hX
  obtain ⟨r2, hv2, hX⟩ := z_bd hX
  refine z_cVI (pc := 2) (As := [.int l1]) (c2 := 0) (s2 := 0) G kK9 (lX9_rateOf hO hv2) hi2 kt_1653 kt_11 kt_1650 kt_1652 ks_76 ydX9_rateOf ⟨by decide, by decide⟩ rfl (Nat.le_of_ble_eq_true rfl) ⟨rfl, rfl⟩ ⟨by decide, by decide⟩ rfl dX9_seekSlots_2 ?_
  refine z_istore_n (pc := 5) (lv2 := [(0, .ref l0), (1, .int l1), (2, .int r2.1)]) G dX9_seekSlots_5 rfl (by decide) rfl rfl ?_
  refine z_aload_n (pc := 6) G 0 dX9_seekSlots_6 rfl rfl ?_
  obtain ⟨x7, hv7, hX⟩ := z_bd hX
  refine z_getR (pc := 7) G kK9 (k := 41) (by decide) kt_1267 dX9_seekSlots_7 hv7 ?_
  refine z_bipush (pc := 10) (v := 24) G dX9_seekSlots_10 (by decide) ?_
  refine z_iload_n (pc := 12) G 1 dX9_seekSlots_12 rfl rfl ?_
  refine z_iadd (pc := 13) G dX9_seekSlots_13 ?_
  obtain ⟨x14, hv14, hX⟩ := z_bd hX
  refine z_iald (pc := 14) G dX9_seekSlots_14 hv14 ?_
  refine z_iload_n (pc := 15) G 2 dX9_seekSlots_15 rfl rfl ?_
  refine z_icmp_le (pc := 16) (tgt := 29) G dX9_seekSlots_16 (by decide) (fun hc16 => ?_) (fun hc16 => ?_)
  · have hX := z_it hc16 hX
    refine z_iconst (pc := 29) (v := 1) G dX9_seekSlots_29 (by decide) ?_
    refine z_istore_n (pc := 30) (lv2 := [(0, .ref l0), (1, .int l1), (2, .int r2.1), (3, .int (1 : Int32))]) G dX9_seekSlots_30 rfl (by decide) rfl rfl ?_
    exact wX9_seekSlots_L31 hO G hr hnm zFU _ _ _ _ _ hX
  · have hX := z_if hc16 hX
    refine z_aload_n (pc := 19) G 0 dX9_seekSlots_19 rfl rfl ?_
    obtain ⟨x20, hv20, hX⟩ := z_bd hX
    refine z_getR (pc := 20) G kK9 (k := 41) (by decide) kt_1267 dX9_seekSlots_20 hv20 ?_
    refine z_bipush (pc := 23) (v := 24) G dX9_seekSlots_23 (by decide) ?_
    refine z_iload_n (pc := 25) G 1 dX9_seekSlots_25 rfl rfl ?_
    refine z_iadd (pc := 26) G dX9_seekSlots_26 ?_
    refine z_iload_n (pc := 27) G 2 dX9_seekSlots_27 rfl rfl ?_
    obtain ⟨h28, hv28, hX⟩ := z_bd hX
    refine z_iast (pc := 28) G dX9_seekSlots_28 hv28 ?_
    refine z_iconst (pc := 29) (v := 1) G dX9_seekSlots_29 (by decide) ?_
    refine z_istore_n (pc := 30) (lv2 := [(0, .ref l0), (1, .int l1), (2, .int r2.1), (3, .int (1 : Int32))]) G dX9_seekSlots_30 rfl (by decide) rfl rfl ?_
    exact wX9_seekSlots_L31 hO G hr hnm zFU _ _ _ _ _ hX
theorem dX9_beginFrame_0 : decode cX9_beginFrame 0 = .ok (.aload_n 0, 1) := by decide +kernel
theorem dX9_beginFrame_1 : decode cX9_beginFrame 1 = .ok (.getfield 91, 3) := by decide +kernel
theorem dX9_beginFrame_4 : decode cX9_beginFrame 4 = .ok (.sipush 517, 3) := by decide +kernel
theorem dX9_beginFrame_7 : decode cX9_beginFrame 7 = .ok (.iaload, 1) := by decide +kernel
theorem dX9_beginFrame_8 : decode cX9_beginFrame 8 = .ok (.ifCond .le 99, 3) := by decide +kernel
theorem dX9_beginFrame_11 : decode cX9_beginFrame 11 = .ok (.iconst 0, 1) := by decide +kernel
theorem dX9_beginFrame_12 : decode cX9_beginFrame 12 = .ok (.istore_n 1, 1) := by decide +kernel
theorem dX9_beginFrame_13 : decode cX9_beginFrame 13 = .ok (.iload_n 1, 1) := by decide +kernel
theorem dX9_beginFrame_14 : decode cX9_beginFrame 14 = .ok (.aload_n 0, 1) := by decide +kernel
theorem dX9_beginFrame_15 : decode cX9_beginFrame 15 = .ok (.invokevirtual 337, 3) := by decide +kernel
theorem dX9_beginFrame_18 : decode cX9_beginFrame 18 = .ok (.if_icmp .ge 69, 3) := by decide +kernel
theorem dX9_beginFrame_21 : decode cX9_beginFrame 21 = .ok (.aload_n 0, 1) := by decide +kernel
theorem dX9_beginFrame_22 : decode cX9_beginFrame 22 = .ok (.getfield 91, 3) := by decide +kernel
theorem dX9_beginFrame_25 : decode cX9_beginFrame 25 = .ok (.iconst 0, 1) := by decide +kernel
theorem dX9_beginFrame_26 : decode cX9_beginFrame 26 = .ok (.iload_n 1, 1) := by decide +kernel
theorem dX9_beginFrame_27 : decode cX9_beginFrame 27 = .ok (.iadd, 1) := by decide +kernel
theorem dX9_beginFrame_28 : decode cX9_beginFrame 28 = .ok (.aload_n 0, 1) := by decide +kernel
theorem dX9_beginFrame_29 : decode cX9_beginFrame 29 = .ok (.getfield 91, 3) := by decide +kernel
theorem dX9_beginFrame_32 : decode cX9_beginFrame 32 = .ok (.iconst 0, 1) := by decide +kernel
theorem dX9_beginFrame_33 : decode cX9_beginFrame 33 = .ok (.iload_n 1, 1) := by decide +kernel
theorem dX9_beginFrame_34 : decode cX9_beginFrame 34 = .ok (.iadd, 1) := by decide +kernel
theorem dX9_beginFrame_35 : decode cX9_beginFrame 35 = .ok (.iaload, 1) := by decide +kernel
theorem dX9_beginFrame_36 : decode cX9_beginFrame 36 = .ok (.aload_n 0, 1) := by decide +kernel
theorem dX9_beginFrame_37 : decode cX9_beginFrame 37 = .ok (.getfield 91, 3) := by decide +kernel
theorem dX9_beginFrame_40 : decode cX9_beginFrame 40 = .ok (.bipush 12, 2) := by decide +kernel
theorem dX9_beginFrame_42 : decode cX9_beginFrame 42 = .ok (.iload_n 1, 1) := by decide +kernel
theorem dX9_beginFrame_43 : decode cX9_beginFrame 43 = .ok (.iadd, 1) := by decide +kernel
theorem dX9_beginFrame_44 : decode cX9_beginFrame 44 = .ok (.iaload, 1) := by decide +kernel
theorem dX9_beginFrame_45 : decode cX9_beginFrame 45 = .ok (.iadd, 1) := by decide +kernel
theorem dX9_beginFrame_46 : decode cX9_beginFrame 46 = .ok (.bipush 100, 2) := by decide +kernel
theorem dX9_beginFrame_48 : decode cX9_beginFrame 48 = .ok (.irem, 1) := by decide +kernel
theorem dX9_beginFrame_49 : decode cX9_beginFrame 49 = .ok (.iastore, 1) := by decide +kernel
theorem dX9_beginFrame_50 : decode cX9_beginFrame 50 = .ok (.aload_n 0, 1) := by decide +kernel
theorem dX9_beginFrame_51 : decode cX9_beginFrame 51 = .ok (.getfield 91, 3) := by decide +kernel
theorem dX9_beginFrame_54 : decode cX9_beginFrame 54 = .ok (.bipush 6, 2) := by decide +kernel
theorem dX9_beginFrame_56 : decode cX9_beginFrame 56 = .ok (.iload_n 1, 1) := by decide +kernel
theorem dX9_beginFrame_57 : decode cX9_beginFrame 57 = .ok (.iadd, 1) := by decide +kernel
theorem dX9_beginFrame_58 : decode cX9_beginFrame 58 = .ok (.aload_n 0, 1) := by decide +kernel
theorem dX9_beginFrame_59 : decode cX9_beginFrame 59 = .ok (.getfield 91, 3) := by decide +kernel
theorem dX9_beginFrame_62 : decode cX9_beginFrame 62 = .ok (.bipush 6, 2) := by decide +kernel
theorem dX9_beginFrame_64 : decode cX9_beginFrame 64 = .ok (.iload_n 1, 1) := by decide +kernel
theorem dX9_beginFrame_65 : decode cX9_beginFrame 65 = .ok (.iadd, 1) := by decide +kernel
theorem dX9_beginFrame_66 : decode cX9_beginFrame 66 = .ok (.iaload, 1) := by decide +kernel
theorem dX9_beginFrame_67 : decode cX9_beginFrame 67 = .ok (.aload_n 0, 1) := by decide +kernel
theorem dX9_beginFrame_68 : decode cX9_beginFrame 68 = .ok (.getfield 91, 3) := by decide +kernel
theorem dX9_beginFrame_71 : decode cX9_beginFrame 71 = .ok (.bipush 18, 2) := by decide +kernel
theorem dX9_beginFrame_73 : decode cX9_beginFrame 73 = .ok (.iload_n 1, 1) := by decide +kernel
theorem dX9_beginFrame_74 : decode cX9_beginFrame 74 = .ok (.iadd, 1) := by decide +kernel
theorem dX9_beginFrame_75 : decode cX9_beginFrame 75 = .ok (.iaload, 1) := by decide +kernel
theorem dX9_beginFrame_76 : decode cX9_beginFrame 76 = .ok (.iadd, 1) := by decide +kernel
theorem dX9_beginFrame_77 : decode cX9_beginFrame 77 = .ok (.bipush 100, 2) := by decide +kernel
theorem dX9_beginFrame_79 : decode cX9_beginFrame 79 = .ok (.irem, 1) := by decide +kernel
theorem dX9_beginFrame_80 : decode cX9_beginFrame 80 = .ok (.iastore, 1) := by decide +kernel
theorem dX9_beginFrame_81 : decode cX9_beginFrame 81 = .ok (.iinc 1 1, 3) := by decide +kernel
theorem dX9_beginFrame_84 : decode cX9_beginFrame 84 = .ok (.goto (-71), 3) := by decide +kernel
theorem dX9_beginFrame_87 : decode cX9_beginFrame 87 = .ok (.iconst 0, 1) := by decide +kernel
theorem dX9_beginFrame_88 : decode cX9_beginFrame 88 = .ok (.istore_n 1, 1) := by decide +kernel
theorem dX9_beginFrame_89 : decode cX9_beginFrame 89 = .ok (.iload_n 1, 1) := by decide +kernel
theorem dX9_beginFrame_90 : decode cX9_beginFrame 90 = .ok (.sipush 180, 3) := by decide +kernel
theorem dX9_beginFrame_93 : decode cX9_beginFrame 93 = .ok (.if_icmp .ge 14, 3) := by decide +kernel
theorem dX9_beginFrame_96 : decode cX9_beginFrame 96 = .ok (.aload_n 0, 1) := by decide +kernel
theorem dX9_beginFrame_97 : decode cX9_beginFrame 97 = .ok (.iload_n 1, 1) := by decide +kernel
theorem dX9_beginFrame_98 : decode cX9_beginFrame 98 = .ok (.invokevirtual 408, 3) := by decide +kernel
theorem dX9_beginFrame_101 : decode cX9_beginFrame 101 = .ok (.iinc 1 1, 3) := by decide +kernel
theorem dX9_beginFrame_104 : decode cX9_beginFrame 104 = .ok (.goto (-15), 3) := by decide +kernel
theorem dX9_beginFrame_107 : decode cX9_beginFrame 107 = .ok (.iconst 0, 1) := by decide +kernel
theorem dX9_beginFrame_108 : decode cX9_beginFrame 108 = .ok (.istore_n 1, 1) := by decide +kernel
theorem dX9_beginFrame_109 : decode cX9_beginFrame 109 = .ok (.iload_n 1, 1) := by decide +kernel
theorem dX9_beginFrame_110 : decode cX9_beginFrame 110 = .ok (.aload_n 0, 1) := by decide +kernel
theorem dX9_beginFrame_111 : decode cX9_beginFrame 111 = .ok (.invokevirtual 337, 3) := by decide +kernel
theorem dX9_beginFrame_114 : decode cX9_beginFrame 114 = .ok (.if_icmp .ge 47, 3) := by decide +kernel
theorem dX9_beginFrame_117 : decode cX9_beginFrame 117 = .ok (.aload_n 0, 1) := by decide +kernel
theorem dX9_beginFrame_118 : decode cX9_beginFrame 118 = .ok (.iload_n 1, 1) := by decide +kernel
theorem dX9_beginFrame_119 : decode cX9_beginFrame 119 = .ok (.invokevirtual 347, 3) := by decide +kernel
theorem dX9_beginFrame_122 : decode cX9_beginFrame 122 = .ok (.ifCond .eq 33, 3) := by decide +kernel
theorem dX9_beginFrame_125 : decode cX9_beginFrame 125 = .ok (.aload_n 0, 1) := by decide +kernel
theorem dX9_beginFrame_126 : decode cX9_beginFrame 126 = .ok (.getfield 63, 3) := by decide +kernel
theorem dX9_beginFrame_129 : decode cX9_beginFrame 129 = .ok (.bipush 6, 2) := by decide +kernel
theorem dX9_beginFrame_131 : decode cX9_beginFrame 131 = .ok (.aload_n 0, 1) := by decide +kernel
theorem dX9_beginFrame_132 : decode cX9_beginFrame 132 = .ok (.getfield 255, 3) := by decide +kernel
theorem dX9_beginFrame_135 : decode cX9_beginFrame 135 = .ok (.imul, 1) := by decide +kernel
theorem dX9_beginFrame_136 : decode cX9_beginFrame 136 = .ok (.iload_n 1, 1) := by decide +kernel
theorem dX9_beginFrame_137 : decode cX9_beginFrame 137 = .ok (.iadd, 1) := by decide +kernel
theorem dX9_beginFrame_138 : decode cX9_beginFrame 138 = .ok (.iaload, 1) := by decide +kernel
theorem dX9_beginFrame_139 : decode cX9_beginFrame 139 = .ok (.aload_n 0, 1) := by decide +kernel
theorem dX9_beginFrame_140 : decode cX9_beginFrame 140 = .ok (.getfield 91, 3) := by decide +kernel
theorem dX9_beginFrame_143 : decode cX9_beginFrame 143 = .ok (.sipush 517, 3) := by decide +kernel
theorem dX9_beginFrame_146 : decode cX9_beginFrame 146 = .ok (.iaload, 1) := by decide +kernel
theorem dX9_beginFrame_147 : decode cX9_beginFrame 147 = .ok (.if_icmp .ge 8, 3) := by decide +kernel
theorem dX9_beginFrame_150 : decode cX9_beginFrame 150 = .ok (.aload_n 0, 1) := by decide +kernel
theorem dX9_beginFrame_151 : decode cX9_beginFrame 151 = .ok (.iload_n 1, 1) := by decide +kernel
theorem dX9_beginFrame_152 : decode cX9_beginFrame 152 = .ok (.invokevirtual 411, 3) := by decide +kernel
theorem dX9_beginFrame_155 : decode cX9_beginFrame 155 = .ok (.iinc 1 1, 3) := by decide +kernel
theorem dX9_beginFrame_158 : decode cX9_beginFrame 158 = .ok (.goto (-49), 3) := by decide +kernel
theorem dX9_beginFrame_161 : decode cX9_beginFrame 161 = .ok (.return_, 1) := by decide +kernel
theorem ydX9_beginFrame : z_yd yX9_beginFrame 0 := ⟨by decide, by decide, by decide +kernel⟩
abbrev rmX9_beginFrame : Room := { frames := 6, cells := 0, slots := 0, locals := 145 }
noncomputable def xX9_beginFrame_B109 (r109 : Nat → Int32 → ZH → Option ZH) (l0 : Nat) (l1 : Int32) (h : ZH) : Option ZH := (z_gu (z_is h l0 9) ((xX9_lots l0 h).bind fun r111 => (if r111.1 ≤ l1 then some r111.2 else (z_gu (z_is r111.2 l0 9) ((xX9_isOn l0 l1 r111.2).bind fun r119 => (if r119.1 = 0 then r109 l0 (l1 + 1) r119.2 else ((z_gR r119.2 l0 9 25).bind fun x126 => ((z_gI r119.2 l0 9 34).bind fun x132 => ((z_aI r119.2 x126 (((6 : Int32) * x132) + l1)).bind fun x138 => ((z_gR r119.2 l0 9 41).bind fun x140 => ((z_aI r119.2 x140 (517 : Int32)).bind fun x146 => (if x146 ≤ x138 then r109 l0 (l1 + 1) r119.2 else (z_gu (z_is r119.2 l0 9) ((xX9_seekSlots l0 l1 r119.2).bind fun h152 => r109 l0 (l1 + 1) h152))))))))))))))
noncomputable def xX9_beginFrame_L109 (n : Nat) : Nat → Int32 → ZH → Option ZH := Nat.rec (motive := fun _ => Nat → Int32 → ZH → Option ZH) (fun _ _ _ => none) (fun _ rec => xX9_beginFrame_B109  rec) n
set_option maxHeartbeats 4000000 in
set_option maxRecDepth 100000 in
theorem wX9_beginFrame_B109 {Γ : ZG} {p : Program} {l : Launch} {e : Env} {s : State} {m : MethodId} {args : Array Value} {below : List Frame} {meth : Method} {c : Code} (hO : z_OK Γ) (G : z_GG Γ p s m args meth c cX9_beginFrame 2 RX9) (hr : meth.sig.returnType = none) (hnm : meth.name = "beginFrame") {r : ZH} {r109 : Nat → Int32 → ZH → Option ZH} (H109 : ∀ (l0 : Nat) (l1 : Int32) (h : ZH), r109 l0 l1 h = some r → z_W Γ p l e rmX9_beginFrame s m args below meth c 2 0 0 (MQ below (z_Qc Γ none r) args s rmX9_beginFrame.cells rmX9_beginFrame.slots (z_A Γ)) 109 [(0, .ref l0), (1, .int l1)] [] h) : ∀ (l0 : Nat) (l1 : Int32) (h : ZH), xX9_beginFrame_B109  r109 l0 l1 h = some r → z_W Γ p l e rmX9_beginFrame s m args below meth c 2 0 0 (MQ below (z_Qc Γ none r) args s rmX9_beginFrame.cells rmX9_beginFrame.slots (z_A Γ)) 109 [(0, .ref l0), (1, .int l1)] [] h := by
  intro l0 l1 h hX
  refine z_iload_n (pc := 109) G 1 dX9_beginFrame_109 rfl rfl ?_
  refine z_aload_n (pc := 110) G 0 dX9_beginFrame_110 rfl rfl ?_
  obtain ⟨hi111, hX⟩ := z_gu_s hX
  obtain ⟨r111, hv111, hX⟩ := z_bd hX
  refine z_cVI (pc := 111) (As := []) (c2 := 0) (s2 := 0) G kK9 (lX9_lots hO hv111) hi111 kt_1221 kt_11 kt_1218 kt_1220 ks_36 ydX9_lots ⟨by decide, by decide⟩ rfl (Nat.le_of_ble_eq_true rfl) ⟨rfl, rfl⟩ ⟨by decide, by decide⟩ rfl dX9_beginFrame_111 ?_
  refine z_icmp_ge (pc := 114) (tgt := 161) G dX9_beginFrame_114 (by decide) (fun hc114 => ?_) (fun hc114 => ?_)
  · have hX := z_it hc114 hX
    exact z_vretX (pc := 161) hX G hr dX9_beginFrame_161 (by decide) (by decide)
  · have hX := z_if hc114 hX
    refine z_aload_n (pc := 117) G 0 dX9_beginFrame_117 rfl rfl ?_
    refine z_iload_n (pc := 118) G 1 dX9_beginFrame_118 rfl rfl ?_
    obtain ⟨hi119, hX⟩ := z_gu_s hX
    obtain ⟨r119, hv119, hX⟩ := z_bd hX
    refine z_cVI (pc := 119) (As := [.int l1]) (c2 := 0) (s2 := 0) G kK9 (lX9_isOn hO hv119) hi119 kt_1567 kt_11 kt_1564 kt_1566 ks_64 ydX9_isOn ⟨by decide, by decide⟩ rfl (Nat.le_of_ble_eq_true rfl) ⟨rfl, rfl⟩ ⟨by decide, by decide⟩ rfl dX9_beginFrame_119 ?_
    refine z_if_eq (pc := 122) (tgt := 155) G dX9_beginFrame_122 (by decide) (fun hc122 => ?_) (fun hc122 => ?_)
    · have hX := z_it hc122 hX
      refine z_iincw (pc := 155) (w := 1) (lv2 := [(0, .ref l0), (1, .int (l1 + 1))]) G 1 dX9_beginFrame_155 rfl (by decide) (by decide) rfl rfl ?_
      refine z_goto (pc := 158) (tgt := 109) G dX9_beginFrame_158 (by decide) ?_
      exact H109 _ _ _ hX
    · have hX := z_if hc122 hX
      refine z_aload_n (pc := 125) G 0 dX9_beginFrame_125 rfl rfl ?_
      obtain ⟨x126, hv126, hX⟩ := z_bd hX
      refine z_getR (pc := 126) G kK9 (k := 25) (by decide) kt_1251 dX9_beginFrame_126 hv126 ?_
      refine z_bipush (pc := 129) (v := 6) G dX9_beginFrame_129 (by decide) ?_
      refine z_aload_n (pc := 131) G 0 dX9_beginFrame_131 rfl rfl ?_
      obtain ⟨x132, hv132, hX⟩ := z_bd hX
      refine z_getI (pc := 132) G kK9 (k := 34) (by decide) kt_1260 dX9_beginFrame_132 hv132 ?_
      refine z_imul (pc := 135) G dX9_beginFrame_135 ?_
      refine z_iload_n (pc := 136) G 1 dX9_beginFrame_136 rfl rfl ?_
      refine z_iadd (pc := 137) G dX9_beginFrame_137 ?_
      obtain ⟨x138, hv138, hX⟩ := z_bd hX
      refine z_iald (pc := 138) G dX9_beginFrame_138 hv138 ?_
      refine z_aload_n (pc := 139) G 0 dX9_beginFrame_139 rfl rfl ?_
      obtain ⟨x140, hv140, hX⟩ := z_bd hX
      refine z_getR (pc := 140) G kK9 (k := 41) (by decide) kt_1267 dX9_beginFrame_140 hv140 ?_
      refine z_sipush (pc := 143) (v := 517) G dX9_beginFrame_143 (by decide) ?_
      obtain ⟨x146, hv146, hX⟩ := z_bd hX
      refine z_iald (pc := 146) G dX9_beginFrame_146 hv146 ?_
      refine z_icmp_ge (pc := 147) (tgt := 155) G dX9_beginFrame_147 (by decide) (fun hc147 => ?_) (fun hc147 => ?_)
      · have hX := z_it hc147 hX
        refine z_iincw (pc := 155) (w := 1) (lv2 := [(0, .ref l0), (1, .int (l1 + 1))]) G 1 dX9_beginFrame_155 rfl (by decide) (by decide) rfl rfl ?_
        refine z_goto (pc := 158) (tgt := 109) G dX9_beginFrame_158 (by decide) ?_
        exact H109 _ _ _ hX
      · have hX := z_if hc147 hX
        refine z_aload_n (pc := 150) G 0 dX9_beginFrame_150 rfl rfl ?_
        refine z_iload_n (pc := 151) G 1 dX9_beginFrame_151 rfl rfl ?_
        obtain ⟨hi152, hX⟩ := z_gu_s hX
        obtain ⟨h152, hv152, hX⟩ := z_bd hX
        refine z_cVV (pc := 152) (As := [.int l1]) (c2 := 0) (s2 := 0) G kK9 (lX9_seekSlots hO hv152) hi152 kt_1739 kt_11 kt_1736 kt_1738 ks_86 ydX9_seekSlots ⟨by decide, by decide⟩ rfl (Nat.le_of_ble_eq_true rfl) ⟨rfl, rfl⟩ ⟨by decide, by decide⟩ rfl dX9_beginFrame_152 ?_
        refine z_iincw (pc := 155) (w := 1) (lv2 := [(0, .ref l0), (1, .int (l1 + 1))]) G 1 dX9_beginFrame_155 rfl (by decide) (by decide) rfl rfl ?_
        refine z_goto (pc := 158) (tgt := 109) G dX9_beginFrame_158 (by decide) ?_
        exact H109 _ _ _ hX
set_option maxHeartbeats 4000000 in
set_option maxRecDepth 100000 in
theorem wX9_beginFrame_L109 {Γ : ZG} {p : Program} {l : Launch} {e : Env} {s : State} {m : MethodId} {args : Array Value} {below : List Frame} {meth : Method} {c : Code} (hO : z_OK Γ) (G : z_GG Γ p s m args meth c cX9_beginFrame 2 RX9) (hr : meth.sig.returnType = none) (hnm : meth.name = "beginFrame") {r : ZH} : ∀ (nn : Nat) (l0 : Nat) (l1 : Int32) (h : ZH), xX9_beginFrame_L109  nn l0 l1 h = some r → z_W Γ p l e rmX9_beginFrame s m args below meth c 2 0 0 (MQ below (z_Qc Γ none r) args s rmX9_beginFrame.cells rmX9_beginFrame.slots (z_A Γ)) 109 [(0, .ref l0), (1, .int l1)] [] h := by
  intro nn
  induction nn with
  | zero => intro l0 l1 h hX; cases hX
  | succ nn ih => intro l0 l1 h hX; exact wX9_beginFrame_B109 hO G hr hnm  ih l0 l1 h hX
noncomputable def xX9_beginFrame_B89 (r89 : Nat → Int32 → ZH → Option ZH) (l0 : Nat) (l1 : Int32) (h : ZH) : Option ZH := (if (180 : Int32) ≤ l1 then xX9_beginFrame_L109 zFU l0 (0 : Int32) h else (z_gu (z_is h l0 9) ((xX9_ageEntry l0 l1 h).bind fun h98 => r89 l0 (l1 + 1) h98)))
noncomputable def xX9_beginFrame_L89 (n : Nat) : Nat → Int32 → ZH → Option ZH := Nat.rec (motive := fun _ => Nat → Int32 → ZH → Option ZH) (fun _ _ _ => none) (fun _ rec => xX9_beginFrame_B89  rec) n
set_option maxHeartbeats 4000000 in
set_option maxRecDepth 100000 in
theorem wX9_beginFrame_B89 {Γ : ZG} {p : Program} {l : Launch} {e : Env} {s : State} {m : MethodId} {args : Array Value} {below : List Frame} {meth : Method} {c : Code} (hO : z_OK Γ) (G : z_GG Γ p s m args meth c cX9_beginFrame 2 RX9) (hr : meth.sig.returnType = none) (hnm : meth.name = "beginFrame") {r : ZH} {r89 : Nat → Int32 → ZH → Option ZH} (H89 : ∀ (l0 : Nat) (l1 : Int32) (h : ZH), r89 l0 l1 h = some r → z_W Γ p l e rmX9_beginFrame s m args below meth c 2 0 0 (MQ below (z_Qc Γ none r) args s rmX9_beginFrame.cells rmX9_beginFrame.slots (z_A Γ)) 89 [(0, .ref l0), (1, .int l1)] [] h) : ∀ (l0 : Nat) (l1 : Int32) (h : ZH), xX9_beginFrame_B89  r89 l0 l1 h = some r → z_W Γ p l e rmX9_beginFrame s m args below meth c 2 0 0 (MQ below (z_Qc Γ none r) args s rmX9_beginFrame.cells rmX9_beginFrame.slots (z_A Γ)) 89 [(0, .ref l0), (1, .int l1)] [] h := by
  intro l0 l1 h hX
  refine z_iload_n (pc := 89) G 1 dX9_beginFrame_89 rfl rfl ?_
  refine z_sipush (pc := 90) (v := 180) G dX9_beginFrame_90 (by decide) ?_
  refine z_icmp_ge (pc := 93) (tgt := 107) G dX9_beginFrame_93 (by decide) (fun hc93 => ?_) (fun hc93 => ?_)
  · have hX := z_it hc93 hX
    refine z_iconst (pc := 107) (v := 0) G dX9_beginFrame_107 (by decide) ?_
    refine z_istore_n (pc := 108) (lv2 := [(0, .ref l0), (1, .int (0 : Int32))]) G dX9_beginFrame_108 rfl (by decide) rfl rfl ?_
    exact wX9_beginFrame_L109 hO G hr hnm zFU _ _ _ hX
  · have hX := z_if hc93 hX
    refine z_aload_n (pc := 96) G 0 dX9_beginFrame_96 rfl rfl ?_
    refine z_iload_n (pc := 97) G 1 dX9_beginFrame_97 rfl rfl ?_
    obtain ⟨hi98, hX⟩ := z_gu_s hX
    obtain ⟨h98, hv98, hX⟩ := z_bd hX
    refine z_cVV (pc := 98) (As := [.int l1]) (c2 := 0) (s2 := 0) G kK9 (lX9_ageEntry hO hv98) hi98 kt_1735 kt_11 kt_1732 kt_1734 ks_85 ydX9_ageEntry ⟨by decide, by decide⟩ rfl (Nat.le_of_ble_eq_true rfl) ⟨rfl, rfl⟩ ⟨by decide, by decide⟩ rfl dX9_beginFrame_98 ?_
    refine z_iincw (pc := 101) (w := 1) (lv2 := [(0, .ref l0), (1, .int (l1 + 1))]) G 1 dX9_beginFrame_101 rfl (by decide) (by decide) rfl rfl ?_
    refine z_goto (pc := 104) (tgt := 89) G dX9_beginFrame_104 (by decide) ?_
    exact H89 _ _ _ hX
set_option maxHeartbeats 4000000 in
set_option maxRecDepth 100000 in
theorem wX9_beginFrame_L89 {Γ : ZG} {p : Program} {l : Launch} {e : Env} {s : State} {m : MethodId} {args : Array Value} {below : List Frame} {meth : Method} {c : Code} (hO : z_OK Γ) (G : z_GG Γ p s m args meth c cX9_beginFrame 2 RX9) (hr : meth.sig.returnType = none) (hnm : meth.name = "beginFrame") {r : ZH} : ∀ (nn : Nat) (l0 : Nat) (l1 : Int32) (h : ZH), xX9_beginFrame_L89  nn l0 l1 h = some r → z_W Γ p l e rmX9_beginFrame s m args below meth c 2 0 0 (MQ below (z_Qc Γ none r) args s rmX9_beginFrame.cells rmX9_beginFrame.slots (z_A Γ)) 89 [(0, .ref l0), (1, .int l1)] [] h := by
  intro nn
  induction nn with
  | zero => intro l0 l1 h hX; cases hX
  | succ nn ih => intro l0 l1 h hX; exact wX9_beginFrame_B89 hO G hr hnm  ih l0 l1 h hX
noncomputable def xX9_beginFrame_B13 (r13 : Nat → Int32 → ZH → Option ZH) (l0 : Nat) (l1 : Int32) (h : ZH) : Option ZH := (z_gu (z_is h l0 9) ((xX9_lots l0 h).bind fun r15 => (if r15.1 ≤ l1 then xX9_beginFrame_L89 zFU l0 (0 : Int32) r15.2 else ((z_gR r15.2 l0 9 41).bind fun x22 => ((z_gR r15.2 l0 9 41).bind fun x29 => ((z_aI r15.2 x29 ((0 : Int32) + l1)).bind fun x35 => ((z_gR r15.2 l0 9 41).bind fun x37 => ((z_aI r15.2 x37 ((12 : Int32) + l1)).bind fun x44 => ((z_uI r15.2 x22 ((0 : Int32) + l1) ((x35 + x44) - (x35 + x44) / (100 : Int32) * (100 : Int32))).bind fun h49 => ((z_gR h49 l0 9 41).bind fun x51 => ((z_gR h49 l0 9 41).bind fun x59 => ((z_aI h49 x59 ((6 : Int32) + l1)).bind fun x66 => ((z_gR h49 l0 9 41).bind fun x68 => ((z_aI h49 x68 ((18 : Int32) + l1)).bind fun x75 => ((z_uI h49 x51 ((6 : Int32) + l1) ((x66 + x75) - (x66 + x75) / (100 : Int32) * (100 : Int32))).bind fun h80 => r13 l0 (l1 + 1) h80)))))))))))))))
noncomputable def xX9_beginFrame_L13 (n : Nat) : Nat → Int32 → ZH → Option ZH := Nat.rec (motive := fun _ => Nat → Int32 → ZH → Option ZH) (fun _ _ _ => none) (fun _ rec => xX9_beginFrame_B13  rec) n
set_option maxHeartbeats 4000000 in
set_option maxRecDepth 100000 in
theorem wX9_beginFrame_B13 {Γ : ZG} {p : Program} {l : Launch} {e : Env} {s : State} {m : MethodId} {args : Array Value} {below : List Frame} {meth : Method} {c : Code} (hO : z_OK Γ) (G : z_GG Γ p s m args meth c cX9_beginFrame 2 RX9) (hr : meth.sig.returnType = none) (hnm : meth.name = "beginFrame") {r : ZH} {r13 : Nat → Int32 → ZH → Option ZH} (H13 : ∀ (l0 : Nat) (l1 : Int32) (h : ZH), r13 l0 l1 h = some r → z_W Γ p l e rmX9_beginFrame s m args below meth c 2 0 0 (MQ below (z_Qc Γ none r) args s rmX9_beginFrame.cells rmX9_beginFrame.slots (z_A Γ)) 13 [(0, .ref l0), (1, .int l1)] [] h) : ∀ (l0 : Nat) (l1 : Int32) (h : ZH), xX9_beginFrame_B13  r13 l0 l1 h = some r → z_W Γ p l e rmX9_beginFrame s m args below meth c 2 0 0 (MQ below (z_Qc Γ none r) args s rmX9_beginFrame.cells rmX9_beginFrame.slots (z_A Γ)) 13 [(0, .ref l0), (1, .int l1)] [] h := by
  intro l0 l1 h hX
  refine z_iload_n (pc := 13) G 1 dX9_beginFrame_13 rfl rfl ?_
  refine z_aload_n (pc := 14) G 0 dX9_beginFrame_14 rfl rfl ?_
  obtain ⟨hi15, hX⟩ := z_gu_s hX
  obtain ⟨r15, hv15, hX⟩ := z_bd hX
  refine z_cVI (pc := 15) (As := []) (c2 := 0) (s2 := 0) G kK9 (lX9_lots hO hv15) hi15 kt_1221 kt_11 kt_1218 kt_1220 ks_36 ydX9_lots ⟨by decide, by decide⟩ rfl (Nat.le_of_ble_eq_true rfl) ⟨rfl, rfl⟩ ⟨by decide, by decide⟩ rfl dX9_beginFrame_15 ?_
  refine z_icmp_ge (pc := 18) (tgt := 87) G dX9_beginFrame_18 (by decide) (fun hc18 => ?_) (fun hc18 => ?_)
  · have hX := z_it hc18 hX
    refine z_iconst (pc := 87) (v := 0) G dX9_beginFrame_87 (by decide) ?_
    refine z_istore_n (pc := 88) (lv2 := [(0, .ref l0), (1, .int (0 : Int32))]) G dX9_beginFrame_88 rfl (by decide) rfl rfl ?_
    exact wX9_beginFrame_L89 hO G hr hnm zFU _ _ _ hX
  · have hX := z_if hc18 hX
    refine z_aload_n (pc := 21) G 0 dX9_beginFrame_21 rfl rfl ?_
    obtain ⟨x22, hv22, hX⟩ := z_bd hX
    refine z_getR (pc := 22) G kK9 (k := 41) (by decide) kt_1267 dX9_beginFrame_22 hv22 ?_
    refine z_iconst (pc := 25) (v := 0) G dX9_beginFrame_25 (by decide) ?_
    refine z_iload_n (pc := 26) G 1 dX9_beginFrame_26 rfl rfl ?_
    refine z_iadd (pc := 27) G dX9_beginFrame_27 ?_
    refine z_aload_n (pc := 28) G 0 dX9_beginFrame_28 rfl rfl ?_
    obtain ⟨x29, hv29, hX⟩ := z_bd hX
    refine z_getR (pc := 29) G kK9 (k := 41) (by decide) kt_1267 dX9_beginFrame_29 hv29 ?_
    refine z_iconst (pc := 32) (v := 0) G dX9_beginFrame_32 (by decide) ?_
    refine z_iload_n (pc := 33) G 1 dX9_beginFrame_33 rfl rfl ?_
    refine z_iadd (pc := 34) G dX9_beginFrame_34 ?_
    obtain ⟨x35, hv35, hX⟩ := z_bd hX
    refine z_iald (pc := 35) G dX9_beginFrame_35 hv35 ?_
    refine z_aload_n (pc := 36) G 0 dX9_beginFrame_36 rfl rfl ?_
    obtain ⟨x37, hv37, hX⟩ := z_bd hX
    refine z_getR (pc := 37) G kK9 (k := 41) (by decide) kt_1267 dX9_beginFrame_37 hv37 ?_
    refine z_bipush (pc := 40) (v := 12) G dX9_beginFrame_40 (by decide) ?_
    refine z_iload_n (pc := 42) G 1 dX9_beginFrame_42 rfl rfl ?_
    refine z_iadd (pc := 43) G dX9_beginFrame_43 ?_
    obtain ⟨x44, hv44, hX⟩ := z_bd hX
    refine z_iald (pc := 44) G dX9_beginFrame_44 hv44 ?_
    refine z_iadd (pc := 45) G dX9_beginFrame_45 ?_
    refine z_bipush (pc := 46) (v := 100) G dX9_beginFrame_46 (by decide) ?_
    refine z_irem (pc := 48) G dX9_beginFrame_48 (by decide) ?_
    obtain ⟨h49, hv49, hX⟩ := z_bd hX
    refine z_iast (pc := 49) G dX9_beginFrame_49 hv49 ?_
    refine z_aload_n (pc := 50) G 0 dX9_beginFrame_50 rfl rfl ?_
    obtain ⟨x51, hv51, hX⟩ := z_bd hX
    refine z_getR (pc := 51) G kK9 (k := 41) (by decide) kt_1267 dX9_beginFrame_51 hv51 ?_
    refine z_bipush (pc := 54) (v := 6) G dX9_beginFrame_54 (by decide) ?_
    refine z_iload_n (pc := 56) G 1 dX9_beginFrame_56 rfl rfl ?_
    refine z_iadd (pc := 57) G dX9_beginFrame_57 ?_
    refine z_aload_n (pc := 58) G 0 dX9_beginFrame_58 rfl rfl ?_
    obtain ⟨x59, hv59, hX⟩ := z_bd hX
    refine z_getR (pc := 59) G kK9 (k := 41) (by decide) kt_1267 dX9_beginFrame_59 hv59 ?_
    refine z_bipush (pc := 62) (v := 6) G dX9_beginFrame_62 (by decide) ?_
    refine z_iload_n (pc := 64) G 1 dX9_beginFrame_64 rfl rfl ?_
    refine z_iadd (pc := 65) G dX9_beginFrame_65 ?_
    obtain ⟨x66, hv66, hX⟩ := z_bd hX
    refine z_iald (pc := 66) G dX9_beginFrame_66 hv66 ?_
    refine z_aload_n (pc := 67) G 0 dX9_beginFrame_67 rfl rfl ?_
    obtain ⟨x68, hv68, hX⟩ := z_bd hX
    refine z_getR (pc := 68) G kK9 (k := 41) (by decide) kt_1267 dX9_beginFrame_68 hv68 ?_
    refine z_bipush (pc := 71) (v := 18) G dX9_beginFrame_71 (by decide) ?_
    refine z_iload_n (pc := 73) G 1 dX9_beginFrame_73 rfl rfl ?_
    refine z_iadd (pc := 74) G dX9_beginFrame_74 ?_
    obtain ⟨x75, hv75, hX⟩ := z_bd hX
    refine z_iald (pc := 75) G dX9_beginFrame_75 hv75 ?_
    refine z_iadd (pc := 76) G dX9_beginFrame_76 ?_
    refine z_bipush (pc := 77) (v := 100) G dX9_beginFrame_77 (by decide) ?_
    refine z_irem (pc := 79) G dX9_beginFrame_79 (by decide) ?_
    obtain ⟨h80, hv80, hX⟩ := z_bd hX
    refine z_iast (pc := 80) G dX9_beginFrame_80 hv80 ?_
    refine z_iincw (pc := 81) (w := 1) (lv2 := [(0, .ref l0), (1, .int (l1 + 1))]) G 1 dX9_beginFrame_81 rfl (by decide) (by decide) rfl rfl ?_
    refine z_goto (pc := 84) (tgt := 13) G dX9_beginFrame_84 (by decide) ?_
    exact H13 _ _ _ hX
set_option maxHeartbeats 4000000 in
set_option maxRecDepth 100000 in
theorem wX9_beginFrame_L13 {Γ : ZG} {p : Program} {l : Launch} {e : Env} {s : State} {m : MethodId} {args : Array Value} {below : List Frame} {meth : Method} {c : Code} (hO : z_OK Γ) (G : z_GG Γ p s m args meth c cX9_beginFrame 2 RX9) (hr : meth.sig.returnType = none) (hnm : meth.name = "beginFrame") {r : ZH} : ∀ (nn : Nat) (l0 : Nat) (l1 : Int32) (h : ZH), xX9_beginFrame_L13  nn l0 l1 h = some r → z_W Γ p l e rmX9_beginFrame s m args below meth c 2 0 0 (MQ below (z_Qc Γ none r) args s rmX9_beginFrame.cells rmX9_beginFrame.slots (z_A Γ)) 13 [(0, .ref l0), (1, .int l1)] [] h := by
  intro nn
  induction nn with
  | zero => intro l0 l1 h hX; cases hX
  | succ nn ih => intro l0 l1 h hX; exact wX9_beginFrame_B13 hO G hr hnm  ih l0 l1 h hX
noncomputable def xX9_beginFrame (l0 : Nat) (h : ZH) : Option ZH := ((z_gR h l0 9 41).bind fun x1 => ((z_aI h x1 (517 : Int32)).bind fun x7 => (if x7 ≤ 0 then xX9_beginFrame_L109 zFU l0 (0 : Int32) h else xX9_beginFrame_L13 zFU l0 (0 : Int32) h)))
set_option maxHeartbeats 4000000 in
set_option maxRecDepth 100000 in
theorem lX9_beginFrame {Γ : ZG} {l : Launch} (hO : z_OK Γ) {l0 : Nat} {h : ZH} {r : ZH} (hX : xX9_beginFrame l0 h = some r) : z_M Γ l yX9_beginFrame (z_ws1 yX9_beginFrame cX9_beginFrame 2 none) rmX9_beginFrame [.ref l0] h none r := by
  refine z_start hO (plainFor_of_name (by decide)) (Nat.le_of_ble_eq_true rfl) ?_
  intro p e s m args below meth c G hr hnm
  refine z_lvc (lv2 := [(0, .ref l0)]) rfl ?_
  refine z_aload_n (pc := 0) G 0 dX9_beginFrame_0 rfl rfl ?_
  obtain ⟨x1, hv1, hX⟩ := z_bd hX
  refine z_getR (pc := 1) G kK9 (k := 41) (by decide) kt_1267 dX9_beginFrame_1 hv1 ?_
  refine z_sipush (pc := 4) (v := 517) G dX9_beginFrame_4 (by decide) ?_
  obtain ⟨x7, hv7, hX⟩ := z_bd hX
  refine z_iald (pc := 7) G dX9_beginFrame_7 hv7 ?_
  refine z_if_le (pc := 8) (tgt := 107) G dX9_beginFrame_8 (by decide) (fun hc8 => ?_) (fun hc8 => ?_)
  · have hX := z_it hc8 hX
    refine z_iconst (pc := 107) (v := 0) G dX9_beginFrame_107 (by decide) ?_
    refine z_istore_n (pc := 108) (lv2 := [(0, .ref l0), (1, .int (0 : Int32))]) G dX9_beginFrame_108 rfl (by decide) rfl rfl ?_
    exact wX9_beginFrame_L109 hO G hr hnm zFU _ _ _ hX
  · have hX := z_if hc8 hX
    refine z_iconst (pc := 11) (v := 0) G dX9_beginFrame_11 (by decide) ?_
    refine z_istore_n (pc := 12) (lv2 := [(0, .ref l0), (1, .int (0 : Int32))]) G dX9_beginFrame_12 rfl (by decide) rfl rfl ?_
    exact wX9_beginFrame_L13 hO G hr hnm zFU _ _ _ hX
theorem dX9_dueOf_0 : decode cX9_dueOf 0 = .ok (.iconst 0, 1) := by decide +kernel
theorem dX9_dueOf_1 : decode cX9_dueOf 1 = .ok (.istore_n 3, 1) := by decide +kernel
theorem dX9_dueOf_2 : decode cX9_dueOf 2 = .ok (.iload_n 3, 1) := by decide +kernel
theorem dX9_dueOf_3 : decode cX9_dueOf 3 = .ok (.aload_n 0, 1) := by decide +kernel
theorem dX9_dueOf_4 : decode cX9_dueOf 4 = .ok (.getfield 91, 3) := by decide +kernel
theorem dX9_dueOf_7 : decode cX9_dueOf 7 = .ok (.bipush 24, 2) := by decide +kernel
theorem dX9_dueOf_9 : decode cX9_dueOf 9 = .ok (.iload_n 1, 1) := by decide +kernel
theorem dX9_dueOf_10 : decode cX9_dueOf 10 = .ok (.iadd, 1) := by decide +kernel
theorem dX9_dueOf_11 : decode cX9_dueOf 11 = .ok (.iaload, 1) := by decide +kernel
theorem dX9_dueOf_12 : decode cX9_dueOf 12 = .ok (.if_icmp .ge 52, 3) := by decide +kernel
theorem dX9_dueOf_15 : decode cX9_dueOf 15 = .ok (.aload_n 0, 1) := by decide +kernel
theorem dX9_dueOf_16 : decode cX9_dueOf 16 = .ok (.getfield 91, 3) := by decide +kernel
theorem dX9_dueOf_19 : decode cX9_dueOf 19 = .ok (.bipush 30, 2) := by decide +kernel
theorem dX9_dueOf_21 : decode cX9_dueOf 21 = .ok (.iconst 3, 1) := by decide +kernel
theorem dX9_dueOf_22 : decode cX9_dueOf 22 = .ok (.iload_n 1, 1) := by decide +kernel
theorem dX9_dueOf_23 : decode cX9_dueOf 23 = .ok (.imul, 1) := by decide +kernel
theorem dX9_dueOf_24 : decode cX9_dueOf 24 = .ok (.iadd, 1) := by decide +kernel
theorem dX9_dueOf_25 : decode cX9_dueOf 25 = .ok (.iload_n 3, 1) := by decide +kernel
theorem dX9_dueOf_26 : decode cX9_dueOf 26 = .ok (.iadd, 1) := by decide +kernel
theorem dX9_dueOf_27 : decode cX9_dueOf 27 = .ok (.iaload, 1) := by decide +kernel
theorem dX9_dueOf_28 : decode cX9_dueOf 28 = .ok (.iload_n 2, 1) := by decide +kernel
theorem dX9_dueOf_29 : decode cX9_dueOf 29 = .ok (.if_icmp .ne 29, 3) := by decide +kernel
theorem dX9_dueOf_32 : decode cX9_dueOf 32 = .ok (.aload_n 0, 1) := by decide +kernel
theorem dX9_dueOf_33 : decode cX9_dueOf 33 = .ok (.getfield 91, 3) := by decide +kernel
theorem dX9_dueOf_36 : decode cX9_dueOf 36 = .ok (.bipush 66, 2) := by decide +kernel
theorem dX9_dueOf_38 : decode cX9_dueOf 38 = .ok (.iconst 3, 1) := by decide +kernel
theorem dX9_dueOf_39 : decode cX9_dueOf 39 = .ok (.iload_n 1, 1) := by decide +kernel
theorem dX9_dueOf_40 : decode cX9_dueOf 40 = .ok (.imul, 1) := by decide +kernel
theorem dX9_dueOf_41 : decode cX9_dueOf 41 = .ok (.iadd, 1) := by decide +kernel
theorem dX9_dueOf_42 : decode cX9_dueOf 42 = .ok (.iload_n 3, 1) := by decide +kernel
theorem dX9_dueOf_43 : decode cX9_dueOf 43 = .ok (.iadd, 1) := by decide +kernel
theorem dX9_dueOf_44 : decode cX9_dueOf 44 = .ok (.iaload, 1) := by decide +kernel
theorem dX9_dueOf_45 : decode cX9_dueOf 45 = .ok (.aload_n 0, 1) := by decide +kernel
theorem dX9_dueOf_46 : decode cX9_dueOf 46 = .ok (.getfield 91, 3) := by decide +kernel
theorem dX9_dueOf_49 : decode cX9_dueOf 49 = .ok (.sipush 517, 3) := by decide +kernel
theorem dX9_dueOf_52 : decode cX9_dueOf 52 = .ok (.iaload, 1) := by decide +kernel
theorem dX9_dueOf_53 : decode cX9_dueOf 53 = .ok (.if_icmp .gt 5, 3) := by decide +kernel
theorem dX9_dueOf_56 : decode cX9_dueOf 56 = .ok (.iload_n 3, 1) := by decide +kernel
theorem dX9_dueOf_57 : decode cX9_dueOf 57 = .ok (.ireturn, 1) := by decide +kernel
theorem dX9_dueOf_58 : decode cX9_dueOf 58 = .ok (.iinc 3 1, 3) := by decide +kernel
theorem dX9_dueOf_61 : decode cX9_dueOf 61 = .ok (.goto (-59), 3) := by decide +kernel
theorem dX9_dueOf_64 : decode cX9_dueOf 64 = .ok (.iconst (-1), 1) := by decide +kernel
theorem dX9_dueOf_65 : decode cX9_dueOf 65 = .ok (.ireturn, 1) := by decide +kernel
theorem ydX9_dueOf : z_yd yX9_dueOf 2 := ⟨by decide, by decide, by decide +kernel⟩
abbrev rmX9_dueOf : Room := { frames := 0, cells := 0, slots := 0, locals := 0 }
noncomputable def xX9_dueOf_B2 (r2 : Nat → Int32 → Int32 → Int32 → ZH → Option (Int32 × ZH)) (l0 : Nat) (l1 : Int32) (l2 : Int32) (l3 : Int32) (h : ZH) : Option (Int32 × ZH) := ((z_gR h l0 9 41).bind fun x4 => ((z_aI h x4 ((24 : Int32) + l1)).bind fun x11 => (if x11 ≤ l3 then some ((-1 : Int32), h) else ((z_gR h l0 9 41).bind fun x16 => ((z_aI h x16 (((30 : Int32) + ((3 : Int32) * l1)) + l3)).bind fun x27 => (if x27 = l2 then ((z_gR h l0 9 41).bind fun x33 => ((z_aI h x33 (((66 : Int32) + ((3 : Int32) * l1)) + l3)).bind fun x44 => ((z_gR h l0 9 41).bind fun x46 => ((z_aI h x46 (517 : Int32)).bind fun x52 => (if x52 < x44 then r2 l0 l1 l2 (l3 + 1) h else some (l3, h)))))) else r2 l0 l1 l2 (l3 + 1) h))))))
noncomputable def xX9_dueOf_L2 (n : Nat) : Nat → Int32 → Int32 → Int32 → ZH → Option (Int32 × ZH) := Nat.rec (motive := fun _ => Nat → Int32 → Int32 → Int32 → ZH → Option (Int32 × ZH)) (fun _ _ _ _ _ => none) (fun _ rec => xX9_dueOf_B2  rec) n
set_option maxHeartbeats 4000000 in
set_option maxRecDepth 100000 in
theorem wX9_dueOf_B2 {Γ : ZG} {p : Program} {l : Launch} {e : Env} {s : State} {m : MethodId} {args : Array Value} {below : List Frame} {meth : Method} {c : Code} (hO : z_OK Γ) (G : z_GG Γ p s m args meth c cX9_dueOf 4 RX9) (hr : meth.sig.returnType = (some .int)) (hnm : meth.name = "dueOf") {r : (Int32 × ZH)} {r2 : Nat → Int32 → Int32 → Int32 → ZH → Option (Int32 × ZH)} (H2 : ∀ (l0 : Nat) (l1 : Int32) (l2 : Int32) (l3 : Int32) (h : ZH), r2 l0 l1 l2 l3 h = some r → z_W Γ p l e rmX9_dueOf s m args below meth c 4 0 0 (MQ below (z_Qc Γ (some (.int r.1)) r.2) args s rmX9_dueOf.cells rmX9_dueOf.slots (z_A Γ)) 2 [(0, .ref l0), (1, .int l1), (2, .int l2), (3, .int l3)] [] h) : ∀ (l0 : Nat) (l1 : Int32) (l2 : Int32) (l3 : Int32) (h : ZH), xX9_dueOf_B2  r2 l0 l1 l2 l3 h = some r → z_W Γ p l e rmX9_dueOf s m args below meth c 4 0 0 (MQ below (z_Qc Γ (some (.int r.1)) r.2) args s rmX9_dueOf.cells rmX9_dueOf.slots (z_A Γ)) 2 [(0, .ref l0), (1, .int l1), (2, .int l2), (3, .int l3)] [] h := by
  intro l0 l1 l2 l3 h hX
  refine z_iload_n (pc := 2) G 3 dX9_dueOf_2 rfl rfl ?_
  refine z_aload_n (pc := 3) G 0 dX9_dueOf_3 rfl rfl ?_
  obtain ⟨x4, hv4, hX⟩ := z_bd hX
  refine z_getR (pc := 4) G kK9 (k := 41) (by decide) kt_1267 dX9_dueOf_4 hv4 ?_
  refine z_bipush (pc := 7) (v := 24) G dX9_dueOf_7 (by decide) ?_
  refine z_iload_n (pc := 9) G 1 dX9_dueOf_9 rfl rfl ?_
  refine z_iadd (pc := 10) G dX9_dueOf_10 ?_
  obtain ⟨x11, hv11, hX⟩ := z_bd hX
  refine z_iald (pc := 11) G dX9_dueOf_11 hv11 ?_
  refine z_icmp_ge (pc := 12) (tgt := 64) G dX9_dueOf_12 (by decide) (fun hc12 => ?_) (fun hc12 => ?_)
  · have hX := z_it hc12 hX
    refine z_iconst (pc := 64) (v := (-1)) G dX9_dueOf_64 (by decide) ?_
    exact z_iretX (pc := 65) hX G hr dX9_dueOf_65 (by decide) (by decide)
  · have hX := z_if hc12 hX
    refine z_aload_n (pc := 15) G 0 dX9_dueOf_15 rfl rfl ?_
    obtain ⟨x16, hv16, hX⟩ := z_bd hX
    refine z_getR (pc := 16) G kK9 (k := 41) (by decide) kt_1267 dX9_dueOf_16 hv16 ?_
    refine z_bipush (pc := 19) (v := 30) G dX9_dueOf_19 (by decide) ?_
    refine z_iconst (pc := 21) (v := 3) G dX9_dueOf_21 (by decide) ?_
    refine z_iload_n (pc := 22) G 1 dX9_dueOf_22 rfl rfl ?_
    refine z_imul (pc := 23) G dX9_dueOf_23 ?_
    refine z_iadd (pc := 24) G dX9_dueOf_24 ?_
    refine z_iload_n (pc := 25) G 3 dX9_dueOf_25 rfl rfl ?_
    refine z_iadd (pc := 26) G dX9_dueOf_26 ?_
    obtain ⟨x27, hv27, hX⟩ := z_bd hX
    refine z_iald (pc := 27) G dX9_dueOf_27 hv27 ?_
    refine z_iload_n (pc := 28) G 2 dX9_dueOf_28 rfl rfl ?_
    refine z_icmp_ne (pc := 29) (tgt := 58) G dX9_dueOf_29 (by decide) (fun hc29 => ?_) (fun hc29 => ?_)
    · have hX := z_if hc29 hX
      refine z_iincw (pc := 58) (w := 1) (lv2 := [(0, .ref l0), (1, .int l1), (2, .int l2), (3, .int (l3 + 1))]) G 3 dX9_dueOf_58 rfl (by decide) (by decide) rfl rfl ?_
      refine z_goto (pc := 61) (tgt := 2) G dX9_dueOf_61 (by decide) ?_
      exact H2 _ _ _ _ _ hX
    · have hX := z_it hc29 hX
      refine z_aload_n (pc := 32) G 0 dX9_dueOf_32 rfl rfl ?_
      obtain ⟨x33, hv33, hX⟩ := z_bd hX
      refine z_getR (pc := 33) G kK9 (k := 41) (by decide) kt_1267 dX9_dueOf_33 hv33 ?_
      refine z_bipush (pc := 36) (v := 66) G dX9_dueOf_36 (by decide) ?_
      refine z_iconst (pc := 38) (v := 3) G dX9_dueOf_38 (by decide) ?_
      refine z_iload_n (pc := 39) G 1 dX9_dueOf_39 rfl rfl ?_
      refine z_imul (pc := 40) G dX9_dueOf_40 ?_
      refine z_iadd (pc := 41) G dX9_dueOf_41 ?_
      refine z_iload_n (pc := 42) G 3 dX9_dueOf_42 rfl rfl ?_
      refine z_iadd (pc := 43) G dX9_dueOf_43 ?_
      obtain ⟨x44, hv44, hX⟩ := z_bd hX
      refine z_iald (pc := 44) G dX9_dueOf_44 hv44 ?_
      refine z_aload_n (pc := 45) G 0 dX9_dueOf_45 rfl rfl ?_
      obtain ⟨x46, hv46, hX⟩ := z_bd hX
      refine z_getR (pc := 46) G kK9 (k := 41) (by decide) kt_1267 dX9_dueOf_46 hv46 ?_
      refine z_sipush (pc := 49) (v := 517) G dX9_dueOf_49 (by decide) ?_
      obtain ⟨x52, hv52, hX⟩ := z_bd hX
      refine z_iald (pc := 52) G dX9_dueOf_52 hv52 ?_
      refine z_icmp_gt (pc := 53) (tgt := 58) G dX9_dueOf_53 (by decide) (fun hc53 => ?_) (fun hc53 => ?_)
      · have hX := z_it hc53 hX
        refine z_iincw (pc := 58) (w := 1) (lv2 := [(0, .ref l0), (1, .int l1), (2, .int l2), (3, .int (l3 + 1))]) G 3 dX9_dueOf_58 rfl (by decide) (by decide) rfl rfl ?_
        refine z_goto (pc := 61) (tgt := 2) G dX9_dueOf_61 (by decide) ?_
        exact H2 _ _ _ _ _ hX
      · have hX := z_if hc53 hX
        refine z_iload_n (pc := 56) G 3 dX9_dueOf_56 rfl rfl ?_
        exact z_iretX (pc := 57) hX G hr dX9_dueOf_57 (by decide) (by decide)
set_option maxHeartbeats 4000000 in
set_option maxRecDepth 100000 in
theorem wX9_dueOf_L2 {Γ : ZG} {p : Program} {l : Launch} {e : Env} {s : State} {m : MethodId} {args : Array Value} {below : List Frame} {meth : Method} {c : Code} (hO : z_OK Γ) (G : z_GG Γ p s m args meth c cX9_dueOf 4 RX9) (hr : meth.sig.returnType = (some .int)) (hnm : meth.name = "dueOf") {r : (Int32 × ZH)} : ∀ (nn : Nat) (l0 : Nat) (l1 : Int32) (l2 : Int32) (l3 : Int32) (h : ZH), xX9_dueOf_L2  nn l0 l1 l2 l3 h = some r → z_W Γ p l e rmX9_dueOf s m args below meth c 4 0 0 (MQ below (z_Qc Γ (some (.int r.1)) r.2) args s rmX9_dueOf.cells rmX9_dueOf.slots (z_A Γ)) 2 [(0, .ref l0), (1, .int l1), (2, .int l2), (3, .int l3)] [] h := by
  intro nn
  induction nn with
  | zero => intro l0 l1 l2 l3 h hX; cases hX
  | succ nn ih => intro l0 l1 l2 l3 h hX; exact wX9_dueOf_B2 hO G hr hnm  ih l0 l1 l2 l3 h hX
noncomputable def xX9_dueOf (l0 : Nat) (l1 : Int32) (l2 : Int32) (h : ZH) : Option (Int32 × ZH) := xX9_dueOf_L2 zFU l0 l1 l2 (0 : Int32) h
set_option maxHeartbeats 4000000 in
set_option maxRecDepth 100000 in
theorem lX9_dueOf {Γ : ZG} {l : Launch} (hO : z_OK Γ) {l0 : Nat} {l1 : Int32} {l2 : Int32} {h : ZH} {r : (Int32 × ZH)} (hX : xX9_dueOf l0 l1 l2 h = some r) : z_M Γ l yX9_dueOf (z_ws1 yX9_dueOf cX9_dueOf 4 (some .int)) rmX9_dueOf [.ref l0, .int l1, .int l2] h (some (.int r.1)) r.2 := by
  refine z_start hO (plainFor_of_name (by decide)) (Nat.le_of_ble_eq_true rfl) ?_
  intro p e s m args below meth c G hr hnm
  refine z_lvc (lv2 := [(0, .ref l0), (1, .int l1), (2, .int l2)]) rfl ?_
  refine z_iconst (pc := 0) (v := 0) G dX9_dueOf_0 (by decide) ?_
  refine z_istore_n (pc := 1) (lv2 := [(0, .ref l0), (1, .int l1), (2, .int l2), (3, .int (0 : Int32))]) G dX9_dueOf_1 rfl (by decide) rfl rfl ?_
  exact wX9_dueOf_L2 hO G hr hnm zFU _ _ _ _ _ hX
theorem dX9_report_0 : decode cX9_report 0 = .ok (.aload_n 0, 1) := by decide +kernel
theorem dX9_report_1 : decode cX9_report 1 = .ok (.getfield 91, 3) := by decide +kernel
theorem dX9_report_4 : decode cX9_report 4 = .ok (.sipush 518, 3) := by decide +kernel
theorem dX9_report_7 : decode cX9_report 7 = .ok (.iaload, 1) := by decide +kernel
theorem dX9_report_8 : decode cX9_report 8 = .ok (.istore_n 3, 1) := by decide +kernel
theorem dX9_report_9 : decode cX9_report 9 = .ok (.iconst 3, 1) := by decide +kernel
theorem dX9_report_10 : decode cX9_report 10 = .ok (.iload_n 1, 1) := by decide +kernel
theorem dX9_report_11 : decode cX9_report 11 = .ok (.imul, 1) := by decide +kernel
theorem dX9_report_12 : decode cX9_report 12 = .ok (.iload_n 2, 1) := by decide +kernel
theorem dX9_report_13 : decode cX9_report 13 = .ok (.iadd, 1) := by decide +kernel
theorem dX9_report_14 : decode cX9_report 14 = .ok (.istore 4, 2) := by decide +kernel
theorem dX9_report_16 : decode cX9_report 16 = .ok (.aload_n 0, 1) := by decide +kernel
theorem dX9_report_17 : decode cX9_report 17 = .ok (.getfield 91, 3) := by decide +kernel
theorem dX9_report_20 : decode cX9_report 20 = .ok (.bipush 48, 2) := by decide +kernel
theorem dX9_report_22 : decode cX9_report 22 = .ok (.iload 4, 2) := by decide +kernel
theorem dX9_report_24 : decode cX9_report 24 = .ok (.iadd, 1) := by decide +kernel
theorem dX9_report_25 : decode cX9_report 25 = .ok (.dup2, 1) := by decide +kernel
theorem dX9_report_26 : decode cX9_report 26 = .ok (.iaload, 1) := by decide +kernel
theorem dX9_report_27 : decode cX9_report 27 = .ok (.iconst 1, 1) := by decide +kernel
theorem dX9_report_28 : decode cX9_report 28 = .ok (.isub, 1) := by decide +kernel
theorem dX9_report_29 : decode cX9_report 29 = .ok (.iastore, 1) := by decide +kernel
theorem dX9_report_30 : decode cX9_report 30 = .ok (.aload_n 0, 1) := by decide +kernel
theorem dX9_report_31 : decode cX9_report 31 = .ok (.getfield 106, 3) := by decide +kernel
theorem dX9_report_34 : decode cX9_report 34 = .ok (.iload_n 1, 1) := by decide +kernel
theorem dX9_report_35 : decode cX9_report 35 = .ok (.iload_n 3, 1) := by decide +kernel
theorem dX9_report_36 : decode cX9_report 36 = .ok (.iastore, 1) := by decide +kernel
theorem dX9_report_37 : decode cX9_report 37 = .ok (.aload_n 0, 1) := by decide +kernel
theorem dX9_report_38 : decode cX9_report 38 = .ok (.getfield 91, 3) := by decide +kernel
theorem dX9_report_41 : decode cX9_report 41 = .ok (.bipush 48, 2) := by decide +kernel
theorem dX9_report_43 : decode cX9_report 43 = .ok (.iload 4, 2) := by decide +kernel
theorem dX9_report_45 : decode cX9_report 45 = .ok (.iadd, 1) := by decide +kernel
theorem dX9_report_46 : decode cX9_report 46 = .ok (.iaload, 1) := by decide +kernel
theorem dX9_report_47 : decode cX9_report 47 = .ok (.ifCond .ne 68, 3) := by decide +kernel
theorem dX9_report_50 : decode cX9_report 50 = .ok (.aload_n 0, 1) := by decide +kernel
theorem dX9_report_51 : decode cX9_report 51 = .ok (.iload_n 1, 1) := by decide +kernel
theorem dX9_report_52 : decode cX9_report 52 = .ok (.iload_n 3, 1) := by decide +kernel
theorem dX9_report_53 : decode cX9_report 53 = .ok (.invokevirtual 417, 3) := by decide +kernel
theorem dX9_report_56 : decode cX9_report 56 = .ok (.istore 5, 2) := by decide +kernel
theorem dX9_report_58 : decode cX9_report 58 = .ok (.iload 5, 2) := by decide +kernel
theorem dX9_report_60 : decode cX9_report 60 = .ok (.ifCond .ge 20, 3) := by decide +kernel
theorem dX9_report_63 : decode cX9_report 63 = .ok (.aload_n 0, 1) := by decide +kernel
theorem dX9_report_64 : decode cX9_report 64 = .ok (.getfield 91, 3) := by decide +kernel
theorem dX9_report_67 : decode cX9_report 67 = .ok (.bipush 48, 2) := by decide +kernel
theorem dX9_report_69 : decode cX9_report 69 = .ok (.iload 4, 2) := by decide +kernel
theorem dX9_report_71 : decode cX9_report 71 = .ok (.iadd, 1) := by decide +kernel
theorem dX9_report_72 : decode cX9_report 72 = .ok (.aload_n 0, 1) := by decide +kernel
theorem dX9_report_73 : decode cX9_report 73 = .ok (.invokevirtual 420, 3) := by decide +kernel
theorem dX9_report_76 : decode cX9_report 76 = .ok (.iastore, 1) := by decide +kernel
theorem dX9_report_77 : decode cX9_report 77 = .ok (.goto 25, 3) := by decide +kernel
theorem dX9_report_80 : decode cX9_report 80 = .ok (.aload_n 0, 1) := by decide +kernel
theorem dX9_report_81 : decode cX9_report 81 = .ok (.iload_n 1, 1) := by decide +kernel
theorem dX9_report_82 : decode cX9_report 82 = .ok (.iload_n 2, 1) := by decide +kernel
theorem dX9_report_83 : decode cX9_report 83 = .ok (.iload 5, 2) := by decide +kernel
theorem dX9_report_85 : decode cX9_report 85 = .ok (.aload_n 0, 1) := by decide +kernel
theorem dX9_report_86 : decode cX9_report 86 = .ok (.invokevirtual 420, 3) := by decide +kernel
theorem dX9_report_89 : decode cX9_report 89 = .ok (.aload_n 0, 1) := by decide +kernel
theorem dX9_report_90 : decode cX9_report 90 = .ok (.getfield 91, 3) := by decide +kernel
theorem dX9_report_93 : decode cX9_report 93 = .ok (.sipush 517, 3) := by decide +kernel
theorem dX9_report_96 : decode cX9_report 96 = .ok (.iaload, 1) := by decide +kernel
theorem dX9_report_97 : decode cX9_report 97 = .ok (.iconst 1, 1) := by decide +kernel
theorem dX9_report_98 : decode cX9_report 98 = .ok (.iadd, 1) := by decide +kernel
theorem dX9_report_99 : decode cX9_report 99 = .ok (.invokevirtual 423, 3) := by decide +kernel
theorem dX9_report_102 : decode cX9_report 102 = .ok (.iload 5, 2) := by decide +kernel
theorem dX9_report_104 : decode cX9_report 104 = .ok (.ifCond .lt 11, 3) := by decide +kernel
theorem dX9_report_107 : decode cX9_report 107 = .ok (.aload_n 0, 1) := by decide +kernel
theorem dX9_report_108 : decode cX9_report 108 = .ok (.getfield 106, 3) := by decide +kernel
theorem dX9_report_111 : decode cX9_report 111 = .ok (.iload_n 1, 1) := by decide +kernel
theorem dX9_report_112 : decode cX9_report 112 = .ok (.iload 5, 2) := by decide +kernel
theorem dX9_report_114 : decode cX9_report 114 = .ok (.iastore, 1) := by decide +kernel
theorem dX9_report_115 : decode cX9_report 115 = .ok (.aload_n 0, 1) := by decide +kernel
theorem dX9_report_116 : decode cX9_report 116 = .ok (.getfield 103, 3) := by decide +kernel
theorem dX9_report_119 : decode cX9_report 119 = .ok (.iload_n 1, 1) := by decide +kernel
theorem dX9_report_120 : decode cX9_report 120 = .ok (.aload_n 0, 1) := by decide +kernel
theorem dX9_report_121 : decode cX9_report 121 = .ok (.getfield 91, 3) := by decide +kernel
theorem dX9_report_124 : decode cX9_report 124 = .ok (.bipush 48, 2) := by decide +kernel
theorem dX9_report_126 : decode cX9_report 126 = .ok (.iload 4, 2) := by decide +kernel
theorem dX9_report_128 : decode cX9_report 128 = .ok (.iadd, 1) := by decide +kernel
theorem dX9_report_129 : decode cX9_report 129 = .ok (.iaload, 1) := by decide +kernel
theorem dX9_report_130 : decode cX9_report 130 = .ok (.iconst 1, 1) := by decide +kernel
theorem dX9_report_131 : decode cX9_report 131 = .ok (.iadd, 1) := by decide +kernel
theorem dX9_report_132 : decode cX9_report 132 = .ok (.iastore, 1) := by decide +kernel
theorem dX9_report_133 : decode cX9_report 133 = .ok (.aload_n 0, 1) := by decide +kernel
theorem dX9_report_134 : decode cX9_report 134 = .ok (.invokevirtual 405, 3) := by decide +kernel
theorem dX9_report_137 : decode cX9_report 137 = .ok (.bipush 100, 2) := by decide +kernel
theorem dX9_report_139 : decode cX9_report 139 = .ok (.irem, 1) := by decide +kernel
theorem dX9_report_140 : decode cX9_report 140 = .ok (.aload_n 0, 1) := by decide +kernel
theorem dX9_report_141 : decode cX9_report 141 = .ok (.getfield 42, 3) := by decide +kernel
theorem dX9_report_144 : decode cX9_report 144 = .ok (.aload_n 0, 1) := by decide +kernel
theorem dX9_report_145 : decode cX9_report 145 = .ok (.getfield 255, 3) := by decide +kernel
theorem dX9_report_148 : decode cX9_report 148 = .ok (.iaload, 1) := by decide +kernel
theorem dX9_report_149 : decode cX9_report 149 = .ok (.if_icmp .ge 7, 3) := by decide +kernel
theorem dX9_report_152 : decode cX9_report 152 = .ok (.iconst 1, 1) := by decide +kernel
theorem dX9_report_153 : decode cX9_report 153 = .ok (.goto 4, 3) := by decide +kernel
theorem dX9_report_156 : decode cX9_report 156 = .ok (.iconst 0, 1) := by decide +kernel
theorem dX9_report_157 : decode cX9_report 157 = .ok (.ireturn, 1) := by decide +kernel
theorem ydX9_report : z_yd yX9_report 2 := ⟨by decide, by decide, by decide +kernel⟩
abbrev rmX9_report : Room := { frames := 5, cells := 0, slots := 0, locals := 119 }
noncomputable def xX9_report_B115 (l0 : Nat) (l1 : Int32) (l4 : Int32) (h : ZH) : Option (Int32 × ZH) := ((z_gR h l0 9 45).bind fun x116 => ((z_gR h l0 9 41).bind fun x121 => ((z_aI h x121 ((48 : Int32) + l4)).bind fun x129 => ((z_uI h x116 l1 (x129 + (1 : Int32))).bind fun h132 => (z_gu (z_is h132 l0 9) ((xX9_drawOn l0 h132).bind fun r134 => ((z_gR r134.2 l0 9 18).bind fun x141 => ((z_gI r134.2 l0 9 34).bind fun x145 => ((z_aI r134.2 x141 x145).bind fun x148 => (if x148 ≤ (r134.1 - r134.1 / (100 : Int32) * (100 : Int32)) then some ((0 : Int32), r134.2) else some ((1 : Int32), r134.2)))))))))))
set_option maxHeartbeats 4000000 in
set_option maxRecDepth 100000 in
theorem wX9_report_B115 {Γ : ZG} {p : Program} {l : Launch} {e : Env} {s : State} {m : MethodId} {args : Array Value} {below : List Frame} {meth : Method} {c : Code} (hO : z_OK Γ) (G : z_GG Γ p s m args meth c cX9_report 6 RX9) (hr : meth.sig.returnType = (some .boolean)) (hnm : meth.name = "report") {r : (Int32 × ZH)} : ∀ (l0 : Nat) (l1 : Int32) (l4 : Int32) (h : ZH), xX9_report_B115  l0 l1 l4 h = some r → z_W Γ p l e rmX9_report s m args below meth c 6 0 0 (MQ below (z_Qc Γ (some (.int r.1)) r.2) args s rmX9_report.cells rmX9_report.slots (z_A Γ)) 115 [(0, .ref l0), (1, .int l1), (4, .int l4)] [] h := by
  intro l0 l1 l4 h hX
  refine z_aload_n (pc := 115) G 0 dX9_report_115 rfl rfl ?_
  obtain ⟨x116, hv116, hX⟩ := z_bd hX
  refine z_getR (pc := 116) G kK9 (k := 45) (by decide) kt_1271 dX9_report_116 hv116 ?_
  refine z_iload_n (pc := 119) G 1 dX9_report_119 rfl rfl ?_
  refine z_aload_n (pc := 120) G 0 dX9_report_120 rfl rfl ?_
  obtain ⟨x121, hv121, hX⟩ := z_bd hX
  refine z_getR (pc := 121) G kK9 (k := 41) (by decide) kt_1267 dX9_report_121 hv121 ?_
  refine z_bipush (pc := 124) (v := 48) G dX9_report_124 (by decide) ?_
  refine z_iload (pc := 126) G 2 dX9_report_126 rfl ?_
  refine z_iadd (pc := 128) G dX9_report_128 ?_
  obtain ⟨x129, hv129, hX⟩ := z_bd hX
  refine z_iald (pc := 129) G dX9_report_129 hv129 ?_
  refine z_iconst (pc := 130) (v := 1) G dX9_report_130 (by decide) ?_
  refine z_iadd (pc := 131) G dX9_report_131 ?_
  obtain ⟨h132, hv132, hX⟩ := z_bd hX
  refine z_iast (pc := 132) G dX9_report_132 hv132 ?_
  refine z_aload_n (pc := 133) G 0 dX9_report_133 rfl rfl ?_
  obtain ⟨hi134, hX⟩ := z_gu_s hX
  obtain ⟨r134, hv134, hX⟩ := z_bd hX
  refine z_cVI (pc := 134) (As := []) (c2 := 0) (s2 := 0) G kK9 (lX9_drawOn hO hv134) hi134 kt_1743 kt_11 kt_1740 kt_1742 ks_87 ydX9_drawOn ⟨by decide, by decide⟩ rfl (Nat.le_of_ble_eq_true rfl) ⟨rfl, rfl⟩ ⟨by decide, by decide⟩ rfl dX9_report_134 ?_
  refine z_bipush (pc := 137) (v := 100) G dX9_report_137 (by decide) ?_
  refine z_irem (pc := 139) G dX9_report_139 (by decide) ?_
  refine z_aload_n (pc := 140) G 0 dX9_report_140 rfl rfl ?_
  obtain ⟨x141, hv141, hX⟩ := z_bd hX
  refine z_getR (pc := 141) G kK9 (k := 18) (by decide) kt_1244 dX9_report_141 hv141 ?_
  refine z_aload_n (pc := 144) G 0 dX9_report_144 rfl rfl ?_
  obtain ⟨x145, hv145, hX⟩ := z_bd hX
  refine z_getI (pc := 145) G kK9 (k := 34) (by decide) kt_1260 dX9_report_145 hv145 ?_
  obtain ⟨x148, hv148, hX⟩ := z_bd hX
  refine z_iald (pc := 148) G dX9_report_148 hv148 ?_
  refine z_icmp_ge (pc := 149) (tgt := 156) G dX9_report_149 (by decide) (fun hc149 => ?_) (fun hc149 => ?_)
  · have hX := z_it hc149 hX
    refine z_iconst (pc := 156) (v := 0) G dX9_report_156 (by decide) ?_
    exact z_zretX (pc := 157) hX G hr rfl dX9_report_157 (by decide) (by decide)
  · have hX := z_if hc149 hX
    refine z_iconst (pc := 152) (v := 1) G dX9_report_152 (by decide) ?_
    refine z_goto (pc := 153) (tgt := 157) G dX9_report_153 (by decide) ?_
    exact z_zretX (pc := 157) hX G hr rfl dX9_report_157 (by decide) (by decide)
noncomputable def xX9_report_B102 (l0 : Nat) (l1 : Int32) (l4 : Int32) (l5 : Int32) (h : ZH) : Option (Int32 × ZH) := (if l5 < 0 then xX9_report_B115 l0 l1 l4 h else ((z_gR h l0 9 46).bind fun x108 => ((z_uI h x108 l1 l5).bind fun h114 => xX9_report_B115 l0 l1 l4 h114)))
set_option maxHeartbeats 4000000 in
set_option maxRecDepth 100000 in
theorem wX9_report_B102 {Γ : ZG} {p : Program} {l : Launch} {e : Env} {s : State} {m : MethodId} {args : Array Value} {below : List Frame} {meth : Method} {c : Code} (hO : z_OK Γ) (G : z_GG Γ p s m args meth c cX9_report 6 RX9) (hr : meth.sig.returnType = (some .boolean)) (hnm : meth.name = "report") {r : (Int32 × ZH)} : ∀ (l0 : Nat) (l1 : Int32) (l4 : Int32) (l5 : Int32) (h : ZH), xX9_report_B102  l0 l1 l4 l5 h = some r → z_W Γ p l e rmX9_report s m args below meth c 6 0 0 (MQ below (z_Qc Γ (some (.int r.1)) r.2) args s rmX9_report.cells rmX9_report.slots (z_A Γ)) 102 [(0, .ref l0), (1, .int l1), (4, .int l4), (5, .int l5)] [] h := by
  intro l0 l1 l4 l5 h hX
  refine z_iload (pc := 102) G 3 dX9_report_102 rfl ?_
  refine z_if_lt (pc := 104) (tgt := 115) G dX9_report_104 (by decide) (fun hc104 => ?_) (fun hc104 => ?_)
  · have hX := z_it hc104 hX
    refine z_drop (lv2 := [(0, .ref l0), (1, .int l1), (4, .int l4)]) [0, 1, 2] rfl ?_
    exact wX9_report_B115 hO G hr hnm _ _ _ _ hX
  · have hX := z_if hc104 hX
    refine z_aload_n (pc := 107) G 0 dX9_report_107 rfl rfl ?_
    obtain ⟨x108, hv108, hX⟩ := z_bd hX
    refine z_getR (pc := 108) G kK9 (k := 46) (by decide) kt_1272 dX9_report_108 hv108 ?_
    refine z_iload_n (pc := 111) G 1 dX9_report_111 rfl rfl ?_
    refine z_iload (pc := 112) G 3 dX9_report_112 rfl ?_
    obtain ⟨h114, hv114, hX⟩ := z_bd hX
    refine z_iast (pc := 114) G dX9_report_114 hv114 ?_
    refine z_drop (lv2 := [(0, .ref l0), (1, .int l1), (4, .int l4)]) [0, 1, 2] rfl ?_
    exact wX9_report_B115 hO G hr hnm _ _ _ _ hX
noncomputable def xX9_report (l0 : Nat) (l1 : Int32) (l2 : Int32) (h : ZH) : Option (Int32 × ZH) := ((z_gR h l0 9 41).bind fun x1 => ((z_aI h x1 (518 : Int32)).bind fun x7 => ((z_gR h l0 9 41).bind fun x17 => ((z_aI h x17 ((48 : Int32) + (((3 : Int32) * l1) + l2))).bind fun x26 => ((z_uI h x17 ((48 : Int32) + (((3 : Int32) * l1) + l2)) (x26 - (1 : Int32))).bind fun h29 => ((z_gR h29 l0 9 46).bind fun x31 => ((z_uI h29 x31 l1 x7).bind fun h36 => ((z_gR h36 l0 9 41).bind fun x38 => ((z_aI h36 x38 ((48 : Int32) + (((3 : Int32) * l1) + l2))).bind fun x46 => (if x46 = 0 then (z_gu (z_is h36 l0 9) ((xX9_choose l0 l1 x7 h36).bind fun r53 => (if 0 ≤ r53.1 then (z_gu (z_is r53.2 l0 9) ((xX9_newLeft l0 r53.2).bind fun r86 => ((z_gR r86.2 l0 9 41).bind fun x90 => ((z_aI r86.2 x90 (517 : Int32)).bind fun x96 => (z_gu (z_is r86.2 l0 9) ((xX9_own1 l0 l1 l2 r53.1 r86.1 (x96 + (1 : Int32)) r86.2).bind fun h99 => xX9_report_B102 l0 l1 (((3 : Int32) * l1) + l2) r53.1 h99)))))) else ((z_gR r53.2 l0 9 41).bind fun x64 => (z_gu (z_is r53.2 l0 9) ((xX9_newLeft l0 r53.2).bind fun r73 => ((z_uI r73.2 x64 ((48 : Int32) + (((3 : Int32) * l1) + l2)) r73.1).bind fun h76 => xX9_report_B102 l0 l1 (((3 : Int32) * l1) + l2) r53.1 h76))))))) else xX9_report_B115 l0 l1 (((3 : Int32) * l1) + l2) h36))))))))))
set_option maxHeartbeats 4000000 in
set_option maxRecDepth 100000 in
theorem lX9_report {Γ : ZG} {l : Launch} (hO : z_OK Γ) {l0 : Nat} {l1 : Int32} {l2 : Int32} {h : ZH} {r : (Int32 × ZH)} (hX : xX9_report l0 l1 l2 h = some r) : z_M Γ l yX9_report (z_ws1 yX9_report cX9_report 6 (some .boolean)) rmX9_report [.ref l0, .int l1, .int l2] h (some (.int r.1)) r.2 := by
  refine z_start hO (plainFor_of_name (by decide)) (Nat.le_of_ble_eq_true rfl) ?_
  intro p e s m args below meth c G hr hnm
  refine z_lvc (lv2 := [(0, .ref l0), (1, .int l1), (2, .int l2)]) rfl ?_
  refine z_aload_n (pc := 0) G 0 dX9_report_0 rfl rfl ?_
  obtain ⟨x1, hv1, hX⟩ := z_bd hX
  refine z_getR (pc := 1) G kK9 (k := 41) (by decide) kt_1267 dX9_report_1 hv1 ?_
  refine z_sipush (pc := 4) (v := 518) G dX9_report_4 (by decide) ?_
  obtain ⟨x7, hv7, hX⟩ := z_bd hX
  refine z_iald (pc := 7) G dX9_report_7 hv7 ?_
  refine z_istore_n (pc := 8) (lv2 := [(0, .ref l0), (1, .int l1), (2, .int l2), (3, .int x7)]) G dX9_report_8 rfl (by decide) rfl rfl ?_
  refine z_iconst (pc := 9) (v := 3) G dX9_report_9 (by decide) ?_
  refine z_iload_n (pc := 10) G 1 dX9_report_10 rfl rfl ?_
  refine z_imul (pc := 11) G dX9_report_11 ?_
  refine z_iload_n (pc := 12) G 2 dX9_report_12 rfl rfl ?_
  refine z_iadd (pc := 13) G dX9_report_13 ?_
  refine z_istore (pc := 14) (lv2 := [(0, .ref l0), (1, .int l1), (2, .int l2), (3, .int x7), (4, .int (((3 : Int32) * l1) + l2))]) G dX9_report_14 (by decide) rfl rfl ?_
  refine z_aload_n (pc := 16) G 0 dX9_report_16 rfl rfl ?_
  obtain ⟨x17, hv17, hX⟩ := z_bd hX
  refine z_getR (pc := 17) G kK9 (k := 41) (by decide) kt_1267 dX9_report_17 hv17 ?_
  refine z_bipush (pc := 20) (v := 48) G dX9_report_20 (by decide) ?_
  refine z_iload (pc := 22) G 4 dX9_report_22 rfl ?_
  refine z_iadd (pc := 24) G dX9_report_24 ?_
  refine z_dup2 (pc := 25) G dX9_report_25 rfl rfl ?_
  obtain ⟨x26, hv26, hX⟩ := z_bd hX
  refine z_iald (pc := 26) G dX9_report_26 hv26 ?_
  refine z_iconst (pc := 27) (v := 1) G dX9_report_27 (by decide) ?_
  refine z_isub (pc := 28) G dX9_report_28 ?_
  obtain ⟨h29, hv29, hX⟩ := z_bd hX
  refine z_iast (pc := 29) G dX9_report_29 hv29 ?_
  refine z_aload_n (pc := 30) G 0 dX9_report_30 rfl rfl ?_
  obtain ⟨x31, hv31, hX⟩ := z_bd hX
  refine z_getR (pc := 31) G kK9 (k := 46) (by decide) kt_1272 dX9_report_31 hv31 ?_
  refine z_iload_n (pc := 34) G 1 dX9_report_34 rfl rfl ?_
  refine z_iload_n (pc := 35) G 3 dX9_report_35 rfl rfl ?_
  obtain ⟨h36, hv36, hX⟩ := z_bd hX
  refine z_iast (pc := 36) G dX9_report_36 hv36 ?_
  refine z_aload_n (pc := 37) G 0 dX9_report_37 rfl rfl ?_
  obtain ⟨x38, hv38, hX⟩ := z_bd hX
  refine z_getR (pc := 38) G kK9 (k := 41) (by decide) kt_1267 dX9_report_38 hv38 ?_
  refine z_bipush (pc := 41) (v := 48) G dX9_report_41 (by decide) ?_
  refine z_iload (pc := 43) G 4 dX9_report_43 rfl ?_
  refine z_iadd (pc := 45) G dX9_report_45 ?_
  obtain ⟨x46, hv46, hX⟩ := z_bd hX
  refine z_iald (pc := 46) G dX9_report_46 hv46 ?_
  refine z_if_ne (pc := 47) (tgt := 115) G dX9_report_47 (by decide) (fun hc47 => ?_) (fun hc47 => ?_)
  · have hX := z_if hc47 hX
    refine z_drop (lv2 := [(0, .ref l0), (1, .int l1), (4, .int (((3 : Int32) * l1) + l2))]) [0, 1, 4] rfl ?_
    exact wX9_report_B115 hO G hr hnm _ _ _ _ hX
  · have hX := z_it hc47 hX
    refine z_aload_n (pc := 50) G 0 dX9_report_50 rfl rfl ?_
    refine z_iload_n (pc := 51) G 1 dX9_report_51 rfl rfl ?_
    refine z_iload_n (pc := 52) G 3 dX9_report_52 rfl rfl ?_
    obtain ⟨hi53, hX⟩ := z_gu_s hX
    obtain ⟨r53, hv53, hX⟩ := z_bd hX
    refine z_cVI (pc := 53) (As := [.int l1, .int x7]) (c2 := 0) (s2 := 0) G kK9 (lX9_choose hO hv53) hi53 kt_1747 kt_11 kt_1744 kt_1746 ks_88 ydX9_choose ⟨by decide, by decide⟩ rfl (Nat.le_of_ble_eq_true rfl) ⟨rfl, rfl⟩ ⟨by decide, by decide⟩ rfl dX9_report_53 ?_
    refine z_istore (pc := 56) (lv2 := [(0, .ref l0), (1, .int l1), (2, .int l2), (3, .int x7), (4, .int (((3 : Int32) * l1) + l2)), (5, .int r53.1)]) G dX9_report_56 (by decide) rfl rfl ?_
    refine z_iload (pc := 58) G 5 dX9_report_58 rfl ?_
    refine z_if_ge (pc := 60) (tgt := 80) G dX9_report_60 (by decide) (fun hc60 => ?_) (fun hc60 => ?_)
    · have hX := z_it hc60 hX
      refine z_aload_n (pc := 80) G 0 dX9_report_80 rfl rfl ?_
      refine z_iload_n (pc := 81) G 1 dX9_report_81 rfl rfl ?_
      refine z_iload_n (pc := 82) G 2 dX9_report_82 rfl rfl ?_
      refine z_iload (pc := 83) G 5 dX9_report_83 rfl ?_
      refine z_aload_n (pc := 85) G 0 dX9_report_85 rfl rfl ?_
      obtain ⟨hi86, hX⟩ := z_gu_s hX
      obtain ⟨r86, hv86, hX⟩ := z_bd hX
      refine z_cVI (pc := 86) (As := []) (c2 := 0) (s2 := 0) G kK9 (lX9_newLeft hO hv86) hi86 kt_1751 kt_11 kt_1748 kt_1750 ks_89 ydX9_newLeft ⟨by decide, by decide⟩ rfl (Nat.le_of_ble_eq_true rfl) ⟨rfl, rfl⟩ ⟨by decide, by decide⟩ rfl dX9_report_86 ?_
      refine z_aload_n (pc := 89) G 0 dX9_report_89 rfl rfl ?_
      obtain ⟨x90, hv90, hX⟩ := z_bd hX
      refine z_getR (pc := 90) G kK9 (k := 41) (by decide) kt_1267 dX9_report_90 hv90 ?_
      refine z_sipush (pc := 93) (v := 517) G dX9_report_93 (by decide) ?_
      obtain ⟨x96, hv96, hX⟩ := z_bd hX
      refine z_iald (pc := 96) G dX9_report_96 hv96 ?_
      refine z_iconst (pc := 97) (v := 1) G dX9_report_97 (by decide) ?_
      refine z_iadd (pc := 98) G dX9_report_98 ?_
      obtain ⟨hi99, hX⟩ := z_gu_s hX
      obtain ⟨h99, hv99, hX⟩ := z_bd hX
      refine z_cVV (pc := 99) (As := [.int l1, .int l2, .int r53.1, .int r86.1, .int (x96 + (1 : Int32))]) (c2 := 0) (s2 := 0) G kK9 (lX9_own1 hO hv99) hi99 kt_1755 kt_11 kt_1752 kt_1754 ks_90 ydX9_own1 ⟨by decide, by decide⟩ rfl (Nat.le_of_ble_eq_true rfl) ⟨rfl, rfl⟩ ⟨by decide, by decide⟩ rfl dX9_report_99 ?_
      refine z_drop (lv2 := [(0, .ref l0), (1, .int l1), (4, .int (((3 : Int32) * l1) + l2)), (5, .int r53.1)]) [0, 1, 4, 5] rfl ?_
      exact wX9_report_B102 hO G hr hnm _ _ _ _ _ hX
    · have hX := z_if hc60 hX
      refine z_aload_n (pc := 63) G 0 dX9_report_63 rfl rfl ?_
      obtain ⟨x64, hv64, hX⟩ := z_bd hX
      refine z_getR (pc := 64) G kK9 (k := 41) (by decide) kt_1267 dX9_report_64 hv64 ?_
      refine z_bipush (pc := 67) (v := 48) G dX9_report_67 (by decide) ?_
      refine z_iload (pc := 69) G 4 dX9_report_69 rfl ?_
      refine z_iadd (pc := 71) G dX9_report_71 ?_
      refine z_aload_n (pc := 72) G 0 dX9_report_72 rfl rfl ?_
      obtain ⟨hi73, hX⟩ := z_gu_s hX
      obtain ⟨r73, hv73, hX⟩ := z_bd hX
      refine z_cVI (pc := 73) (As := []) (c2 := 0) (s2 := 0) G kK9 (lX9_newLeft hO hv73) hi73 kt_1751 kt_11 kt_1748 kt_1750 ks_89 ydX9_newLeft ⟨by decide, by decide⟩ rfl (Nat.le_of_ble_eq_true rfl) ⟨rfl, rfl⟩ ⟨by decide, by decide⟩ rfl dX9_report_73 ?_
      obtain ⟨h76, hv76, hX⟩ := z_bd hX
      refine z_iast (pc := 76) G dX9_report_76 hv76 ?_
      refine z_goto (pc := 77) (tgt := 102) G dX9_report_77 (by decide) ?_
      refine z_drop (lv2 := [(0, .ref l0), (1, .int l1), (4, .int (((3 : Int32) * l1) + l2)), (5, .int r53.1)]) [0, 1, 4, 5] rfl ?_
      exact wX9_report_B102 hO G hr hnm _ _ _ _ _ hX
theorem dX9_holds_0 : decode cX9_holds 0 = .ok (.aload_n 0, 1) := by decide +kernel
theorem dX9_holds_1 : decode cX9_holds 1 = .ok (.getfield 91, 3) := by decide +kernel
theorem dX9_holds_4 : decode cX9_holds 4 = .ok (.bipush 84, 2) := by decide +kernel
theorem dX9_holds_6 : decode cX9_holds 6 = .ok (.bipush 30, 2) := by decide +kernel
theorem dX9_holds_8 : decode cX9_holds 8 = .ok (.iload_n 1, 1) := by decide +kernel
theorem dX9_holds_9 : decode cX9_holds 9 = .ok (.imul, 1) := by decide +kernel
theorem dX9_holds_10 : decode cX9_holds 10 = .ok (.iadd, 1) := by decide +kernel
theorem dX9_holds_11 : decode cX9_holds 11 = .ok (.iload_n 2, 1) := by decide +kernel
theorem dX9_holds_12 : decode cX9_holds 12 = .ok (.iadd, 1) := by decide +kernel
theorem dX9_holds_13 : decode cX9_holds 13 = .ok (.iload_n 3, 1) := by decide +kernel
theorem dX9_holds_14 : decode cX9_holds 14 = .ok (.iastore, 1) := by decide +kernel
theorem dX9_holds_15 : decode cX9_holds 15 = .ok (.aload_n 0, 1) := by decide +kernel
theorem dX9_holds_16 : decode cX9_holds 16 = .ok (.getfield 91, 3) := by decide +kernel
theorem dX9_holds_19 : decode cX9_holds 19 = .ok (.sipush 264, 3) := by decide +kernel
theorem dX9_holds_22 : decode cX9_holds 22 = .ok (.bipush 30, 2) := by decide +kernel
theorem dX9_holds_24 : decode cX9_holds 24 = .ok (.iload_n 1, 1) := by decide +kernel
theorem dX9_holds_25 : decode cX9_holds 25 = .ok (.imul, 1) := by decide +kernel
theorem dX9_holds_26 : decode cX9_holds 26 = .ok (.iadd, 1) := by decide +kernel
theorem dX9_holds_27 : decode cX9_holds 27 = .ok (.iload_n 2, 1) := by decide +kernel
theorem dX9_holds_28 : decode cX9_holds 28 = .ok (.iadd, 1) := by decide +kernel
theorem dX9_holds_29 : decode cX9_holds 29 = .ok (.iload 4, 2) := by decide +kernel
theorem dX9_holds_31 : decode cX9_holds 31 = .ok (.iastore, 1) := by decide +kernel
theorem dX9_holds_32 : decode cX9_holds 32 = .ok (.return_, 1) := by decide +kernel
theorem ydX9_holds : z_yd yX9_holds 4 := ⟨by decide, by decide, by decide +kernel⟩
abbrev rmX9_holds : Room := { frames := 0, cells := 0, slots := 0, locals := 0 }
noncomputable def xX9_holds (l0 : Nat) (l1 : Int32) (l2 : Int32) (l3 : Int32) (l4 : Int32) (h : ZH) : Option ZH := ((z_gR h l0 9 41).bind fun x1 => ((z_uI h x1 (((84 : Int32) + ((30 : Int32) * l1)) + l2) l3).bind fun h14 => ((z_gR h14 l0 9 41).bind fun x16 => ((z_uI h14 x16 (((264 : Int32) + ((30 : Int32) * l1)) + l2) l4).bind fun h31 => some h31))))
set_option maxHeartbeats 4000000 in
set_option maxRecDepth 100000 in
theorem lX9_holds {Γ : ZG} {l : Launch} (hO : z_OK Γ) {l0 : Nat} {l1 : Int32} {l2 : Int32} {l3 : Int32} {l4 : Int32} {h : ZH} {r : ZH} (hX : xX9_holds l0 l1 l2 l3 l4 h = some r) : z_M Γ l yX9_holds (z_ws1 yX9_holds cX9_holds 5 none) rmX9_holds [.ref l0, .int l1, .int l2, .int l3, .int l4] h none r := by
  refine z_start hO (plainFor_of_name (by decide)) (Nat.le_of_ble_eq_true rfl) ?_
  intro p e s m args below meth c G hr hnm
  refine z_lvc (lv2 := [(0, .ref l0), (1, .int l1), (2, .int l2), (3, .int l3), (4, .int l4)]) rfl ?_
  refine z_aload_n (pc := 0) G 0 dX9_holds_0 rfl rfl ?_
  obtain ⟨x1, hv1, hX⟩ := z_bd hX
  refine z_getR (pc := 1) G kK9 (k := 41) (by decide) kt_1267 dX9_holds_1 hv1 ?_
  refine z_bipush (pc := 4) (v := 84) G dX9_holds_4 (by decide) ?_
  refine z_bipush (pc := 6) (v := 30) G dX9_holds_6 (by decide) ?_
  refine z_iload_n (pc := 8) G 1 dX9_holds_8 rfl rfl ?_
  refine z_imul (pc := 9) G dX9_holds_9 ?_
  refine z_iadd (pc := 10) G dX9_holds_10 ?_
  refine z_iload_n (pc := 11) G 2 dX9_holds_11 rfl rfl ?_
  refine z_iadd (pc := 12) G dX9_holds_12 ?_
  refine z_iload_n (pc := 13) G 3 dX9_holds_13 rfl rfl ?_
  obtain ⟨h14, hv14, hX⟩ := z_bd hX
  refine z_iast (pc := 14) G dX9_holds_14 hv14 ?_
  refine z_aload_n (pc := 15) G 0 dX9_holds_15 rfl rfl ?_
  obtain ⟨x16, hv16, hX⟩ := z_bd hX
  refine z_getR (pc := 16) G kK9 (k := 41) (by decide) kt_1267 dX9_holds_16 hv16 ?_
  refine z_sipush (pc := 19) (v := 264) G dX9_holds_19 (by decide) ?_
  refine z_bipush (pc := 22) (v := 30) G dX9_holds_22 (by decide) ?_
  refine z_iload_n (pc := 24) G 1 dX9_holds_24 rfl rfl ?_
  refine z_imul (pc := 25) G dX9_holds_25 ?_
  refine z_iadd (pc := 26) G dX9_holds_26 ?_
  refine z_iload_n (pc := 27) G 2 dX9_holds_27 rfl rfl ?_
  refine z_iadd (pc := 28) G dX9_holds_28 ?_
  refine z_iload (pc := 29) G 4 dX9_holds_29 rfl ?_
  obtain ⟨h31, hv31, hX⟩ := z_bd hX
  refine z_iast (pc := 31) G dX9_holds_31 hv31 ?_
  exact z_vretX (pc := 32) hX G hr dX9_holds_32 (by decide) (by decide)
theorem dX9_hear_0 : decode cX9_hear 0 = .ok (.aload_n 0, 1) := by decide +kernel
theorem dX9_hear_1 : decode cX9_hear 1 = .ok (.getfield 106, 3) := by decide +kernel
theorem dX9_hear_4 : decode cX9_hear 4 = .ok (.iload_n 2, 1) := by decide +kernel
theorem dX9_hear_5 : decode cX9_hear 5 = .ok (.iaload, 1) := by decide +kernel
theorem dX9_hear_6 : decode cX9_hear 6 = .ok (.aload_n 0, 1) := by decide +kernel
theorem dX9_hear_7 : decode cX9_hear 7 = .ok (.getfield 91, 3) := by decide +kernel
theorem dX9_hear_10 : decode cX9_hear 10 = .ok (.sipush 518, 3) := by decide +kernel
theorem dX9_hear_13 : decode cX9_hear 13 = .ok (.iaload, 1) := by decide +kernel
theorem dX9_hear_14 : decode cX9_hear 14 = .ok (.if_icmp .eq 18, 3) := by decide +kernel
theorem dX9_hear_17 : decode cX9_hear 17 = .ok (.aload_n 0, 1) := by decide +kernel
theorem dX9_hear_18 : decode cX9_hear 18 = .ok (.iload_n 1, 1) := by decide +kernel
theorem dX9_hear_19 : decode cX9_hear 19 = .ok (.aload_n 0, 1) := by decide +kernel
theorem dX9_hear_20 : decode cX9_hear 20 = .ok (.getfield 91, 3) := by decide +kernel
theorem dX9_hear_23 : decode cX9_hear 23 = .ok (.sipush 518, 3) := by decide +kernel
theorem dX9_hear_26 : decode cX9_hear 26 = .ok (.iaload, 1) := by decide +kernel
theorem dX9_hear_27 : decode cX9_hear 27 = .ok (.iconst (-1), 1) := by decide +kernel
theorem dX9_hear_28 : decode cX9_hear 28 = .ok (.iconst 0, 1) := by decide +kernel
theorem dX9_hear_29 : decode cX9_hear 29 = .ok (.invokevirtual 427, 3) := by decide +kernel
theorem dX9_hear_32 : decode cX9_hear 32 = .ok (.aload_n 0, 1) := by decide +kernel
theorem dX9_hear_33 : decode cX9_hear 33 = .ok (.iload_n 1, 1) := by decide +kernel
theorem dX9_hear_34 : decode cX9_hear 34 = .ok (.aload_n 0, 1) := by decide +kernel
theorem dX9_hear_35 : decode cX9_hear 35 = .ok (.getfield 106, 3) := by decide +kernel
theorem dX9_hear_38 : decode cX9_hear 38 = .ok (.iload_n 2, 1) := by decide +kernel
theorem dX9_hear_39 : decode cX9_hear 39 = .ok (.iaload, 1) := by decide +kernel
theorem dX9_hear_40 : decode cX9_hear 40 = .ok (.iload_n 2, 1) := by decide +kernel
theorem dX9_hear_41 : decode cX9_hear 41 = .ok (.aload_n 0, 1) := by decide +kernel
theorem dX9_hear_42 : decode cX9_hear 42 = .ok (.getfield 103, 3) := by decide +kernel
theorem dX9_hear_45 : decode cX9_hear 45 = .ok (.iload_n 2, 1) := by decide +kernel
theorem dX9_hear_46 : decode cX9_hear 46 = .ok (.iaload, 1) := by decide +kernel
theorem dX9_hear_47 : decode cX9_hear 47 = .ok (.invokevirtual 427, 3) := by decide +kernel
theorem dX9_hear_50 : decode cX9_hear 50 = .ok (.aload_n 0, 1) := by decide +kernel
theorem dX9_hear_51 : decode cX9_hear 51 = .ok (.getfield 91, 3) := by decide +kernel
theorem dX9_hear_54 : decode cX9_hear 54 = .ok (.sipush 444, 3) := by decide +kernel
theorem dX9_hear_57 : decode cX9_hear 57 = .ok (.bipush 6, 2) := by decide +kernel
theorem dX9_hear_59 : decode cX9_hear 59 = .ok (.iload_n 1, 1) := by decide +kernel
theorem dX9_hear_60 : decode cX9_hear 60 = .ok (.imul, 1) := by decide +kernel
theorem dX9_hear_61 : decode cX9_hear 61 = .ok (.iadd, 1) := by decide +kernel
theorem dX9_hear_62 : decode cX9_hear 62 = .ok (.iload_n 2, 1) := by decide +kernel
theorem dX9_hear_63 : decode cX9_hear 63 = .ok (.iadd, 1) := by decide +kernel
theorem dX9_hear_64 : decode cX9_hear 64 = .ok (.aload_n 0, 1) := by decide +kernel
theorem dX9_hear_65 : decode cX9_hear 65 = .ok (.getfield 91, 3) := by decide +kernel
theorem dX9_hear_68 : decode cX9_hear 68 = .ok (.iconst 0, 1) := by decide +kernel
theorem dX9_hear_69 : decode cX9_hear 69 = .ok (.iload_n 2, 1) := by decide +kernel
theorem dX9_hear_70 : decode cX9_hear 70 = .ok (.iadd, 1) := by decide +kernel
theorem dX9_hear_71 : decode cX9_hear 71 = .ok (.iaload, 1) := by decide +kernel
theorem dX9_hear_72 : decode cX9_hear 72 = .ok (.iastore, 1) := by decide +kernel
theorem dX9_hear_73 : decode cX9_hear 73 = .ok (.aload_n 0, 1) := by decide +kernel
theorem dX9_hear_74 : decode cX9_hear 74 = .ok (.getfield 91, 3) := by decide +kernel
theorem dX9_hear_77 : decode cX9_hear 77 = .ok (.sipush 480, 3) := by decide +kernel
theorem dX9_hear_80 : decode cX9_hear 80 = .ok (.bipush 6, 2) := by decide +kernel
theorem dX9_hear_82 : decode cX9_hear 82 = .ok (.iload_n 1, 1) := by decide +kernel
theorem dX9_hear_83 : decode cX9_hear 83 = .ok (.imul, 1) := by decide +kernel
theorem dX9_hear_84 : decode cX9_hear 84 = .ok (.iadd, 1) := by decide +kernel
theorem dX9_hear_85 : decode cX9_hear 85 = .ok (.iload_n 2, 1) := by decide +kernel
theorem dX9_hear_86 : decode cX9_hear 86 = .ok (.iadd, 1) := by decide +kernel
theorem dX9_hear_87 : decode cX9_hear 87 = .ok (.aload_n 0, 1) := by decide +kernel
theorem dX9_hear_88 : decode cX9_hear 88 = .ok (.getfield 91, 3) := by decide +kernel
theorem dX9_hear_91 : decode cX9_hear 91 = .ok (.bipush 6, 2) := by decide +kernel
theorem dX9_hear_93 : decode cX9_hear 93 = .ok (.iload_n 2, 1) := by decide +kernel
theorem dX9_hear_94 : decode cX9_hear 94 = .ok (.iadd, 1) := by decide +kernel
theorem dX9_hear_95 : decode cX9_hear 95 = .ok (.iaload, 1) := by decide +kernel
theorem dX9_hear_96 : decode cX9_hear 96 = .ok (.iastore, 1) := by decide +kernel
theorem dX9_hear_97 : decode cX9_hear 97 = .ok (.return_, 1) := by decide +kernel
theorem ydX9_hear : z_yd yX9_hear 2 := ⟨by decide, by decide, by decide +kernel⟩
abbrev rmX9_hear : Room := { frames := 1, cells := 0, slots := 0, locals := 24 }
noncomputable def xX9_hear_B32 (l0 : Nat) (l1 : Int32) (l2 : Int32) (h : ZH) : Option ZH := ((z_gR h l0 9 46).bind fun x35 => ((z_aI h x35 l2).bind fun x39 => ((z_gR h l0 9 45).bind fun x42 => ((z_aI h x42 l2).bind fun x46 => (z_gu (z_is h l0 9) ((xX9_holds l0 l1 x39 l2 x46 h).bind fun h47 => ((z_gR h47 l0 9 41).bind fun x51 => ((z_gR h47 l0 9 41).bind fun x65 => ((z_aI h47 x65 ((0 : Int32) + l2)).bind fun x71 => ((z_uI h47 x51 (((444 : Int32) + ((6 : Int32) * l1)) + l2) x71).bind fun h72 => ((z_gR h72 l0 9 41).bind fun x74 => ((z_gR h72 l0 9 41).bind fun x88 => ((z_aI h72 x88 ((6 : Int32) + l2)).bind fun x95 => ((z_uI h72 x74 (((480 : Int32) + ((6 : Int32) * l1)) + l2) x95).bind fun h96 => some h96))))))))))))))
set_option maxHeartbeats 4000000 in
set_option maxRecDepth 100000 in
theorem wX9_hear_B32 {Γ : ZG} {p : Program} {l : Launch} {e : Env} {s : State} {m : MethodId} {args : Array Value} {below : List Frame} {meth : Method} {c : Code} (hO : z_OK Γ) (G : z_GG Γ p s m args meth c cX9_hear 3 RX9) (hr : meth.sig.returnType = none) (hnm : meth.name = "hear") {r : ZH} : ∀ (l0 : Nat) (l1 : Int32) (l2 : Int32) (h : ZH), xX9_hear_B32  l0 l1 l2 h = some r → z_W Γ p l e rmX9_hear s m args below meth c 3 0 0 (MQ below (z_Qc Γ none r) args s rmX9_hear.cells rmX9_hear.slots (z_A Γ)) 32 [(0, .ref l0), (1, .int l1), (2, .int l2)] [] h := by
  intro l0 l1 l2 h hX
  refine z_aload_n (pc := 32) G 0 dX9_hear_32 rfl rfl ?_
  refine z_iload_n (pc := 33) G 1 dX9_hear_33 rfl rfl ?_
  refine z_aload_n (pc := 34) G 0 dX9_hear_34 rfl rfl ?_
  obtain ⟨x35, hv35, hX⟩ := z_bd hX
  refine z_getR (pc := 35) G kK9 (k := 46) (by decide) kt_1272 dX9_hear_35 hv35 ?_
  refine z_iload_n (pc := 38) G 2 dX9_hear_38 rfl rfl ?_
  obtain ⟨x39, hv39, hX⟩ := z_bd hX
  refine z_iald (pc := 39) G dX9_hear_39 hv39 ?_
  refine z_iload_n (pc := 40) G 2 dX9_hear_40 rfl rfl ?_
  refine z_aload_n (pc := 41) G 0 dX9_hear_41 rfl rfl ?_
  obtain ⟨x42, hv42, hX⟩ := z_bd hX
  refine z_getR (pc := 42) G kK9 (k := 45) (by decide) kt_1271 dX9_hear_42 hv42 ?_
  refine z_iload_n (pc := 45) G 2 dX9_hear_45 rfl rfl ?_
  obtain ⟨x46, hv46, hX⟩ := z_bd hX
  refine z_iald (pc := 46) G dX9_hear_46 hv46 ?_
  obtain ⟨hi47, hX⟩ := z_gu_s hX
  obtain ⟨h47, hv47, hX⟩ := z_bd hX
  refine z_cVV (pc := 47) (As := [.int l1, .int x39, .int l2, .int x46]) (c2 := 0) (s2 := 0) G kK9 (lX9_holds hO hv47) hi47 kt_1775 kt_11 kt_1772 kt_1774 ks_95 ydX9_holds ⟨by decide, by decide⟩ rfl (Nat.le_of_ble_eq_true rfl) ⟨rfl, rfl⟩ ⟨by decide, by decide⟩ rfl dX9_hear_47 ?_
  refine z_aload_n (pc := 50) G 0 dX9_hear_50 rfl rfl ?_
  obtain ⟨x51, hv51, hX⟩ := z_bd hX
  refine z_getR (pc := 51) G kK9 (k := 41) (by decide) kt_1267 dX9_hear_51 hv51 ?_
  refine z_sipush (pc := 54) (v := 444) G dX9_hear_54 (by decide) ?_
  refine z_bipush (pc := 57) (v := 6) G dX9_hear_57 (by decide) ?_
  refine z_iload_n (pc := 59) G 1 dX9_hear_59 rfl rfl ?_
  refine z_imul (pc := 60) G dX9_hear_60 ?_
  refine z_iadd (pc := 61) G dX9_hear_61 ?_
  refine z_iload_n (pc := 62) G 2 dX9_hear_62 rfl rfl ?_
  refine z_iadd (pc := 63) G dX9_hear_63 ?_
  refine z_aload_n (pc := 64) G 0 dX9_hear_64 rfl rfl ?_
  obtain ⟨x65, hv65, hX⟩ := z_bd hX
  refine z_getR (pc := 65) G kK9 (k := 41) (by decide) kt_1267 dX9_hear_65 hv65 ?_
  refine z_iconst (pc := 68) (v := 0) G dX9_hear_68 (by decide) ?_
  refine z_iload_n (pc := 69) G 2 dX9_hear_69 rfl rfl ?_
  refine z_iadd (pc := 70) G dX9_hear_70 ?_
  obtain ⟨x71, hv71, hX⟩ := z_bd hX
  refine z_iald (pc := 71) G dX9_hear_71 hv71 ?_
  obtain ⟨h72, hv72, hX⟩ := z_bd hX
  refine z_iast (pc := 72) G dX9_hear_72 hv72 ?_
  refine z_aload_n (pc := 73) G 0 dX9_hear_73 rfl rfl ?_
  obtain ⟨x74, hv74, hX⟩ := z_bd hX
  refine z_getR (pc := 74) G kK9 (k := 41) (by decide) kt_1267 dX9_hear_74 hv74 ?_
  refine z_sipush (pc := 77) (v := 480) G dX9_hear_77 (by decide) ?_
  refine z_bipush (pc := 80) (v := 6) G dX9_hear_80 (by decide) ?_
  refine z_iload_n (pc := 82) G 1 dX9_hear_82 rfl rfl ?_
  refine z_imul (pc := 83) G dX9_hear_83 ?_
  refine z_iadd (pc := 84) G dX9_hear_84 ?_
  refine z_iload_n (pc := 85) G 2 dX9_hear_85 rfl rfl ?_
  refine z_iadd (pc := 86) G dX9_hear_86 ?_
  refine z_aload_n (pc := 87) G 0 dX9_hear_87 rfl rfl ?_
  obtain ⟨x88, hv88, hX⟩ := z_bd hX
  refine z_getR (pc := 88) G kK9 (k := 41) (by decide) kt_1267 dX9_hear_88 hv88 ?_
  refine z_bipush (pc := 91) (v := 6) G dX9_hear_91 (by decide) ?_
  refine z_iload_n (pc := 93) G 2 dX9_hear_93 rfl rfl ?_
  refine z_iadd (pc := 94) G dX9_hear_94 ?_
  obtain ⟨x95, hv95, hX⟩ := z_bd hX
  refine z_iald (pc := 95) G dX9_hear_95 hv95 ?_
  obtain ⟨h96, hv96, hX⟩ := z_bd hX
  refine z_iast (pc := 96) G dX9_hear_96 hv96 ?_
  exact z_vretX (pc := 97) hX G hr dX9_hear_97 (by decide) (by decide)
noncomputable def xX9_hear (l0 : Nat) (l1 : Int32) (l2 : Int32) (h : ZH) : Option ZH := ((z_gR h l0 9 46).bind fun x1 => ((z_aI h x1 l2).bind fun x5 => ((z_gR h l0 9 41).bind fun x7 => ((z_aI h x7 (518 : Int32)).bind fun x13 => (if x5 = x13 then xX9_hear_B32 l0 l1 l2 h else ((z_gR h l0 9 41).bind fun x20 => ((z_aI h x20 (518 : Int32)).bind fun x26 => (z_gu (z_is h l0 9) ((xX9_holds l0 l1 x26 (-1 : Int32) (0 : Int32) h).bind fun h29 => xX9_hear_B32 l0 l1 l2 h29)))))))))
set_option maxHeartbeats 4000000 in
set_option maxRecDepth 100000 in
theorem lX9_hear {Γ : ZG} {l : Launch} (hO : z_OK Γ) {l0 : Nat} {l1 : Int32} {l2 : Int32} {h : ZH} {r : ZH} (hX : xX9_hear l0 l1 l2 h = some r) : z_M Γ l yX9_hear (z_ws1 yX9_hear cX9_hear 3 none) rmX9_hear [.ref l0, .int l1, .int l2] h none r := by
  refine z_start hO (plainFor_of_name (by decide)) (Nat.le_of_ble_eq_true rfl) ?_
  intro p e s m args below meth c G hr hnm
  refine z_lvc (lv2 := [(0, .ref l0), (1, .int l1), (2, .int l2)]) rfl ?_
  refine z_aload_n (pc := 0) G 0 dX9_hear_0 rfl rfl ?_
  obtain ⟨x1, hv1, hX⟩ := z_bd hX
  refine z_getR (pc := 1) G kK9 (k := 46) (by decide) kt_1272 dX9_hear_1 hv1 ?_
  refine z_iload_n (pc := 4) G 2 dX9_hear_4 rfl rfl ?_
  obtain ⟨x5, hv5, hX⟩ := z_bd hX
  refine z_iald (pc := 5) G dX9_hear_5 hv5 ?_
  refine z_aload_n (pc := 6) G 0 dX9_hear_6 rfl rfl ?_
  obtain ⟨x7, hv7, hX⟩ := z_bd hX
  refine z_getR (pc := 7) G kK9 (k := 41) (by decide) kt_1267 dX9_hear_7 hv7 ?_
  refine z_sipush (pc := 10) (v := 518) G dX9_hear_10 (by decide) ?_
  obtain ⟨x13, hv13, hX⟩ := z_bd hX
  refine z_iald (pc := 13) G dX9_hear_13 hv13 ?_
  refine z_icmp_eq (pc := 14) (tgt := 32) G dX9_hear_14 (by decide) (fun hc14 => ?_) (fun hc14 => ?_)
  · have hX := z_it hc14 hX
    exact wX9_hear_B32 hO G hr hnm _ _ _ _ hX
  · have hX := z_if hc14 hX
    refine z_aload_n (pc := 17) G 0 dX9_hear_17 rfl rfl ?_
    refine z_iload_n (pc := 18) G 1 dX9_hear_18 rfl rfl ?_
    refine z_aload_n (pc := 19) G 0 dX9_hear_19 rfl rfl ?_
    obtain ⟨x20, hv20, hX⟩ := z_bd hX
    refine z_getR (pc := 20) G kK9 (k := 41) (by decide) kt_1267 dX9_hear_20 hv20 ?_
    refine z_sipush (pc := 23) (v := 518) G dX9_hear_23 (by decide) ?_
    obtain ⟨x26, hv26, hX⟩ := z_bd hX
    refine z_iald (pc := 26) G dX9_hear_26 hv26 ?_
    refine z_iconst (pc := 27) (v := (-1)) G dX9_hear_27 (by decide) ?_
    refine z_iconst (pc := 28) (v := 0) G dX9_hear_28 (by decide) ?_
    obtain ⟨hi29, hX⟩ := z_gu_s hX
    obtain ⟨h29, hv29, hX⟩ := z_bd hX
    refine z_cVV (pc := 29) (As := [.int l1, .int x26, .int (-1 : Int32), .int (0 : Int32)]) (c2 := 0) (s2 := 0) G kK9 (lX9_holds hO hv29) hi29 kt_1775 kt_11 kt_1772 kt_1774 ks_95 ydX9_holds ⟨by decide, by decide⟩ rfl (Nat.le_of_ble_eq_true rfl) ⟨rfl, rfl⟩ ⟨by decide, by decide⟩ rfl dX9_hear_29 ?_
    exact wX9_hear_B32 hO G hr hnm _ _ _ _ hX
theorem dX9_listen_0 : decode cX9_listen 0 = .ok (.iconst 0, 1) := by decide +kernel
theorem dX9_listen_1 : decode cX9_listen 1 = .ok (.istore 4, 2) := by decide +kernel
theorem dX9_listen_3 : decode cX9_listen 3 = .ok (.iconst 0, 1) := by decide +kernel
theorem dX9_listen_4 : decode cX9_listen 4 = .ok (.istore 5, 2) := by decide +kernel
theorem dX9_listen_6 : decode cX9_listen 6 = .ok (.iload 5, 2) := by decide +kernel
theorem dX9_listen_8 : decode cX9_listen 8 = .ok (.aload_n 0, 1) := by decide +kernel
theorem dX9_listen_9 : decode cX9_listen 9 = .ok (.invokevirtual 337, 3) := by decide +kernel
theorem dX9_listen_12 : decode cX9_listen 12 = .ok (.if_icmp .ge 37, 3) := by decide +kernel
theorem dX9_listen_15 : decode cX9_listen 15 = .ok (.iload_n 2, 1) := by decide +kernel
theorem dX9_listen_16 : decode cX9_listen 16 = .ok (.iload 5, 2) := by decide +kernel
theorem dX9_listen_18 : decode cX9_listen 18 = .ok (.invokestatic 265, 3) := by decide +kernel
theorem dX9_listen_21 : decode cX9_listen 21 = .ok (.ifCond .eq 22, 3) := by decide +kernel
theorem dX9_listen_24 : decode cX9_listen 24 = .ok (.aload_n 0, 1) := by decide +kernel
theorem dX9_listen_25 : decode cX9_listen 25 = .ok (.iload_n 1, 1) := by decide +kernel
theorem dX9_listen_26 : decode cX9_listen 26 = .ok (.iload 5, 2) := by decide +kernel
theorem dX9_listen_28 : decode cX9_listen 28 = .ok (.invokevirtual 431, 3) := by decide +kernel
theorem dX9_listen_31 : decode cX9_listen 31 = .ok (.ifCond .eq 12, 3) := by decide +kernel
theorem dX9_listen_34 : decode cX9_listen 34 = .ok (.iload 4, 2) := by decide +kernel
theorem dX9_listen_36 : decode cX9_listen 36 = .ok (.iconst 1, 1) := by decide +kernel
theorem dX9_listen_37 : decode cX9_listen 37 = .ok (.iload 5, 2) := by decide +kernel
theorem dX9_listen_39 : decode cX9_listen 39 = .ok (.ishl, 1) := by decide +kernel
theorem dX9_listen_40 : decode cX9_listen 40 = .ok (.ior, 1) := by decide +kernel
theorem dX9_listen_41 : decode cX9_listen 41 = .ok (.istore 4, 2) := by decide +kernel
theorem dX9_listen_43 : decode cX9_listen 43 = .ok (.iinc 5 1, 3) := by decide +kernel
theorem dX9_listen_46 : decode cX9_listen 46 = .ok (.goto (-40), 3) := by decide +kernel
theorem dX9_listen_49 : decode cX9_listen 49 = .ok (.iload 4, 2) := by decide +kernel
theorem dX9_listen_51 : decode cX9_listen 51 = .ok (.invokestatic 359, 3) := by decide +kernel
theorem dX9_listen_54 : decode cX9_listen 54 = .ok (.iconst 1, 1) := by decide +kernel
theorem dX9_listen_55 : decode cX9_listen 55 = .ok (.if_icmp .le 15, 3) := by decide +kernel
theorem dX9_listen_58 : decode cX9_listen 58 = .ok (.aload_n 0, 1) := by decide +kernel
theorem dX9_listen_59 : decode cX9_listen 59 = .ok (.getfield 91, 3) := by decide +kernel
theorem dX9_listen_62 : decode cX9_listen 62 = .ok (.sipush 520, 3) := by decide +kernel
theorem dX9_listen_65 : decode cX9_listen 65 = .ok (.dup2, 1) := by decide +kernel
theorem dX9_listen_66 : decode cX9_listen 66 = .ok (.iaload, 1) := by decide +kernel
theorem dX9_listen_67 : decode cX9_listen 67 = .ok (.iconst 1, 1) := by decide +kernel
theorem dX9_listen_68 : decode cX9_listen 68 = .ok (.iadd, 1) := by decide +kernel
theorem dX9_listen_69 : decode cX9_listen 69 = .ok (.iastore, 1) := by decide +kernel
theorem dX9_listen_70 : decode cX9_listen 70 = .ok (.iload 4, 2) := by decide +kernel
theorem dX9_listen_72 : decode cX9_listen 72 = .ok (.invokestatic 359, 3) := by decide +kernel
theorem dX9_listen_75 : decode cX9_listen 75 = .ok (.iconst 1, 1) := by decide +kernel
theorem dX9_listen_76 : decode cX9_listen 76 = .ok (.if_icmp .ne 10, 3) := by decide +kernel
theorem dX9_listen_79 : decode cX9_listen 79 = .ok (.iload 4, 2) := by decide +kernel
theorem dX9_listen_81 : decode cX9_listen 81 = .ok (.iload_n 3, 1) := by decide +kernel
theorem dX9_listen_82 : decode cX9_listen 82 = .ok (.iand, 1) := by decide +kernel
theorem dX9_listen_83 : decode cX9_listen 83 = .ok (.ifCond .eq 4, 3) := by decide +kernel
theorem dX9_listen_86 : decode cX9_listen 86 = .ok (.return_, 1) := by decide +kernel
theorem dX9_listen_87 : decode cX9_listen 87 = .ok (.iconst 0, 1) := by decide +kernel
theorem dX9_listen_88 : decode cX9_listen 88 = .ok (.istore 5, 2) := by decide +kernel
theorem dX9_listen_90 : decode cX9_listen 90 = .ok (.iload 5, 2) := by decide +kernel
theorem dX9_listen_92 : decode cX9_listen 92 = .ok (.aload_n 0, 1) := by decide +kernel
theorem dX9_listen_93 : decode cX9_listen 93 = .ok (.invokevirtual 337, 3) := by decide +kernel
theorem dX9_listen_96 : decode cX9_listen 96 = .ok (.if_icmp .ge 26, 3) := by decide +kernel
theorem dX9_listen_99 : decode cX9_listen 99 = .ok (.iload 4, 2) := by decide +kernel
theorem dX9_listen_101 : decode cX9_listen 101 = .ok (.iload 5, 2) := by decide +kernel
theorem dX9_listen_103 : decode cX9_listen 103 = .ok (.invokestatic 265, 3) := by decide +kernel
theorem dX9_listen_106 : decode cX9_listen 106 = .ok (.ifCond .eq 10, 3) := by decide +kernel
theorem dX9_listen_109 : decode cX9_listen 109 = .ok (.aload_n 0, 1) := by decide +kernel
theorem dX9_listen_110 : decode cX9_listen 110 = .ok (.iload_n 1, 1) := by decide +kernel
theorem dX9_listen_111 : decode cX9_listen 111 = .ok (.iload 5, 2) := by decide +kernel
theorem dX9_listen_113 : decode cX9_listen 113 = .ok (.invokevirtual 434, 3) := by decide +kernel
theorem dX9_listen_116 : decode cX9_listen 116 = .ok (.iinc 5 1, 3) := by decide +kernel
theorem dX9_listen_119 : decode cX9_listen 119 = .ok (.goto (-29), 3) := by decide +kernel
theorem dX9_listen_122 : decode cX9_listen 122 = .ok (.return_, 1) := by decide +kernel
theorem ydX9_listen : z_yd yX9_listen 3 := ⟨by decide, by decide, by decide +kernel⟩
abbrev rmX9_listen : Room := { frames := 3, cells := 0, slots := 0, locals := 64 }
noncomputable def xX9_listen_B90 (r90 : Nat → Int32 → Int32 → Int32 → ZH → Option ZH) (l0 : Nat) (l1 : Int32) (l4 : Int32) (l5 : Int32) (h : ZH) : Option ZH := (z_gu (z_is h l0 9) ((xX9_lots l0 h).bind fun r93 => (if r93.1 ≤ l5 then some r93.2 else ((xX9_bit l4 l5 r93.2).bind fun r103 => (if r103.1 = 0 then r90 l0 l1 l4 (l5 + 1) r103.2 else (z_gu (z_is r103.2 l0 9) ((xX9_hear l0 l1 l5 r103.2).bind fun h113 => r90 l0 l1 l4 (l5 + 1) h113)))))))
noncomputable def xX9_listen_L90 (n : Nat) : Nat → Int32 → Int32 → Int32 → ZH → Option ZH := Nat.rec (motive := fun _ => Nat → Int32 → Int32 → Int32 → ZH → Option ZH) (fun _ _ _ _ _ => none) (fun _ rec => xX9_listen_B90  rec) n
set_option maxHeartbeats 4000000 in
set_option maxRecDepth 100000 in
theorem wX9_listen_B90 {Γ : ZG} {p : Program} {l : Launch} {e : Env} {s : State} {m : MethodId} {args : Array Value} {below : List Frame} {meth : Method} {c : Code} (hO : z_OK Γ) (G : z_GG Γ p s m args meth c cX9_listen 6 RX9) (hr : meth.sig.returnType = none) (hnm : meth.name = "listen") {r : ZH} {r90 : Nat → Int32 → Int32 → Int32 → ZH → Option ZH} (H90 : ∀ (l0 : Nat) (l1 : Int32) (l4 : Int32) (l5 : Int32) (h : ZH), r90 l0 l1 l4 l5 h = some r → z_W Γ p l e rmX9_listen s m args below meth c 6 0 0 (MQ below (z_Qc Γ none r) args s rmX9_listen.cells rmX9_listen.slots (z_A Γ)) 90 [(0, .ref l0), (1, .int l1), (4, .int l4), (5, .int l5)] [] h) : ∀ (l0 : Nat) (l1 : Int32) (l4 : Int32) (l5 : Int32) (h : ZH), xX9_listen_B90  r90 l0 l1 l4 l5 h = some r → z_W Γ p l e rmX9_listen s m args below meth c 6 0 0 (MQ below (z_Qc Γ none r) args s rmX9_listen.cells rmX9_listen.slots (z_A Γ)) 90 [(0, .ref l0), (1, .int l1), (4, .int l4), (5, .int l5)] [] h := by
  intro l0 l1 l4 l5 h hX
  refine z_iload (pc := 90) G 3 dX9_listen_90 rfl ?_
  refine z_aload_n (pc := 92) G 0 dX9_listen_92 rfl rfl ?_
  obtain ⟨hi93, hX⟩ := z_gu_s hX
  obtain ⟨r93, hv93, hX⟩ := z_bd hX
  refine z_cVI (pc := 93) (As := []) (c2 := 0) (s2 := 0) G kK9 (lX9_lots hO hv93) hi93 kt_1221 kt_11 kt_1218 kt_1220 ks_36 ydX9_lots ⟨by decide, by decide⟩ rfl (Nat.le_of_ble_eq_true rfl) ⟨rfl, rfl⟩ ⟨by decide, by decide⟩ rfl dX9_listen_93 ?_
  refine z_icmp_ge (pc := 96) (tgt := 122) G dX9_listen_96 (by decide) (fun hc96 => ?_) (fun hc96 => ?_)
  · have hX := z_it hc96 hX
    exact z_vretX (pc := 122) hX G hr dX9_listen_122 (by decide) (by decide)
  · have hX := z_if hc96 hX
    refine z_iload (pc := 99) G 2 dX9_listen_99 rfl ?_
    refine z_iload (pc := 101) G 3 dX9_listen_101 rfl ?_
    obtain ⟨r103, hv103, hX⟩ := z_bd hX
    refine z_cSI (pc := 103) (As := [.int l4, .int l5]) (c2 := 0) (s2 := 0) G (lX9_bit hO hv103) kt_1476 kt_11 kt_1474 kt_1475 ydX9_bit ⟨by decide, by decide⟩ rfl (Nat.le_of_ble_eq_true rfl) ⟨rfl, rfl⟩ ⟨by decide, by decide⟩ rfl dX9_listen_103 ?_
    refine z_if_eq (pc := 106) (tgt := 116) G dX9_listen_106 (by decide) (fun hc106 => ?_) (fun hc106 => ?_)
    · have hX := z_it hc106 hX
      refine z_iincw (pc := 116) (w := 1) (lv2 := [(0, .ref l0), (1, .int l1), (4, .int l4), (5, .int (l5 + 1))]) G 3 dX9_listen_116 rfl (by decide) (by decide) rfl rfl ?_
      refine z_goto (pc := 119) (tgt := 90) G dX9_listen_119 (by decide) ?_
      exact H90 _ _ _ _ _ hX
    · have hX := z_if hc106 hX
      refine z_aload_n (pc := 109) G 0 dX9_listen_109 rfl rfl ?_
      refine z_iload_n (pc := 110) G 1 dX9_listen_110 rfl rfl ?_
      refine z_iload (pc := 111) G 3 dX9_listen_111 rfl ?_
      obtain ⟨hi113, hX⟩ := z_gu_s hX
      obtain ⟨h113, hv113, hX⟩ := z_bd hX
      refine z_cVV (pc := 113) (As := [.int l1, .int l5]) (c2 := 0) (s2 := 0) G kK9 (lX9_hear hO hv113) hi113 kt_1771 kt_11 kt_1768 kt_1770 ks_94 ydX9_hear ⟨by decide, by decide⟩ rfl (Nat.le_of_ble_eq_true rfl) ⟨rfl, rfl⟩ ⟨by decide, by decide⟩ rfl dX9_listen_113 ?_
      refine z_iincw (pc := 116) (w := 1) (lv2 := [(0, .ref l0), (1, .int l1), (4, .int l4), (5, .int (l5 + 1))]) G 3 dX9_listen_116 rfl (by decide) (by decide) rfl rfl ?_
      refine z_goto (pc := 119) (tgt := 90) G dX9_listen_119 (by decide) ?_
      exact H90 _ _ _ _ _ hX
set_option maxHeartbeats 4000000 in
set_option maxRecDepth 100000 in
theorem wX9_listen_L90 {Γ : ZG} {p : Program} {l : Launch} {e : Env} {s : State} {m : MethodId} {args : Array Value} {below : List Frame} {meth : Method} {c : Code} (hO : z_OK Γ) (G : z_GG Γ p s m args meth c cX9_listen 6 RX9) (hr : meth.sig.returnType = none) (hnm : meth.name = "listen") {r : ZH} : ∀ (nn : Nat) (l0 : Nat) (l1 : Int32) (l4 : Int32) (l5 : Int32) (h : ZH), xX9_listen_L90  nn l0 l1 l4 l5 h = some r → z_W Γ p l e rmX9_listen s m args below meth c 6 0 0 (MQ below (z_Qc Γ none r) args s rmX9_listen.cells rmX9_listen.slots (z_A Γ)) 90 [(0, .ref l0), (1, .int l1), (4, .int l4), (5, .int l5)] [] h := by
  intro nn
  induction nn with
  | zero => intro l0 l1 l4 l5 h hX; cases hX
  | succ nn ih => intro l0 l1 l4 l5 h hX; exact wX9_listen_B90 hO G hr hnm  ih l0 l1 l4 l5 h hX
noncomputable def xX9_listen_B70 (l0 : Nat) (l1 : Int32) (l3 : Int32) (l4 : Int32) (h : ZH) : Option ZH := ((xX9_bitsOf l4 h).bind fun r72 => (if r72.1 = (1 : Int32) then (if (l4 &&& l3) = 0 then xX9_listen_L90 zFU l0 l1 l4 (0 : Int32) r72.2 else some r72.2) else some r72.2))
set_option maxHeartbeats 4000000 in
set_option maxRecDepth 100000 in
theorem wX9_listen_B70 {Γ : ZG} {p : Program} {l : Launch} {e : Env} {s : State} {m : MethodId} {args : Array Value} {below : List Frame} {meth : Method} {c : Code} (hO : z_OK Γ) (G : z_GG Γ p s m args meth c cX9_listen 6 RX9) (hr : meth.sig.returnType = none) (hnm : meth.name = "listen") {r : ZH} : ∀ (l0 : Nat) (l1 : Int32) (l3 : Int32) (l4 : Int32) (h : ZH), xX9_listen_B70  l0 l1 l3 l4 h = some r → z_W Γ p l e rmX9_listen s m args below meth c 6 0 0 (MQ below (z_Qc Γ none r) args s rmX9_listen.cells rmX9_listen.slots (z_A Γ)) 70 [(0, .ref l0), (1, .int l1), (3, .int l3), (4, .int l4)] [] h := by
  intro l0 l1 l3 l4 h hX
  refine z_iload (pc := 70) G 3 dX9_listen_70 rfl ?_
  obtain ⟨r72, hv72, hX⟩ := z_bd hX
  refine z_cSI (pc := 72) (As := [.int l4]) (c2 := 0) (s2 := 0) G (lX9_bitsOf hO hv72) kt_1582 kt_11 kt_1580 kt_1581 ydX9_bitsOf ⟨by decide, by decide⟩ rfl (Nat.le_of_ble_eq_true rfl) ⟨rfl, rfl⟩ ⟨by decide, by decide⟩ rfl dX9_listen_72 ?_
  refine z_iconst (pc := 75) (v := 1) G dX9_listen_75 (by decide) ?_
  refine z_icmp_ne (pc := 76) (tgt := 86) G dX9_listen_76 (by decide) (fun hc76 => ?_) (fun hc76 => ?_)
  · have hX := z_if hc76 hX
    exact z_vretX (pc := 86) hX G hr dX9_listen_86 (by decide) (by decide)
  · have hX := z_it hc76 hX
    refine z_iload (pc := 79) G 3 dX9_listen_79 rfl ?_
    refine z_iload_n (pc := 81) G 2 dX9_listen_81 rfl rfl ?_
    refine z_iand (pc := 82) G dX9_listen_82 ?_
    refine z_if_eq (pc := 83) (tgt := 87) G dX9_listen_83 (by decide) (fun hc83 => ?_) (fun hc83 => ?_)
    · have hX := z_it hc83 hX
      refine z_iconst (pc := 87) (v := 0) G dX9_listen_87 (by decide) ?_
      refine z_istore (pc := 88) (lv2 := [(0, .ref l0), (1, .int l1), (3, .int l3), (4, .int l4), (5, .int (0 : Int32))]) G dX9_listen_88 (by decide) rfl rfl ?_
      refine z_drop (lv2 := [(0, .ref l0), (1, .int l1), (4, .int l4), (5, .int (0 : Int32))]) [0, 1, 3, 4] rfl ?_
      exact wX9_listen_L90 hO G hr hnm zFU _ _ _ _ _ hX
    · have hX := z_if hc83 hX
      exact z_vretX (pc := 86) hX G hr dX9_listen_86 (by decide) (by decide)
noncomputable def xX9_listen_B49 (l0 : Nat) (l1 : Int32) (l3 : Int32) (l4 : Int32) (h : ZH) : Option ZH := ((xX9_bitsOf l4 h).bind fun r51 => (if r51.1 ≤ (1 : Int32) then xX9_listen_B70 l0 l1 l3 l4 r51.2 else ((z_gR r51.2 l0 9 41).bind fun x59 => ((z_aI r51.2 x59 (520 : Int32)).bind fun x66 => ((z_uI r51.2 x59 (520 : Int32) (x66 + (1 : Int32))).bind fun h69 => xX9_listen_B70 l0 l1 l3 l4 h69)))))
set_option maxHeartbeats 4000000 in
set_option maxRecDepth 100000 in
theorem wX9_listen_B49 {Γ : ZG} {p : Program} {l : Launch} {e : Env} {s : State} {m : MethodId} {args : Array Value} {below : List Frame} {meth : Method} {c : Code} (hO : z_OK Γ) (G : z_GG Γ p s m args meth c cX9_listen 6 RX9) (hr : meth.sig.returnType = none) (hnm : meth.name = "listen") {r : ZH} : ∀ (l0 : Nat) (l1 : Int32) (l3 : Int32) (l4 : Int32) (h : ZH), xX9_listen_B49  l0 l1 l3 l4 h = some r → z_W Γ p l e rmX9_listen s m args below meth c 6 0 0 (MQ below (z_Qc Γ none r) args s rmX9_listen.cells rmX9_listen.slots (z_A Γ)) 49 [(0, .ref l0), (1, .int l1), (3, .int l3), (4, .int l4)] [] h := by
  intro l0 l1 l3 l4 h hX
  refine z_iload (pc := 49) G 3 dX9_listen_49 rfl ?_
  obtain ⟨r51, hv51, hX⟩ := z_bd hX
  refine z_cSI (pc := 51) (As := [.int l4]) (c2 := 0) (s2 := 0) G (lX9_bitsOf hO hv51) kt_1582 kt_11 kt_1580 kt_1581 ydX9_bitsOf ⟨by decide, by decide⟩ rfl (Nat.le_of_ble_eq_true rfl) ⟨rfl, rfl⟩ ⟨by decide, by decide⟩ rfl dX9_listen_51 ?_
  refine z_iconst (pc := 54) (v := 1) G dX9_listen_54 (by decide) ?_
  refine z_icmp_le (pc := 55) (tgt := 70) G dX9_listen_55 (by decide) (fun hc55 => ?_) (fun hc55 => ?_)
  · have hX := z_it hc55 hX
    exact wX9_listen_B70 hO G hr hnm _ _ _ _ _ hX
  · have hX := z_if hc55 hX
    refine z_aload_n (pc := 58) G 0 dX9_listen_58 rfl rfl ?_
    obtain ⟨x59, hv59, hX⟩ := z_bd hX
    refine z_getR (pc := 59) G kK9 (k := 41) (by decide) kt_1267 dX9_listen_59 hv59 ?_
    refine z_sipush (pc := 62) (v := 520) G dX9_listen_62 (by decide) ?_
    refine z_dup2 (pc := 65) G dX9_listen_65 rfl rfl ?_
    obtain ⟨x66, hv66, hX⟩ := z_bd hX
    refine z_iald (pc := 66) G dX9_listen_66 hv66 ?_
    refine z_iconst (pc := 67) (v := 1) G dX9_listen_67 (by decide) ?_
    refine z_iadd (pc := 68) G dX9_listen_68 ?_
    obtain ⟨h69, hv69, hX⟩ := z_bd hX
    refine z_iast (pc := 69) G dX9_listen_69 hv69 ?_
    exact wX9_listen_B70 hO G hr hnm _ _ _ _ _ hX
noncomputable def xX9_listen_B6 (r6 : Nat → Int32 → Int32 → Int32 → Int32 → Int32 → ZH → Option ZH) (l0 : Nat) (l1 : Int32) (l2 : Int32) (l3 : Int32) (l4 : Int32) (l5 : Int32) (h : ZH) : Option ZH := (z_gu (z_is h l0 9) ((xX9_lots l0 h).bind fun r9 => (if r9.1 ≤ l5 then xX9_listen_B49 l0 l1 l3 l4 r9.2 else ((xX9_bit l2 l5 r9.2).bind fun r18 => (if r18.1 = 0 then r6 l0 l1 l2 l3 l4 (l5 + 1) r18.2 else (z_gu (z_is r18.2 l0 9) ((xX9_doHear l0 l1 l5 r18.2).bind fun r28 => (if r28.1 = 0 then r6 l0 l1 l2 l3 l4 (l5 + 1) r28.2 else r6 l0 l1 l2 l3 (l4 ||| ((1 : Int32) <<< (l5 &&& 31))) (l5 + 1) r28.2))))))))
noncomputable def xX9_listen_L6 (n : Nat) : Nat → Int32 → Int32 → Int32 → Int32 → Int32 → ZH → Option ZH := Nat.rec (motive := fun _ => Nat → Int32 → Int32 → Int32 → Int32 → Int32 → ZH → Option ZH) (fun _ _ _ _ _ _ _ => none) (fun _ rec => xX9_listen_B6  rec) n
set_option maxHeartbeats 4000000 in
set_option maxRecDepth 100000 in
theorem wX9_listen_B6 {Γ : ZG} {p : Program} {l : Launch} {e : Env} {s : State} {m : MethodId} {args : Array Value} {below : List Frame} {meth : Method} {c : Code} (hO : z_OK Γ) (G : z_GG Γ p s m args meth c cX9_listen 6 RX9) (hr : meth.sig.returnType = none) (hnm : meth.name = "listen") {r : ZH} {r6 : Nat → Int32 → Int32 → Int32 → Int32 → Int32 → ZH → Option ZH} (H6 : ∀ (l0 : Nat) (l1 : Int32) (l2 : Int32) (l3 : Int32) (l4 : Int32) (l5 : Int32) (h : ZH), r6 l0 l1 l2 l3 l4 l5 h = some r → z_W Γ p l e rmX9_listen s m args below meth c 6 0 0 (MQ below (z_Qc Γ none r) args s rmX9_listen.cells rmX9_listen.slots (z_A Γ)) 6 [(0, .ref l0), (1, .int l1), (2, .int l2), (3, .int l3), (4, .int l4), (5, .int l5)] [] h) : ∀ (l0 : Nat) (l1 : Int32) (l2 : Int32) (l3 : Int32) (l4 : Int32) (l5 : Int32) (h : ZH), xX9_listen_B6  r6 l0 l1 l2 l3 l4 l5 h = some r → z_W Γ p l e rmX9_listen s m args below meth c 6 0 0 (MQ below (z_Qc Γ none r) args s rmX9_listen.cells rmX9_listen.slots (z_A Γ)) 6 [(0, .ref l0), (1, .int l1), (2, .int l2), (3, .int l3), (4, .int l4), (5, .int l5)] [] h := by
  intro l0 l1 l2 l3 l4 l5 h hX
  refine z_iload (pc := 6) G 5 dX9_listen_6 rfl ?_
  refine z_aload_n (pc := 8) G 0 dX9_listen_8 rfl rfl ?_
  obtain ⟨hi9, hX⟩ := z_gu_s hX
  obtain ⟨r9, hv9, hX⟩ := z_bd hX
  refine z_cVI (pc := 9) (As := []) (c2 := 0) (s2 := 0) G kK9 (lX9_lots hO hv9) hi9 kt_1221 kt_11 kt_1218 kt_1220 ks_36 ydX9_lots ⟨by decide, by decide⟩ rfl (Nat.le_of_ble_eq_true rfl) ⟨rfl, rfl⟩ ⟨by decide, by decide⟩ rfl dX9_listen_9 ?_
  refine z_icmp_ge (pc := 12) (tgt := 49) G dX9_listen_12 (by decide) (fun hc12 => ?_) (fun hc12 => ?_)
  · have hX := z_it hc12 hX
    refine z_drop (lv2 := [(0, .ref l0), (1, .int l1), (3, .int l3), (4, .int l4)]) [0, 1, 3, 4] rfl ?_
    exact wX9_listen_B49 hO G hr hnm _ _ _ _ _ hX
  · have hX := z_if hc12 hX
    refine z_iload_n (pc := 15) G 2 dX9_listen_15 rfl rfl ?_
    refine z_iload (pc := 16) G 5 dX9_listen_16 rfl ?_
    obtain ⟨r18, hv18, hX⟩ := z_bd hX
    refine z_cSI (pc := 18) (As := [.int l2, .int l5]) (c2 := 0) (s2 := 0) G (lX9_bit hO hv18) kt_1476 kt_11 kt_1474 kt_1475 ydX9_bit ⟨by decide, by decide⟩ rfl (Nat.le_of_ble_eq_true rfl) ⟨rfl, rfl⟩ ⟨by decide, by decide⟩ rfl dX9_listen_18 ?_
    refine z_if_eq (pc := 21) (tgt := 43) G dX9_listen_21 (by decide) (fun hc21 => ?_) (fun hc21 => ?_)
    · have hX := z_it hc21 hX
      refine z_iincw (pc := 43) (w := 1) (lv2 := [(0, .ref l0), (1, .int l1), (2, .int l2), (3, .int l3), (4, .int l4), (5, .int (l5 + 1))]) G 5 dX9_listen_43 rfl (by decide) (by decide) rfl rfl ?_
      refine z_goto (pc := 46) (tgt := 6) G dX9_listen_46 (by decide) ?_
      exact H6 _ _ _ _ _ _ _ hX
    · have hX := z_if hc21 hX
      refine z_aload_n (pc := 24) G 0 dX9_listen_24 rfl rfl ?_
      refine z_iload_n (pc := 25) G 1 dX9_listen_25 rfl rfl ?_
      refine z_iload (pc := 26) G 5 dX9_listen_26 rfl ?_
      obtain ⟨hi28, hX⟩ := z_gu_s hX
      obtain ⟨r28, hv28, hX⟩ := z_bd hX
      refine z_cVI (pc := 28) (As := [.int l1, .int l5]) (c2 := 0) (s2 := 0) G kK9 (lX9_doHear hO hv28) hi28 kt_1711 kt_11 kt_1708 kt_1710 ks_81 ydX9_doHear ⟨by decide, by decide⟩ rfl (Nat.le_of_ble_eq_true rfl) ⟨rfl, rfl⟩ ⟨by decide, by decide⟩ rfl dX9_listen_28 ?_
      refine z_if_eq (pc := 31) (tgt := 43) G dX9_listen_31 (by decide) (fun hc31 => ?_) (fun hc31 => ?_)
      · have hX := z_it hc31 hX
        refine z_iincw (pc := 43) (w := 1) (lv2 := [(0, .ref l0), (1, .int l1), (2, .int l2), (3, .int l3), (4, .int l4), (5, .int (l5 + 1))]) G 5 dX9_listen_43 rfl (by decide) (by decide) rfl rfl ?_
        refine z_goto (pc := 46) (tgt := 6) G dX9_listen_46 (by decide) ?_
        exact H6 _ _ _ _ _ _ _ hX
      · have hX := z_if hc31 hX
        refine z_iload (pc := 34) G 4 dX9_listen_34 rfl ?_
        refine z_iconst (pc := 36) (v := 1) G dX9_listen_36 (by decide) ?_
        refine z_iload (pc := 37) G 5 dX9_listen_37 rfl ?_
        refine z_ishl (pc := 39) G dX9_listen_39 ?_
        refine z_ior (pc := 40) G dX9_listen_40 ?_
        refine z_istore (pc := 41) (lv2 := [(0, .ref l0), (1, .int l1), (2, .int l2), (3, .int l3), (4, .int (l4 ||| ((1 : Int32) <<< (l5 &&& 31)))), (5, .int l5)]) G dX9_listen_41 (by decide) rfl rfl ?_
        refine z_iincw (pc := 43) (w := 1) (lv2 := [(0, .ref l0), (1, .int l1), (2, .int l2), (3, .int l3), (4, .int (l4 ||| ((1 : Int32) <<< (l5 &&& 31)))), (5, .int (l5 + 1))]) G 5 dX9_listen_43 rfl (by decide) (by decide) rfl rfl ?_
        refine z_goto (pc := 46) (tgt := 6) G dX9_listen_46 (by decide) ?_
        exact H6 _ _ _ _ _ _ _ hX
set_option maxHeartbeats 4000000 in
set_option maxRecDepth 100000 in
theorem wX9_listen_L6 {Γ : ZG} {p : Program} {l : Launch} {e : Env} {s : State} {m : MethodId} {args : Array Value} {below : List Frame} {meth : Method} {c : Code} (hO : z_OK Γ) (G : z_GG Γ p s m args meth c cX9_listen 6 RX9) (hr : meth.sig.returnType = none) (hnm : meth.name = "listen") {r : ZH} : ∀ (nn : Nat) (l0 : Nat) (l1 : Int32) (l2 : Int32) (l3 : Int32) (l4 : Int32) (l5 : Int32) (h : ZH), xX9_listen_L6  nn l0 l1 l2 l3 l4 l5 h = some r → z_W Γ p l e rmX9_listen s m args below meth c 6 0 0 (MQ below (z_Qc Γ none r) args s rmX9_listen.cells rmX9_listen.slots (z_A Γ)) 6 [(0, .ref l0), (1, .int l1), (2, .int l2), (3, .int l3), (4, .int l4), (5, .int l5)] [] h := by
  intro nn
  induction nn with
  | zero => intro l0 l1 l2 l3 l4 l5 h hX; cases hX
  | succ nn ih => intro l0 l1 l2 l3 l4 l5 h hX; exact wX9_listen_B6 hO G hr hnm  ih l0 l1 l2 l3 l4 l5 h hX
noncomputable def xX9_listen (l0 : Nat) (l1 : Int32) (l2 : Int32) (l3 : Int32) (h : ZH) : Option ZH := xX9_listen_L6 zFU l0 l1 l2 l3 (0 : Int32) (0 : Int32) h
set_option maxHeartbeats 4000000 in
set_option maxRecDepth 100000 in
theorem lX9_listen {Γ : ZG} {l : Launch} (hO : z_OK Γ) {l0 : Nat} {l1 : Int32} {l2 : Int32} {l3 : Int32} {h : ZH} {r : ZH} (hX : xX9_listen l0 l1 l2 l3 h = some r) : z_M Γ l yX9_listen (z_ws1 yX9_listen cX9_listen 6 none) rmX9_listen [.ref l0, .int l1, .int l2, .int l3] h none r := by
  refine z_start hO (plainFor_of_name (by decide)) (Nat.le_of_ble_eq_true rfl) ?_
  intro p e s m args below meth c G hr hnm
  refine z_lvc (lv2 := [(0, .ref l0), (1, .int l1), (2, .int l2), (3, .int l3)]) rfl ?_
  refine z_iconst (pc := 0) (v := 0) G dX9_listen_0 (by decide) ?_
  refine z_istore (pc := 1) (lv2 := [(0, .ref l0), (1, .int l1), (2, .int l2), (3, .int l3), (4, .int (0 : Int32))]) G dX9_listen_1 (by decide) rfl rfl ?_
  refine z_iconst (pc := 3) (v := 0) G dX9_listen_3 (by decide) ?_
  refine z_istore (pc := 4) (lv2 := [(0, .ref l0), (1, .int l1), (2, .int l2), (3, .int l3), (4, .int (0 : Int32)), (5, .int (0 : Int32))]) G dX9_listen_4 (by decide) rfl rfl ?_
  exact wX9_listen_L6 hO G hr hnm zFU _ _ _ _ _ _ _ hX
theorem dX9_goStep_0 : decode cX9_goStep 0 = .ok (.aload_n 0, 1) := by decide +kernel
theorem dX9_goStep_1 : decode cX9_goStep 1 = .ok (.getfield 91, 3) := by decide +kernel
theorem dX9_goStep_4 : decode cX9_goStep 4 = .ok (.sipush 518, 3) := by decide +kernel
theorem dX9_goStep_7 : decode cX9_goStep 7 = .ok (.iaload, 1) := by decide +kernel
theorem dX9_goStep_8 : decode cX9_goStep 8 = .ok (.ifCond .ne 7, 3) := by decide +kernel
theorem dX9_goStep_11 : decode cX9_goStep 11 = .ok (.aload_n 0, 1) := by decide +kernel
theorem dX9_goStep_12 : decode cX9_goStep 12 = .ok (.invokevirtual 437, 3) := by decide +kernel
theorem dX9_goStep_15 : decode cX9_goStep 15 = .ok (.iconst 0, 1) := by decide +kernel
theorem dX9_goStep_16 : decode cX9_goStep 16 = .ok (.istore_n 1, 1) := by decide +kernel
theorem dX9_goStep_17 : decode cX9_goStep 17 = .ok (.iconst 0, 1) := by decide +kernel
theorem dX9_goStep_18 : decode cX9_goStep 18 = .ok (.istore_n 2, 1) := by decide +kernel
theorem dX9_goStep_19 : decode cX9_goStep 19 = .ok (.iconst 0, 1) := by decide +kernel
theorem dX9_goStep_20 : decode cX9_goStep 20 = .ok (.istore_n 3, 1) := by decide +kernel
theorem dX9_goStep_21 : decode cX9_goStep 21 = .ok (.iload_n 3, 1) := by decide +kernel
theorem dX9_goStep_22 : decode cX9_goStep 22 = .ok (.aload_n 0, 1) := by decide +kernel
theorem dX9_goStep_23 : decode cX9_goStep 23 = .ok (.invokevirtual 337, 3) := by decide +kernel
theorem dX9_goStep_26 : decode cX9_goStep 26 = .ok (.if_icmp .ge 66, 3) := by decide +kernel
theorem dX9_goStep_29 : decode cX9_goStep 29 = .ok (.aload_n 0, 1) := by decide +kernel
theorem dX9_goStep_30 : decode cX9_goStep 30 = .ok (.iload_n 3, 1) := by decide +kernel
theorem dX9_goStep_31 : decode cX9_goStep 31 = .ok (.invokevirtual 347, 3) := by decide +kernel
theorem dX9_goStep_34 : decode cX9_goStep 34 = .ok (.ifCond .eq 19, 3) := by decide +kernel
theorem dX9_goStep_37 : decode cX9_goStep 37 = .ok (.aload_n 0, 1) := by decide +kernel
theorem dX9_goStep_38 : decode cX9_goStep 38 = .ok (.iload_n 3, 1) := by decide +kernel
theorem dX9_goStep_39 : decode cX9_goStep 39 = .ok (.aload_n 0, 1) := by decide +kernel
theorem dX9_goStep_40 : decode cX9_goStep 40 = .ok (.getfield 91, 3) := by decide +kernel
theorem dX9_goStep_43 : decode cX9_goStep 43 = .ok (.sipush 518, 3) := by decide +kernel
theorem dX9_goStep_46 : decode cX9_goStep 46 = .ok (.iaload, 1) := by decide +kernel
theorem dX9_goStep_47 : decode cX9_goStep 47 = .ok (.invokevirtual 440, 3) := by decide +kernel
theorem dX9_goStep_50 : decode cX9_goStep 50 = .ok (.goto 4, 3) := by decide +kernel
theorem dX9_goStep_53 : decode cX9_goStep 53 = .ok (.iconst (-1), 1) := by decide +kernel
theorem dX9_goStep_54 : decode cX9_goStep 54 = .ok (.istore 4, 2) := by decide +kernel
theorem dX9_goStep_56 : decode cX9_goStep 56 = .ok (.iload 4, 2) := by decide +kernel
theorem dX9_goStep_58 : decode cX9_goStep 58 = .ok (.ifCond .ge 6, 3) := by decide +kernel
theorem dX9_goStep_61 : decode cX9_goStep 61 = .ok (.goto 25, 3) := by decide +kernel
theorem dX9_goStep_64 : decode cX9_goStep 64 = .ok (.iload_n 1, 1) := by decide +kernel
theorem dX9_goStep_65 : decode cX9_goStep 65 = .ok (.iconst 1, 1) := by decide +kernel
theorem dX9_goStep_66 : decode cX9_goStep 66 = .ok (.iload_n 3, 1) := by decide +kernel
theorem dX9_goStep_67 : decode cX9_goStep 67 = .ok (.ishl, 1) := by decide +kernel
theorem dX9_goStep_68 : decode cX9_goStep 68 = .ok (.ior, 1) := by decide +kernel
theorem dX9_goStep_69 : decode cX9_goStep 69 = .ok (.istore_n 1, 1) := by decide +kernel
theorem dX9_goStep_70 : decode cX9_goStep 70 = .ok (.aload_n 0, 1) := by decide +kernel
theorem dX9_goStep_71 : decode cX9_goStep 71 = .ok (.iload_n 3, 1) := by decide +kernel
theorem dX9_goStep_72 : decode cX9_goStep 72 = .ok (.iload 4, 2) := by decide +kernel
theorem dX9_goStep_74 : decode cX9_goStep 74 = .ok (.invokevirtual 443, 3) := by decide +kernel
theorem dX9_goStep_77 : decode cX9_goStep 77 = .ok (.ifCond .eq 9, 3) := by decide +kernel
theorem dX9_goStep_80 : decode cX9_goStep 80 = .ok (.iload_n 2, 1) := by decide +kernel
theorem dX9_goStep_81 : decode cX9_goStep 81 = .ok (.iconst 1, 1) := by decide +kernel
theorem dX9_goStep_82 : decode cX9_goStep 82 = .ok (.iload_n 3, 1) := by decide +kernel
theorem dX9_goStep_83 : decode cX9_goStep 83 = .ok (.ishl, 1) := by decide +kernel
theorem dX9_goStep_84 : decode cX9_goStep 84 = .ok (.ior, 1) := by decide +kernel
theorem dX9_goStep_85 : decode cX9_goStep 85 = .ok (.istore_n 2, 1) := by decide +kernel
theorem dX9_goStep_86 : decode cX9_goStep 86 = .ok (.iinc 3 1, 3) := by decide +kernel
theorem dX9_goStep_89 : decode cX9_goStep 89 = .ok (.goto (-68), 3) := by decide +kernel
theorem dX9_goStep_92 : decode cX9_goStep 92 = .ok (.iconst 0, 1) := by decide +kernel
theorem dX9_goStep_93 : decode cX9_goStep 93 = .ok (.istore_n 3, 1) := by decide +kernel
theorem dX9_goStep_94 : decode cX9_goStep 94 = .ok (.iload_n 3, 1) := by decide +kernel
theorem dX9_goStep_95 : decode cX9_goStep 95 = .ok (.aload_n 0, 1) := by decide +kernel
theorem dX9_goStep_96 : decode cX9_goStep 96 = .ok (.invokevirtual 337, 3) := by decide +kernel
theorem dX9_goStep_99 : decode cX9_goStep 99 = .ok (.if_icmp .ge 32, 3) := by decide +kernel
theorem dX9_goStep_102 : decode cX9_goStep 102 = .ok (.aload_n 0, 1) := by decide +kernel
theorem dX9_goStep_103 : decode cX9_goStep 103 = .ok (.iload_n 3, 1) := by decide +kernel
theorem dX9_goStep_104 : decode cX9_goStep 104 = .ok (.invokevirtual 347, 3) := by decide +kernel
theorem dX9_goStep_107 : decode cX9_goStep 107 = .ok (.ifCond .eq 18, 3) := by decide +kernel
theorem dX9_goStep_110 : decode cX9_goStep 110 = .ok (.iload_n 1, 1) := by decide +kernel
theorem dX9_goStep_111 : decode cX9_goStep 111 = .ok (.iload_n 3, 1) := by decide +kernel
theorem dX9_goStep_112 : decode cX9_goStep 112 = .ok (.invokestatic 265, 3) := by decide +kernel
theorem dX9_goStep_115 : decode cX9_goStep 115 = .ok (.ifCond .ne 10, 3) := by decide +kernel
theorem dX9_goStep_118 : decode cX9_goStep 118 = .ok (.aload_n 0, 1) := by decide +kernel
theorem dX9_goStep_119 : decode cX9_goStep 119 = .ok (.iload_n 3, 1) := by decide +kernel
theorem dX9_goStep_120 : decode cX9_goStep 120 = .ok (.iload_n 1, 1) := by decide +kernel
theorem dX9_goStep_121 : decode cX9_goStep 121 = .ok (.iload_n 2, 1) := by decide +kernel
theorem dX9_goStep_122 : decode cX9_goStep 122 = .ok (.invokevirtual 446, 3) := by decide +kernel
theorem dX9_goStep_125 : decode cX9_goStep 125 = .ok (.iinc 3 1, 3) := by decide +kernel
theorem dX9_goStep_128 : decode cX9_goStep 128 = .ok (.goto (-34), 3) := by decide +kernel
theorem dX9_goStep_131 : decode cX9_goStep 131 = .ok (.aload_n 0, 1) := by decide +kernel
theorem dX9_goStep_132 : decode cX9_goStep 132 = .ok (.getfield 91, 3) := by decide +kernel
theorem dX9_goStep_135 : decode cX9_goStep 135 = .ok (.sipush 518, 3) := by decide +kernel
theorem dX9_goStep_138 : decode cX9_goStep 138 = .ok (.dup2, 1) := by decide +kernel
theorem dX9_goStep_139 : decode cX9_goStep 139 = .ok (.iaload, 1) := by decide +kernel
theorem dX9_goStep_140 : decode cX9_goStep 140 = .ok (.iconst 1, 1) := by decide +kernel
theorem dX9_goStep_141 : decode cX9_goStep 141 = .ok (.iadd, 1) := by decide +kernel
theorem dX9_goStep_142 : decode cX9_goStep 142 = .ok (.iastore, 1) := by decide +kernel
theorem dX9_goStep_143 : decode cX9_goStep 143 = .ok (.aload_n 0, 1) := by decide +kernel
theorem dX9_goStep_144 : decode cX9_goStep 144 = .ok (.getfield 91, 3) := by decide +kernel
theorem dX9_goStep_147 : decode cX9_goStep 147 = .ok (.sipush 518, 3) := by decide +kernel
theorem dX9_goStep_150 : decode cX9_goStep 150 = .ok (.iaload, 1) := by decide +kernel
theorem dX9_goStep_151 : decode cX9_goStep 151 = .ok (.aload_n 0, 1) := by decide +kernel
theorem dX9_goStep_152 : decode cX9_goStep 152 = .ok (.invokevirtual 344, 3) := by decide +kernel
theorem dX9_goStep_155 : decode cX9_goStep 155 = .ok (.if_icmp .ne 24, 3) := by decide +kernel
theorem dX9_goStep_158 : decode cX9_goStep 158 = .ok (.aload_n 0, 1) := by decide +kernel
theorem dX9_goStep_159 : decode cX9_goStep 159 = .ok (.getfield 91, 3) := by decide +kernel
theorem dX9_goStep_162 : decode cX9_goStep 162 = .ok (.sipush 518, 3) := by decide +kernel
theorem dX9_goStep_165 : decode cX9_goStep 165 = .ok (.iconst 0, 1) := by decide +kernel
theorem dX9_goStep_166 : decode cX9_goStep 166 = .ok (.iastore, 1) := by decide +kernel
theorem dX9_goStep_167 : decode cX9_goStep 167 = .ok (.aload_n 0, 1) := by decide +kernel
theorem dX9_goStep_168 : decode cX9_goStep 168 = .ok (.getfield 91, 3) := by decide +kernel
theorem dX9_goStep_171 : decode cX9_goStep 171 = .ok (.sipush 517, 3) := by decide +kernel
theorem dX9_goStep_174 : decode cX9_goStep 174 = .ok (.dup2, 1) := by decide +kernel
theorem dX9_goStep_175 : decode cX9_goStep 175 = .ok (.iaload, 1) := by decide +kernel
theorem dX9_goStep_176 : decode cX9_goStep 176 = .ok (.iconst 1, 1) := by decide +kernel
theorem dX9_goStep_177 : decode cX9_goStep 177 = .ok (.iadd, 1) := by decide +kernel
theorem dX9_goStep_178 : decode cX9_goStep 178 = .ok (.iastore, 1) := by decide +kernel
theorem dX9_goStep_179 : decode cX9_goStep 179 = .ok (.iload_n 1, 1) := by decide +kernel
theorem dX9_goStep_180 : decode cX9_goStep 180 = .ok (.ireturn, 1) := by decide +kernel
theorem ydX9_goStep : z_yd yX9_goStep 0 := ⟨by decide, by decide, by decide +kernel⟩
abbrev rmX9_goStep : Room := { frames := 7, cells := 0, slots := 0, locals := 166 }
noncomputable def xX9_goStep_B54 (r21 : Nat → Int32 → Int32 → Int32 → ZH → Option (Int32 × ZH)) (l0 : Nat) (l1 : Int32) (l2 : Int32) (l3 : Int32) (s0 : Int32) (h : ZH) : Option (Int32 × ZH) := (if 0 ≤ s0 then (z_gu (z_is h l0 9) ((xX9_report l0 l3 s0 h).bind fun r74 => (if r74.1 = 0 then r21 l0 (l1 ||| ((1 : Int32) <<< (l3 &&& 31))) l2 (l3 + 1) r74.2 else r21 l0 (l1 ||| ((1 : Int32) <<< (l3 &&& 31))) (l2 ||| ((1 : Int32) <<< (l3 &&& 31))) (l3 + 1) r74.2))) else r21 l0 l1 l2 (l3 + 1) h)
set_option maxHeartbeats 4000000 in
set_option maxRecDepth 100000 in
theorem wX9_goStep_B54 {Γ : ZG} {p : Program} {l : Launch} {e : Env} {s : State} {m : MethodId} {args : Array Value} {below : List Frame} {meth : Method} {c : Code} (hO : z_OK Γ) (G : z_GG Γ p s m args meth c cX9_goStep 5 RX9) (hr : meth.sig.returnType = (some .int)) (hnm : meth.name = "goStep") {r : (Int32 × ZH)} {r21 : Nat → Int32 → Int32 → Int32 → ZH → Option (Int32 × ZH)} (H21 : ∀ (l0 : Nat) (l1 : Int32) (l2 : Int32) (l3 : Int32) (h : ZH), r21 l0 l1 l2 l3 h = some r → z_W Γ p l e rmX9_goStep s m args below meth c 5 0 0 (MQ below (z_Qc Γ (some (.int r.1)) r.2) args s rmX9_goStep.cells rmX9_goStep.slots (z_A Γ)) 21 [(0, .ref l0), (1, .int l1), (2, .int l2), (3, .int l3)] [] h) : ∀ (l0 : Nat) (l1 : Int32) (l2 : Int32) (l3 : Int32) (s0 : Int32) (h : ZH), xX9_goStep_B54  r21 l0 l1 l2 l3 s0 h = some r → z_W Γ p l e rmX9_goStep s m args below meth c 5 0 0 (MQ below (z_Qc Γ (some (.int r.1)) r.2) args s rmX9_goStep.cells rmX9_goStep.slots (z_A Γ)) 54 [(0, .ref l0), (1, .int l1), (2, .int l2), (3, .int l3)] [.int s0] h := by
  intro l0 l1 l2 l3 s0 h hX
  refine z_istore (pc := 54) (lv2 := [(0, .ref l0), (1, .int l1), (2, .int l2), (3, .int l3), (4, .int s0)]) G dX9_goStep_54 (by decide) rfl rfl ?_
  refine z_iload (pc := 56) G 4 dX9_goStep_56 rfl ?_
  refine z_if_ge (pc := 58) (tgt := 64) G dX9_goStep_58 (by decide) (fun hc58 => ?_) (fun hc58 => ?_)
  · have hX := z_it hc58 hX
    refine z_iload_n (pc := 64) G 1 dX9_goStep_64 rfl rfl ?_
    refine z_iconst (pc := 65) (v := 1) G dX9_goStep_65 (by decide) ?_
    refine z_iload_n (pc := 66) G 3 dX9_goStep_66 rfl rfl ?_
    refine z_ishl (pc := 67) G dX9_goStep_67 ?_
    refine z_ior (pc := 68) G dX9_goStep_68 ?_
    refine z_istore_n (pc := 69) (lv2 := [(0, .ref l0), (1, .int (l1 ||| ((1 : Int32) <<< (l3 &&& 31)))), (2, .int l2), (3, .int l3), (4, .int s0)]) G dX9_goStep_69 rfl (by decide) rfl rfl ?_
    refine z_aload_n (pc := 70) G 0 dX9_goStep_70 rfl rfl ?_
    refine z_iload_n (pc := 71) G 3 dX9_goStep_71 rfl rfl ?_
    refine z_iload (pc := 72) G 4 dX9_goStep_72 rfl ?_
    obtain ⟨hi74, hX⟩ := z_gu_s hX
    obtain ⟨r74, hv74, hX⟩ := z_bd hX
    refine z_cVI (pc := 74) (As := [.int l3, .int s0]) (c2 := 0) (s2 := 0) G kK9 (lX9_report hO hv74) hi74 kt_1763 kt_11 kt_1760 kt_1762 ks_92 ydX9_report ⟨by decide, by decide⟩ rfl (Nat.le_of_ble_eq_true rfl) ⟨rfl, rfl⟩ ⟨by decide, by decide⟩ rfl dX9_goStep_74 ?_
    refine z_if_eq (pc := 77) (tgt := 86) G dX9_goStep_77 (by decide) (fun hc77 => ?_) (fun hc77 => ?_)
    · have hX := z_it hc77 hX
      refine z_iincw (pc := 86) (w := 1) (lv2 := [(0, .ref l0), (1, .int (l1 ||| ((1 : Int32) <<< (l3 &&& 31)))), (2, .int l2), (3, .int (l3 + 1)), (4, .int s0)]) G 3 dX9_goStep_86 rfl (by decide) (by decide) rfl rfl ?_
      refine z_goto (pc := 89) (tgt := 21) G dX9_goStep_89 (by decide) ?_
      refine z_drop (lv2 := [(0, .ref l0), (1, .int (l1 ||| ((1 : Int32) <<< (l3 &&& 31)))), (2, .int l2), (3, .int (l3 + 1))]) [0, 1, 2, 3] rfl ?_
      exact H21 _ _ _ _ _ hX
    · have hX := z_if hc77 hX
      refine z_iload_n (pc := 80) G 2 dX9_goStep_80 rfl rfl ?_
      refine z_iconst (pc := 81) (v := 1) G dX9_goStep_81 (by decide) ?_
      refine z_iload_n (pc := 82) G 3 dX9_goStep_82 rfl rfl ?_
      refine z_ishl (pc := 83) G dX9_goStep_83 ?_
      refine z_ior (pc := 84) G dX9_goStep_84 ?_
      refine z_istore_n (pc := 85) (lv2 := [(0, .ref l0), (1, .int (l1 ||| ((1 : Int32) <<< (l3 &&& 31)))), (2, .int (l2 ||| ((1 : Int32) <<< (l3 &&& 31)))), (3, .int l3), (4, .int s0)]) G dX9_goStep_85 rfl (by decide) rfl rfl ?_
      refine z_iincw (pc := 86) (w := 1) (lv2 := [(0, .ref l0), (1, .int (l1 ||| ((1 : Int32) <<< (l3 &&& 31)))), (2, .int (l2 ||| ((1 : Int32) <<< (l3 &&& 31)))), (3, .int (l3 + 1)), (4, .int s0)]) G 3 dX9_goStep_86 rfl (by decide) (by decide) rfl rfl ?_
      refine z_goto (pc := 89) (tgt := 21) G dX9_goStep_89 (by decide) ?_
      refine z_drop (lv2 := [(0, .ref l0), (1, .int (l1 ||| ((1 : Int32) <<< (l3 &&& 31)))), (2, .int (l2 ||| ((1 : Int32) <<< (l3 &&& 31)))), (3, .int (l3 + 1))]) [0, 1, 2, 3] rfl ?_
      exact H21 _ _ _ _ _ hX
  · have hX := z_if hc58 hX
    refine z_goto (pc := 61) (tgt := 86) G dX9_goStep_61 (by decide) ?_
    refine z_iincw (pc := 86) (w := 1) (lv2 := [(0, .ref l0), (1, .int l1), (2, .int l2), (3, .int (l3 + 1)), (4, .int s0)]) G 3 dX9_goStep_86 rfl (by decide) (by decide) rfl rfl ?_
    refine z_goto (pc := 89) (tgt := 21) G dX9_goStep_89 (by decide) ?_
    refine z_drop (lv2 := [(0, .ref l0), (1, .int l1), (2, .int l2), (3, .int (l3 + 1))]) [0, 1, 2, 3] rfl ?_
    exact H21 _ _ _ _ _ hX
noncomputable def xX9_goStep_B131 (l0 : Nat) (l1 : Int32) (h : ZH) : Option (Int32 × ZH) := ((z_gR h l0 9 41).bind fun x132 => ((z_aI h x132 (518 : Int32)).bind fun x139 => ((z_uI h x132 (518 : Int32) (x139 + (1 : Int32))).bind fun h142 => ((z_gR h142 l0 9 41).bind fun x144 => ((z_aI h142 x144 (518 : Int32)).bind fun x150 => (z_gu (z_is h142 l0 9) ((xX9_round l0 h142).bind fun r152 => (if x150 = r152.1 then ((z_gR r152.2 l0 9 41).bind fun x159 => ((z_uI r152.2 x159 (518 : Int32) (0 : Int32)).bind fun h166 => ((z_gR h166 l0 9 41).bind fun x168 => ((z_aI h166 x168 (517 : Int32)).bind fun x175 => ((z_uI h166 x168 (517 : Int32) (x175 + (1 : Int32))).bind fun h178 => some (l1, h178)))))) else some (l1, r152.2)))))))))
set_option maxHeartbeats 4000000 in
set_option maxRecDepth 100000 in
theorem wX9_goStep_B131 {Γ : ZG} {p : Program} {l : Launch} {e : Env} {s : State} {m : MethodId} {args : Array Value} {below : List Frame} {meth : Method} {c : Code} (hO : z_OK Γ) (G : z_GG Γ p s m args meth c cX9_goStep 5 RX9) (hr : meth.sig.returnType = (some .int)) (hnm : meth.name = "goStep") {r : (Int32 × ZH)} : ∀ (l0 : Nat) (l1 : Int32) (h : ZH), xX9_goStep_B131  l0 l1 h = some r → z_W Γ p l e rmX9_goStep s m args below meth c 5 0 0 (MQ below (z_Qc Γ (some (.int r.1)) r.2) args s rmX9_goStep.cells rmX9_goStep.slots (z_A Γ)) 131 [(0, .ref l0), (1, .int l1)] [] h := by
  intro l0 l1 h hX
  refine z_aload_n (pc := 131) G 0 dX9_goStep_131 rfl rfl ?_
  obtain ⟨x132, hv132, hX⟩ := z_bd hX
  refine z_getR (pc := 132) G kK9 (k := 41) (by decide) kt_1267 dX9_goStep_132 hv132 ?_
  refine z_sipush (pc := 135) (v := 518) G dX9_goStep_135 (by decide) ?_
  refine z_dup2 (pc := 138) G dX9_goStep_138 rfl rfl ?_
  obtain ⟨x139, hv139, hX⟩ := z_bd hX
  refine z_iald (pc := 139) G dX9_goStep_139 hv139 ?_
  refine z_iconst (pc := 140) (v := 1) G dX9_goStep_140 (by decide) ?_
  refine z_iadd (pc := 141) G dX9_goStep_141 ?_
  obtain ⟨h142, hv142, hX⟩ := z_bd hX
  refine z_iast (pc := 142) G dX9_goStep_142 hv142 ?_
  refine z_aload_n (pc := 143) G 0 dX9_goStep_143 rfl rfl ?_
  obtain ⟨x144, hv144, hX⟩ := z_bd hX
  refine z_getR (pc := 144) G kK9 (k := 41) (by decide) kt_1267 dX9_goStep_144 hv144 ?_
  refine z_sipush (pc := 147) (v := 518) G dX9_goStep_147 (by decide) ?_
  obtain ⟨x150, hv150, hX⟩ := z_bd hX
  refine z_iald (pc := 150) G dX9_goStep_150 hv150 ?_
  refine z_aload_n (pc := 151) G 0 dX9_goStep_151 rfl rfl ?_
  obtain ⟨hi152, hX⟩ := z_gu_s hX
  obtain ⟨r152, hv152, hX⟩ := z_bd hX
  refine z_cVI (pc := 152) (As := []) (c2 := 0) (s2 := 0) G kK9 (lX9_round hO hv152) hi152 kt_1575 kt_11 kt_1572 kt_1574 ks_66 ydX9_round ⟨by decide, by decide⟩ rfl (Nat.le_of_ble_eq_true rfl) ⟨rfl, rfl⟩ ⟨by decide, by decide⟩ rfl dX9_goStep_152 ?_
  refine z_icmp_ne (pc := 155) (tgt := 179) G dX9_goStep_155 (by decide) (fun hc155 => ?_) (fun hc155 => ?_)
  · have hX := z_if hc155 hX
    refine z_iload_n (pc := 179) G 1 dX9_goStep_179 rfl rfl ?_
    exact z_iretX (pc := 180) hX G hr dX9_goStep_180 (by decide) (by decide)
  · have hX := z_it hc155 hX
    refine z_aload_n (pc := 158) G 0 dX9_goStep_158 rfl rfl ?_
    obtain ⟨x159, hv159, hX⟩ := z_bd hX
    refine z_getR (pc := 159) G kK9 (k := 41) (by decide) kt_1267 dX9_goStep_159 hv159 ?_
    refine z_sipush (pc := 162) (v := 518) G dX9_goStep_162 (by decide) ?_
    refine z_iconst (pc := 165) (v := 0) G dX9_goStep_165 (by decide) ?_
    obtain ⟨h166, hv166, hX⟩ := z_bd hX
    refine z_iast (pc := 166) G dX9_goStep_166 hv166 ?_
    refine z_aload_n (pc := 167) G 0 dX9_goStep_167 rfl rfl ?_
    obtain ⟨x168, hv168, hX⟩ := z_bd hX
    refine z_getR (pc := 168) G kK9 (k := 41) (by decide) kt_1267 dX9_goStep_168 hv168 ?_
    refine z_sipush (pc := 171) (v := 517) G dX9_goStep_171 (by decide) ?_
    refine z_dup2 (pc := 174) G dX9_goStep_174 rfl rfl ?_
    obtain ⟨x175, hv175, hX⟩ := z_bd hX
    refine z_iald (pc := 175) G dX9_goStep_175 hv175 ?_
    refine z_iconst (pc := 176) (v := 1) G dX9_goStep_176 (by decide) ?_
    refine z_iadd (pc := 177) G dX9_goStep_177 ?_
    obtain ⟨h178, hv178, hX⟩ := z_bd hX
    refine z_iast (pc := 178) G dX9_goStep_178 hv178 ?_
    refine z_iload_n (pc := 179) G 1 dX9_goStep_179 rfl rfl ?_
    exact z_iretX (pc := 180) hX G hr dX9_goStep_180 (by decide) (by decide)
noncomputable def xX9_goStep_B94 (r94 : Nat → Int32 → Int32 → Int32 → ZH → Option (Int32 × ZH)) (l0 : Nat) (l1 : Int32) (l2 : Int32) (l3 : Int32) (h : ZH) : Option (Int32 × ZH) := (z_gu (z_is h l0 9) ((xX9_lots l0 h).bind fun r96 => (if r96.1 ≤ l3 then xX9_goStep_B131 l0 l1 r96.2 else (z_gu (z_is r96.2 l0 9) ((xX9_isOn l0 l3 r96.2).bind fun r104 => (if r104.1 = 0 then r94 l0 l1 l2 (l3 + 1) r104.2 else ((xX9_bit l1 l3 r104.2).bind fun r112 => (if r112.1 = 0 then (z_gu (z_is r112.2 l0 9) ((xX9_listen l0 l3 l1 l2 r112.2).bind fun h122 => r94 l0 l1 l2 (l3 + 1) h122)) else r94 l0 l1 l2 (l3 + 1) r112.2))))))))
noncomputable def xX9_goStep_L94 (n : Nat) : Nat → Int32 → Int32 → Int32 → ZH → Option (Int32 × ZH) := Nat.rec (motive := fun _ => Nat → Int32 → Int32 → Int32 → ZH → Option (Int32 × ZH)) (fun _ _ _ _ _ => none) (fun _ rec => xX9_goStep_B94  rec) n
set_option maxHeartbeats 4000000 in
set_option maxRecDepth 100000 in
theorem wX9_goStep_B94 {Γ : ZG} {p : Program} {l : Launch} {e : Env} {s : State} {m : MethodId} {args : Array Value} {below : List Frame} {meth : Method} {c : Code} (hO : z_OK Γ) (G : z_GG Γ p s m args meth c cX9_goStep 5 RX9) (hr : meth.sig.returnType = (some .int)) (hnm : meth.name = "goStep") {r : (Int32 × ZH)} {r94 : Nat → Int32 → Int32 → Int32 → ZH → Option (Int32 × ZH)} (H94 : ∀ (l0 : Nat) (l1 : Int32) (l2 : Int32) (l3 : Int32) (h : ZH), r94 l0 l1 l2 l3 h = some r → z_W Γ p l e rmX9_goStep s m args below meth c 5 0 0 (MQ below (z_Qc Γ (some (.int r.1)) r.2) args s rmX9_goStep.cells rmX9_goStep.slots (z_A Γ)) 94 [(0, .ref l0), (1, .int l1), (2, .int l2), (3, .int l3)] [] h) : ∀ (l0 : Nat) (l1 : Int32) (l2 : Int32) (l3 : Int32) (h : ZH), xX9_goStep_B94  r94 l0 l1 l2 l3 h = some r → z_W Γ p l e rmX9_goStep s m args below meth c 5 0 0 (MQ below (z_Qc Γ (some (.int r.1)) r.2) args s rmX9_goStep.cells rmX9_goStep.slots (z_A Γ)) 94 [(0, .ref l0), (1, .int l1), (2, .int l2), (3, .int l3)] [] h := by
  intro l0 l1 l2 l3 h hX
  refine z_iload_n (pc := 94) G 3 dX9_goStep_94 rfl rfl ?_
  refine z_aload_n (pc := 95) G 0 dX9_goStep_95 rfl rfl ?_
  obtain ⟨hi96, hX⟩ := z_gu_s hX
  obtain ⟨r96, hv96, hX⟩ := z_bd hX
  refine z_cVI (pc := 96) (As := []) (c2 := 0) (s2 := 0) G kK9 (lX9_lots hO hv96) hi96 kt_1221 kt_11 kt_1218 kt_1220 ks_36 ydX9_lots ⟨by decide, by decide⟩ rfl (Nat.le_of_ble_eq_true rfl) ⟨rfl, rfl⟩ ⟨by decide, by decide⟩ rfl dX9_goStep_96 ?_
  refine z_icmp_ge (pc := 99) (tgt := 131) G dX9_goStep_99 (by decide) (fun hc99 => ?_) (fun hc99 => ?_)
  · have hX := z_it hc99 hX
    refine z_drop (lv2 := [(0, .ref l0), (1, .int l1)]) [0, 1] rfl ?_
    exact wX9_goStep_B131 hO G hr hnm _ _ _ hX
  · have hX := z_if hc99 hX
    refine z_aload_n (pc := 102) G 0 dX9_goStep_102 rfl rfl ?_
    refine z_iload_n (pc := 103) G 3 dX9_goStep_103 rfl rfl ?_
    obtain ⟨hi104, hX⟩ := z_gu_s hX
    obtain ⟨r104, hv104, hX⟩ := z_bd hX
    refine z_cVI (pc := 104) (As := [.int l3]) (c2 := 0) (s2 := 0) G kK9 (lX9_isOn hO hv104) hi104 kt_1567 kt_11 kt_1564 kt_1566 ks_64 ydX9_isOn ⟨by decide, by decide⟩ rfl (Nat.le_of_ble_eq_true rfl) ⟨rfl, rfl⟩ ⟨by decide, by decide⟩ rfl dX9_goStep_104 ?_
    refine z_if_eq (pc := 107) (tgt := 125) G dX9_goStep_107 (by decide) (fun hc107 => ?_) (fun hc107 => ?_)
    · have hX := z_it hc107 hX
      refine z_iincw (pc := 125) (w := 1) (lv2 := [(0, .ref l0), (1, .int l1), (2, .int l2), (3, .int (l3 + 1))]) G 3 dX9_goStep_125 rfl (by decide) (by decide) rfl rfl ?_
      refine z_goto (pc := 128) (tgt := 94) G dX9_goStep_128 (by decide) ?_
      exact H94 _ _ _ _ _ hX
    · have hX := z_if hc107 hX
      refine z_iload_n (pc := 110) G 1 dX9_goStep_110 rfl rfl ?_
      refine z_iload_n (pc := 111) G 3 dX9_goStep_111 rfl rfl ?_
      obtain ⟨r112, hv112, hX⟩ := z_bd hX
      refine z_cSI (pc := 112) (As := [.int l1, .int l3]) (c2 := 0) (s2 := 0) G (lX9_bit hO hv112) kt_1476 kt_11 kt_1474 kt_1475 ydX9_bit ⟨by decide, by decide⟩ rfl (Nat.le_of_ble_eq_true rfl) ⟨rfl, rfl⟩ ⟨by decide, by decide⟩ rfl dX9_goStep_112 ?_
      refine z_if_ne (pc := 115) (tgt := 125) G dX9_goStep_115 (by decide) (fun hc115 => ?_) (fun hc115 => ?_)
      · have hX := z_if hc115 hX
        refine z_iincw (pc := 125) (w := 1) (lv2 := [(0, .ref l0), (1, .int l1), (2, .int l2), (3, .int (l3 + 1))]) G 3 dX9_goStep_125 rfl (by decide) (by decide) rfl rfl ?_
        refine z_goto (pc := 128) (tgt := 94) G dX9_goStep_128 (by decide) ?_
        exact H94 _ _ _ _ _ hX
      · have hX := z_it hc115 hX
        refine z_aload_n (pc := 118) G 0 dX9_goStep_118 rfl rfl ?_
        refine z_iload_n (pc := 119) G 3 dX9_goStep_119 rfl rfl ?_
        refine z_iload_n (pc := 120) G 1 dX9_goStep_120 rfl rfl ?_
        refine z_iload_n (pc := 121) G 2 dX9_goStep_121 rfl rfl ?_
        obtain ⟨hi122, hX⟩ := z_gu_s hX
        obtain ⟨h122, hv122, hX⟩ := z_bd hX
        refine z_cVV (pc := 122) (As := [.int l3, .int l1, .int l2]) (c2 := 0) (s2 := 0) G kK9 (lX9_listen hO hv122) hi122 kt_1767 kt_11 kt_1764 kt_1766 ks_93 ydX9_listen ⟨by decide, by decide⟩ rfl (Nat.le_of_ble_eq_true rfl) ⟨rfl, rfl⟩ ⟨by decide, by decide⟩ rfl dX9_goStep_122 ?_
        refine z_iincw (pc := 125) (w := 1) (lv2 := [(0, .ref l0), (1, .int l1), (2, .int l2), (3, .int (l3 + 1))]) G 3 dX9_goStep_125 rfl (by decide) (by decide) rfl rfl ?_
        refine z_goto (pc := 128) (tgt := 94) G dX9_goStep_128 (by decide) ?_
        exact H94 _ _ _ _ _ hX
set_option maxHeartbeats 4000000 in
set_option maxRecDepth 100000 in
theorem wX9_goStep_L94 {Γ : ZG} {p : Program} {l : Launch} {e : Env} {s : State} {m : MethodId} {args : Array Value} {below : List Frame} {meth : Method} {c : Code} (hO : z_OK Γ) (G : z_GG Γ p s m args meth c cX9_goStep 5 RX9) (hr : meth.sig.returnType = (some .int)) (hnm : meth.name = "goStep") {r : (Int32 × ZH)} : ∀ (nn : Nat) (l0 : Nat) (l1 : Int32) (l2 : Int32) (l3 : Int32) (h : ZH), xX9_goStep_L94  nn l0 l1 l2 l3 h = some r → z_W Γ p l e rmX9_goStep s m args below meth c 5 0 0 (MQ below (z_Qc Γ (some (.int r.1)) r.2) args s rmX9_goStep.cells rmX9_goStep.slots (z_A Γ)) 94 [(0, .ref l0), (1, .int l1), (2, .int l2), (3, .int l3)] [] h := by
  intro nn
  induction nn with
  | zero => intro l0 l1 l2 l3 h hX; cases hX
  | succ nn ih => intro l0 l1 l2 l3 h hX; exact wX9_goStep_B94 hO G hr hnm  ih l0 l1 l2 l3 h hX
noncomputable def xX9_goStep_B21 (r21 : Nat → Int32 → Int32 → Int32 → ZH → Option (Int32 × ZH)) (l0 : Nat) (l1 : Int32) (l2 : Int32) (l3 : Int32) (h : ZH) : Option (Int32 × ZH) := (z_gu (z_is h l0 9) ((xX9_lots l0 h).bind fun r23 => (if r23.1 ≤ l3 then xX9_goStep_L94 zFU l0 l1 l2 (0 : Int32) r23.2 else (z_gu (z_is r23.2 l0 9) ((xX9_isOn l0 l3 r23.2).bind fun r31 => (if r31.1 = 0 then xX9_goStep_B54 r21 l0 l1 l2 l3 (-1 : Int32) r31.2 else ((z_gR r31.2 l0 9 41).bind fun x40 => ((z_aI r31.2 x40 (518 : Int32)).bind fun x46 => (z_gu (z_is r31.2 l0 9) ((xX9_dueOf l0 l3 x46 r31.2).bind fun r47 => xX9_goStep_B54 r21 l0 l1 l2 l3 r47.1 r47.2))))))))))
noncomputable def xX9_goStep_L21 (n : Nat) : Nat → Int32 → Int32 → Int32 → ZH → Option (Int32 × ZH) := Nat.rec (motive := fun _ => Nat → Int32 → Int32 → Int32 → ZH → Option (Int32 × ZH)) (fun _ _ _ _ _ => none) (fun _ rec => xX9_goStep_B21  rec) n
set_option maxHeartbeats 4000000 in
set_option maxRecDepth 100000 in
theorem wX9_goStep_B21 {Γ : ZG} {p : Program} {l : Launch} {e : Env} {s : State} {m : MethodId} {args : Array Value} {below : List Frame} {meth : Method} {c : Code} (hO : z_OK Γ) (G : z_GG Γ p s m args meth c cX9_goStep 5 RX9) (hr : meth.sig.returnType = (some .int)) (hnm : meth.name = "goStep") {r : (Int32 × ZH)} {r21 : Nat → Int32 → Int32 → Int32 → ZH → Option (Int32 × ZH)} (H21 : ∀ (l0 : Nat) (l1 : Int32) (l2 : Int32) (l3 : Int32) (h : ZH), r21 l0 l1 l2 l3 h = some r → z_W Γ p l e rmX9_goStep s m args below meth c 5 0 0 (MQ below (z_Qc Γ (some (.int r.1)) r.2) args s rmX9_goStep.cells rmX9_goStep.slots (z_A Γ)) 21 [(0, .ref l0), (1, .int l1), (2, .int l2), (3, .int l3)] [] h) : ∀ (l0 : Nat) (l1 : Int32) (l2 : Int32) (l3 : Int32) (h : ZH), xX9_goStep_B21  r21 l0 l1 l2 l3 h = some r → z_W Γ p l e rmX9_goStep s m args below meth c 5 0 0 (MQ below (z_Qc Γ (some (.int r.1)) r.2) args s rmX9_goStep.cells rmX9_goStep.slots (z_A Γ)) 21 [(0, .ref l0), (1, .int l1), (2, .int l2), (3, .int l3)] [] h := by
  intro l0 l1 l2 l3 h hX
  refine z_iload_n (pc := 21) G 3 dX9_goStep_21 rfl rfl ?_
  refine z_aload_n (pc := 22) G 0 dX9_goStep_22 rfl rfl ?_
  obtain ⟨hi23, hX⟩ := z_gu_s hX
  obtain ⟨r23, hv23, hX⟩ := z_bd hX
  refine z_cVI (pc := 23) (As := []) (c2 := 0) (s2 := 0) G kK9 (lX9_lots hO hv23) hi23 kt_1221 kt_11 kt_1218 kt_1220 ks_36 ydX9_lots ⟨by decide, by decide⟩ rfl (Nat.le_of_ble_eq_true rfl) ⟨rfl, rfl⟩ ⟨by decide, by decide⟩ rfl dX9_goStep_23 ?_
  refine z_icmp_ge (pc := 26) (tgt := 92) G dX9_goStep_26 (by decide) (fun hc26 => ?_) (fun hc26 => ?_)
  · have hX := z_it hc26 hX
    refine z_iconst (pc := 92) (v := 0) G dX9_goStep_92 (by decide) ?_
    refine z_istore_n (pc := 93) (lv2 := [(0, .ref l0), (1, .int l1), (2, .int l2), (3, .int (0 : Int32))]) G dX9_goStep_93 rfl (by decide) rfl rfl ?_
    exact wX9_goStep_L94 hO G hr hnm zFU _ _ _ _ _ hX
  · have hX := z_if hc26 hX
    refine z_aload_n (pc := 29) G 0 dX9_goStep_29 rfl rfl ?_
    refine z_iload_n (pc := 30) G 3 dX9_goStep_30 rfl rfl ?_
    obtain ⟨hi31, hX⟩ := z_gu_s hX
    obtain ⟨r31, hv31, hX⟩ := z_bd hX
    refine z_cVI (pc := 31) (As := [.int l3]) (c2 := 0) (s2 := 0) G kK9 (lX9_isOn hO hv31) hi31 kt_1567 kt_11 kt_1564 kt_1566 ks_64 ydX9_isOn ⟨by decide, by decide⟩ rfl (Nat.le_of_ble_eq_true rfl) ⟨rfl, rfl⟩ ⟨by decide, by decide⟩ rfl dX9_goStep_31 ?_
    refine z_if_eq (pc := 34) (tgt := 53) G dX9_goStep_34 (by decide) (fun hc34 => ?_) (fun hc34 => ?_)
    · have hX := z_it hc34 hX
      refine z_iconst (pc := 53) (v := (-1)) G dX9_goStep_53 (by decide) ?_
      exact wX9_goStep_B54 hO G hr hnm H21 _ _ _ _ _ _ hX
    · have hX := z_if hc34 hX
      refine z_aload_n (pc := 37) G 0 dX9_goStep_37 rfl rfl ?_
      refine z_iload_n (pc := 38) G 3 dX9_goStep_38 rfl rfl ?_
      refine z_aload_n (pc := 39) G 0 dX9_goStep_39 rfl rfl ?_
      obtain ⟨x40, hv40, hX⟩ := z_bd hX
      refine z_getR (pc := 40) G kK9 (k := 41) (by decide) kt_1267 dX9_goStep_40 hv40 ?_
      refine z_sipush (pc := 43) (v := 518) G dX9_goStep_43 (by decide) ?_
      obtain ⟨x46, hv46, hX⟩ := z_bd hX
      refine z_iald (pc := 46) G dX9_goStep_46 hv46 ?_
      obtain ⟨hi47, hX⟩ := z_gu_s hX
      obtain ⟨r47, hv47, hX⟩ := z_bd hX
      refine z_cVI (pc := 47) (As := [.int l3, .int x46]) (c2 := 0) (s2 := 0) G kK9 (lX9_dueOf hO hv47) hi47 kt_1759 kt_11 kt_1756 kt_1758 ks_91 ydX9_dueOf ⟨by decide, by decide⟩ rfl (Nat.le_of_ble_eq_true rfl) ⟨rfl, rfl⟩ ⟨by decide, by decide⟩ rfl dX9_goStep_47 ?_
      refine z_goto (pc := 50) (tgt := 54) G dX9_goStep_50 (by decide) ?_
      exact wX9_goStep_B54 hO G hr hnm H21 _ _ _ _ _ _ hX
set_option maxHeartbeats 4000000 in
set_option maxRecDepth 100000 in
theorem wX9_goStep_L21 {Γ : ZG} {p : Program} {l : Launch} {e : Env} {s : State} {m : MethodId} {args : Array Value} {below : List Frame} {meth : Method} {c : Code} (hO : z_OK Γ) (G : z_GG Γ p s m args meth c cX9_goStep 5 RX9) (hr : meth.sig.returnType = (some .int)) (hnm : meth.name = "goStep") {r : (Int32 × ZH)} : ∀ (nn : Nat) (l0 : Nat) (l1 : Int32) (l2 : Int32) (l3 : Int32) (h : ZH), xX9_goStep_L21  nn l0 l1 l2 l3 h = some r → z_W Γ p l e rmX9_goStep s m args below meth c 5 0 0 (MQ below (z_Qc Γ (some (.int r.1)) r.2) args s rmX9_goStep.cells rmX9_goStep.slots (z_A Γ)) 21 [(0, .ref l0), (1, .int l1), (2, .int l2), (3, .int l3)] [] h := by
  intro nn
  induction nn with
  | zero => intro l0 l1 l2 l3 h hX; cases hX
  | succ nn ih => intro l0 l1 l2 l3 h hX; exact wX9_goStep_B21 hO G hr hnm  ih l0 l1 l2 l3 h hX
noncomputable def xX9_goStep (l0 : Nat) (h : ZH) : Option (Int32 × ZH) := ((z_gR h l0 9 41).bind fun x1 => ((z_aI h x1 (518 : Int32)).bind fun x7 => (if x7 = 0 then (z_gu (z_is h l0 9) ((xX9_beginFrame l0 h).bind fun h12 => xX9_goStep_L21 zFU l0 (0 : Int32) (0 : Int32) (0 : Int32) h12)) else xX9_goStep_L21 zFU l0 (0 : Int32) (0 : Int32) (0 : Int32) h)))
set_option maxHeartbeats 4000000 in
set_option maxRecDepth 100000 in
theorem lX9_goStep {Γ : ZG} {l : Launch} (hO : z_OK Γ) {l0 : Nat} {h : ZH} {r : (Int32 × ZH)} (hX : xX9_goStep l0 h = some r) : z_M Γ l yX9_goStep (z_ws1 yX9_goStep cX9_goStep 5 (some .int)) rmX9_goStep [.ref l0] h (some (.int r.1)) r.2 := by
  refine z_start hO (plainFor_of_name (by decide)) (Nat.le_of_ble_eq_true rfl) ?_
  intro p e s m args below meth c G hr hnm
  refine z_lvc (lv2 := [(0, .ref l0)]) rfl ?_
  refine z_aload_n (pc := 0) G 0 dX9_goStep_0 rfl rfl ?_
  obtain ⟨x1, hv1, hX⟩ := z_bd hX
  refine z_getR (pc := 1) G kK9 (k := 41) (by decide) kt_1267 dX9_goStep_1 hv1 ?_
  refine z_sipush (pc := 4) (v := 518) G dX9_goStep_4 (by decide) ?_
  obtain ⟨x7, hv7, hX⟩ := z_bd hX
  refine z_iald (pc := 7) G dX9_goStep_7 hv7 ?_
  refine z_if_ne (pc := 8) (tgt := 15) G dX9_goStep_8 (by decide) (fun hc8 => ?_) (fun hc8 => ?_)
  · have hX := z_if hc8 hX
    refine z_iconst (pc := 15) (v := 0) G dX9_goStep_15 (by decide) ?_
    refine z_istore_n (pc := 16) (lv2 := [(0, .ref l0), (1, .int (0 : Int32))]) G dX9_goStep_16 rfl (by decide) rfl rfl ?_
    refine z_iconst (pc := 17) (v := 0) G dX9_goStep_17 (by decide) ?_
    refine z_istore_n (pc := 18) (lv2 := [(0, .ref l0), (1, .int (0 : Int32)), (2, .int (0 : Int32))]) G dX9_goStep_18 rfl (by decide) rfl rfl ?_
    refine z_iconst (pc := 19) (v := 0) G dX9_goStep_19 (by decide) ?_
    refine z_istore_n (pc := 20) (lv2 := [(0, .ref l0), (1, .int (0 : Int32)), (2, .int (0 : Int32)), (3, .int (0 : Int32))]) G dX9_goStep_20 rfl (by decide) rfl rfl ?_
    exact wX9_goStep_L21 hO G hr hnm zFU _ _ _ _ _ hX
  · have hX := z_it hc8 hX
    refine z_aload_n (pc := 11) G 0 dX9_goStep_11 rfl rfl ?_
    obtain ⟨hi12, hX⟩ := z_gu_s hX
    obtain ⟨h12, hv12, hX⟩ := z_bd hX
    refine z_cVV (pc := 12) (As := []) (c2 := 0) (s2 := 0) G kK9 (lX9_beginFrame hO hv12) hi12 kt_1731 kt_11 kt_1728 kt_1730 ks_84 ydX9_beginFrame ⟨by decide, by decide⟩ rfl (Nat.le_of_ble_eq_true rfl) ⟨rfl, rfl⟩ ⟨by decide, by decide⟩ rfl dX9_goStep_12 ?_
    refine z_iconst (pc := 15) (v := 0) G dX9_goStep_15 (by decide) ?_
    refine z_istore_n (pc := 16) (lv2 := [(0, .ref l0), (1, .int (0 : Int32))]) G dX9_goStep_16 rfl (by decide) rfl rfl ?_
    refine z_iconst (pc := 17) (v := 0) G dX9_goStep_17 (by decide) ?_
    refine z_istore_n (pc := 18) (lv2 := [(0, .ref l0), (1, .int (0 : Int32)), (2, .int (0 : Int32))]) G dX9_goStep_18 rfl (by decide) rfl rfl ?_
    refine z_iconst (pc := 19) (v := 0) G dX9_goStep_19 (by decide) ?_
    refine z_istore_n (pc := 20) (lv2 := [(0, .ref l0), (1, .int (0 : Int32)), (2, .int (0 : Int32)), (3, .int (0 : Int32))]) G dX9_goStep_20 rfl (by decide) rfl rfl ?_
    exact wX9_goStep_L21 hO G hr hnm zFU _ _ _ _ _ hX
theorem dX9_ship_0 : decode cX9_ship 0 = .ok (.aload_n 0, 1) := by decide +kernel
theorem dX9_ship_1 : decode cX9_ship 1 = .ok (.iload_n 1, 1) := by decide +kernel
theorem dX9_ship_2 : decode cX9_ship 2 = .ok (.invokevirtual 450, 3) := by decide +kernel
theorem dX9_ship_5 : decode cX9_ship 5 = .ok (.ifCond .ne 5, 3) := by decide +kernel
theorem dX9_ship_8 : decode cX9_ship 8 = .ok (.iconst (-1), 1) := by decide +kernel
theorem dX9_ship_9 : decode cX9_ship 9 = .ok (.ireturn, 1) := by decide +kernel
theorem dX9_ship_10 : decode cX9_ship 10 = .ok (.iload_n 2, 1) := by decide +kernel
theorem dX9_ship_11 : decode cX9_ship 11 = .ok (.tableswitch 120 0 7 #[45, 54, 64, 74, 84, 90, 104, 114], 45) := by decide +kernel
theorem dX9_ship_56 : decode cX9_ship 56 = .ok (.aload_n 0, 1) := by decide +kernel
theorem dX9_ship_57 : decode cX9_ship 57 = .ok (.getfield 91, 3) := by decide +kernel
theorem dX9_ship_60 : decode cX9_ship 60 = .ok (.iconst 0, 1) := by decide +kernel
theorem dX9_ship_61 : decode cX9_ship 61 = .ok (.iload_n 1, 1) := by decide +kernel
theorem dX9_ship_62 : decode cX9_ship 62 = .ok (.iadd, 1) := by decide +kernel
theorem dX9_ship_63 : decode cX9_ship 63 = .ok (.iaload, 1) := by decide +kernel
theorem dX9_ship_64 : decode cX9_ship 64 = .ok (.ireturn, 1) := by decide +kernel
theorem dX9_ship_65 : decode cX9_ship 65 = .ok (.aload_n 0, 1) := by decide +kernel
theorem dX9_ship_66 : decode cX9_ship 66 = .ok (.getfield 91, 3) := by decide +kernel
theorem dX9_ship_69 : decode cX9_ship 69 = .ok (.bipush 6, 2) := by decide +kernel
theorem dX9_ship_71 : decode cX9_ship 71 = .ok (.iload_n 1, 1) := by decide +kernel
theorem dX9_ship_72 : decode cX9_ship 72 = .ok (.iadd, 1) := by decide +kernel
theorem dX9_ship_73 : decode cX9_ship 73 = .ok (.iaload, 1) := by decide +kernel
theorem dX9_ship_74 : decode cX9_ship 74 = .ok (.ireturn, 1) := by decide +kernel
theorem dX9_ship_75 : decode cX9_ship 75 = .ok (.aload_n 0, 1) := by decide +kernel
theorem dX9_ship_76 : decode cX9_ship 76 = .ok (.getfield 91, 3) := by decide +kernel
theorem dX9_ship_79 : decode cX9_ship 79 = .ok (.bipush 12, 2) := by decide +kernel
theorem dX9_ship_81 : decode cX9_ship 81 = .ok (.iload_n 1, 1) := by decide +kernel
theorem dX9_ship_82 : decode cX9_ship 82 = .ok (.iadd, 1) := by decide +kernel
theorem dX9_ship_83 : decode cX9_ship 83 = .ok (.iaload, 1) := by decide +kernel
theorem dX9_ship_84 : decode cX9_ship 84 = .ok (.ireturn, 1) := by decide +kernel
theorem dX9_ship_85 : decode cX9_ship 85 = .ok (.aload_n 0, 1) := by decide +kernel
theorem dX9_ship_86 : decode cX9_ship 86 = .ok (.getfield 91, 3) := by decide +kernel
theorem dX9_ship_89 : decode cX9_ship 89 = .ok (.bipush 18, 2) := by decide +kernel
theorem dX9_ship_91 : decode cX9_ship 91 = .ok (.iload_n 1, 1) := by decide +kernel
theorem dX9_ship_92 : decode cX9_ship 92 = .ok (.iadd, 1) := by decide +kernel
theorem dX9_ship_93 : decode cX9_ship 93 = .ok (.iaload, 1) := by decide +kernel
theorem dX9_ship_94 : decode cX9_ship 94 = .ok (.ireturn, 1) := by decide +kernel
theorem dX9_ship_95 : decode cX9_ship 95 = .ok (.aload_n 0, 1) := by decide +kernel
theorem dX9_ship_96 : decode cX9_ship 96 = .ok (.iload_n 1, 1) := by decide +kernel
theorem dX9_ship_97 : decode cX9_ship 97 = .ok (.invokevirtual 325, 3) := by decide +kernel
theorem dX9_ship_100 : decode cX9_ship 100 = .ok (.ireturn, 1) := by decide +kernel
theorem dX9_ship_101 : decode cX9_ship 101 = .ok (.aload_n 0, 1) := by decide +kernel
theorem dX9_ship_102 : decode cX9_ship 102 = .ok (.iload_n 1, 1) := by decide +kernel
theorem dX9_ship_103 : decode cX9_ship 103 = .ok (.invokevirtual 347, 3) := by decide +kernel
theorem dX9_ship_106 : decode cX9_ship 106 = .ok (.ifCond .eq 7, 3) := by decide +kernel
theorem dX9_ship_109 : decode cX9_ship 109 = .ok (.iconst 1, 1) := by decide +kernel
theorem dX9_ship_110 : decode cX9_ship 110 = .ok (.goto 4, 3) := by decide +kernel
theorem dX9_ship_113 : decode cX9_ship 113 = .ok (.iconst 0, 1) := by decide +kernel
theorem dX9_ship_114 : decode cX9_ship 114 = .ok (.ireturn, 1) := by decide +kernel
theorem dX9_ship_115 : decode cX9_ship 115 = .ok (.aload_n 0, 1) := by decide +kernel
theorem dX9_ship_116 : decode cX9_ship 116 = .ok (.getfield 91, 3) := by decide +kernel
theorem dX9_ship_119 : decode cX9_ship 119 = .ok (.bipush 24, 2) := by decide +kernel
theorem dX9_ship_121 : decode cX9_ship 121 = .ok (.iload_n 1, 1) := by decide +kernel
theorem dX9_ship_122 : decode cX9_ship 122 = .ok (.iadd, 1) := by decide +kernel
theorem dX9_ship_123 : decode cX9_ship 123 = .ok (.iaload, 1) := by decide +kernel
theorem dX9_ship_124 : decode cX9_ship 124 = .ok (.ireturn, 1) := by decide +kernel
theorem dX9_ship_125 : decode cX9_ship 125 = .ok (.aload_n 0, 1) := by decide +kernel
theorem dX9_ship_126 : decode cX9_ship 126 = .ok (.iload_n 1, 1) := by decide +kernel
theorem dX9_ship_127 : decode cX9_ship 127 = .ok (.invokevirtual 328, 3) := by decide +kernel
theorem dX9_ship_130 : decode cX9_ship 130 = .ok (.ireturn, 1) := by decide +kernel
theorem dX9_ship_131 : decode cX9_ship 131 = .ok (.iconst (-1), 1) := by decide +kernel
theorem dX9_ship_132 : decode cX9_ship 132 = .ok (.ireturn, 1) := by decide +kernel
theorem ydX9_ship : z_yd yX9_ship 2 := ⟨by decide, by decide, by decide +kernel⟩
abbrev rmX9_ship : Room := { frames := 2, cells := 0, slots := 0, locals := 45 }
noncomputable def xX9_ship (l0 : Nat) (l1 : Int32) (l2 : Int32) (h : ZH) : Option (Int32 × ZH) := (z_gu (z_is h l0 9) ((xX9_isShip l0 l1 h).bind fun r2 => (if r2.1 = 0 then some ((-1 : Int32), r2.2) else (if l2 = 0 then ((z_gR r2.2 l0 9 41).bind fun x57 => ((z_aI r2.2 x57 ((0 : Int32) + l1)).bind fun x63 => some (x63, r2.2))) else (if l2 = 1 then ((z_gR r2.2 l0 9 41).bind fun x66 => ((z_aI r2.2 x66 ((6 : Int32) + l1)).bind fun x73 => some (x73, r2.2))) else (if l2 = 2 then ((z_gR r2.2 l0 9 41).bind fun x76 => ((z_aI r2.2 x76 ((12 : Int32) + l1)).bind fun x83 => some (x83, r2.2))) else (if l2 = 3 then ((z_gR r2.2 l0 9 41).bind fun x86 => ((z_aI r2.2 x86 ((18 : Int32) + l1)).bind fun x93 => some (x93, r2.2))) else (if l2 = 4 then (z_gu (z_is r2.2 l0 9) ((xX9_speedOf l0 l1 r2.2).bind fun r97 => some (r97.1, r97.2))) else (if l2 = 5 then (z_gu (z_is r2.2 l0 9) ((xX9_isOn l0 l1 r2.2).bind fun r103 => (if r103.1 = 0 then some ((0 : Int32), r103.2) else some ((1 : Int32), r103.2)))) else (if l2 = 6 then ((z_gR r2.2 l0 9 41).bind fun x116 => ((z_aI r2.2 x116 ((24 : Int32) + l1)).bind fun x123 => some (x123, r2.2))) else (if l2 = 7 then (z_gu (z_is r2.2 l0 9) ((xX9_heardOf l0 l1 r2.2).bind fun r127 => some (r127.1, r127.2))) else some ((-1 : Int32), r2.2))))))))))))
set_option maxHeartbeats 4000000 in
set_option maxRecDepth 100000 in
theorem lX9_ship {Γ : ZG} {l : Launch} (hO : z_OK Γ) {l0 : Nat} {l1 : Int32} {l2 : Int32} {h : ZH} {r : (Int32 × ZH)} (hX : xX9_ship l0 l1 l2 h = some r) : z_M Γ l yX9_ship (z_ws1 yX9_ship cX9_ship 3 (some .int)) rmX9_ship [.ref l0, .int l1, .int l2] h (some (.int r.1)) r.2 := by
  refine z_start hO (plainFor_of_name (by decide)) (Nat.le_of_ble_eq_true rfl) ?_
  intro p e s m args below meth c G hr hnm
  refine z_lvc (lv2 := [(0, .ref l0), (1, .int l1), (2, .int l2)]) rfl ?_
  refine z_aload_n (pc := 0) G 0 dX9_ship_0 rfl rfl ?_
  refine z_iload_n (pc := 1) G 1 dX9_ship_1 rfl rfl ?_
  obtain ⟨hi2, hX⟩ := z_gu_s hX
  obtain ⟨r2, hv2, hX⟩ := z_bd hX
  refine z_cVI (pc := 2) (As := [.int l1]) (c2 := 0) (s2 := 0) G kK9 (lX9_isShip hO hv2) hi2 kt_1556 kt_11 kt_1553 kt_1555 ks_62 ydX9_isShip ⟨by decide, by decide⟩ rfl (Nat.le_of_ble_eq_true rfl) ⟨rfl, rfl⟩ ⟨by decide, by decide⟩ rfl dX9_ship_2 ?_
  refine z_if_ne (pc := 5) (tgt := 10) G dX9_ship_5 (by decide) (fun hc5 => ?_) (fun hc5 => ?_)
  · have hX := z_if hc5 hX
    refine z_iload_n (pc := 10) G 2 dX9_ship_10 rfl rfl ?_
    by_cases hs11_0 : l2 = 0
    · have hX := z_it hs11_0 hX
      refine z_tableIn (pc := 11) (off := 45) (tgt := 56) G dX9_ship_11 (by rw [hs11_0]; decide) (by rw [hs11_0]; decide) (by rw [hs11_0]; decide) (by decide) ?_
      refine z_aload_n (pc := 56) G 0 dX9_ship_56 rfl rfl ?_
      obtain ⟨x57, hv57, hX⟩ := z_bd hX
      refine z_getR (pc := 57) G kK9 (k := 41) (by decide) kt_1267 dX9_ship_57 hv57 ?_
      refine z_iconst (pc := 60) (v := 0) G dX9_ship_60 (by decide) ?_
      refine z_iload_n (pc := 61) G 1 dX9_ship_61 rfl rfl ?_
      refine z_iadd (pc := 62) G dX9_ship_62 ?_
      obtain ⟨x63, hv63, hX⟩ := z_bd hX
      refine z_iald (pc := 63) G dX9_ship_63 hv63 ?_
      exact z_iretX (pc := 64) hX G hr dX9_ship_64 (by decide) (by decide)
    have hX := z_if hs11_0 hX
    by_cases hs11_1 : l2 = 1
    · have hX := z_it hs11_1 hX
      refine z_tableIn (pc := 11) (off := 54) (tgt := 65) G dX9_ship_11 (by rw [hs11_1]; decide) (by rw [hs11_1]; decide) (by rw [hs11_1]; decide) (by decide) ?_
      refine z_aload_n (pc := 65) G 0 dX9_ship_65 rfl rfl ?_
      obtain ⟨x66, hv66, hX⟩ := z_bd hX
      refine z_getR (pc := 66) G kK9 (k := 41) (by decide) kt_1267 dX9_ship_66 hv66 ?_
      refine z_bipush (pc := 69) (v := 6) G dX9_ship_69 (by decide) ?_
      refine z_iload_n (pc := 71) G 1 dX9_ship_71 rfl rfl ?_
      refine z_iadd (pc := 72) G dX9_ship_72 ?_
      obtain ⟨x73, hv73, hX⟩ := z_bd hX
      refine z_iald (pc := 73) G dX9_ship_73 hv73 ?_
      exact z_iretX (pc := 74) hX G hr dX9_ship_74 (by decide) (by decide)
    have hX := z_if hs11_1 hX
    by_cases hs11_2 : l2 = 2
    · have hX := z_it hs11_2 hX
      refine z_tableIn (pc := 11) (off := 64) (tgt := 75) G dX9_ship_11 (by rw [hs11_2]; decide) (by rw [hs11_2]; decide) (by rw [hs11_2]; decide) (by decide) ?_
      refine z_aload_n (pc := 75) G 0 dX9_ship_75 rfl rfl ?_
      obtain ⟨x76, hv76, hX⟩ := z_bd hX
      refine z_getR (pc := 76) G kK9 (k := 41) (by decide) kt_1267 dX9_ship_76 hv76 ?_
      refine z_bipush (pc := 79) (v := 12) G dX9_ship_79 (by decide) ?_
      refine z_iload_n (pc := 81) G 1 dX9_ship_81 rfl rfl ?_
      refine z_iadd (pc := 82) G dX9_ship_82 ?_
      obtain ⟨x83, hv83, hX⟩ := z_bd hX
      refine z_iald (pc := 83) G dX9_ship_83 hv83 ?_
      exact z_iretX (pc := 84) hX G hr dX9_ship_84 (by decide) (by decide)
    have hX := z_if hs11_2 hX
    by_cases hs11_3 : l2 = 3
    · have hX := z_it hs11_3 hX
      refine z_tableIn (pc := 11) (off := 74) (tgt := 85) G dX9_ship_11 (by rw [hs11_3]; decide) (by rw [hs11_3]; decide) (by rw [hs11_3]; decide) (by decide) ?_
      refine z_aload_n (pc := 85) G 0 dX9_ship_85 rfl rfl ?_
      obtain ⟨x86, hv86, hX⟩ := z_bd hX
      refine z_getR (pc := 86) G kK9 (k := 41) (by decide) kt_1267 dX9_ship_86 hv86 ?_
      refine z_bipush (pc := 89) (v := 18) G dX9_ship_89 (by decide) ?_
      refine z_iload_n (pc := 91) G 1 dX9_ship_91 rfl rfl ?_
      refine z_iadd (pc := 92) G dX9_ship_92 ?_
      obtain ⟨x93, hv93, hX⟩ := z_bd hX
      refine z_iald (pc := 93) G dX9_ship_93 hv93 ?_
      exact z_iretX (pc := 94) hX G hr dX9_ship_94 (by decide) (by decide)
    have hX := z_if hs11_3 hX
    by_cases hs11_4 : l2 = 4
    · have hX := z_it hs11_4 hX
      refine z_tableIn (pc := 11) (off := 84) (tgt := 95) G dX9_ship_11 (by rw [hs11_4]; decide) (by rw [hs11_4]; decide) (by rw [hs11_4]; decide) (by decide) ?_
      refine z_aload_n (pc := 95) G 0 dX9_ship_95 rfl rfl ?_
      refine z_iload_n (pc := 96) G 1 dX9_ship_96 rfl rfl ?_
      obtain ⟨hi97, hX⟩ := z_gu_s hX
      obtain ⟨r97, hv97, hX⟩ := z_bd hX
      refine z_cVI (pc := 97) (As := [.int l1]) (c2 := 0) (s2 := 0) G kK9 (lX9_speedOf hO hv97) hi97 kt_1563 kt_11 kt_1560 kt_1562 ks_63 ydX9_speedOf ⟨by decide, by decide⟩ rfl (Nat.le_of_ble_eq_true rfl) ⟨rfl, rfl⟩ ⟨by decide, by decide⟩ rfl dX9_ship_97 ?_
      exact z_iretX (pc := 100) hX G hr dX9_ship_100 (by decide) (by decide)
    have hX := z_if hs11_4 hX
    by_cases hs11_5 : l2 = 5
    · have hX := z_it hs11_5 hX
      refine z_tableIn (pc := 11) (off := 90) (tgt := 101) G dX9_ship_11 (by rw [hs11_5]; decide) (by rw [hs11_5]; decide) (by rw [hs11_5]; decide) (by decide) ?_
      refine z_aload_n (pc := 101) G 0 dX9_ship_101 rfl rfl ?_
      refine z_iload_n (pc := 102) G 1 dX9_ship_102 rfl rfl ?_
      obtain ⟨hi103, hX⟩ := z_gu_s hX
      obtain ⟨r103, hv103, hX⟩ := z_bd hX
      refine z_cVI (pc := 103) (As := [.int l1]) (c2 := 0) (s2 := 0) G kK9 (lX9_isOn hO hv103) hi103 kt_1567 kt_11 kt_1564 kt_1566 ks_64 ydX9_isOn ⟨by decide, by decide⟩ rfl (Nat.le_of_ble_eq_true rfl) ⟨rfl, rfl⟩ ⟨by decide, by decide⟩ rfl dX9_ship_103 ?_
      refine z_if_eq (pc := 106) (tgt := 113) G dX9_ship_106 (by decide) (fun hc106 => ?_) (fun hc106 => ?_)
      · have hX := z_it hc106 hX
        refine z_iconst (pc := 113) (v := 0) G dX9_ship_113 (by decide) ?_
        exact z_iretX (pc := 114) hX G hr dX9_ship_114 (by decide) (by decide)
      · have hX := z_if hc106 hX
        refine z_iconst (pc := 109) (v := 1) G dX9_ship_109 (by decide) ?_
        refine z_goto (pc := 110) (tgt := 114) G dX9_ship_110 (by decide) ?_
        exact z_iretX (pc := 114) hX G hr dX9_ship_114 (by decide) (by decide)
    have hX := z_if hs11_5 hX
    by_cases hs11_6 : l2 = 6
    · have hX := z_it hs11_6 hX
      refine z_tableIn (pc := 11) (off := 104) (tgt := 115) G dX9_ship_11 (by rw [hs11_6]; decide) (by rw [hs11_6]; decide) (by rw [hs11_6]; decide) (by decide) ?_
      refine z_aload_n (pc := 115) G 0 dX9_ship_115 rfl rfl ?_
      obtain ⟨x116, hv116, hX⟩ := z_bd hX
      refine z_getR (pc := 116) G kK9 (k := 41) (by decide) kt_1267 dX9_ship_116 hv116 ?_
      refine z_bipush (pc := 119) (v := 24) G dX9_ship_119 (by decide) ?_
      refine z_iload_n (pc := 121) G 1 dX9_ship_121 rfl rfl ?_
      refine z_iadd (pc := 122) G dX9_ship_122 ?_
      obtain ⟨x123, hv123, hX⟩ := z_bd hX
      refine z_iald (pc := 123) G dX9_ship_123 hv123 ?_
      exact z_iretX (pc := 124) hX G hr dX9_ship_124 (by decide) (by decide)
    have hX := z_if hs11_6 hX
    by_cases hs11_7 : l2 = 7
    · have hX := z_it hs11_7 hX
      refine z_tableIn (pc := 11) (off := 114) (tgt := 125) G dX9_ship_11 (by rw [hs11_7]; decide) (by rw [hs11_7]; decide) (by rw [hs11_7]; decide) (by decide) ?_
      refine z_aload_n (pc := 125) G 0 dX9_ship_125 rfl rfl ?_
      refine z_iload_n (pc := 126) G 1 dX9_ship_126 rfl rfl ?_
      obtain ⟨hi127, hX⟩ := z_gu_s hX
      obtain ⟨r127, hv127, hX⟩ := z_bd hX
      refine z_cVI (pc := 127) (As := [.int l1]) (c2 := 0) (s2 := 0) G kK9 (lX9_heardOf hO hv127) hi127 kt_1571 kt_11 kt_1568 kt_1570 ks_65 ydX9_heardOf ⟨by decide, by decide⟩ rfl (Nat.le_of_ble_eq_true rfl) ⟨rfl, rfl⟩ ⟨by decide, by decide⟩ rfl dX9_ship_127 ?_
      exact z_iretX (pc := 130) hX G hr dX9_ship_130 (by decide) (by decide)
    have hX := z_if hs11_7 hX
    refine z_tableOut (pc := 11) (tgt := 131) G dX9_ship_11 (z_tout 8 (by decide) (fun j hj => by
      rcases (show j = 0 ∨ j = 1 ∨ j = 2 ∨ j = 3 ∨ j = 4 ∨ j = 5 ∨ j = 6 ∨ j = 7 by omega) with rfl | rfl | rfl | rfl | rfl | rfl | rfl | rfl
      · exact fun z => hs11_0 (z.trans (by decide))
      · exact fun z => hs11_1 (z.trans (by decide))
      · exact fun z => hs11_2 (z.trans (by decide))
      · exact fun z => hs11_3 (z.trans (by decide))
      · exact fun z => hs11_4 (z.trans (by decide))
      · exact fun z => hs11_5 (z.trans (by decide))
      · exact fun z => hs11_6 (z.trans (by decide))
      · exact fun z => hs11_7 (z.trans (by decide)))) (by decide) ?_
    refine z_iconst (pc := 131) (v := (-1)) G dX9_ship_131 (by decide) ?_
    exact z_iretX (pc := 132) hX G hr dX9_ship_132 (by decide) (by decide)
  · have hX := z_it hc5 hX
    refine z_iconst (pc := 8) (v := (-1)) G dX9_ship_8 (by decide) ?_
    exact z_iretX (pc := 9) hX G hr dX9_ship_9 (by decide) (by decide)
