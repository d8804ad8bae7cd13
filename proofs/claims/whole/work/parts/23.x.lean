theorem dX9_clashes_0 : decode cX9_clashes 0 = .ok (.iload_n 1, 1) := by decide +kernel
theorem dX9_clashes_1 : decode cX9_clashes 1 = .ok (.iconst 0, 1) := by decide +kernel
theorem dX9_clashes_2 : decode cX9_clashes 2 = .ok (.bipush 90, 2) := by decide +kernel
theorem dX9_clashes_4 : decode cX9_clashes 4 = .ok (.invokestatic 340, 3) := by decide +kernel
theorem dX9_clashes_7 : decode cX9_clashes 7 = .ok (.ifCond .ne 5, 3) := by decide +kernel
theorem dX9_clashes_10 : decode cX9_clashes 10 = .ok (.iconst (-1), 1) := by decide +kernel
theorem dX9_clashes_11 : decode cX9_clashes 11 = .ok (.ireturn, 1) := by decide +kernel
theorem dX9_clashes_12 : decode cX9_clashes 12 = .ok (.aload_n 0, 1) := by decide +kernel
theorem dX9_clashes_13 : decode cX9_clashes 13 = .ok (.invokevirtual 471, 3) := by decide +kernel
theorem dX9_clashes_16 : decode cX9_clashes 16 = .ok (.aload_n 0, 1) := by decide +kernel
theorem dX9_clashes_17 : decode cX9_clashes 17 = .ok (.iload_n 1, 1) := by decide +kernel
theorem dX9_clashes_18 : decode cX9_clashes 18 = .ok (.invokevirtual 477, 3) := by decide +kernel
theorem dX9_clashes_21 : decode cX9_clashes 21 = .ok (.aload_n 0, 1) := by decide +kernel
theorem dX9_clashes_22 : decode cX9_clashes 22 = .ok (.getfield 91, 3) := by decide +kernel
theorem dX9_clashes_25 : decode cX9_clashes 25 = .ok (.sipush 520, 3) := by decide +kernel
theorem dX9_clashes_28 : decode cX9_clashes 28 = .ok (.iaload, 1) := by decide +kernel
theorem dX9_clashes_29 : decode cX9_clashes 29 = .ok (.istore_n 2, 1) := by decide +kernel
theorem dX9_clashes_30 : decode cX9_clashes 30 = .ok (.aload_n 0, 1) := by decide +kernel
theorem dX9_clashes_31 : decode cX9_clashes 31 = .ok (.invokevirtual 474, 3) := by decide +kernel
theorem dX9_clashes_34 : decode cX9_clashes 34 = .ok (.iload_n 2, 1) := by decide +kernel
theorem dX9_clashes_35 : decode cX9_clashes 35 = .ok (.aload_n 0, 1) := by decide +kernel
theorem dX9_clashes_36 : decode cX9_clashes 36 = .ok (.getfield 91, 3) := by decide +kernel
theorem dX9_clashes_39 : decode cX9_clashes 39 = .ok (.sipush 520, 3) := by decide +kernel
theorem dX9_clashes_42 : decode cX9_clashes 42 = .ok (.iaload, 1) := by decide +kernel
theorem dX9_clashes_43 : decode cX9_clashes 43 = .ok (.isub, 1) := by decide +kernel
theorem dX9_clashes_44 : decode cX9_clashes 44 = .ok (.ireturn, 1) := by decide +kernel
theorem ydX9_clashes : z_yd yX9_clashes 1 := ⟨by decide, by decide, by decide +kernel⟩
abbrev rmX9_clashes : Room := { frames := 9, cells := 0, slots := 0, locals := 213 }
noncomputable def xX9_clashes (l0 : Nat) (l1 : Int32) (h : ZH) : Option (Int32 × ZH) := ((xX9_isIn l1 (0 : Int32) (90 : Int32) h).bind fun r4 => (if r4.1 = 0 then some ((-1 : Int32), r4.2) else (z_gu (z_is r4.2 l0 9) ((xX9_keepNow l0 r4.2).bind fun h13 => (z_gu (z_is h13 l0 9) ((xX9_goSteps l0 l1 h13).bind fun h18 => ((z_gR h18 l0 9 41).bind fun x22 => ((z_aI h18 x22 (520 : Int32)).bind fun x28 => (z_gu (z_is h18 l0 9) ((xX9_bringBack l0 h18).bind fun h31 => ((z_gR h31 l0 9 41).bind fun x36 => ((z_aI h31 x36 (520 : Int32)).bind fun x42 => some ((x28 - x42), h31)))))))))))))
set_option maxHeartbeats 4000000 in
set_option maxRecDepth 100000 in
theorem lX9_clashes {Γ : ZG} {l : Launch} (hO : z_OK Γ) {l0 : Nat} {l1 : Int32} {h : ZH} {r : (Int32 × ZH)} (hX : xX9_clashes l0 l1 h = some r) : z_M Γ l yX9_clashes (z_ws1 yX9_clashes cX9_clashes 3 (some .int)) rmX9_clashes [.ref l0, .int l1] h (some (.int r.1)) r.2 := by
  refine z_start hO (plainFor_of_name (by decide)) (Nat.le_of_ble_eq_true rfl) ?_
  intro p e s m args below meth c G hr hnm
  refine z_lvc (lv2 := [(0, .ref l0), (1, .int l1)]) rfl ?_
  refine z_iload_n (pc := 0) G 1 dX9_clashes_0 rfl rfl ?_
  refine z_iconst (pc := 1) (v := 0) G dX9_clashes_1 (by decide) ?_
  refine z_bipush (pc := 2) (v := 90) G dX9_clashes_2 (by decide) ?_
  obtain ⟨r4, hv4, hX⟩ := z_bd hX
  refine z_cSI (pc := 4) (As := [.int l1, .int (0 : Int32), .int (90 : Int32)]) (c2 := 0) (s2 := 0) G (lX9_isIn hO hv4) kt_1559 kt_11 kt_1557 kt_1558 ydX9_isIn ⟨by decide, by decide⟩ rfl (Nat.le_of_ble_eq_true rfl) ⟨rfl, rfl⟩ ⟨by decide, by decide⟩ rfl dX9_clashes_4 ?_
  refine z_if_ne (pc := 7) (tgt := 12) G dX9_clashes_7 (by decide) (fun hc7 => ?_) (fun hc7 => ?_)
  · have hX := z_if hc7 hX
    refine z_aload_n (pc := 12) G 0 dX9_clashes_12 rfl rfl ?_
    obtain ⟨hi13, hX⟩ := z_gu_s hX
    obtain ⟨h13, hv13, hX⟩ := z_bd hX
    refine z_cVV (pc := 13) (As := []) (c2 := 0) (s2 := 0) G kK9 (lX9_keepNow hO hv13) hi13 kt_1803 kt_11 kt_1800 kt_1802 ks_97 ydX9_keepNow ⟨by decide, by decide⟩ rfl (Nat.le_of_ble_eq_true rfl) ⟨rfl, rfl⟩ ⟨by decide, by decide⟩ rfl dX9_clashes_13 ?_
    refine z_aload_n (pc := 16) G 0 dX9_clashes_16 rfl rfl ?_
    refine z_iload_n (pc := 17) G 1 dX9_clashes_17 rfl rfl ?_
    obtain ⟨hi18, hX⟩ := z_gu_s hX
    obtain ⟨h18, hv18, hX⟩ := z_bd hX
    refine z_cVV (pc := 18) (As := [.int l1]) (c2 := 0) (s2 := 0) G kK9 (lX9_goSteps hO hv18) hi18 kt_1815 kt_11 kt_1812 kt_1814 ks_99 ydX9_goSteps ⟨by decide, by decide⟩ rfl (Nat.le_of_ble_eq_true rfl) ⟨rfl, rfl⟩ ⟨by decide, by decide⟩ rfl dX9_clashes_18 ?_
    refine z_aload_n (pc := 21) G 0 dX9_clashes_21 rfl rfl ?_
    obtain ⟨x22, hv22, hX⟩ := z_bd hX
    refine z_getR (pc := 22) G kK9 (k := 41) (by decide) kt_1267 dX9_clashes_22 hv22 ?_
    refine z_sipush (pc := 25) (v := 520) G dX9_clashes_25 (by decide) ?_
    obtain ⟨x28, hv28, hX⟩ := z_bd hX
    refine z_iald (pc := 28) G dX9_clashes_28 hv28 ?_
    refine z_istore_n (pc := 29) (lv2 := [(0, .ref l0), (1, .int l1), (2, .int x28)]) G dX9_clashes_29 rfl (by decide) rfl rfl ?_
    refine z_aload_n (pc := 30) G 0 dX9_clashes_30 rfl rfl ?_
    obtain ⟨hi31, hX⟩ := z_gu_s hX
    obtain ⟨h31, hv31, hX⟩ := z_bd hX
    refine z_cVV (pc := 31) (As := []) (c2 := 0) (s2 := 0) G kK9 (lX9_bringBack hO hv31) hi31 kt_1807 kt_11 kt_1804 kt_1806 ks_98 ydX9_bringBack ⟨by decide, by decide⟩ rfl (Nat.le_of_ble_eq_true rfl) ⟨rfl, rfl⟩ ⟨by decide, by decide⟩ rfl dX9_clashes_31 ?_
    refine z_iload_n (pc := 34) G 2 dX9_clashes_34 rfl rfl ?_
    refine z_aload_n (pc := 35) G 0 dX9_clashes_35 rfl rfl ?_
    obtain ⟨x36, hv36, hX⟩ := z_bd hX
    refine z_getR (pc := 36) G kK9 (k := 41) (by decide) kt_1267 dX9_clashes_36 hv36 ?_
    refine z_sipush (pc := 39) (v := 520) G dX9_clashes_39 (by decide) ?_
    obtain ⟨x42, hv42, hX⟩ := z_bd hX
    refine z_iald (pc := 42) G dX9_clashes_42 hv42 ?_
    refine z_isub (pc := 43) G dX9_clashes_43 ?_
    exact z_iretX (pc := 44) hX G hr dX9_clashes_44 (by decide) (by decide)
  · have hX := z_it hc7 hX
    refine z_iconst (pc := 10) (v := (-1)) G dX9_clashes_10 (by decide) ?_
    exact z_iretX (pc := 11) hX G hr dX9_clashes_11 (by decide) (by decide)
theorem dX9_hiddenBy_0 : decode cX9_hiddenBy 0 = .ok (.iload_n 1, 1) := by decide +kernel
theorem dX9_hiddenBy_1 : decode cX9_hiddenBy 1 = .ok (.iload_n 2, 1) := by decide +kernel
theorem dX9_hiddenBy_2 : decode cX9_hiddenBy 2 = .ok (.if_icmp .eq 28, 3) := by decide +kernel
theorem dX9_hiddenBy_5 : decode cX9_hiddenBy 5 = .ok (.aload_n 0, 1) := by decide +kernel
theorem dX9_hiddenBy_6 : decode cX9_hiddenBy 6 = .ok (.iload_n 1, 1) := by decide +kernel
theorem dX9_hiddenBy_7 : decode cX9_hiddenBy 7 = .ok (.invokevirtual 347, 3) := by decide +kernel
theorem dX9_hiddenBy_10 : decode cX9_hiddenBy 10 = .ok (.ifCond .eq 20, 3) := by decide +kernel
theorem dX9_hiddenBy_13 : decode cX9_hiddenBy 13 = .ok (.aload_n 0, 1) := by decide +kernel
theorem dX9_hiddenBy_14 : decode cX9_hiddenBy 14 = .ok (.iload_n 2, 1) := by decide +kernel
theorem dX9_hiddenBy_15 : decode cX9_hiddenBy 15 = .ok (.invokevirtual 347, 3) := by decide +kernel
theorem dX9_hiddenBy_18 : decode cX9_hiddenBy 18 = .ok (.ifCond .eq 12, 3) := by decide +kernel
theorem dX9_hiddenBy_21 : decode cX9_hiddenBy 21 = .ok (.aload_n 0, 1) := by decide +kernel
theorem dX9_hiddenBy_22 : decode cX9_hiddenBy 22 = .ok (.iload_n 1, 1) := by decide +kernel
theorem dX9_hiddenBy_23 : decode cX9_hiddenBy 23 = .ok (.iload_n 2, 1) := by decide +kernel
theorem dX9_hiddenBy_24 : decode cX9_hiddenBy 24 = .ok (.invokevirtual 431, 3) := by decide +kernel
theorem dX9_hiddenBy_27 : decode cX9_hiddenBy 27 = .ok (.ifCond .eq 5, 3) := by decide +kernel
theorem dX9_hiddenBy_30 : decode cX9_hiddenBy 30 = .ok (.iconst 0, 1) := by decide +kernel
theorem dX9_hiddenBy_31 : decode cX9_hiddenBy 31 = .ok (.ireturn, 1) := by decide +kernel
theorem dX9_hiddenBy_32 : decode cX9_hiddenBy 32 = .ok (.iconst 0, 1) := by decide +kernel
theorem dX9_hiddenBy_33 : decode cX9_hiddenBy 33 = .ok (.istore_n 3, 1) := by decide +kernel
theorem dX9_hiddenBy_34 : decode cX9_hiddenBy 34 = .ok (.iconst 0, 1) := by decide +kernel
theorem dX9_hiddenBy_35 : decode cX9_hiddenBy 35 = .ok (.istore 4, 2) := by decide +kernel
theorem dX9_hiddenBy_37 : decode cX9_hiddenBy 37 = .ok (.iload 4, 2) := by decide +kernel
theorem dX9_hiddenBy_39 : decode cX9_hiddenBy 39 = .ok (.aload_n 0, 1) := by decide +kernel
theorem dX9_hiddenBy_40 : decode cX9_hiddenBy 40 = .ok (.invokevirtual 337, 3) := by decide +kernel
theorem dX9_hiddenBy_43 : decode cX9_hiddenBy 43 = .ok (.if_icmp .ge 45, 3) := by decide +kernel
theorem dX9_hiddenBy_46 : decode cX9_hiddenBy 46 = .ok (.aload_n 0, 1) := by decide +kernel
theorem dX9_hiddenBy_47 : decode cX9_hiddenBy 47 = .ok (.iload 4, 2) := by decide +kernel
theorem dX9_hiddenBy_49 : decode cX9_hiddenBy 49 = .ok (.invokevirtual 347, 3) := by decide +kernel
theorem dX9_hiddenBy_52 : decode cX9_hiddenBy 52 = .ok (.ifCond .eq 30, 3) := by decide +kernel
theorem dX9_hiddenBy_55 : decode cX9_hiddenBy 55 = .ok (.aload_n 0, 1) := by decide +kernel
theorem dX9_hiddenBy_56 : decode cX9_hiddenBy 56 = .ok (.iload_n 1, 1) := by decide +kernel
theorem dX9_hiddenBy_57 : decode cX9_hiddenBy 57 = .ok (.iload 4, 2) := by decide +kernel
theorem dX9_hiddenBy_59 : decode cX9_hiddenBy 59 = .ok (.invokevirtual 431, 3) := by decide +kernel
theorem dX9_hiddenBy_62 : decode cX9_hiddenBy 62 = .ok (.ifCond .eq 20, 3) := by decide +kernel
theorem dX9_hiddenBy_65 : decode cX9_hiddenBy 65 = .ok (.aload_n 0, 1) := by decide +kernel
theorem dX9_hiddenBy_66 : decode cX9_hiddenBy 66 = .ok (.iload_n 2, 1) := by decide +kernel
theorem dX9_hiddenBy_67 : decode cX9_hiddenBy 67 = .ok (.iload 4, 2) := by decide +kernel
theorem dX9_hiddenBy_69 : decode cX9_hiddenBy 69 = .ok (.invokevirtual 431, 3) := by decide +kernel
theorem dX9_hiddenBy_72 : decode cX9_hiddenBy 72 = .ok (.ifCond .eq 10, 3) := by decide +kernel
theorem dX9_hiddenBy_75 : decode cX9_hiddenBy 75 = .ok (.iload_n 3, 1) := by decide +kernel
theorem dX9_hiddenBy_76 : decode cX9_hiddenBy 76 = .ok (.iconst 1, 1) := by decide +kernel
theorem dX9_hiddenBy_77 : decode cX9_hiddenBy 77 = .ok (.iload 4, 2) := by decide +kernel
theorem dX9_hiddenBy_79 : decode cX9_hiddenBy 79 = .ok (.ishl, 1) := by decide +kernel
theorem dX9_hiddenBy_80 : decode cX9_hiddenBy 80 = .ok (.ior, 1) := by decide +kernel
theorem dX9_hiddenBy_81 : decode cX9_hiddenBy 81 = .ok (.istore_n 3, 1) := by decide +kernel
theorem dX9_hiddenBy_82 : decode cX9_hiddenBy 82 = .ok (.iinc 4 1, 3) := by decide +kernel
theorem dX9_hiddenBy_85 : decode cX9_hiddenBy 85 = .ok (.goto (-48), 3) := by decide +kernel
theorem dX9_hiddenBy_88 : decode cX9_hiddenBy 88 = .ok (.iload_n 3, 1) := by decide +kernel
theorem dX9_hiddenBy_89 : decode cX9_hiddenBy 89 = .ok (.ireturn, 1) := by decide +kernel
theorem ydX9_hiddenBy : z_yd yX9_hiddenBy 2 := ⟨by decide, by decide, by decide +kernel⟩
abbrev rmX9_hiddenBy : Room := { frames := 3, cells := 0, slots := 0, locals := 64 }
noncomputable def xX9_hiddenBy_B37 (r37 : Nat → Int32 → Int32 → Int32 → Int32 → ZH → Option (Int32 × ZH)) (l0 : Nat) (l1 : Int32) (l2 : Int32) (l3 : Int32) (l4 : Int32) (h : ZH) : Option (Int32 × ZH) := (z_gu (z_is h l0 9) ((xX9_lots l0 h).bind fun r40 => (if r40.1 ≤ l4 then some (l3, r40.2) else (z_gu (z_is r40.2 l0 9) ((xX9_isOn l0 l4 r40.2).bind fun r49 => (if r49.1 = 0 then r37 l0 l1 l2 l3 (l4 + 1) r49.2 else (z_gu (z_is r49.2 l0 9) ((xX9_doHear l0 l1 l4 r49.2).bind fun r59 => (if r59.1 = 0 then r37 l0 l1 l2 l3 (l4 + 1) r59.2 else (z_gu (z_is r59.2 l0 9) ((xX9_doHear l0 l2 l4 r59.2).bind fun r69 => (if r69.1 = 0 then r37 l0 l1 l2 l3 (l4 + 1) r69.2 else r37 l0 l1 l2 (l3 ||| ((1 : Int32) <<< (l4 &&& 31))) (l4 + 1) r69.2))))))))))))
noncomputable def xX9_hiddenBy_L37 (n : Nat) : Nat → Int32 → Int32 → Int32 → Int32 → ZH → Option (Int32 × ZH) := Nat.rec (motive := fun _ => Nat → Int32 → Int32 → Int32 → Int32 → ZH → Option (Int32 × ZH)) (fun _ _ _ _ _ _ => none) (fun _ rec => xX9_hiddenBy_B37  rec) n
set_option maxHeartbeats 4000000 in
set_option maxRecDepth 100000 in
theorem wX9_hiddenBy_B37 {Γ : ZG} {p : Program} {l : Launch} {e : Env} {s : State} {m : MethodId} {args : Array Value} {below : List Frame} {meth : Method} {c : Code} (hO : z_OK Γ) (G : z_GG Γ p s m args meth c cX9_hiddenBy 5 RX9) (hr : meth.sig.returnType = (some .int)) (hnm : meth.name = "hiddenBy") {r : (Int32 × ZH)} {r37 : Nat → Int32 → Int32 → Int32 → Int32 → ZH → Option (Int32 × ZH)} (H37 : ∀ (l0 : Nat) (l1 : Int32) (l2 : Int32) (l3 : Int32) (l4 : Int32) (h : ZH), r37 l0 l1 l2 l3 l4 h = some r → z_W Γ p l e rmX9_hiddenBy s m args below meth c 5 0 0 (MQ below (z_Qc Γ (some (.int r.1)) r.2) args s rmX9_hiddenBy.cells rmX9_hiddenBy.slots (z_A Γ)) 37 [(0, .ref l0), (1, .int l1), (2, .int l2), (3, .int l3), (4, .int l4)] [] h) : ∀ (l0 : Nat) (l1 : Int32) (l2 : Int32) (l3 : Int32) (l4 : Int32) (h : ZH), xX9_hiddenBy_B37  r37 l0 l1 l2 l3 l4 h = some r → z_W Γ p l e rmX9_hiddenBy s m args below meth c 5 0 0 (MQ below (z_Qc Γ (some (.int r.1)) r.2) args s rmX9_hiddenBy.cells rmX9_hiddenBy.slots (z_A Γ)) 37 [(0, .ref l0), (1, .int l1), (2, .int l2), (3, .int l3), (4, .int l4)] [] h := by
  intro l0 l1 l2 l3 l4 h hX
  refine z_iload (pc := 37) G 4 dX9_hiddenBy_37 rfl ?_
  refine z_aload_n (pc := 39) G 0 dX9_hiddenBy_39 rfl rfl ?_
  obtain ⟨hi40, hX⟩ := z_gu_s hX
  obtain ⟨r40, hv40, hX⟩ := z_bd hX
  refine z_cVI (pc := 40) (As := []) (c2 := 0) (s2 := 0) G kK9 (lX9_lots hO hv40) hi40 kt_1221 kt_11 kt_1218 kt_1220 ks_36 ydX9_lots ⟨by decide, by decide⟩ rfl (Nat.le_of_ble_eq_true rfl) ⟨rfl, rfl⟩ ⟨by decide, by decide⟩ rfl dX9_hiddenBy_40 ?_
  refine z_icmp_ge (pc := 43) (tgt := 88) G dX9_hiddenBy_43 (by decide) (fun hc43 => ?_) (fun hc43 => ?_)
  · have hX := z_it hc43 hX
    refine z_iload_n (pc := 88) G 3 dX9_hiddenBy_88 rfl rfl ?_
    exact z_iretX (pc := 89) hX G hr dX9_hiddenBy_89 (by decide) (by decide)
  · have hX := z_if hc43 hX
    refine z_aload_n (pc := 46) G 0 dX9_hiddenBy_46 rfl rfl ?_
    refine z_iload (pc := 47) G 4 dX9_hiddenBy_47 rfl ?_
    obtain ⟨hi49, hX⟩ := z_gu_s hX
    obtain ⟨r49, hv49, hX⟩ := z_bd hX
    refine z_cVI (pc := 49) (As := [.int l4]) (c2 := 0) (s2 := 0) G kK9 (lX9_isOn hO hv49) hi49 kt_1567 kt_11 kt_1564 kt_1566 ks_64 ydX9_isOn ⟨by decide, by decide⟩ rfl (Nat.le_of_ble_eq_true rfl) ⟨rfl, rfl⟩ ⟨by decide, by decide⟩ rfl dX9_hiddenBy_49 ?_
    refine z_if_eq (pc := 52) (tgt := 82) G dX9_hiddenBy_52 (by decide) (fun hc52 => ?_) (fun hc52 => ?_)
    · have hX := z_it hc52 hX
      refine z_iincw (pc := 82) (w := 1) (lv2 := [(0, .ref l0), (1, .int l1), (2, .int l2), (3, .int l3), (4, .int (l4 + 1))]) G 4 dX9_hiddenBy_82 rfl (by decide) (by decide) rfl rfl ?_
      refine z_goto (pc := 85) (tgt := 37) G dX9_hiddenBy_85 (by decide) ?_
      exact H37 _ _ _ _ _ _ hX
    · have hX := z_if hc52 hX
      refine z_aload_n (pc := 55) G 0 dX9_hiddenBy_55 rfl rfl ?_
      refine z_iload_n (pc := 56) G 1 dX9_hiddenBy_56 rfl rfl ?_
      refine z_iload (pc := 57) G 4 dX9_hiddenBy_57 rfl ?_
      obtain ⟨hi59, hX⟩ := z_gu_s hX
      obtain ⟨r59, hv59, hX⟩ := z_bd hX
      refine z_cVI (pc := 59) (As := [.int l1, .int l4]) (c2 := 0) (s2 := 0) G kK9 (lX9_doHear hO hv59) hi59 kt_1711 kt_11 kt_1708 kt_1710 ks_81 ydX9_doHear ⟨by decide, by decide⟩ rfl (Nat.le_of_ble_eq_true rfl) ⟨rfl, rfl⟩ ⟨by decide, by decide⟩ rfl dX9_hiddenBy_59 ?_
      refine z_if_eq (pc := 62) (tgt := 82) G dX9_hiddenBy_62 (by decide) (fun hc62 => ?_) (fun hc62 => ?_)
      · have hX := z_it hc62 hX
        refine z_iincw (pc := 82) (w := 1) (lv2 := [(0, .ref l0), (1, .int l1), (2, .int l2), (3, .int l3), (4, .int (l4 + 1))]) G 4 dX9_hiddenBy_82 rfl (by decide) (by decide) rfl rfl ?_
        refine z_goto (pc := 85) (tgt := 37) G dX9_hiddenBy_85 (by decide) ?_
        exact H37 _ _ _ _ _ _ hX
      · have hX := z_if hc62 hX
        refine z_aload_n (pc := 65) G 0 dX9_hiddenBy_65 rfl rfl ?_
        refine z_iload_n (pc := 66) G 2 dX9_hiddenBy_66 rfl rfl ?_
        refine z_iload (pc := 67) G 4 dX9_hiddenBy_67 rfl ?_
        obtain ⟨hi69, hX⟩ := z_gu_s hX
        obtain ⟨r69, hv69, hX⟩ := z_bd hX
        refine z_cVI (pc := 69) (As := [.int l2, .int l4]) (c2 := 0) (s2 := 0) G kK9 (lX9_doHear hO hv69) hi69 kt_1711 kt_11 kt_1708 kt_1710 ks_81 ydX9_doHear ⟨by decide, by decide⟩ rfl (Nat.le_of_ble_eq_true rfl) ⟨rfl, rfl⟩ ⟨by decide, by decide⟩ rfl dX9_hiddenBy_69 ?_
        refine z_if_eq (pc := 72) (tgt := 82) G dX9_hiddenBy_72 (by decide) (fun hc72 => ?_) (fun hc72 => ?_)
        · have hX := z_it hc72 hX
          refine z_iincw (pc := 82) (w := 1) (lv2 := [(0, .ref l0), (1, .int l1), (2, .int l2), (3, .int l3), (4, .int (l4 + 1))]) G 4 dX9_hiddenBy_82 rfl (by decide) (by decide) rfl rfl ?_
          refine z_goto (pc := 85) (tgt := 37) G dX9_hiddenBy_85 (by decide) ?_
          exact H37 _ _ _ _ _ _ hX
        · have hX := z_if hc72 hX
          refine z_iload_n (pc := 75) G 3 dX9_hiddenBy_75 rfl rfl ?_
          refine z_iconst (pc := 76) (v := 1) G dX9_hiddenBy_76 (by decide) ?_
          refine z_iload (pc := 77) G 4 dX9_hiddenBy_77 rfl ?_
          refine z_ishl (pc := 79) G dX9_hiddenBy_79 ?_
          refine z_ior (pc := 80) G dX9_hiddenBy_80 ?_
          refine z_istore_n (pc := 81) (lv2 := [(0, .ref l0), (1, .int l1), (2, .int l2), (3, .int (l3 ||| ((1 : Int32) <<< (l4 &&& 31)))), (4, .int l4)]) G dX9_hiddenBy_81 rfl (by decide) rfl rfl ?_
          refine z_iincw (pc := 82) (w := 1) (lv2 := [(0, .ref l0), (1, .int l1), (2, .int l2), (3, .int (l3 ||| ((1 : Int32) <<< (l4 &&& 31)))), (4, .int (l4 + 1))]) G 4 dX9_hiddenBy_82 rfl (by decide) (by decide) rfl rfl ?_
          refine z_goto (pc := 85) (tgt := 37) G dX9_hiddenBy_85 (by decide) ?_
          exact H37 _ _ _ _ _ _ hX
set_option maxHeartbeats 4000000 in
set_option maxRecDepth 100000 in
theorem wX9_hiddenBy_L37 {Γ : ZG} {p : Program} {l : Launch} {e : Env} {s : State} {m : MethodId} {args : Array Value} {below : List Frame} {meth : Method} {c : Code} (hO : z_OK Γ) (G : z_GG Γ p s m args meth c cX9_hiddenBy 5 RX9) (hr : meth.sig.returnType = (some .int)) (hnm : meth.name = "hiddenBy") {r : (Int32 × ZH)} : ∀ (nn : Nat) (l0 : Nat) (l1 : Int32) (l2 : Int32) (l3 : Int32) (l4 : Int32) (h : ZH), xX9_hiddenBy_L37  nn l0 l1 l2 l3 l4 h = some r → z_W Γ p l e rmX9_hiddenBy s m args below meth c 5 0 0 (MQ below (z_Qc Γ (some (.int r.1)) r.2) args s rmX9_hiddenBy.cells rmX9_hiddenBy.slots (z_A Γ)) 37 [(0, .ref l0), (1, .int l1), (2, .int l2), (3, .int l3), (4, .int l4)] [] h := by
  intro nn
  induction nn with
  | zero => intro l0 l1 l2 l3 l4 h hX; cases hX
  | succ nn ih => intro l0 l1 l2 l3 l4 h hX; exact wX9_hiddenBy_B37 hO G hr hnm  ih l0 l1 l2 l3 l4 h hX
noncomputable def xX9_hiddenBy (l0 : Nat) (l1 : Int32) (l2 : Int32) (h : ZH) : Option (Int32 × ZH) := (if l1 = l2 then some ((0 : Int32), h) else (z_gu (z_is h l0 9) ((xX9_isOn l0 l1 h).bind fun r7 => (if r7.1 = 0 then some ((0 : Int32), r7.2) else (z_gu (z_is r7.2 l0 9) ((xX9_isOn l0 l2 r7.2).bind fun r15 => (if r15.1 = 0 then some ((0 : Int32), r15.2) else (z_gu (z_is r15.2 l0 9) ((xX9_doHear l0 l1 l2 r15.2).bind fun r24 => (if r24.1 = 0 then xX9_hiddenBy_L37 zFU l0 l1 l2 (0 : Int32) (0 : Int32) r24.2 else some ((0 : Int32), r24.2)))))))))))
set_option maxHeartbeats 4000000 in
set_option maxRecDepth 100000 in
theorem lX9_hiddenBy {Γ : ZG} {l : Launch} (hO : z_OK Γ) {l0 : Nat} {l1 : Int32} {l2 : Int32} {h : ZH} {r : (Int32 × ZH)} (hX : xX9_hiddenBy l0 l1 l2 h = some r) : z_M Γ l yX9_hiddenBy (z_ws1 yX9_hiddenBy cX9_hiddenBy 5 (some .int)) rmX9_hiddenBy [.ref l0, .int l1, .int l2] h (some (.int r.1)) r.2 := by
  refine z_start hO (plainFor_of_name (by decide)) (Nat.le_of_ble_eq_true rfl) ?_
  intro p e s m args below meth c G hr hnm
  refine z_lvc (lv2 := [(0, .ref l0), (1, .int l1), (2, .int l2)]) rfl ?_
  refine z_iload_n (pc := 0) G 1 dX9_hiddenBy_0 rfl rfl ?_
  refine z_iload_n (pc := 1) G 2 dX9_hiddenBy_1 rfl rfl ?_
  refine z_icmp_eq (pc := 2) (tgt := 30) G dX9_hiddenBy_2 (by decide) (fun hc2 => ?_) (fun hc2 => ?_)
  · have hX := z_it hc2 hX
    refine z_iconst (pc := 30) (v := 0) G dX9_hiddenBy_30 (by decide) ?_
    exact z_iretX (pc := 31) hX G hr dX9_hiddenBy_31 (by decide) (by decide)
  · have hX := z_if hc2 hX
    refine z_aload_n (pc := 5) G 0 dX9_hiddenBy_5 rfl rfl ?_
    refine z_iload_n (pc := 6) G 1 dX9_hiddenBy_6 rfl rfl ?_
    obtain ⟨hi7, hX⟩ := z_gu_s hX
    obtain ⟨r7, hv7, hX⟩ := z_bd hX
    refine z_cVI (pc := 7) (As := [.int l1]) (c2 := 0) (s2 := 0) G kK9 (lX9_isOn hO hv7) hi7 kt_1567 kt_11 kt_1564 kt_1566 ks_64 ydX9_isOn ⟨by decide, by decide⟩ rfl (Nat.le_of_ble_eq_true rfl) ⟨rfl, rfl⟩ ⟨by decide, by decide⟩ rfl dX9_hiddenBy_7 ?_
    refine z_if_eq (pc := 10) (tgt := 30) G dX9_hiddenBy_10 (by decide) (fun hc10 => ?_) (fun hc10 => ?_)
    · have hX := z_it hc10 hX
      refine z_iconst (pc := 30) (v := 0) G dX9_hiddenBy_30 (by decide) ?_
      exact z_iretX (pc := 31) hX G hr dX9_hiddenBy_31 (by decide) (by decide)
    · have hX := z_if hc10 hX
      refine z_aload_n (pc := 13) G 0 dX9_hiddenBy_13 rfl rfl ?_
      refine z_iload_n (pc := 14) G 2 dX9_hiddenBy_14 rfl rfl ?_
      obtain ⟨hi15, hX⟩ := z_gu_s hX
      obtain ⟨r15, hv15, hX⟩ := z_bd hX
      refine z_cVI (pc := 15) (As := [.int l2]) (c2 := 0) (s2 := 0) G kK9 (lX9_isOn hO hv15) hi15 kt_1567 kt_11 kt_1564 kt_1566 ks_64 ydX9_isOn ⟨by decide, by decide⟩ rfl (Nat.le_of_ble_eq_true rfl) ⟨rfl, rfl⟩ ⟨by decide, by decide⟩ rfl dX9_hiddenBy_15 ?_
      refine z_if_eq (pc := 18) (tgt := 30) G dX9_hiddenBy_18 (by decide) (fun hc18 => ?_) (fun hc18 => ?_)
      · have hX := z_it hc18 hX
        refine z_iconst (pc := 30) (v := 0) G dX9_hiddenBy_30 (by decide) ?_
        exact z_iretX (pc := 31) hX G hr dX9_hiddenBy_31 (by decide) (by decide)
      · have hX := z_if hc18 hX
        refine z_aload_n (pc := 21) G 0 dX9_hiddenBy_21 rfl rfl ?_
        refine z_iload_n (pc := 22) G 1 dX9_hiddenBy_22 rfl rfl ?_
        refine z_iload_n (pc := 23) G 2 dX9_hiddenBy_23 rfl rfl ?_
        obtain ⟨hi24, hX⟩ := z_gu_s hX
        obtain ⟨r24, hv24, hX⟩ := z_bd hX
        refine z_cVI (pc := 24) (As := [.int l1, .int l2]) (c2 := 0) (s2 := 0) G kK9 (lX9_doHear hO hv24) hi24 kt_1711 kt_11 kt_1708 kt_1710 ks_81 ydX9_doHear ⟨by decide, by decide⟩ rfl (Nat.le_of_ble_eq_true rfl) ⟨rfl, rfl⟩ ⟨by decide, by decide⟩ rfl dX9_hiddenBy_24 ?_
        refine z_if_eq (pc := 27) (tgt := 32) G dX9_hiddenBy_27 (by decide) (fun hc27 => ?_) (fun hc27 => ?_)
        · have hX := z_it hc27 hX
          refine z_iconst (pc := 32) (v := 0) G dX9_hiddenBy_32 (by decide) ?_
          refine z_istore_n (pc := 33) (lv2 := [(0, .ref l0), (1, .int l1), (2, .int l2), (3, .int (0 : Int32))]) G dX9_hiddenBy_33 rfl (by decide) rfl rfl ?_
          refine z_iconst (pc := 34) (v := 0) G dX9_hiddenBy_34 (by decide) ?_
          refine z_istore (pc := 35) (lv2 := [(0, .ref l0), (1, .int l1), (2, .int l2), (3, .int (0 : Int32)), (4, .int (0 : Int32))]) G dX9_hiddenBy_35 (by decide) rfl rfl ?_
          exact wX9_hiddenBy_L37 hO G hr hnm zFU _ _ _ _ _ _ hX
        · have hX := z_if hc27 hX
          refine z_iconst (pc := 30) (v := 0) G dX9_hiddenBy_30 (by decide) ?_
          exact z_iretX (pc := 31) hX G hr dX9_hiddenBy_31 (by decide) (by decide)
theorem dX9_hidden_0 : decode cX9_hidden 0 = .ok (.aload_n 0, 1) := by decide +kernel
theorem dX9_hidden_1 : decode cX9_hidden 1 = .ok (.iload_n 1, 1) := by decide +kernel
theorem dX9_hidden_2 : decode cX9_hidden 2 = .ok (.invokevirtual 450, 3) := by decide +kernel
theorem dX9_hidden_5 : decode cX9_hidden 5 = .ok (.ifCond .eq 20, 3) := by decide +kernel
theorem dX9_hidden_8 : decode cX9_hidden 8 = .ok (.aload_n 0, 1) := by decide +kernel
theorem dX9_hidden_9 : decode cX9_hidden 9 = .ok (.iload_n 2, 1) := by decide +kernel
theorem dX9_hidden_10 : decode cX9_hidden 10 = .ok (.invokevirtual 450, 3) := by decide +kernel
theorem dX9_hidden_13 : decode cX9_hidden 13 = .ok (.ifCond .eq 12, 3) := by decide +kernel
theorem dX9_hidden_16 : decode cX9_hidden 16 = .ok (.aload_n 0, 1) := by decide +kernel
theorem dX9_hidden_17 : decode cX9_hidden 17 = .ok (.iload_n 1, 1) := by decide +kernel
theorem dX9_hidden_18 : decode cX9_hidden 18 = .ok (.iload_n 2, 1) := by decide +kernel
theorem dX9_hidden_19 : decode cX9_hidden 19 = .ok (.invokevirtual 480, 3) := by decide +kernel
theorem dX9_hidden_22 : decode cX9_hidden 22 = .ok (.goto 4, 3) := by decide +kernel
theorem dX9_hidden_25 : decode cX9_hidden 25 = .ok (.iconst (-1), 1) := by decide +kernel
theorem dX9_hidden_26 : decode cX9_hidden 26 = .ok (.ireturn, 1) := by decide +kernel
theorem ydX9_hidden : z_yd yX9_hidden 2 := ⟨by decide, by decide, by decide +kernel⟩
abbrev rmX9_hidden : Room := { frames := 4, cells := 0, slots := 0, locals := 88 }
noncomputable def xX9_hidden (l0 : Nat) (l1 : Int32) (l2 : Int32) (h : ZH) : Option (Int32 × ZH) := (z_gu (z_is h l0 9) ((xX9_isShip l0 l1 h).bind fun r2 => (if r2.1 = 0 then some ((-1 : Int32), r2.2) else (z_gu (z_is r2.2 l0 9) ((xX9_isShip l0 l2 r2.2).bind fun r10 => (if r10.1 = 0 then some ((-1 : Int32), r10.2) else (z_gu (z_is r10.2 l0 9) ((xX9_hiddenBy l0 l1 l2 r10.2).bind fun r19 => some (r19.1, r19.2)))))))))
set_option maxHeartbeats 4000000 in
set_option maxRecDepth 100000 in
theorem lX9_hidden {Γ : ZG} {l : Launch} (hO : z_OK Γ) {l0 : Nat} {l1 : Int32} {l2 : Int32} {h : ZH} {r : (Int32 × ZH)} (hX : xX9_hidden l0 l1 l2 h = some r) : z_M Γ l yX9_hidden (z_ws1 yX9_hidden cX9_hidden 3 (some .int)) rmX9_hidden [.ref l0, .int l1, .int l2] h (some (.int r.1)) r.2 := by
  refine z_start hO (plainFor_of_name (by decide)) (Nat.le_of_ble_eq_true rfl) ?_
  intro p e s m args below meth c G hr hnm
  refine z_lvc (lv2 := [(0, .ref l0), (1, .int l1), (2, .int l2)]) rfl ?_
  refine z_aload_n (pc := 0) G 0 dX9_hidden_0 rfl rfl ?_
  refine z_iload_n (pc := 1) G 1 dX9_hidden_1 rfl rfl ?_
  obtain ⟨hi2, hX⟩ := z_gu_s hX
  obtain ⟨r2, hv2, hX⟩ := z_bd hX
  refine z_cVI (pc := 2) (As := [.int l1]) (c2 := 0) (s2 := 0) G kK9 (lX9_isShip hO hv2) hi2 kt_1556 kt_11 kt_1553 kt_1555 ks_62 ydX9_isShip ⟨by decide, by decide⟩ rfl (Nat.le_of_ble_eq_true rfl) ⟨rfl, rfl⟩ ⟨by decide, by decide⟩ rfl dX9_hidden_2 ?_
  refine z_if_eq (pc := 5) (tgt := 25) G dX9_hidden_5 (by decide) (fun hc5 => ?_) (fun hc5 => ?_)
  · have hX := z_it hc5 hX
    refine z_iconst (pc := 25) (v := (-1)) G dX9_hidden_25 (by decide) ?_
    exact z_iretX (pc := 26) hX G hr dX9_hidden_26 (by decide) (by decide)
  · have hX := z_if hc5 hX
    refine z_aload_n (pc := 8) G 0 dX9_hidden_8 rfl rfl ?_
    refine z_iload_n (pc := 9) G 2 dX9_hidden_9 rfl rfl ?_
    obtain ⟨hi10, hX⟩ := z_gu_s hX
    obtain ⟨r10, hv10, hX⟩ := z_bd hX
    refine z_cVI (pc := 10) (As := [.int l2]) (c2 := 0) (s2 := 0) G kK9 (lX9_isShip hO hv10) hi10 kt_1556 kt_11 kt_1553 kt_1555 ks_62 ydX9_isShip ⟨by decide, by decide⟩ rfl (Nat.le_of_ble_eq_true rfl) ⟨rfl, rfl⟩ ⟨by decide, by decide⟩ rfl dX9_hidden_10 ?_
    refine z_if_eq (pc := 13) (tgt := 25) G dX9_hidden_13 (by decide) (fun hc13 => ?_) (fun hc13 => ?_)
    · have hX := z_it hc13 hX
      refine z_iconst (pc := 25) (v := (-1)) G dX9_hidden_25 (by decide) ?_
      exact z_iretX (pc := 26) hX G hr dX9_hidden_26 (by decide) (by decide)
    · have hX := z_if hc13 hX
      refine z_aload_n (pc := 16) G 0 dX9_hidden_16 rfl rfl ?_
      refine z_iload_n (pc := 17) G 1 dX9_hidden_17 rfl rfl ?_
      refine z_iload_n (pc := 18) G 2 dX9_hidden_18 rfl rfl ?_
      obtain ⟨hi19, hX⟩ := z_gu_s hX
      obtain ⟨r19, hv19, hX⟩ := z_bd hX
      refine z_cVI (pc := 19) (As := [.int l1, .int l2]) (c2 := 0) (s2 := 0) G kK9 (lX9_hiddenBy hO hv19) hi19 kt_1827 kt_11 kt_1824 kt_1826 ks_100 ydX9_hiddenBy ⟨by decide, by decide⟩ rfl (Nat.le_of_ble_eq_true rfl) ⟨rfl, rfl⟩ ⟨by decide, by decide⟩ rfl dX9_hidden_19 ?_
      refine z_goto (pc := 22) (tgt := 26) G dX9_hidden_22 (by decide) ?_
      exact z_iretX (pc := 26) hX G hr dX9_hidden_26 (by decide) (by decide)
theorem dX9_mustDiffer_0 : decode cX9_mustDiffer 0 = .ok (.aload_n 0, 1) := by decide +kernel
theorem dX9_mustDiffer_1 : decode cX9_mustDiffer 1 = .ok (.iload_n 1, 1) := by decide +kernel
theorem dX9_mustDiffer_2 : decode cX9_mustDiffer 2 = .ok (.iload_n 2, 1) := by decide +kernel
theorem dX9_mustDiffer_3 : decode cX9_mustDiffer 3 = .ok (.invokevirtual 431, 3) := by decide +kernel
theorem dX9_mustDiffer_6 : decode cX9_mustDiffer 6 = .ok (.ifCond .ne 17, 3) := by decide +kernel
theorem dX9_mustDiffer_9 : decode cX9_mustDiffer 9 = .ok (.iload_n 3, 1) := by decide +kernel
theorem dX9_mustDiffer_10 : decode cX9_mustDiffer 10 = .ok (.iconst 1, 1) := by decide +kernel
theorem dX9_mustDiffer_11 : decode cX9_mustDiffer 11 = .ok (.if_icmp .ne 16, 3) := by decide +kernel
theorem dX9_mustDiffer_14 : decode cX9_mustDiffer 14 = .ok (.aload_n 0, 1) := by decide +kernel
theorem dX9_mustDiffer_15 : decode cX9_mustDiffer 15 = .ok (.iload_n 1, 1) := by decide +kernel
theorem dX9_mustDiffer_16 : decode cX9_mustDiffer 16 = .ok (.iload_n 2, 1) := by decide +kernel
theorem dX9_mustDiffer_17 : decode cX9_mustDiffer 17 = .ok (.invokevirtual 480, 3) := by decide +kernel
theorem dX9_mustDiffer_20 : decode cX9_mustDiffer 20 = .ok (.ifCond .eq 7, 3) := by decide +kernel
theorem dX9_mustDiffer_23 : decode cX9_mustDiffer 23 = .ok (.iconst 1, 1) := by decide +kernel
theorem dX9_mustDiffer_24 : decode cX9_mustDiffer 24 = .ok (.goto 4, 3) := by decide +kernel
theorem dX9_mustDiffer_27 : decode cX9_mustDiffer 27 = .ok (.iconst 0, 1) := by decide +kernel
theorem dX9_mustDiffer_28 : decode cX9_mustDiffer 28 = .ok (.ireturn, 1) := by decide +kernel
theorem ydX9_mustDiffer : z_yd yX9_mustDiffer 3 := ⟨by decide, by decide, by decide +kernel⟩
abbrev rmX9_mustDiffer : Room := { frames := 4, cells := 0, slots := 0, locals := 88 }
noncomputable def xX9_mustDiffer (l0 : Nat) (l1 : Int32) (l2 : Int32) (l3 : Int32) (h : ZH) : Option (Int32 × ZH) := (z_gu (z_is h l0 9) ((xX9_doHear l0 l1 l2 h).bind fun r3 => (if r3.1 = 0 then (if l3 = (1 : Int32) then (z_gu (z_is r3.2 l0 9) ((xX9_hiddenBy l0 l1 l2 r3.2).bind fun r17 => (if r17.1 = 0 then some ((0 : Int32), r17.2) else some ((1 : Int32), r17.2)))) else some ((0 : Int32), r3.2)) else some ((1 : Int32), r3.2))))
set_option maxHeartbeats 4000000 in
set_option maxRecDepth 100000 in
theorem lX9_mustDiffer {Γ : ZG} {l : Launch} (hO : z_OK Γ) {l0 : Nat} {l1 : Int32} {l2 : Int32} {l3 : Int32} {h : ZH} {r : (Int32 × ZH)} (hX : xX9_mustDiffer l0 l1 l2 l3 h = some r) : z_M Γ l yX9_mustDiffer (z_ws1 yX9_mustDiffer cX9_mustDiffer 4 (some .boolean)) rmX9_mustDiffer [.ref l0, .int l1, .int l2, .int l3] h (some (.int r.1)) r.2 := by
  refine z_start hO (plainFor_of_name (by decide)) (Nat.le_of_ble_eq_true rfl) ?_
  intro p e s m args below meth c G hr hnm
  refine z_lvc (lv2 := [(0, .ref l0), (1, .int l1), (2, .int l2), (3, .int l3)]) rfl ?_
  refine z_aload_n (pc := 0) G 0 dX9_mustDiffer_0 rfl rfl ?_
  refine z_iload_n (pc := 1) G 1 dX9_mustDiffer_1 rfl rfl ?_
  refine z_iload_n (pc := 2) G 2 dX9_mustDiffer_2 rfl rfl ?_
  obtain ⟨hi3, hX⟩ := z_gu_s hX
  obtain ⟨r3, hv3, hX⟩ := z_bd hX
  refine z_cVI (pc := 3) (As := [.int l1, .int l2]) (c2 := 0) (s2 := 0) G kK9 (lX9_doHear hO hv3) hi3 kt_1711 kt_11 kt_1708 kt_1710 ks_81 ydX9_doHear ⟨by decide, by decide⟩ rfl (Nat.le_of_ble_eq_true rfl) ⟨rfl, rfl⟩ ⟨by decide, by decide⟩ rfl dX9_mustDiffer_3 ?_
  refine z_if_ne (pc := 6) (tgt := 23) G dX9_mustDiffer_6 (by decide) (fun hc6 => ?_) (fun hc6 => ?_)
  · have hX := z_if hc6 hX
    refine z_iconst (pc := 23) (v := 1) G dX9_mustDiffer_23 (by decide) ?_
    refine z_goto (pc := 24) (tgt := 28) G dX9_mustDiffer_24 (by decide) ?_
    exact z_zretX (pc := 28) hX G hr rfl dX9_mustDiffer_28 (by decide) (by decide)
  · have hX := z_it hc6 hX
    refine z_iload_n (pc := 9) G 3 dX9_mustDiffer_9 rfl rfl ?_
    refine z_iconst (pc := 10) (v := 1) G dX9_mustDiffer_10 (by decide) ?_
    refine z_icmp_ne (pc := 11) (tgt := 27) G dX9_mustDiffer_11 (by decide) (fun hc11 => ?_) (fun hc11 => ?_)
    · have hX := z_if hc11 hX
      refine z_iconst (pc := 27) (v := 0) G dX9_mustDiffer_27 (by decide) ?_
      exact z_zretX (pc := 28) hX G hr rfl dX9_mustDiffer_28 (by decide) (by decide)
    · have hX := z_it hc11 hX
      refine z_aload_n (pc := 14) G 0 dX9_mustDiffer_14 rfl rfl ?_
      refine z_iload_n (pc := 15) G 1 dX9_mustDiffer_15 rfl rfl ?_
      refine z_iload_n (pc := 16) G 2 dX9_mustDiffer_16 rfl rfl ?_
      obtain ⟨hi17, hX⟩ := z_gu_s hX
      obtain ⟨r17, hv17, hX⟩ := z_bd hX
      refine z_cVI (pc := 17) (As := [.int l1, .int l2]) (c2 := 0) (s2 := 0) G kK9 (lX9_hiddenBy hO hv17) hi17 kt_1827 kt_11 kt_1824 kt_1826 ks_100 ydX9_hiddenBy ⟨by decide, by decide⟩ rfl (Nat.le_of_ble_eq_true rfl) ⟨rfl, rfl⟩ ⟨by decide, by decide⟩ rfl dX9_mustDiffer_17 ?_
      refine z_if_eq (pc := 20) (tgt := 27) G dX9_mustDiffer_20 (by decide) (fun hc20 => ?_) (fun hc20 => ?_)
      · have hX := z_it hc20 hX
        refine z_iconst (pc := 27) (v := 0) G dX9_mustDiffer_27 (by decide) ?_
        exact z_zretX (pc := 28) hX G hr rfl dX9_mustDiffer_28 (by decide) (by decide)
      · have hX := z_if hc20 hX
        refine z_iconst (pc := 23) (v := 1) G dX9_mustDiffer_23 (by decide) ?_
        refine z_goto (pc := 24) (tgt := 28) G dX9_mustDiffer_24 (by decide) ?_
        exact z_zretX (pc := 28) hX G hr rfl dX9_mustDiffer_28 (by decide) (by decide)
theorem dX9_digitOf_0 : decode cX9_digitOf 0 = .ok (.iload_n 0, 1) := by decide +kernel
theorem dX9_digitOf_1 : decode cX9_digitOf 1 = .ok (.iload_n 2, 1) := by decide +kernel
theorem dX9_digitOf_2 : decode cX9_digitOf 2 = .ok (.iload_n 1, 1) := by decide +kernel
theorem dX9_digitOf_3 : decode cX9_digitOf 3 = .ok (.invokestatic 483, 3) := by decide +kernel
theorem dX9_digitOf_6 : decode cX9_digitOf 6 = .ok (.idiv, 1) := by decide +kernel
theorem dX9_digitOf_7 : decode cX9_digitOf 7 = .ok (.iload_n 2, 1) := by decide +kernel
theorem dX9_digitOf_8 : decode cX9_digitOf 8 = .ok (.irem, 1) := by decide +kernel
theorem dX9_digitOf_9 : decode cX9_digitOf 9 = .ok (.ireturn, 1) := by decide +kernel
theorem ydX9_digitOf : z_yd yX9_digitOf 3 := ⟨by decide, by decide, by decide +kernel⟩
abbrev rmX9_digitOf : Room := { frames := 1, cells := 0, slots := 0, locals := 23 }
noncomputable def xX9_digitOf (l0 : Int32) (l1 : Int32) (l2 : Int32) (h : ZH) : Option (Int32 × ZH) := ((xX9_power l2 l1 h).bind fun r3 => (if r3.1 = 0 then none else (if l2 = 0 then none else some (((l0 / r3.1) - (l0 / r3.1) / l2 * l2), r3.2))))
set_option maxHeartbeats 4000000 in
set_option maxRecDepth 100000 in
theorem lX9_digitOf {Γ : ZG} {l : Launch} (hO : z_OK Γ) {l0 : Int32} {l1 : Int32} {l2 : Int32} {h : ZH} {r : (Int32 × ZH)} (hX : xX9_digitOf l0 l1 l2 h = some r) : z_M Γ l yX9_digitOf (z_ws1 yX9_digitOf cX9_digitOf 3 (some .int)) rmX9_digitOf [.int l0, .int l1, .int l2] h (some (.int r.1)) r.2 := by
  refine z_start hO (plainFor_of_name (by decide)) (Nat.le_of_ble_eq_true rfl) ?_
  intro p e s m args below meth c G hr hnm
  refine z_lvc (lv2 := [(0, .int l0), (1, .int l1), (2, .int l2)]) rfl ?_
  refine z_iload_n (pc := 0) G 0 dX9_digitOf_0 rfl rfl ?_
  refine z_iload_n (pc := 1) G 2 dX9_digitOf_1 rfl rfl ?_
  refine z_iload_n (pc := 2) G 1 dX9_digitOf_2 rfl rfl ?_
  obtain ⟨r3, hv3, hX⟩ := z_bd hX
  refine z_cSI (pc := 3) (As := [.int l2, .int l1]) (c2 := 0) (s2 := 0) G (lX9_power hO hv3) kt_1838 kt_11 kt_1836 kt_1837 ydX9_power ⟨by decide, by decide⟩ rfl (Nat.le_of_ble_eq_true rfl) ⟨rfl, rfl⟩ ⟨by decide, by decide⟩ rfl dX9_digitOf_3 ?_
  obtain ⟨hn6, hX⟩ := z_ng hX
  refine z_idiv (pc := 6) G dX9_digitOf_6 hn6 ?_
  refine z_iload_n (pc := 7) G 2 dX9_digitOf_7 rfl rfl ?_
  obtain ⟨hn8, hX⟩ := z_ng hX
  refine z_irem (pc := 8) G dX9_digitOf_8 hn8 ?_
  exact z_iretX (pc := 9) hX G hr dX9_digitOf_9 (by decide) (by decide)
theorem dX9_isColoured_0 : decode cX9_isColoured 0 = .ok (.iconst 0, 1) := by decide +kernel
theorem dX9_isColoured_1 : decode cX9_isColoured 1 = .ok (.istore 4, 2) := by decide +kernel
theorem dX9_isColoured_3 : decode cX9_isColoured 3 = .ok (.iload 4, 2) := by decide +kernel
theorem dX9_isColoured_5 : decode cX9_isColoured 5 = .ok (.aload_n 0, 1) := by decide +kernel
theorem dX9_isColoured_6 : decode cX9_isColoured 6 = .ok (.invokevirtual 337, 3) := by decide +kernel
theorem dX9_isColoured_9 : decode cX9_isColoured 9 = .ok (.if_icmp .ge 74, 3) := by decide +kernel
theorem dX9_isColoured_12 : decode cX9_isColoured 12 = .ok (.iconst 0, 1) := by decide +kernel
theorem dX9_isColoured_13 : decode cX9_isColoured 13 = .ok (.istore 5, 2) := by decide +kernel
theorem dX9_isColoured_15 : decode cX9_isColoured 15 = .ok (.iload 5, 2) := by decide +kernel
theorem dX9_isColoured_17 : decode cX9_isColoured 17 = .ok (.iload 4, 2) := by decide +kernel
theorem dX9_isColoured_19 : decode cX9_isColoured 19 = .ok (.if_icmp .ge 58, 3) := by decide +kernel
theorem dX9_isColoured_22 : decode cX9_isColoured 22 = .ok (.aload_n 0, 1) := by decide +kernel
theorem dX9_isColoured_23 : decode cX9_isColoured 23 = .ok (.iload 4, 2) := by decide +kernel
theorem dX9_isColoured_25 : decode cX9_isColoured 25 = .ok (.invokevirtual 347, 3) := by decide +kernel
theorem dX9_isColoured_28 : decode cX9_isColoured 28 = .ok (.ifCond .eq 43, 3) := by decide +kernel
theorem dX9_isColoured_31 : decode cX9_isColoured 31 = .ok (.aload_n 0, 1) := by decide +kernel
theorem dX9_isColoured_32 : decode cX9_isColoured 32 = .ok (.iload 5, 2) := by decide +kernel
theorem dX9_isColoured_34 : decode cX9_isColoured 34 = .ok (.invokevirtual 347, 3) := by decide +kernel
theorem dX9_isColoured_37 : decode cX9_isColoured 37 = .ok (.ifCond .eq 34, 3) := by decide +kernel
theorem dX9_isColoured_40 : decode cX9_isColoured 40 = .ok (.iload_n 1, 1) := by decide +kernel
theorem dX9_isColoured_41 : decode cX9_isColoured 41 = .ok (.iload 4, 2) := by decide +kernel
theorem dX9_isColoured_43 : decode cX9_isColoured 43 = .ok (.iload_n 2, 1) := by decide +kernel
theorem dX9_isColoured_44 : decode cX9_isColoured 44 = .ok (.invokestatic 486, 3) := by decide +kernel
theorem dX9_isColoured_47 : decode cX9_isColoured 47 = .ok (.iload_n 1, 1) := by decide +kernel
theorem dX9_isColoured_48 : decode cX9_isColoured 48 = .ok (.iload 5, 2) := by decide +kernel
theorem dX9_isColoured_50 : decode cX9_isColoured 50 = .ok (.iload_n 2, 1) := by decide +kernel
theorem dX9_isColoured_51 : decode cX9_isColoured 51 = .ok (.invokestatic 486, 3) := by decide +kernel
theorem dX9_isColoured_54 : decode cX9_isColoured 54 = .ok (.if_icmp .ne 17, 3) := by decide +kernel
theorem dX9_isColoured_57 : decode cX9_isColoured 57 = .ok (.aload_n 0, 1) := by decide +kernel
theorem dX9_isColoured_58 : decode cX9_isColoured 58 = .ok (.iload 4, 2) := by decide +kernel
theorem dX9_isColoured_60 : decode cX9_isColoured 60 = .ok (.iload 5, 2) := by decide +kernel
theorem dX9_isColoured_62 : decode cX9_isColoured 62 = .ok (.iload_n 3, 1) := by decide +kernel
theorem dX9_isColoured_63 : decode cX9_isColoured 63 = .ok (.invokevirtual 489, 3) := by decide +kernel
theorem dX9_isColoured_66 : decode cX9_isColoured 66 = .ok (.ifCond .eq 5, 3) := by decide +kernel
theorem dX9_isColoured_69 : decode cX9_isColoured 69 = .ok (.iconst 0, 1) := by decide +kernel
theorem dX9_isColoured_70 : decode cX9_isColoured 70 = .ok (.ireturn, 1) := by decide +kernel
theorem dX9_isColoured_71 : decode cX9_isColoured 71 = .ok (.iinc 5 1, 3) := by decide +kernel
theorem dX9_isColoured_74 : decode cX9_isColoured 74 = .ok (.goto (-59), 3) := by decide +kernel
theorem dX9_isColoured_77 : decode cX9_isColoured 77 = .ok (.iinc 4 1, 3) := by decide +kernel
theorem dX9_isColoured_80 : decode cX9_isColoured 80 = .ok (.goto (-77), 3) := by decide +kernel
theorem dX9_isColoured_83 : decode cX9_isColoured 83 = .ok (.iconst 1, 1) := by decide +kernel
theorem dX9_isColoured_84 : decode cX9_isColoured 84 = .ok (.ireturn, 1) := by decide +kernel
theorem ydX9_isColoured : z_yd yX9_isColoured 3 := ⟨by decide, by decide, by decide +kernel⟩
abbrev rmX9_isColoured : Room := { frames := 5, cells := 0, slots := 0, locals := 111 }
noncomputable def xX9_isColoured_B15 (r3 : Nat → Int32 → Int32 → Int32 → Int32 → ZH → Option (Int32 × ZH)) (r15 : Nat → Int32 → Int32 → Int32 → Int32 → Int32 → ZH → Option (Int32 × ZH)) (l0 : Nat) (l1 : Int32) (l2 : Int32) (l3 : Int32) (l4 : Int32) (l5 : Int32) (h : ZH) : Option (Int32 × ZH) := (if l4 ≤ l5 then r3 l0 l1 l2 l3 (l4 + 1) h else (z_gu (z_is h l0 9) ((xX9_isOn l0 l4 h).bind fun r25 => (if r25.1 = 0 then r15 l0 l1 l2 l3 l4 (l5 + 1) r25.2 else (z_gu (z_is r25.2 l0 9) ((xX9_isOn l0 l5 r25.2).bind fun r34 => (if r34.1 = 0 then r15 l0 l1 l2 l3 l4 (l5 + 1) r34.2 else ((xX9_digitOf l1 l4 l2 r34.2).bind fun r44 => ((xX9_digitOf l1 l5 l2 r44.2).bind fun r51 => (if r44.1 = r51.1 then (z_gu (z_is r51.2 l0 9) ((xX9_mustDiffer l0 l4 l5 l3 r51.2).bind fun r63 => (if r63.1 = 0 then r15 l0 l1 l2 l3 l4 (l5 + 1) r63.2 else some ((0 : Int32), r63.2)))) else r15 l0 l1 l2 l3 l4 (l5 + 1) r51.2))))))))))
noncomputable def xX9_isColoured_L15 (r3 : Nat → Int32 → Int32 → Int32 → Int32 → ZH → Option (Int32 × ZH)) (n : Nat) : Nat → Int32 → Int32 → Int32 → Int32 → Int32 → ZH → Option (Int32 × ZH) := Nat.rec (motive := fun _ => Nat → Int32 → Int32 → Int32 → Int32 → Int32 → ZH → Option (Int32 × ZH)) (fun _ _ _ _ _ _ _ => none) (fun _ rec => xX9_isColoured_B15  r3 rec) n
set_option maxHeartbeats 4000000 in
set_option maxRecDepth 100000 in
theorem wX9_isColoured_B15 {Γ : ZG} {p : Program} {l : Launch} {e : Env} {s : State} {m : MethodId} {args : Array Value} {below : List Frame} {meth : Method} {c : Code} (hO : z_OK Γ) (G : z_GG Γ p s m args meth c cX9_isColoured 6 RX9) (hr : meth.sig.returnType = (some .boolean)) (hnm : meth.name = "isColoured") {r : (Int32 × ZH)} {r3 : Nat → Int32 → Int32 → Int32 → Int32 → ZH → Option (Int32 × ZH)} (H3 : ∀ (l0 : Nat) (l1 : Int32) (l2 : Int32) (l3 : Int32) (l4 : Int32) (h : ZH), r3 l0 l1 l2 l3 l4 h = some r → z_W Γ p l e rmX9_isColoured s m args below meth c 6 0 0 (MQ below (z_Qc Γ (some (.int r.1)) r.2) args s rmX9_isColoured.cells rmX9_isColoured.slots (z_A Γ)) 3 [(0, .ref l0), (1, .int l1), (2, .int l2), (3, .int l3), (4, .int l4)] [] h) {r15 : Nat → Int32 → Int32 → Int32 → Int32 → Int32 → ZH → Option (Int32 × ZH)} (H15 : ∀ (l0 : Nat) (l1 : Int32) (l2 : Int32) (l3 : Int32) (l4 : Int32) (l5 : Int32) (h : ZH), r15 l0 l1 l2 l3 l4 l5 h = some r → z_W Γ p l e rmX9_isColoured s m args below meth c 6 0 0 (MQ below (z_Qc Γ (some (.int r.1)) r.2) args s rmX9_isColoured.cells rmX9_isColoured.slots (z_A Γ)) 15 [(0, .ref l0), (1, .int l1), (2, .int l2), (3, .int l3), (4, .int l4), (5, .int l5)] [] h) : ∀ (l0 : Nat) (l1 : Int32) (l2 : Int32) (l3 : Int32) (l4 : Int32) (l5 : Int32) (h : ZH), xX9_isColoured_B15  r3 r15 l0 l1 l2 l3 l4 l5 h = some r → z_W Γ p l e rmX9_isColoured s m args below meth c 6 0 0 (MQ below (z_Qc Γ (some (.int r.1)) r.2) args s rmX9_isColoured.cells rmX9_isColoured.slots (z_A Γ)) 15 [(0, .ref l0), (1, .int l1), (2, .int l2), (3, .int l3), (4, .int l4), (5, .int l5)] [] h := by
  intro l0 l1 l2 l3 l4 l5 h hX
  refine z_iload (pc := 15) G 5 dX9_isColoured_15 rfl ?_
  refine z_iload (pc := 17) G 4 dX9_isColoured_17 rfl ?_
  refine z_icmp_ge (pc := 19) (tgt := 77) G dX9_isColoured_19 (by decide) (fun hc19 => ?_) (fun hc19 => ?_)
  · have hX := z_it hc19 hX
    refine z_iincw (pc := 77) (w := 1) (lv2 := [(0, .ref l0), (1, .int l1), (2, .int l2), (3, .int l3), (4, .int (l4 + 1)), (5, .int l5)]) G 4 dX9_isColoured_77 rfl (by decide) (by decide) rfl rfl ?_
    refine z_goto (pc := 80) (tgt := 3) G dX9_isColoured_80 (by decide) ?_
    refine z_drop (lv2 := [(0, .ref l0), (1, .int l1), (2, .int l2), (3, .int l3), (4, .int (l4 + 1))]) [0, 1, 2, 3, 4] rfl ?_
    exact H3 _ _ _ _ _ _ hX
  · have hX := z_if hc19 hX
    refine z_aload_n (pc := 22) G 0 dX9_isColoured_22 rfl rfl ?_
    refine z_iload (pc := 23) G 4 dX9_isColoured_23 rfl ?_
    obtain ⟨hi25, hX⟩ := z_gu_s hX
    obtain ⟨r25, hv25, hX⟩ := z_bd hX
    refine z_cVI (pc := 25) (As := [.int l4]) (c2 := 0) (s2 := 0) G kK9 (lX9_isOn hO hv25) hi25 kt_1567 kt_11 kt_1564 kt_1566 ks_64 ydX9_isOn ⟨by decide, by decide⟩ rfl (Nat.le_of_ble_eq_true rfl) ⟨rfl, rfl⟩ ⟨by decide, by decide⟩ rfl dX9_isColoured_25 ?_
    refine z_if_eq (pc := 28) (tgt := 71) G dX9_isColoured_28 (by decide) (fun hc28 => ?_) (fun hc28 => ?_)
    · have hX := z_it hc28 hX
      refine z_iincw (pc := 71) (w := 1) (lv2 := [(0, .ref l0), (1, .int l1), (2, .int l2), (3, .int l3), (4, .int l4), (5, .int (l5 + 1))]) G 5 dX9_isColoured_71 rfl (by decide) (by decide) rfl rfl ?_
      refine z_goto (pc := 74) (tgt := 15) G dX9_isColoured_74 (by decide) ?_
      exact H15 _ _ _ _ _ _ _ hX
    · have hX := z_if hc28 hX
      refine z_aload_n (pc := 31) G 0 dX9_isColoured_31 rfl rfl ?_
      refine z_iload (pc := 32) G 5 dX9_isColoured_32 rfl ?_
      obtain ⟨hi34, hX⟩ := z_gu_s hX
      obtain ⟨r34, hv34, hX⟩ := z_bd hX
      refine z_cVI (pc := 34) (As := [.int l5]) (c2 := 0) (s2 := 0) G kK9 (lX9_isOn hO hv34) hi34 kt_1567 kt_11 kt_1564 kt_1566 ks_64 ydX9_isOn ⟨by decide, by decide⟩ rfl (Nat.le_of_ble_eq_true rfl) ⟨rfl, rfl⟩ ⟨by decide, by decide⟩ rfl dX9_isColoured_34 ?_
      refine z_if_eq (pc := 37) (tgt := 71) G dX9_isColoured_37 (by decide) (fun hc37 => ?_) (fun hc37 => ?_)
      · have hX := z_it hc37 hX
        refine z_iincw (pc := 71) (w := 1) (lv2 := [(0, .ref l0), (1, .int l1), (2, .int l2), (3, .int l3), (4, .int l4), (5, .int (l5 + 1))]) G 5 dX9_isColoured_71 rfl (by decide) (by decide) rfl rfl ?_
        refine z_goto (pc := 74) (tgt := 15) G dX9_isColoured_74 (by decide) ?_
        exact H15 _ _ _ _ _ _ _ hX
      · have hX := z_if hc37 hX
        refine z_iload_n (pc := 40) G 1 dX9_isColoured_40 rfl rfl ?_
        refine z_iload (pc := 41) G 4 dX9_isColoured_41 rfl ?_
        refine z_iload_n (pc := 43) G 2 dX9_isColoured_43 rfl rfl ?_
        obtain ⟨r44, hv44, hX⟩ := z_bd hX
        refine z_cSI (pc := 44) (As := [.int l1, .int l4, .int l2]) (c2 := 0) (s2 := 0) G (lX9_digitOf hO hv44) kt_1845 kt_11 kt_1843 kt_1844 ydX9_digitOf ⟨by decide, by decide⟩ rfl (Nat.le_of_ble_eq_true rfl) ⟨rfl, rfl⟩ ⟨by decide, by decide⟩ rfl dX9_isColoured_44 ?_
        refine z_iload_n (pc := 47) G 1 dX9_isColoured_47 rfl rfl ?_
        refine z_iload (pc := 48) G 5 dX9_isColoured_48 rfl ?_
        refine z_iload_n (pc := 50) G 2 dX9_isColoured_50 rfl rfl ?_
        obtain ⟨r51, hv51, hX⟩ := z_bd hX
        refine z_cSI (pc := 51) (As := [.int l1, .int l5, .int l2]) (c2 := 0) (s2 := 0) G (lX9_digitOf hO hv51) kt_1845 kt_11 kt_1843 kt_1844 ydX9_digitOf ⟨by decide, by decide⟩ rfl (Nat.le_of_ble_eq_true rfl) ⟨rfl, rfl⟩ ⟨by decide, by decide⟩ rfl dX9_isColoured_51 ?_
        refine z_icmp_ne (pc := 54) (tgt := 71) G dX9_isColoured_54 (by decide) (fun hc54 => ?_) (fun hc54 => ?_)
        · have hX := z_if hc54 hX
          refine z_iincw (pc := 71) (w := 1) (lv2 := [(0, .ref l0), (1, .int l1), (2, .int l2), (3, .int l3), (4, .int l4), (5, .int (l5 + 1))]) G 5 dX9_isColoured_71 rfl (by decide) (by decide) rfl rfl ?_
          refine z_goto (pc := 74) (tgt := 15) G dX9_isColoured_74 (by decide) ?_
          exact H15 _ _ _ _ _ _ _ hX
        · have hX := z_it hc54 hX
          refine z_aload_n (pc := 57) G 0 dX9_isColoured_57 rfl rfl ?_
          refine z_iload (pc := 58) G 4 dX9_isColoured_58 rfl ?_
          refine z_iload (pc := 60) G 5 dX9_isColoured_60 rfl ?_
          refine z_iload_n (pc := 62) G 3 dX9_isColoured_62 rfl rfl ?_
          obtain ⟨hi63, hX⟩ := z_gu_s hX
          obtain ⟨r63, hv63, hX⟩ := z_bd hX
          refine z_cVI (pc := 63) (As := [.int l4, .int l5, .int l3]) (c2 := 0) (s2 := 0) G kK9 (lX9_mustDiffer hO hv63) hi63 kt_1849 kt_11 kt_1846 kt_1848 ks_103 ydX9_mustDiffer ⟨by decide, by decide⟩ rfl (Nat.le_of_ble_eq_true rfl) ⟨rfl, rfl⟩ ⟨by decide, by decide⟩ rfl dX9_isColoured_63 ?_
          refine z_if_eq (pc := 66) (tgt := 71) G dX9_isColoured_66 (by decide) (fun hc66 => ?_) (fun hc66 => ?_)
          · have hX := z_it hc66 hX
            refine z_iincw (pc := 71) (w := 1) (lv2 := [(0, .ref l0), (1, .int l1), (2, .int l2), (3, .int l3), (4, .int l4), (5, .int (l5 + 1))]) G 5 dX9_isColoured_71 rfl (by decide) (by decide) rfl rfl ?_
            refine z_goto (pc := 74) (tgt := 15) G dX9_isColoured_74 (by decide) ?_
            exact H15 _ _ _ _ _ _ _ hX
          · have hX := z_if hc66 hX
            refine z_iconst (pc := 69) (v := 0) G dX9_isColoured_69 (by decide) ?_
            exact z_zretX (pc := 70) hX G hr rfl dX9_isColoured_70 (by decide) (by decide)
set_option maxHeartbeats 4000000 in
set_option maxRecDepth 100000 in
theorem wX9_isColoured_L15 {Γ : ZG} {p : Program} {l : Launch} {e : Env} {s : State} {m : MethodId} {args : Array Value} {below : List Frame} {meth : Method} {c : Code} (hO : z_OK Γ) (G : z_GG Γ p s m args meth c cX9_isColoured 6 RX9) (hr : meth.sig.returnType = (some .boolean)) (hnm : meth.name = "isColoured") {r : (Int32 × ZH)} {r3 : Nat → Int32 → Int32 → Int32 → Int32 → ZH → Option (Int32 × ZH)} (H3 : ∀ (l0 : Nat) (l1 : Int32) (l2 : Int32) (l3 : Int32) (l4 : Int32) (h : ZH), r3 l0 l1 l2 l3 l4 h = some r → z_W Γ p l e rmX9_isColoured s m args below meth c 6 0 0 (MQ below (z_Qc Γ (some (.int r.1)) r.2) args s rmX9_isColoured.cells rmX9_isColoured.slots (z_A Γ)) 3 [(0, .ref l0), (1, .int l1), (2, .int l2), (3, .int l3), (4, .int l4)] [] h) : ∀ (nn : Nat) (l0 : Nat) (l1 : Int32) (l2 : Int32) (l3 : Int32) (l4 : Int32) (l5 : Int32) (h : ZH), xX9_isColoured_L15  r3 nn l0 l1 l2 l3 l4 l5 h = some r → z_W Γ p l e rmX9_isColoured s m args below meth c 6 0 0 (MQ below (z_Qc Γ (some (.int r.1)) r.2) args s rmX9_isColoured.cells rmX9_isColoured.slots (z_A Γ)) 15 [(0, .ref l0), (1, .int l1), (2, .int l2), (3, .int l3), (4, .int l4), (5, .int l5)] [] h := by
  intro nn
  induction nn with
  | zero => intro l0 l1 l2 l3 l4 l5 h hX; cases hX
  | succ nn ih => intro l0 l1 l2 l3 l4 l5 h hX; exact wX9_isColoured_B15 hO G hr hnm  H3 ih l0 l1 l2 l3 l4 l5 h hX
noncomputable def xX9_isColoured_B3 (r3 : Nat → Int32 → Int32 → Int32 → Int32 → ZH → Option (Int32 × ZH)) (l0 : Nat) (l1 : Int32) (l2 : Int32) (l3 : Int32) (l4 : Int32) (h : ZH) : Option (Int32 × ZH) := (z_gu (z_is h l0 9) ((xX9_lots l0 h).bind fun r6 => (if r6.1 ≤ l4 then some ((1 : Int32), r6.2) else xX9_isColoured_L15 r3 zFU l0 l1 l2 l3 l4 (0 : Int32) r6.2)))
noncomputable def xX9_isColoured_L3 (n : Nat) : Nat → Int32 → Int32 → Int32 → Int32 → ZH → Option (Int32 × ZH) := Nat.rec (motive := fun _ => Nat → Int32 → Int32 → Int32 → Int32 → ZH → Option (Int32 × ZH)) (fun _ _ _ _ _ _ => none) (fun _ rec => xX9_isColoured_B3  rec) n
set_option maxHeartbeats 4000000 in
set_option maxRecDepth 100000 in
theorem wX9_isColoured_B3 {Γ : ZG} {p : Program} {l : Launch} {e : Env} {s : State} {m : MethodId} {args : Array Value} {below : List Frame} {meth : Method} {c : Code} (hO : z_OK Γ) (G : z_GG Γ p s m args meth c cX9_isColoured 6 RX9) (hr : meth.sig.returnType = (some .boolean)) (hnm : meth.name = "isColoured") {r : (Int32 × ZH)} {r3 : Nat → Int32 → Int32 → Int32 → Int32 → ZH → Option (Int32 × ZH)} (H3 : ∀ (l0 : Nat) (l1 : Int32) (l2 : Int32) (l3 : Int32) (l4 : Int32) (h : ZH), r3 l0 l1 l2 l3 l4 h = some r → z_W Γ p l e rmX9_isColoured s m args below meth c 6 0 0 (MQ below (z_Qc Γ (some (.int r.1)) r.2) args s rmX9_isColoured.cells rmX9_isColoured.slots (z_A Γ)) 3 [(0, .ref l0), (1, .int l1), (2, .int l2), (3, .int l3), (4, .int l4)] [] h) : ∀ (l0 : Nat) (l1 : Int32) (l2 : Int32) (l3 : Int32) (l4 : Int32) (h : ZH), xX9_isColoured_B3  r3 l0 l1 l2 l3 l4 h = some r → z_W Γ p l e rmX9_isColoured s m args below meth c 6 0 0 (MQ below (z_Qc Γ (some (.int r.1)) r.2) args s rmX9_isColoured.cells rmX9_isColoured.slots (z_A Γ)) 3 [(0, .ref l0), (1, .int l1), (2, .int l2), (3, .int l3), (4, .int l4)] [] h := by
  intro l0 l1 l2 l3 l4 h hX
  refine z_iload (pc := 3) G 4 dX9_isColoured_3 rfl ?_
  refine z_aload_n (pc := 5) G 0 dX9_isColoured_5 rfl rfl ?_
  obtain ⟨hi6, hX⟩ := z_gu_s hX
  obtain ⟨r6, hv6, hX⟩ := z_bd hX
  refine z_cVI (pc := 6) (As := []) (c2 := 0) (s2 := 0) G kK9 (lX9_lots hO hv6) hi6 kt_1221 kt_11 kt_1218 kt_1220 ks_36 ydX9_lots ⟨by decide, by decide⟩ rfl (Nat.le_of_ble_eq_true rfl) ⟨rfl, rfl⟩ ⟨by decide, by decide⟩ rfl dX9_isColoured_6 ?_
  refine z_icmp_ge (pc := 9) (tgt := 83) G dX9_isColoured_9 (by decide) (fun hc9 => ?_) (fun hc9 => ?_)
  · have hX := z_it hc9 hX
    refine z_iconst (pc := 83) (v := 1) G dX9_isColoured_83 (by decide) ?_
    exact z_zretX (pc := 84) hX G hr rfl dX9_isColoured_84 (by decide) (by decide)
  · have hX := z_if hc9 hX
    refine z_iconst (pc := 12) (v := 0) G dX9_isColoured_12 (by decide) ?_
    refine z_istore (pc := 13) (lv2 := [(0, .ref l0), (1, .int l1), (2, .int l2), (3, .int l3), (4, .int l4), (5, .int (0 : Int32))]) G dX9_isColoured_13 (by decide) rfl rfl ?_
    exact wX9_isColoured_L15 hO G hr hnm H3 zFU _ _ _ _ _ _ _ hX
set_option maxHeartbeats 4000000 in
set_option maxRecDepth 100000 in
theorem wX9_isColoured_L3 {Γ : ZG} {p : Program} {l : Launch} {e : Env} {s : State} {m : MethodId} {args : Array Value} {below : List Frame} {meth : Method} {c : Code} (hO : z_OK Γ) (G : z_GG Γ p s m args meth c cX9_isColoured 6 RX9) (hr : meth.sig.returnType = (some .boolean)) (hnm : meth.name = "isColoured") {r : (Int32 × ZH)} : ∀ (nn : Nat) (l0 : Nat) (l1 : Int32) (l2 : Int32) (l3 : Int32) (l4 : Int32) (h : ZH), xX9_isColoured_L3  nn l0 l1 l2 l3 l4 h = some r → z_W Γ p l e rmX9_isColoured s m args below meth c 6 0 0 (MQ below (z_Qc Γ (some (.int r.1)) r.2) args s rmX9_isColoured.cells rmX9_isColoured.slots (z_A Γ)) 3 [(0, .ref l0), (1, .int l1), (2, .int l2), (3, .int l3), (4, .int l4)] [] h := by
  intro nn
  induction nn with
  | zero => intro l0 l1 l2 l3 l4 h hX; cases hX
  | succ nn ih => intro l0 l1 l2 l3 l4 h hX; exact wX9_isColoured_B3 hO G hr hnm  ih l0 l1 l2 l3 l4 h hX
noncomputable def xX9_isColoured (l0 : Nat) (l1 : Int32) (l2 : Int32) (l3 : Int32) (h : ZH) : Option (Int32 × ZH) := xX9_isColoured_L3 zFU l0 l1 l2 l3 (0 : Int32) h
set_option maxHeartbeats 4000000 in
set_option maxRecDepth 100000 in
theorem lX9_isColoured {Γ : ZG} {l : Launch} (hO : z_OK Γ) {l0 : Nat} {l1 : Int32} {l2 : Int32} {l3 : Int32} {h : ZH} {r : (Int32 × ZH)} (hX : xX9_isColoured l0 l1 l2 l3 h = some r) : z_M Γ l yX9_isColoured (z_ws1 yX9_isColoured cX9_isColoured 6 (some .boolean)) rmX9_isColoured [.ref l0, .int l1, .int l2, .int l3] h (some (.int r.1)) r.2 := by
  refine z_start hO (plainFor_of_name (by decide)) (Nat.le_of_ble_eq_true rfl) ?_
  intro p e s m args below meth c G hr hnm
  refine z_lvc (lv2 := [(0, .ref l0), (1, .int l1), (2, .int l2), (3, .int l3)]) rfl ?_
  refine z_iconst (pc := 0) (v := 0) G dX9_isColoured_0 (by decide) ?_
  refine z_istore (pc := 1) (lv2 := [(0, .ref l0), (1, .int l1), (2, .int l2), (3, .int l3), (4, .int (0 : Int32))]) G dX9_isColoured_1 (by decide) rfl rfl ?_
  exact wX9_isColoured_L3 hO G hr hnm zFU _ _ _ _ _ _ hX
theorem dX9_canColour_0 : decode cX9_canColour 0 = .ok (.iconst 0, 1) := by decide +kernel
theorem dX9_canColour_1 : decode cX9_canColour 1 = .ok (.istore_n 3, 1) := by decide +kernel
theorem dX9_canColour_2 : decode cX9_canColour 2 = .ok (.iload_n 3, 1) := by decide +kernel
theorem dX9_canColour_3 : decode cX9_canColour 3 = .ok (.iload_n 1, 1) := by decide +kernel
theorem dX9_canColour_4 : decode cX9_canColour 4 = .ok (.aload_n 0, 1) := by decide +kernel
theorem dX9_canColour_5 : decode cX9_canColour 5 = .ok (.invokevirtual 337, 3) := by decide +kernel
theorem dX9_canColour_8 : decode cX9_canColour 8 = .ok (.invokestatic 483, 3) := by decide +kernel
theorem dX9_canColour_11 : decode cX9_canColour 11 = .ok (.if_icmp .ge 21, 3) := by decide +kernel
theorem dX9_canColour_14 : decode cX9_canColour 14 = .ok (.aload_n 0, 1) := by decide +kernel
theorem dX9_canColour_15 : decode cX9_canColour 15 = .ok (.iload_n 3, 1) := by decide +kernel
theorem dX9_canColour_16 : decode cX9_canColour 16 = .ok (.iload_n 1, 1) := by decide +kernel
theorem dX9_canColour_17 : decode cX9_canColour 17 = .ok (.iload_n 2, 1) := by decide +kernel
theorem dX9_canColour_18 : decode cX9_canColour 18 = .ok (.invokevirtual 492, 3) := by decide +kernel
theorem dX9_canColour_21 : decode cX9_canColour 21 = .ok (.ifCond .eq 5, 3) := by decide +kernel
theorem dX9_canColour_24 : decode cX9_canColour 24 = .ok (.iconst 1, 1) := by decide +kernel
theorem dX9_canColour_25 : decode cX9_canColour 25 = .ok (.ireturn, 1) := by decide +kernel
theorem dX9_canColour_26 : decode cX9_canColour 26 = .ok (.iinc 3 1, 3) := by decide +kernel
theorem dX9_canColour_29 : decode cX9_canColour 29 = .ok (.goto (-27), 3) := by decide +kernel
theorem dX9_canColour_32 : decode cX9_canColour 32 = .ok (.iconst 0, 1) := by decide +kernel
theorem dX9_canColour_33 : decode cX9_canColour 33 = .ok (.ireturn, 1) := by decide +kernel
theorem ydX9_canColour : z_yd yX9_canColour 2 := ⟨by decide, by decide, by decide +kernel⟩
abbrev rmX9_canColour : Room := { frames := 6, cells := 0, slots := 0, locals := 136 }
noncomputable def xX9_canColour_B2 (r2 : Nat → Int32 → Int32 → Int32 → ZH → Option (Int32 × ZH)) (l0 : Nat) (l1 : Int32) (l2 : Int32) (l3 : Int32) (h : ZH) : Option (Int32 × ZH) := (z_gu (z_is h l0 9) ((xX9_lots l0 h).bind fun r5 => ((xX9_power l1 r5.1 r5.2).bind fun r8 => (if r8.1 ≤ l3 then some ((0 : Int32), r8.2) else (z_gu (z_is r8.2 l0 9) ((xX9_isColoured l0 l3 l1 l2 r8.2).bind fun r18 => (if r18.1 = 0 then r2 l0 l1 l2 (l3 + 1) r18.2 else some ((1 : Int32), r18.2))))))))
noncomputable def xX9_canColour_L2 (n : Nat) : Nat → Int32 → Int32 → Int32 → ZH → Option (Int32 × ZH) := Nat.rec (motive := fun _ => Nat → Int32 → Int32 → Int32 → ZH → Option (Int32 × ZH)) (fun _ _ _ _ _ => none) (fun _ rec => xX9_canColour_B2  rec) n
set_option maxHeartbeats 4000000 in
set_option maxRecDepth 100000 in
theorem wX9_canColour_B2 {Γ : ZG} {p : Program} {l : Launch} {e : Env} {s : State} {m : MethodId} {args : Array Value} {below : List Frame} {meth : Method} {c : Code} (hO : z_OK Γ) (G : z_GG Γ p s m args meth c cX9_canColour 4 RX9) (hr : meth.sig.returnType = (some .boolean)) (hnm : meth.name = "canColour") {r : (Int32 × ZH)} {r2 : Nat → Int32 → Int32 → Int32 → ZH → Option (Int32 × ZH)} (H2 : ∀ (l0 : Nat) (l1 : Int32) (l2 : Int32) (l3 : Int32) (h : ZH), r2 l0 l1 l2 l3 h = some r → z_W Γ p l e rmX9_canColour s m args below meth c 4 0 0 (MQ below (z_Qc Γ (some (.int r.1)) r.2) args s rmX9_canColour.cells rmX9_canColour.slots (z_A Γ)) 2 [(0, .ref l0), (1, .int l1), (2, .int l2), (3, .int l3)] [] h) : ∀ (l0 : Nat) (l1 : Int32) (l2 : Int32) (l3 : Int32) (h : ZH), xX9_canColour_B2  r2 l0 l1 l2 l3 h = some r → z_W Γ p l e rmX9_canColour s m args below meth c 4 0 0 (MQ below (z_Qc Γ (some (.int r.1)) r.2) args s rmX9_canColour.cells rmX9_canColour.slots (z_A Γ)) 2 [(0, .ref l0), (1, .int l1), (2, .int l2), (3, .int l3)] [] h := by
  intro l0 l1 l2 l3 h hX
  refine z_iload_n (pc := 2) G 3 dX9_canColour_2 rfl rfl ?_
  refine z_iload_n (pc := 3) G 1 dX9_canColour_3 rfl rfl ?_
  refine z_aload_n (pc := 4) G 0 dX9_canColour_4 rfl rfl ?_
  obtain ⟨hi5, hX⟩ := z_gu_s hX
  obtain ⟨r5, hv5, hX⟩ := z_bd hX
  refine z_cVI (pc := 5) (As := []) (c2 := 0) (s2 := 0) G kK9 (lX9_lots hO hv5) hi5 kt_1221 kt_11 kt_1218 kt_1220 ks_36 ydX9_lots ⟨by decide, by decide⟩ rfl (Nat.le_of_ble_eq_true rfl) ⟨rfl, rfl⟩ ⟨by decide, by decide⟩ rfl dX9_canColour_5 ?_
  obtain ⟨r8, hv8, hX⟩ := z_bd hX
  refine z_cSI (pc := 8) (As := [.int l1, .int r5.1]) (c2 := 0) (s2 := 0) G (lX9_power hO hv8) kt_1838 kt_11 kt_1836 kt_1837 ydX9_power ⟨by decide, by decide⟩ rfl (Nat.le_of_ble_eq_true rfl) ⟨rfl, rfl⟩ ⟨by decide, by decide⟩ rfl dX9_canColour_8 ?_
  refine z_icmp_ge (pc := 11) (tgt := 32) G dX9_canColour_11 (by decide) (fun hc11 => ?_) (fun hc11 => ?_)
  · have hX := z_it hc11 hX
    refine z_iconst (pc := 32) (v := 0) G dX9_canColour_32 (by decide) ?_
    exact z_zretX (pc := 33) hX G hr rfl dX9_canColour_33 (by decide) (by decide)
  · have hX := z_if hc11 hX
    refine z_aload_n (pc := 14) G 0 dX9_canColour_14 rfl rfl ?_
    refine z_iload_n (pc := 15) G 3 dX9_canColour_15 rfl rfl ?_
    refine z_iload_n (pc := 16) G 1 dX9_canColour_16 rfl rfl ?_
    refine z_iload_n (pc := 17) G 2 dX9_canColour_17 rfl rfl ?_
    obtain ⟨hi18, hX⟩ := z_gu_s hX
    obtain ⟨r18, hv18, hX⟩ := z_bd hX
    refine z_cVI (pc := 18) (As := [.int l3, .int l1, .int l2]) (c2 := 0) (s2 := 0) G kK9 (lX9_isColoured hO hv18) hi18 kt_1842 kt_11 kt_1839 kt_1841 ks_102 ydX9_isColoured ⟨by decide, by decide⟩ rfl (Nat.le_of_ble_eq_true rfl) ⟨rfl, rfl⟩ ⟨by decide, by decide⟩ rfl dX9_canColour_18 ?_
    refine z_if_eq (pc := 21) (tgt := 26) G dX9_canColour_21 (by decide) (fun hc21 => ?_) (fun hc21 => ?_)
    · have hX := z_it hc21 hX
      refine z_iincw (pc := 26) (w := 1) (lv2 := [(0, .ref l0), (1, .int l1), (2, .int l2), (3, .int (l3 + 1))]) G 3 dX9_canColour_26 rfl (by decide) (by decide) rfl rfl ?_
      refine z_goto (pc := 29) (tgt := 2) G dX9_canColour_29 (by decide) ?_
      exact H2 _ _ _ _ _ hX
    · have hX := z_if hc21 hX
      refine z_iconst (pc := 24) (v := 1) G dX9_canColour_24 (by decide) ?_
      exact z_zretX (pc := 25) hX G hr rfl dX9_canColour_25 (by decide) (by decide)
set_option maxHeartbeats 4000000 in
set_option maxRecDepth 100000 in
theorem wX9_canColour_L2 {Γ : ZG} {p : Program} {l : Launch} {e : Env} {s : State} {m : MethodId} {args : Array Value} {below : List Frame} {meth : Method} {c : Code} (hO : z_OK Γ) (G : z_GG Γ p s m args meth c cX9_canColour 4 RX9) (hr : meth.sig.returnType = (some .boolean)) (hnm : meth.name = "canColour") {r : (Int32 × ZH)} : ∀ (nn : Nat) (l0 : Nat) (l1 : Int32) (l2 : Int32) (l3 : Int32) (h : ZH), xX9_canColour_L2  nn l0 l1 l2 l3 h = some r → z_W Γ p l e rmX9_canColour s m args below meth c 4 0 0 (MQ below (z_Qc Γ (some (.int r.1)) r.2) args s rmX9_canColour.cells rmX9_canColour.slots (z_A Γ)) 2 [(0, .ref l0), (1, .int l1), (2, .int l2), (3, .int l3)] [] h := by
  intro nn
  induction nn with
  | zero => intro l0 l1 l2 l3 h hX; cases hX
  | succ nn ih => intro l0 l1 l2 l3 h hX; exact wX9_canColour_B2 hO G hr hnm  ih l0 l1 l2 l3 h hX
noncomputable def xX9_canColour (l0 : Nat) (l1 : Int32) (l2 : Int32) (h : ZH) : Option (Int32 × ZH) := xX9_canColour_L2 zFU l0 l1 l2 (0 : Int32) h
set_option maxHeartbeats 4000000 in
set_option maxRecDepth 100000 in
theorem lX9_canColour {Γ : ZG} {l : Launch} (hO : z_OK Γ) {l0 : Nat} {l1 : Int32} {l2 : Int32} {h : ZH} {r : (Int32 × ZH)} (hX : xX9_canColour l0 l1 l2 h = some r) : z_M Γ l yX9_canColour (z_ws1 yX9_canColour cX9_canColour 4 (some .boolean)) rmX9_canColour [.ref l0, .int l1, .int l2] h (some (.int r.1)) r.2 := by
  refine z_start hO (plainFor_of_name (by decide)) (Nat.le_of_ble_eq_true rfl) ?_
  intro p e s m args below meth c G hr hnm
  refine z_lvc (lv2 := [(0, .ref l0), (1, .int l1), (2, .int l2)]) rfl ?_
  refine z_iconst (pc := 0) (v := 0) G dX9_canColour_0 (by decide) ?_
  refine z_istore_n (pc := 1) (lv2 := [(0, .ref l0), (1, .int l1), (2, .int l2), (3, .int (0 : Int32))]) G dX9_canColour_1 rfl (by decide) rfl rfl ?_
  exact wX9_canColour_L2 hO G hr hnm zFU _ _ _ _ _ hX
theorem dX9_colours_0 : decode cX9_colours 0 = .ok (.iload_n 1, 1) := by decide +kernel
theorem dX9_colours_1 : decode cX9_colours 1 = .ok (.iconst 0, 1) := by decide +kernel
theorem dX9_colours_2 : decode cX9_colours 2 = .ok (.iconst 1, 1) := by decide +kernel
theorem dX9_colours_3 : decode cX9_colours 3 = .ok (.invokestatic 340, 3) := by decide +kernel
theorem dX9_colours_6 : decode cX9_colours 6 = .ok (.ifCond .ne 5, 3) := by decide +kernel
theorem dX9_colours_9 : decode cX9_colours 9 = .ok (.iconst (-1), 1) := by decide +kernel
theorem dX9_colours_10 : decode cX9_colours 10 = .ok (.ireturn, 1) := by decide +kernel
theorem dX9_colours_11 : decode cX9_colours 11 = .ok (.aload_n 0, 1) := by decide +kernel
theorem dX9_colours_12 : decode cX9_colours 12 = .ok (.invokevirtual 456, 3) := by decide +kernel
theorem dX9_colours_15 : decode cX9_colours 15 = .ok (.ifCond .ne 5, 3) := by decide +kernel
theorem dX9_colours_18 : decode cX9_colours 18 = .ok (.iconst 0, 1) := by decide +kernel
theorem dX9_colours_19 : decode cX9_colours 19 = .ok (.ireturn, 1) := by decide +kernel
theorem dX9_colours_20 : decode cX9_colours 20 = .ok (.iconst 1, 1) := by decide +kernel
theorem dX9_colours_21 : decode cX9_colours 21 = .ok (.istore_n 2, 1) := by decide +kernel
theorem dX9_colours_22 : decode cX9_colours 22 = .ok (.aload_n 0, 1) := by decide +kernel
theorem dX9_colours_23 : decode cX9_colours 23 = .ok (.iload_n 2, 1) := by decide +kernel
theorem dX9_colours_24 : decode cX9_colours 24 = .ok (.iload_n 1, 1) := by decide +kernel
theorem dX9_colours_25 : decode cX9_colours 25 = .ok (.invokevirtual 495, 3) := by decide +kernel
theorem dX9_colours_28 : decode cX9_colours 28 = .ok (.ifCond .ne 9, 3) := by decide +kernel
theorem dX9_colours_31 : decode cX9_colours 31 = .ok (.iinc 2 1, 3) := by decide +kernel
theorem dX9_colours_34 : decode cX9_colours 34 = .ok (.goto (-12), 3) := by decide +kernel
theorem dX9_colours_37 : decode cX9_colours 37 = .ok (.iload_n 2, 1) := by decide +kernel
theorem dX9_colours_38 : decode cX9_colours 38 = .ok (.ireturn, 1) := by decide +kernel
theorem ydX9_colours : z_yd yX9_colours 1 := ⟨by decide, by decide, by decide +kernel⟩
abbrev rmX9_colours : Room := { frames := 7, cells := 0, slots := 0, locals := 159 }
noncomputable def xX9_colours_B22 (r22 : Nat → Int32 → Int32 → ZH → Option (Int32 × ZH)) (l0 : Nat) (l1 : Int32) (l2 : Int32) (h : ZH) : Option (Int32 × ZH) := (z_gu (z_is h l0 9) ((xX9_canColour l0 l2 l1 h).bind fun r25 => (if r25.1 = 0 then r22 l0 l1 (l2 + 1) r25.2 else some (l2, r25.2))))
noncomputable def xX9_colours_L22 (n : Nat) : Nat → Int32 → Int32 → ZH → Option (Int32 × ZH) := Nat.rec (motive := fun _ => Nat → Int32 → Int32 → ZH → Option (Int32 × ZH)) (fun _ _ _ _ => none) (fun _ rec => xX9_colours_B22  rec) n
set_option maxHeartbeats 4000000 in
set_option maxRecDepth 100000 in
theorem wX9_colours_B22 {Γ : ZG} {p : Program} {l : Launch} {e : Env} {s : State} {m : MethodId} {args : Array Value} {below : List Frame} {meth : Method} {c : Code} (hO : z_OK Γ) (G : z_GG Γ p s m args meth c cX9_colours 3 RX9) (hr : meth.sig.returnType = (some .int)) (hnm : meth.name = "colours") {r : (Int32 × ZH)} {r22 : Nat → Int32 → Int32 → ZH → Option (Int32 × ZH)} (H22 : ∀ (l0 : Nat) (l1 : Int32) (l2 : Int32) (h : ZH), r22 l0 l1 l2 h = some r → z_W Γ p l e rmX9_colours s m args below meth c 3 0 0 (MQ below (z_Qc Γ (some (.int r.1)) r.2) args s rmX9_colours.cells rmX9_colours.slots (z_A Γ)) 22 [(0, .ref l0), (1, .int l1), (2, .int l2)] [] h) : ∀ (l0 : Nat) (l1 : Int32) (l2 : Int32) (h : ZH), xX9_colours_B22  r22 l0 l1 l2 h = some r → z_W Γ p l e rmX9_colours s m args below meth c 3 0 0 (MQ below (z_Qc Γ (some (.int r.1)) r.2) args s rmX9_colours.cells rmX9_colours.slots (z_A Γ)) 22 [(0, .ref l0), (1, .int l1), (2, .int l2)] [] h := by
  intro l0 l1 l2 h hX
  refine z_aload_n (pc := 22) G 0 dX9_colours_22 rfl rfl ?_
  refine z_iload_n (pc := 23) G 2 dX9_colours_23 rfl rfl ?_
  refine z_iload_n (pc := 24) G 1 dX9_colours_24 rfl rfl ?_
  obtain ⟨hi25, hX⟩ := z_gu_s hX
  obtain ⟨r25, hv25, hX⟩ := z_bd hX
  refine z_cVI (pc := 25) (As := [.int l2, .int l1]) (c2 := 0) (s2 := 0) G kK9 (lX9_canColour hO hv25) hi25 kt_1835 kt_11 kt_1832 kt_1834 ks_101 ydX9_canColour ⟨by decide, by decide⟩ rfl (Nat.le_of_ble_eq_true rfl) ⟨rfl, rfl⟩ ⟨by decide, by decide⟩ rfl dX9_colours_25 ?_
  refine z_if_ne (pc := 28) (tgt := 37) G dX9_colours_28 (by decide) (fun hc28 => ?_) (fun hc28 => ?_)
  · have hX := z_if hc28 hX
    refine z_iload_n (pc := 37) G 2 dX9_colours_37 rfl rfl ?_
    exact z_iretX (pc := 38) hX G hr dX9_colours_38 (by decide) (by decide)
  · have hX := z_it hc28 hX
    refine z_iincw (pc := 31) (w := 1) (lv2 := [(0, .ref l0), (1, .int l1), (2, .int (l2 + 1))]) G 2 dX9_colours_31 rfl (by decide) (by decide) rfl rfl ?_
    refine z_goto (pc := 34) (tgt := 22) G dX9_colours_34 (by decide) ?_
    exact H22 _ _ _ _ hX
set_option maxHeartbeats 4000000 in
set_option maxRecDepth 100000 in
theorem wX9_colours_L22 {Γ : ZG} {p : Program} {l : Launch} {e : Env} {s : State} {m : MethodId} {args : Array Value} {below : List Frame} {meth : Method} {c : Code} (hO : z_OK Γ) (G : z_GG Γ p s m args meth c cX9_colours 3 RX9) (hr : meth.sig.returnType = (some .int)) (hnm : meth.name = "colours") {r : (Int32 × ZH)} : ∀ (nn : Nat) (l0 : Nat) (l1 : Int32) (l2 : Int32) (h : ZH), xX9_colours_L22  nn l0 l1 l2 h = some r → z_W Γ p l e rmX9_colours s m args below meth c 3 0 0 (MQ below (z_Qc Γ (some (.int r.1)) r.2) args s rmX9_colours.cells rmX9_colours.slots (z_A Γ)) 22 [(0, .ref l0), (1, .int l1), (2, .int l2)] [] h := by
  intro nn
  induction nn with
  | zero => intro l0 l1 l2 h hX; cases hX
  | succ nn ih => intro l0 l1 l2 h hX; exact wX9_colours_B22 hO G hr hnm  ih l0 l1 l2 h hX
noncomputable def xX9_colours (l0 : Nat) (l1 : Int32) (h : ZH) : Option (Int32 × ZH) := ((xX9_isIn l1 (0 : Int32) (1 : Int32) h).bind fun r3 => (if r3.1 = 0 then some ((-1 : Int32), r3.2) else (z_gu (z_is r3.2 l0 9) ((xX9_litNow l0 r3.2).bind fun r12 => (if r12.1 = 0 then some ((0 : Int32), r12.2) else xX9_colours_L22 zFU l0 l1 (1 : Int32) r12.2)))))
set_option maxHeartbeats 4000000 in
set_option maxRecDepth 100000 in
theorem lX9_colours {Γ : ZG} {l : Launch} (hO : z_OK Γ) {l0 : Nat} {l1 : Int32} {h : ZH} {r : (Int32 × ZH)} (hX : xX9_colours l0 l1 h = some r) : z_M Γ l yX9_colours (z_ws1 yX9_colours cX9_colours 3 (some .int)) rmX9_colours [.ref l0, .int l1] h (some (.int r.1)) r.2 := by
  refine z_start hO (plainFor_of_name (by decide)) (Nat.le_of_ble_eq_true rfl) ?_
  intro p e s m args below meth c G hr hnm
  refine z_lvc (lv2 := [(0, .ref l0), (1, .int l1)]) rfl ?_
  refine z_iload_n (pc := 0) G 1 dX9_colours_0 rfl rfl ?_
  refine z_iconst (pc := 1) (v := 0) G dX9_colours_1 (by decide) ?_
  refine z_iconst (pc := 2) (v := 1) G dX9_colours_2 (by decide) ?_
  obtain ⟨r3, hv3, hX⟩ := z_bd hX
  refine z_cSI (pc := 3) (As := [.int l1, .int (0 : Int32), .int (1 : Int32)]) (c2 := 0) (s2 := 0) G (lX9_isIn hO hv3) kt_1559 kt_11 kt_1557 kt_1558 ydX9_isIn ⟨by decide, by decide⟩ rfl (Nat.le_of_ble_eq_true rfl) ⟨rfl, rfl⟩ ⟨by decide, by decide⟩ rfl dX9_colours_3 ?_
  refine z_if_ne (pc := 6) (tgt := 11) G dX9_colours_6 (by decide) (fun hc6 => ?_) (fun hc6 => ?_)
  · have hX := z_if hc6 hX
    refine z_aload_n (pc := 11) G 0 dX9_colours_11 rfl rfl ?_
    obtain ⟨hi12, hX⟩ := z_gu_s hX
    obtain ⟨r12, hv12, hX⟩ := z_bd hX
    refine z_cVI (pc := 12) (As := []) (c2 := 0) (s2 := 0) G kK9 (lX9_litNow hO hv12) hi12 kt_1687 kt_11 kt_1684 kt_1686 ks_79 ydX9_litNow ⟨by decide, by decide⟩ rfl (Nat.le_of_ble_eq_true rfl) ⟨rfl, rfl⟩ ⟨by decide, by decide⟩ rfl dX9_colours_12 ?_
    refine z_if_ne (pc := 15) (tgt := 20) G dX9_colours_15 (by decide) (fun hc15 => ?_) (fun hc15 => ?_)
    · have hX := z_if hc15 hX
      refine z_iconst (pc := 20) (v := 1) G dX9_colours_20 (by decide) ?_
      refine z_istore_n (pc := 21) (lv2 := [(0, .ref l0), (1, .int l1), (2, .int (1 : Int32))]) G dX9_colours_21 rfl (by decide) rfl rfl ?_
      exact wX9_colours_L22 hO G hr hnm zFU _ _ _ _ hX
    · have hX := z_it hc15 hX
      refine z_iconst (pc := 18) (v := 0) G dX9_colours_18 (by decide) ?_
      exact z_iretX (pc := 19) hX G hr dX9_colours_19 (by decide) (by decide)
  · have hX := z_it hc6 hX
    refine z_iconst (pc := 9) (v := (-1)) G dX9_colours_9 (by decide) ?_
    exact z_iretX (pc := 10) hX G hr dX9_colours_10 (by decide) (by decide)
theorem dX9_isCrowd_0 : decode cX9_isCrowd 0 = .ok (.iconst 0, 1) := by decide +kernel
theorem dX9_isCrowd_1 : decode cX9_isCrowd 1 = .ok (.istore_n 2, 1) := by decide +kernel
theorem dX9_isCrowd_2 : decode cX9_isCrowd 2 = .ok (.iload_n 2, 1) := by decide +kernel
theorem dX9_isCrowd_3 : decode cX9_isCrowd 3 = .ok (.aload_n 0, 1) := by decide +kernel
theorem dX9_isCrowd_4 : decode cX9_isCrowd 4 = .ok (.invokevirtual 337, 3) := by decide +kernel
theorem dX9_isCrowd_7 : decode cX9_isCrowd 7 = .ok (.if_icmp .ge 49, 3) := by decide +kernel
theorem dX9_isCrowd_10 : decode cX9_isCrowd 10 = .ok (.iconst 0, 1) := by decide +kernel
theorem dX9_isCrowd_11 : decode cX9_isCrowd 11 = .ok (.istore_n 3, 1) := by decide +kernel
theorem dX9_isCrowd_12 : decode cX9_isCrowd 12 = .ok (.iload_n 3, 1) := by decide +kernel
theorem dX9_isCrowd_13 : decode cX9_isCrowd 13 = .ok (.iload_n 2, 1) := by decide +kernel
theorem dX9_isCrowd_14 : decode cX9_isCrowd 14 = .ok (.if_icmp .ge 36, 3) := by decide +kernel
theorem dX9_isCrowd_17 : decode cX9_isCrowd 17 = .ok (.iload_n 1, 1) := by decide +kernel
theorem dX9_isCrowd_18 : decode cX9_isCrowd 18 = .ok (.iload_n 2, 1) := by decide +kernel
theorem dX9_isCrowd_19 : decode cX9_isCrowd 19 = .ok (.invokestatic 265, 3) := by decide +kernel
theorem dX9_isCrowd_22 : decode cX9_isCrowd 22 = .ok (.ifCond .eq 22, 3) := by decide +kernel
theorem dX9_isCrowd_25 : decode cX9_isCrowd 25 = .ok (.iload_n 1, 1) := by decide +kernel
theorem dX9_isCrowd_26 : decode cX9_isCrowd 26 = .ok (.iload_n 3, 1) := by decide +kernel
theorem dX9_isCrowd_27 : decode cX9_isCrowd 27 = .ok (.invokestatic 265, 3) := by decide +kernel
theorem dX9_isCrowd_30 : decode cX9_isCrowd 30 = .ok (.ifCond .eq 14, 3) := by decide +kernel
theorem dX9_isCrowd_33 : decode cX9_isCrowd 33 = .ok (.aload_n 0, 1) := by decide +kernel
theorem dX9_isCrowd_34 : decode cX9_isCrowd 34 = .ok (.iload_n 2, 1) := by decide +kernel
theorem dX9_isCrowd_35 : decode cX9_isCrowd 35 = .ok (.iload_n 3, 1) := by decide +kernel
theorem dX9_isCrowd_36 : decode cX9_isCrowd 36 = .ok (.invokevirtual 431, 3) := by decide +kernel
theorem dX9_isCrowd_39 : decode cX9_isCrowd 39 = .ok (.ifCond .ne 5, 3) := by decide +kernel
theorem dX9_isCrowd_42 : decode cX9_isCrowd 42 = .ok (.iconst 0, 1) := by decide +kernel
theorem dX9_isCrowd_43 : decode cX9_isCrowd 43 = .ok (.ireturn, 1) := by decide +kernel
theorem dX9_isCrowd_44 : decode cX9_isCrowd 44 = .ok (.iinc 3 1, 3) := by decide +kernel
theorem dX9_isCrowd_47 : decode cX9_isCrowd 47 = .ok (.goto (-35), 3) := by decide +kernel
theorem dX9_isCrowd_50 : decode cX9_isCrowd 50 = .ok (.iinc 2 1, 3) := by decide +kernel
theorem dX9_isCrowd_53 : decode cX9_isCrowd 53 = .ok (.goto (-51), 3) := by decide +kernel
theorem dX9_isCrowd_56 : decode cX9_isCrowd 56 = .ok (.iconst 1, 1) := by decide +kernel
theorem dX9_isCrowd_57 : decode cX9_isCrowd 57 = .ok (.ireturn, 1) := by decide +kernel
theorem ydX9_isCrowd : z_yd yX9_isCrowd 1 := ⟨by decide, by decide, by decide +kernel⟩
abbrev rmX9_isCrowd : Room := { frames := 3, cells := 0, slots := 0, locals := 64 }
noncomputable def xX9_isCrowd_B12 (r2 : Nat → Int32 → Int32 → ZH → Option (Int32 × ZH)) (r12 : Nat → Int32 → Int32 → Int32 → ZH → Option (Int32 × ZH)) (l0 : Nat) (l1 : Int32) (l2 : Int32) (l3 : Int32) (h : ZH) : Option (Int32 × ZH) := (if l2 ≤ l3 then r2 l0 l1 (l2 + 1) h else ((xX9_bit l1 l2 h).bind fun r19 => (if r19.1 = 0 then r12 l0 l1 l2 (l3 + 1) r19.2 else ((xX9_bit l1 l3 r19.2).bind fun r27 => (if r27.1 = 0 then r12 l0 l1 l2 (l3 + 1) r27.2 else (z_gu (z_is r27.2 l0 9) ((xX9_doHear l0 l2 l3 r27.2).bind fun r36 => (if r36.1 = 0 then some ((0 : Int32), r36.2) else r12 l0 l1 l2 (l3 + 1) r36.2))))))))
noncomputable def xX9_isCrowd_L12 (r2 : Nat → Int32 → Int32 → ZH → Option (Int32 × ZH)) (n : Nat) : Nat → Int32 → Int32 → Int32 → ZH → Option (Int32 × ZH) := Nat.rec (motive := fun _ => Nat → Int32 → Int32 → Int32 → ZH → Option (Int32 × ZH)) (fun _ _ _ _ _ => none) (fun _ rec => xX9_isCrowd_B12  r2 rec) n
set_option maxHeartbeats 4000000 in
set_option maxRecDepth 100000 in
theorem wX9_isCrowd_B12 {Γ : ZG} {p : Program} {l : Launch} {e : Env} {s : State} {m : MethodId} {args : Array Value} {below : List Frame} {meth : Method} {c : Code} (hO : z_OK Γ) (G : z_GG Γ p s m args meth c cX9_isCrowd 4 RX9) (hr : meth.sig.returnType = (some .boolean)) (hnm : meth.name = "isCrowd") {r : (Int32 × ZH)} {r2 : Nat → Int32 → Int32 → ZH → Option (Int32 × ZH)} (H2 : ∀ (l0 : Nat) (l1 : Int32) (l2 : Int32) (h : ZH), r2 l0 l1 l2 h = some r → z_W Γ p l e rmX9_isCrowd s m args below meth c 4 0 0 (MQ below (z_Qc Γ (some (.int r.1)) r.2) args s rmX9_isCrowd.cells rmX9_isCrowd.slots (z_A Γ)) 2 [(0, .ref l0), (1, .int l1), (2, .int l2)] [] h) {r12 : Nat → Int32 → Int32 → Int32 → ZH → Option (Int32 × ZH)} (H12 : ∀ (l0 : Nat) (l1 : Int32) (l2 : Int32) (l3 : Int32) (h : ZH), r12 l0 l1 l2 l3 h = some r → z_W Γ p l e rmX9_isCrowd s m args below meth c 4 0 0 (MQ below (z_Qc Γ (some (.int r.1)) r.2) args s rmX9_isCrowd.cells rmX9_isCrowd.slots (z_A Γ)) 12 [(0, .ref l0), (1, .int l1), (2, .int l2), (3, .int l3)] [] h) : ∀ (l0 : Nat) (l1 : Int32) (l2 : Int32) (l3 : Int32) (h : ZH), xX9_isCrowd_B12  r2 r12 l0 l1 l2 l3 h = some r → z_W Γ p l e rmX9_isCrowd s m args below meth c 4 0 0 (MQ below (z_Qc Γ (some (.int r.1)) r.2) args s rmX9_isCrowd.cells rmX9_isCrowd.slots (z_A Γ)) 12 [(0, .ref l0), (1, .int l1), (2, .int l2), (3, .int l3)] [] h := by
  intro l0 l1 l2 l3 h hX
  refine z_iload_n (pc := 12) G 3 dX9_isCrowd_12 rfl rfl ?_
  refine z_iload_n (pc := 13) G 2 dX9_isCrowd_13 rfl rfl ?_
  refine z_icmp_ge (pc := 14) (tgt := 50) G dX9_isCrowd_14 (by decide) (fun hc14 => ?_) (fun hc14 => ?_)
  · have hX := z_it hc14 hX
    refine z_iincw (pc := 50) (w := 1) (lv2 := [(0, .ref l0), (1, .int l1), (2, .int (l2 + 1)), (3, .int l3)]) G 2 dX9_isCrowd_50 rfl (by decide) (by decide) rfl rfl ?_
    refine z_goto (pc := 53) (tgt := 2) G dX9_isCrowd_53 (by decide) ?_
    refine z_drop (lv2 := [(0, .ref l0), (1, .int l1), (2, .int (l2 + 1))]) [0, 1, 2] rfl ?_
    exact H2 _ _ _ _ hX
  · have hX := z_if hc14 hX
    refine z_iload_n (pc := 17) G 1 dX9_isCrowd_17 rfl rfl ?_
    refine z_iload_n (pc := 18) G 2 dX9_isCrowd_18 rfl rfl ?_
    obtain ⟨r19, hv19, hX⟩ := z_bd hX
    refine z_cSI (pc := 19) (As := [.int l1, .int l2]) (c2 := 0) (s2 := 0) G (lX9_bit hO hv19) kt_1476 kt_11 kt_1474 kt_1475 ydX9_bit ⟨by decide, by decide⟩ rfl (Nat.le_of_ble_eq_true rfl) ⟨rfl, rfl⟩ ⟨by decide, by decide⟩ rfl dX9_isCrowd_19 ?_
    refine z_if_eq (pc := 22) (tgt := 44) G dX9_isCrowd_22 (by decide) (fun hc22 => ?_) (fun hc22 => ?_)
    · have hX := z_it hc22 hX
      refine z_iincw (pc := 44) (w := 1) (lv2 := [(0, .ref l0), (1, .int l1), (2, .int l2), (3, .int (l3 + 1))]) G 3 dX9_isCrowd_44 rfl (by decide) (by decide) rfl rfl ?_
      refine z_goto (pc := 47) (tgt := 12) G dX9_isCrowd_47 (by decide) ?_
      exact H12 _ _ _ _ _ hX
    · have hX := z_if hc22 hX
      refine z_iload_n (pc := 25) G 1 dX9_isCrowd_25 rfl rfl ?_
      refine z_iload_n (pc := 26) G 3 dX9_isCrowd_26 rfl rfl ?_
      obtain ⟨r27, hv27, hX⟩ := z_bd hX
      refine z_cSI (pc := 27) (As := [.int l1, .int l3]) (c2 := 0) (s2 := 0) G (lX9_bit hO hv27) kt_1476 kt_11 kt_1474 kt_1475 ydX9_bit ⟨by decide, by decide⟩ rfl (Nat.le_of_ble_eq_true rfl) ⟨rfl, rfl⟩ ⟨by decide, by decide⟩ rfl dX9_isCrowd_27 ?_
      refine z_if_eq (pc := 30) (tgt := 44) G dX9_isCrowd_30 (by decide) (fun hc30 => ?_) (fun hc30 => ?_)
      · have hX := z_it hc30 hX
        refine z_iincw (pc := 44) (w := 1) (lv2 := [(0, .ref l0), (1, .int l1), (2, .int l2), (3, .int (l3 + 1))]) G 3 dX9_isCrowd_44 rfl (by decide) (by decide) rfl rfl ?_
        refine z_goto (pc := 47) (tgt := 12) G dX9_isCrowd_47 (by decide) ?_
        exact H12 _ _ _ _ _ hX
      · have hX := z_if hc30 hX
        refine z_aload_n (pc := 33) G 0 dX9_isCrowd_33 rfl rfl ?_
        refine z_iload_n (pc := 34) G 2 dX9_isCrowd_34 rfl rfl ?_
        refine z_iload_n (pc := 35) G 3 dX9_isCrowd_35 rfl rfl ?_
        obtain ⟨hi36, hX⟩ := z_gu_s hX
        obtain ⟨r36, hv36, hX⟩ := z_bd hX
        refine z_cVI (pc := 36) (As := [.int l2, .int l3]) (c2 := 0) (s2 := 0) G kK9 (lX9_doHear hO hv36) hi36 kt_1711 kt_11 kt_1708 kt_1710 ks_81 ydX9_doHear ⟨by decide, by decide⟩ rfl (Nat.le_of_ble_eq_true rfl) ⟨rfl, rfl⟩ ⟨by decide, by decide⟩ rfl dX9_isCrowd_36 ?_
        refine z_if_ne (pc := 39) (tgt := 44) G dX9_isCrowd_39 (by decide) (fun hc39 => ?_) (fun hc39 => ?_)
        · have hX := z_if hc39 hX
          refine z_iincw (pc := 44) (w := 1) (lv2 := [(0, .ref l0), (1, .int l1), (2, .int l2), (3, .int (l3 + 1))]) G 3 dX9_isCrowd_44 rfl (by decide) (by decide) rfl rfl ?_
          refine z_goto (pc := 47) (tgt := 12) G dX9_isCrowd_47 (by decide) ?_
          exact H12 _ _ _ _ _ hX
        · have hX := z_it hc39 hX
          refine z_iconst (pc := 42) (v := 0) G dX9_isCrowd_42 (by decide) ?_
          exact z_zretX (pc := 43) hX G hr rfl dX9_isCrowd_43 (by decide) (by decide)
set_option maxHeartbeats 4000000 in
set_option maxRecDepth 100000 in
theorem wX9_isCrowd_L12 {Γ : ZG} {p : Program} {l : Launch} {e : Env} {s : State} {m : MethodId} {args : Array Value} {below : List Frame} {meth : Method} {c : Code} (hO : z_OK Γ) (G : z_GG Γ p s m args meth c cX9_isCrowd 4 RX9) (hr : meth.sig.returnType = (some .boolean)) (hnm : meth.name = "isCrowd") {r : (Int32 × ZH)} {r2 : Nat → Int32 → Int32 → ZH → Option (Int32 × ZH)} (H2 : ∀ (l0 : Nat) (l1 : Int32) (l2 : Int32) (h : ZH), r2 l0 l1 l2 h = some r → z_W Γ p l e rmX9_isCrowd s m args below meth c 4 0 0 (MQ below (z_Qc Γ (some (.int r.1)) r.2) args s rmX9_isCrowd.cells rmX9_isCrowd.slots (z_A Γ)) 2 [(0, .ref l0), (1, .int l1), (2, .int l2)] [] h) : ∀ (nn : Nat) (l0 : Nat) (l1 : Int32) (l2 : Int32) (l3 : Int32) (h : ZH), xX9_isCrowd_L12  r2 nn l0 l1 l2 l3 h = some r → z_W Γ p l e rmX9_isCrowd s m args below meth c 4 0 0 (MQ below (z_Qc Γ (some (.int r.1)) r.2) args s rmX9_isCrowd.cells rmX9_isCrowd.slots (z_A Γ)) 12 [(0, .ref l0), (1, .int l1), (2, .int l2), (3, .int l3)] [] h := by
  intro nn
  induction nn with
  | zero => intro l0 l1 l2 l3 h hX; cases hX
  | succ nn ih => intro l0 l1 l2 l3 h hX; exact wX9_isCrowd_B12 hO G hr hnm  H2 ih l0 l1 l2 l3 h hX
noncomputable def xX9_isCrowd_B2 (r2 : Nat → Int32 → Int32 → ZH → Option (Int32 × ZH)) (l0 : Nat) (l1 : Int32) (l2 : Int32) (h : ZH) : Option (Int32 × ZH) := (z_gu (z_is h l0 9) ((xX9_lots l0 h).bind fun r4 => (if r4.1 ≤ l2 then some ((1 : Int32), r4.2) else xX9_isCrowd_L12 r2 zFU l0 l1 l2 (0 : Int32) r4.2)))
noncomputable def xX9_isCrowd_L2 (n : Nat) : Nat → Int32 → Int32 → ZH → Option (Int32 × ZH) := Nat.rec (motive := fun _ => Nat → Int32 → Int32 → ZH → Option (Int32 × ZH)) (fun _ _ _ _ => none) (fun _ rec => xX9_isCrowd_B2  rec) n
set_option maxHeartbeats 4000000 in
set_option maxRecDepth 100000 in
theorem wX9_isCrowd_B2 {Γ : ZG} {p : Program} {l : Launch} {e : Env} {s : State} {m : MethodId} {args : Array Value} {below : List Frame} {meth : Method} {c : Code} (hO : z_OK Γ) (G : z_GG Γ p s m args meth c cX9_isCrowd 4 RX9) (hr : meth.sig.returnType = (some .boolean)) (hnm : meth.name = "isCrowd") {r : (Int32 × ZH)} {r2 : Nat → Int32 → Int32 → ZH → Option (Int32 × ZH)} (H2 : ∀ (l0 : Nat) (l1 : Int32) (l2 : Int32) (h : ZH), r2 l0 l1 l2 h = some r → z_W Γ p l e rmX9_isCrowd s m args below meth c 4 0 0 (MQ below (z_Qc Γ (some (.int r.1)) r.2) args s rmX9_isCrowd.cells rmX9_isCrowd.slots (z_A Γ)) 2 [(0, .ref l0), (1, .int l1), (2, .int l2)] [] h) : ∀ (l0 : Nat) (l1 : Int32) (l2 : Int32) (h : ZH), xX9_isCrowd_B2  r2 l0 l1 l2 h = some r → z_W Γ p l e rmX9_isCrowd s m args below meth c 4 0 0 (MQ below (z_Qc Γ (some (.int r.1)) r.2) args s rmX9_isCrowd.cells rmX9_isCrowd.slots (z_A Γ)) 2 [(0, .ref l0), (1, .int l1), (2, .int l2)] [] h := by
  intro l0 l1 l2 h hX
  refine z_iload_n (pc := 2) G 2 dX9_isCrowd_2 rfl rfl ?_
  refine z_aload_n (pc := 3) G 0 dX9_isCrowd_3 rfl rfl ?_
  obtain ⟨hi4, hX⟩ := z_gu_s hX
  obtain ⟨r4, hv4, hX⟩ := z_bd hX
  refine z_cVI (pc := 4) (As := []) (c2 := 0) (s2 := 0) G kK9 (lX9_lots hO hv4) hi4 kt_1221 kt_11 kt_1218 kt_1220 ks_36 ydX9_lots ⟨by decide, by decide⟩ rfl (Nat.le_of_ble_eq_true rfl) ⟨rfl, rfl⟩ ⟨by decide, by decide⟩ rfl dX9_isCrowd_4 ?_
  refine z_icmp_ge (pc := 7) (tgt := 56) G dX9_isCrowd_7 (by decide) (fun hc7 => ?_) (fun hc7 => ?_)
  · have hX := z_it hc7 hX
    refine z_iconst (pc := 56) (v := 1) G dX9_isCrowd_56 (by decide) ?_
    exact z_zretX (pc := 57) hX G hr rfl dX9_isCrowd_57 (by decide) (by decide)
  · have hX := z_if hc7 hX
    refine z_iconst (pc := 10) (v := 0) G dX9_isCrowd_10 (by decide) ?_
    refine z_istore_n (pc := 11) (lv2 := [(0, .ref l0), (1, .int l1), (2, .int l2), (3, .int (0 : Int32))]) G dX9_isCrowd_11 rfl (by decide) rfl rfl ?_
    exact wX9_isCrowd_L12 hO G hr hnm H2 zFU _ _ _ _ _ hX
set_option maxHeartbeats 4000000 in
set_option maxRecDepth 100000 in
theorem wX9_isCrowd_L2 {Γ : ZG} {p : Program} {l : Launch} {e : Env} {s : State} {m : MethodId} {args : Array Value} {below : List Frame} {meth : Method} {c : Code} (hO : z_OK Γ) (G : z_GG Γ p s m args meth c cX9_isCrowd 4 RX9) (hr : meth.sig.returnType = (some .boolean)) (hnm : meth.name = "isCrowd") {r : (Int32 × ZH)} : ∀ (nn : Nat) (l0 : Nat) (l1 : Int32) (l2 : Int32) (h : ZH), xX9_isCrowd_L2  nn l0 l1 l2 h = some r → z_W Γ p l e rmX9_isCrowd s m args below meth c 4 0 0 (MQ below (z_Qc Γ (some (.int r.1)) r.2) args s rmX9_isCrowd.cells rmX9_isCrowd.slots (z_A Γ)) 2 [(0, .ref l0), (1, .int l1), (2, .int l2)] [] h := by
  intro nn
  induction nn with
  | zero => intro l0 l1 l2 h hX; cases hX
  | succ nn ih => intro l0 l1 l2 h hX; exact wX9_isCrowd_B2 hO G hr hnm  ih l0 l1 l2 h hX
noncomputable def xX9_isCrowd (l0 : Nat) (l1 : Int32) (h : ZH) : Option (Int32 × ZH) := xX9_isCrowd_L2 zFU l0 l1 (0 : Int32) h
set_option maxHeartbeats 4000000 in
set_option maxRecDepth 100000 in
theorem lX9_isCrowd {Γ : ZG} {l : Launch} (hO : z_OK Γ) {l0 : Nat} {l1 : Int32} {h : ZH} {r : (Int32 × ZH)} (hX : xX9_isCrowd l0 l1 h = some r) : z_M Γ l yX9_isCrowd (z_ws1 yX9_isCrowd cX9_isCrowd 4 (some .boolean)) rmX9_isCrowd [.ref l0, .int l1] h (some (.int r.1)) r.2 := by
  refine z_start hO (plainFor_of_name (by decide)) (Nat.le_of_ble_eq_true rfl) ?_
  intro p e s m args below meth c G hr hnm
  refine z_lvc (lv2 := [(0, .ref l0), (1, .int l1)]) rfl ?_
  refine z_iconst (pc := 0) (v := 0) G dX9_isCrowd_0 (by decide) ?_
  refine z_istore_n (pc := 1) (lv2 := [(0, .ref l0), (1, .int l1), (2, .int (0 : Int32))]) G dX9_isCrowd_1 rfl (by decide) rfl rfl ?_
  exact wX9_isCrowd_L2 hO G hr hnm zFU _ _ _ _ hX
theorem dX9_crowd_0 : decode cX9_crowd 0 = .ok (.iload_n 1, 1) := by decide +kernel
theorem dX9_crowd_1 : decode cX9_crowd 1 = .ok (.iconst 0, 1) := by decide +kernel
theorem dX9_crowd_2 : decode cX9_crowd 2 = .ok (.iconst 1, 1) := by decide +kernel
theorem dX9_crowd_3 : decode cX9_crowd 3 = .ok (.invokestatic 340, 3) := by decide +kernel
theorem dX9_crowd_6 : decode cX9_crowd 6 = .ok (.ifCond .ne 5, 3) := by decide +kernel
theorem dX9_crowd_9 : decode cX9_crowd 9 = .ok (.iconst (-1), 1) := by decide +kernel
theorem dX9_crowd_10 : decode cX9_crowd 10 = .ok (.ireturn, 1) := by decide +kernel
theorem dX9_crowd_11 : decode cX9_crowd 11 = .ok (.iconst 0, 1) := by decide +kernel
theorem dX9_crowd_12 : decode cX9_crowd 12 = .ok (.istore_n 2, 1) := by decide +kernel
theorem dX9_crowd_13 : decode cX9_crowd 13 = .ok (.iconst 1, 1) := by decide +kernel
theorem dX9_crowd_14 : decode cX9_crowd 14 = .ok (.istore_n 3, 1) := by decide +kernel
theorem dX9_crowd_15 : decode cX9_crowd 15 = .ok (.iload_n 3, 1) := by decide +kernel
theorem dX9_crowd_16 : decode cX9_crowd 16 = .ok (.iconst 1, 1) := by decide +kernel
theorem dX9_crowd_17 : decode cX9_crowd 17 = .ok (.aload_n 0, 1) := by decide +kernel
theorem dX9_crowd_18 : decode cX9_crowd 18 = .ok (.invokevirtual 337, 3) := by decide +kernel
theorem dX9_crowd_21 : decode cX9_crowd 21 = .ok (.ishl, 1) := by decide +kernel
theorem dX9_crowd_22 : decode cX9_crowd 22 = .ok (.if_icmp .ge 41, 3) := by decide +kernel
theorem dX9_crowd_25 : decode cX9_crowd 25 = .ok (.iload_n 3, 1) := by decide +kernel
theorem dX9_crowd_26 : decode cX9_crowd 26 = .ok (.aload_n 0, 1) := by decide +kernel
theorem dX9_crowd_27 : decode cX9_crowd 27 = .ok (.invokevirtual 456, 3) := by decide +kernel
theorem dX9_crowd_30 : decode cX9_crowd 30 = .ok (.iconst (-1), 1) := by decide +kernel
theorem dX9_crowd_31 : decode cX9_crowd 31 = .ok (.ixor, 1) := by decide +kernel
theorem dX9_crowd_32 : decode cX9_crowd 32 = .ok (.iand, 1) := by decide +kernel
theorem dX9_crowd_33 : decode cX9_crowd 33 = .ok (.ifCond .ne 24, 3) := by decide +kernel
theorem dX9_crowd_36 : decode cX9_crowd 36 = .ok (.iload_n 3, 1) := by decide +kernel
theorem dX9_crowd_37 : decode cX9_crowd 37 = .ok (.invokestatic 359, 3) := by decide +kernel
theorem dX9_crowd_40 : decode cX9_crowd 40 = .ok (.iload_n 2, 1) := by decide +kernel
theorem dX9_crowd_41 : decode cX9_crowd 41 = .ok (.invokestatic 359, 3) := by decide +kernel
theorem dX9_crowd_44 : decode cX9_crowd 44 = .ok (.if_icmp .le 13, 3) := by decide +kernel
theorem dX9_crowd_47 : decode cX9_crowd 47 = .ok (.aload_n 0, 1) := by decide +kernel
theorem dX9_crowd_48 : decode cX9_crowd 48 = .ok (.iload_n 3, 1) := by decide +kernel
theorem dX9_crowd_49 : decode cX9_crowd 49 = .ok (.invokevirtual 498, 3) := by decide +kernel
theorem dX9_crowd_52 : decode cX9_crowd 52 = .ok (.ifCond .eq 5, 3) := by decide +kernel
theorem dX9_crowd_55 : decode cX9_crowd 55 = .ok (.iload_n 3, 1) := by decide +kernel
theorem dX9_crowd_56 : decode cX9_crowd 56 = .ok (.istore_n 2, 1) := by decide +kernel
theorem dX9_crowd_57 : decode cX9_crowd 57 = .ok (.iinc 3 1, 3) := by decide +kernel
theorem dX9_crowd_60 : decode cX9_crowd 60 = .ok (.goto (-45), 3) := by decide +kernel
theorem dX9_crowd_63 : decode cX9_crowd 63 = .ok (.iload_n 1, 1) := by decide +kernel
theorem dX9_crowd_64 : decode cX9_crowd 64 = .ok (.ifCond .ne 10, 3) := by decide +kernel
theorem dX9_crowd_67 : decode cX9_crowd 67 = .ok (.iload_n 2, 1) := by decide +kernel
theorem dX9_crowd_68 : decode cX9_crowd 68 = .ok (.invokestatic 359, 3) := by decide +kernel
theorem dX9_crowd_71 : decode cX9_crowd 71 = .ok (.goto 4, 3) := by decide +kernel
theorem dX9_crowd_74 : decode cX9_crowd 74 = .ok (.iload_n 2, 1) := by decide +kernel
theorem dX9_crowd_75 : decode cX9_crowd 75 = .ok (.ireturn, 1) := by decide +kernel
theorem ydX9_crowd : z_yd yX9_crowd 1 := ⟨by decide, by decide, by decide +kernel⟩
abbrev rmX9_crowd : Room := { frames := 4, cells := 0, slots := 0, locals := 87 }
noncomputable def xX9_crowd_B63 (l1 : Int32) (l2 : Int32) (h : ZH) : Option (Int32 × ZH) := (if l1 = 0 then ((xX9_bitsOf l2 h).bind fun r68 => some (r68.1, r68.2)) else some (l2, h))
set_option maxHeartbeats 4000000 in
set_option maxRecDepth 100000 in
theorem wX9_crowd_B63 {Γ : ZG} {p : Program} {l : Launch} {e : Env} {s : State} {m : MethodId} {args : Array Value} {below : List Frame} {meth : Method} {c : Code} (hO : z_OK Γ) (G : z_GG Γ p s m args meth c cX9_crowd 4 RX9) (hr : meth.sig.returnType = (some .int)) (hnm : meth.name = "crowd") {r : (Int32 × ZH)} : ∀ (l1 : Int32) (l2 : Int32) (h : ZH), xX9_crowd_B63  l1 l2 h = some r → z_W Γ p l e rmX9_crowd s m args below meth c 4 0 0 (MQ below (z_Qc Γ (some (.int r.1)) r.2) args s rmX9_crowd.cells rmX9_crowd.slots (z_A Γ)) 63 [(1, .int l1), (2, .int l2)] [] h := by
  intro l1 l2 h hX
  refine z_iload_n (pc := 63) G 0 dX9_crowd_63 rfl rfl ?_
  refine z_if_ne (pc := 64) (tgt := 74) G dX9_crowd_64 (by decide) (fun hc64 => ?_) (fun hc64 => ?_)
  · have hX := z_if hc64 hX
    refine z_iload_n (pc := 74) G 1 dX9_crowd_74 rfl rfl ?_
    exact z_iretX (pc := 75) hX G hr dX9_crowd_75 (by decide) (by decide)
  · have hX := z_it hc64 hX
    refine z_iload_n (pc := 67) G 1 dX9_crowd_67 rfl rfl ?_
    obtain ⟨r68, hv68, hX⟩ := z_bd hX
    refine z_cSI (pc := 68) (As := [.int l2]) (c2 := 0) (s2 := 0) G (lX9_bitsOf hO hv68) kt_1582 kt_11 kt_1580 kt_1581 ydX9_bitsOf ⟨by decide, by decide⟩ rfl (Nat.le_of_ble_eq_true rfl) ⟨rfl, rfl⟩ ⟨by decide, by decide⟩ rfl dX9_crowd_68 ?_
    refine z_goto (pc := 71) (tgt := 75) G dX9_crowd_71 (by decide) ?_
    exact z_iretX (pc := 75) hX G hr dX9_crowd_75 (by decide) (by decide)
noncomputable def xX9_crowd_B15 (r15 : Nat → Int32 → Int32 → Int32 → ZH → Option (Int32 × ZH)) (l0 : Nat) (l1 : Int32) (l2 : Int32) (l3 : Int32) (h : ZH) : Option (Int32 × ZH) := (z_gu (z_is h l0 9) ((xX9_lots l0 h).bind fun r18 => (if ((1 : Int32) <<< (r18.1 &&& 31)) ≤ l3 then xX9_crowd_B63 l1 l2 r18.2 else (z_gu (z_is r18.2 l0 9) ((xX9_litNow l0 r18.2).bind fun r27 => (if (l3 &&& (r27.1 ^^^ (-1 : Int32))) = 0 then ((xX9_bitsOf l3 r27.2).bind fun r37 => ((xX9_bitsOf l2 r37.2).bind fun r41 => (if r37.1 ≤ r41.1 then r15 l0 l1 l2 (l3 + 1) r41.2 else (z_gu (z_is r41.2 l0 9) ((xX9_isCrowd l0 l3 r41.2).bind fun r49 => (if r49.1 = 0 then r15 l0 l1 l2 (l3 + 1) r49.2 else r15 l0 l1 l3 (l3 + 1) r49.2)))))) else r15 l0 l1 l2 (l3 + 1) r27.2))))))
noncomputable def xX9_crowd_L15 (n : Nat) : Nat → Int32 → Int32 → Int32 → ZH → Option (Int32 × ZH) := Nat.rec (motive := fun _ => Nat → Int32 → Int32 → Int32 → ZH → Option (Int32 × ZH)) (fun _ _ _ _ _ => none) (fun _ rec => xX9_crowd_B15  rec) n
set_option maxHeartbeats 4000000 in
set_option maxRecDepth 100000 in
theorem wX9_crowd_B15 {Γ : ZG} {p : Program} {l : Launch} {e : Env} {s : State} {m : MethodId} {args : Array Value} {below : List Frame} {meth : Method} {c : Code} (hO : z_OK Γ) (G : z_GG Γ p s m args meth c cX9_crowd 4 RX9) (hr : meth.sig.returnType = (some .int)) (hnm : meth.name = "crowd") {r : (Int32 × ZH)} {r15 : Nat → Int32 → Int32 → Int32 → ZH → Option (Int32 × ZH)} (H15 : ∀ (l0 : Nat) (l1 : Int32) (l2 : Int32) (l3 : Int32) (h : ZH), r15 l0 l1 l2 l3 h = some r → z_W Γ p l e rmX9_crowd s m args below meth c 4 0 0 (MQ below (z_Qc Γ (some (.int r.1)) r.2) args s rmX9_crowd.cells rmX9_crowd.slots (z_A Γ)) 15 [(0, .ref l0), (1, .int l1), (2, .int l2), (3, .int l3)] [] h) : ∀ (l0 : Nat) (l1 : Int32) (l2 : Int32) (l3 : Int32) (h : ZH), xX9_crowd_B15  r15 l0 l1 l2 l3 h = some r → z_W Γ p l e rmX9_crowd s m args below meth c 4 0 0 (MQ below (z_Qc Γ (some (.int r.1)) r.2) args s rmX9_crowd.cells rmX9_crowd.slots (z_A Γ)) 15 [(0, .ref l0), (1, .int l1), (2, .int l2), (3, .int l3)] [] h := by
  intro l0 l1 l2 l3 h hX
  refine z_iload_n (pc := 15) G 3 dX9_crowd_15 rfl rfl ?_
  refine z_iconst (pc := 16) (v := 1) G dX9_crowd_16 (by decide) ?_
  refine z_aload_n (pc := 17) G 0 dX9_crowd_17 rfl rfl ?_
  obtain ⟨hi18, hX⟩ := z_gu_s hX
  obtain ⟨r18, hv18, hX⟩ := z_bd hX
  refine z_cVI (pc := 18) (As := []) (c2 := 0) (s2 := 0) G kK9 (lX9_lots hO hv18) hi18 kt_1221 kt_11 kt_1218 kt_1220 ks_36 ydX9_lots ⟨by decide, by decide⟩ rfl (Nat.le_of_ble_eq_true rfl) ⟨rfl, rfl⟩ ⟨by decide, by decide⟩ rfl dX9_crowd_18 ?_
  refine z_ishl (pc := 21) G dX9_crowd_21 ?_
  refine z_icmp_ge (pc := 22) (tgt := 63) G dX9_crowd_22 (by decide) (fun hc22 => ?_) (fun hc22 => ?_)
  · have hX := z_it hc22 hX
    refine z_drop (lv2 := [(1, .int l1), (2, .int l2)]) [1, 2] rfl ?_
    exact wX9_crowd_B63 hO G hr hnm _ _ _ hX
  · have hX := z_if hc22 hX
    refine z_iload_n (pc := 25) G 3 dX9_crowd_25 rfl rfl ?_
    refine z_aload_n (pc := 26) G 0 dX9_crowd_26 rfl rfl ?_
    obtain ⟨hi27, hX⟩ := z_gu_s hX
    obtain ⟨r27, hv27, hX⟩ := z_bd hX
    refine z_cVI (pc := 27) (As := []) (c2 := 0) (s2 := 0) G kK9 (lX9_litNow hO hv27) hi27 kt_1687 kt_11 kt_1684 kt_1686 ks_79 ydX9_litNow ⟨by decide, by decide⟩ rfl (Nat.le_of_ble_eq_true rfl) ⟨rfl, rfl⟩ ⟨by decide, by decide⟩ rfl dX9_crowd_27 ?_
    refine z_iconst (pc := 30) (v := (-1)) G dX9_crowd_30 (by decide) ?_
    refine z_ixor (pc := 31) G dX9_crowd_31 ?_
    refine z_iand (pc := 32) G dX9_crowd_32 ?_
    refine z_if_ne (pc := 33) (tgt := 57) G dX9_crowd_33 (by decide) (fun hc33 => ?_) (fun hc33 => ?_)
    · have hX := z_if hc33 hX
      refine z_iincw (pc := 57) (w := 1) (lv2 := [(0, .ref l0), (1, .int l1), (2, .int l2), (3, .int (l3 + 1))]) G 3 dX9_crowd_57 rfl (by decide) (by decide) rfl rfl ?_
      refine z_goto (pc := 60) (tgt := 15) G dX9_crowd_60 (by decide) ?_
      exact H15 _ _ _ _ _ hX
    · have hX := z_it hc33 hX
      refine z_iload_n (pc := 36) G 3 dX9_crowd_36 rfl rfl ?_
      obtain ⟨r37, hv37, hX⟩ := z_bd hX
      refine z_cSI (pc := 37) (As := [.int l3]) (c2 := 0) (s2 := 0) G (lX9_bitsOf hO hv37) kt_1582 kt_11 kt_1580 kt_1581 ydX9_bitsOf ⟨by decide, by decide⟩ rfl (Nat.le_of_ble_eq_true rfl) ⟨rfl, rfl⟩ ⟨by decide, by decide⟩ rfl dX9_crowd_37 ?_
      refine z_iload_n (pc := 40) G 2 dX9_crowd_40 rfl rfl ?_
      obtain ⟨r41, hv41, hX⟩ := z_bd hX
      refine z_cSI (pc := 41) (As := [.int l2]) (c2 := 0) (s2 := 0) G (lX9_bitsOf hO hv41) kt_1582 kt_11 kt_1580 kt_1581 ydX9_bitsOf ⟨by decide, by decide⟩ rfl (Nat.le_of_ble_eq_true rfl) ⟨rfl, rfl⟩ ⟨by decide, by decide⟩ rfl dX9_crowd_41 ?_
      refine z_icmp_le (pc := 44) (tgt := 57) G dX9_crowd_44 (by decide) (fun hc44 => ?_) (fun hc44 => ?_)
      · have hX := z_it hc44 hX
        refine z_iincw (pc := 57) (w := 1) (lv2 := [(0, .ref l0), (1, .int l1), (2, .int l2), (3, .int (l3 + 1))]) G 3 dX9_crowd_57 rfl (by decide) (by decide) rfl rfl ?_
        refine z_goto (pc := 60) (tgt := 15) G dX9_crowd_60 (by decide) ?_
        exact H15 _ _ _ _ _ hX
      · have hX := z_if hc44 hX
        refine z_aload_n (pc := 47) G 0 dX9_crowd_47 rfl rfl ?_
        refine z_iload_n (pc := 48) G 3 dX9_crowd_48 rfl rfl ?_
        obtain ⟨hi49, hX⟩ := z_gu_s hX
        obtain ⟨r49, hv49, hX⟩ := z_bd hX
        refine z_cVI (pc := 49) (As := [.int l3]) (c2 := 0) (s2 := 0) G kK9 (lX9_isCrowd hO hv49) hi49 kt_1857 kt_11 kt_1854 kt_1856 ks_104 ydX9_isCrowd ⟨by decide, by decide⟩ rfl (Nat.le_of_ble_eq_true rfl) ⟨rfl, rfl⟩ ⟨by decide, by decide⟩ rfl dX9_crowd_49 ?_
        refine z_if_eq (pc := 52) (tgt := 57) G dX9_crowd_52 (by decide) (fun hc52 => ?_) (fun hc52 => ?_)
        · have hX := z_it hc52 hX
          refine z_iincw (pc := 57) (w := 1) (lv2 := [(0, .ref l0), (1, .int l1), (2, .int l2), (3, .int (l3 + 1))]) G 3 dX9_crowd_57 rfl (by decide) (by decide) rfl rfl ?_
          refine z_goto (pc := 60) (tgt := 15) G dX9_crowd_60 (by decide) ?_
          exact H15 _ _ _ _ _ hX
        · have hX := z_if hc52 hX
          refine z_iload_n (pc := 55) G 3 dX9_crowd_55 rfl rfl ?_
          refine z_istore_n (pc := 56) (lv2 := [(0, .ref l0), (1, .int l1), (2, .int l3), (3, .int l3)]) G dX9_crowd_56 rfl (by decide) rfl rfl ?_
          refine z_iincw (pc := 57) (w := 1) (lv2 := [(0, .ref l0), (1, .int l1), (2, .int l3), (3, .int (l3 + 1))]) G 3 dX9_crowd_57 rfl (by decide) (by decide) rfl rfl ?_
          refine z_goto (pc := 60) (tgt := 15) G dX9_crowd_60 (by decide) ?_
          exact H15 _ _ _ _ _ hX
set_option maxHeartbeats 4000000 in
set_option maxRecDepth 100000 in
theorem wX9_crowd_L15 {Γ : ZG} {p : Program} {l : Launch} {e : Env} {s : State} {m : MethodId} {args : Array Value} {below : List Frame} {meth : Method} {c : Code} (hO : z_OK Γ) (G : z_GG Γ p s m args meth c cX9_crowd 4 RX9) (hr : meth.sig.returnType = (some .int)) (hnm : meth.name = "crowd") {r : (Int32 × ZH)} : ∀ (nn : Nat) (l0 : Nat) (l1 : Int32) (l2 : Int32) (l3 : Int32) (h : ZH), xX9_crowd_L15  nn l0 l1 l2 l3 h = some r → z_W Γ p l e rmX9_crowd s m args below meth c 4 0 0 (MQ below (z_Qc Γ (some (.int r.1)) r.2) args s rmX9_crowd.cells rmX9_crowd.slots (z_A Γ)) 15 [(0, .ref l0), (1, .int l1), (2, .int l2), (3, .int l3)] [] h := by
  intro nn
  induction nn with
  | zero => intro l0 l1 l2 l3 h hX; cases hX
  | succ nn ih => intro l0 l1 l2 l3 h hX; exact wX9_crowd_B15 hO G hr hnm  ih l0 l1 l2 l3 h hX
noncomputable def xX9_crowd (l0 : Nat) (l1 : Int32) (h : ZH) : Option (Int32 × ZH) := ((xX9_isIn l1 (0 : Int32) (1 : Int32) h).bind fun r3 => (if r3.1 = 0 then some ((-1 : Int32), r3.2) else xX9_crowd_L15 zFU l0 l1 (0 : Int32) (1 : Int32) r3.2))
set_option maxHeartbeats 4000000 in
set_option maxRecDepth 100000 in
theorem lX9_crowd {Γ : ZG} {l : Launch} (hO : z_OK Γ) {l0 : Nat} {l1 : Int32} {h : ZH} {r : (Int32 × ZH)} (hX : xX9_crowd l0 l1 h = some r) : z_M Γ l yX9_crowd (z_ws1 yX9_crowd cX9_crowd 4 (some .int)) rmX9_crowd [.ref l0, .int l1] h (some (.int r.1)) r.2 := by
  refine z_start hO (plainFor_of_name (by decide)) (Nat.le_of_ble_eq_true rfl) ?_
  intro p e s m args below meth c G hr hnm
  refine z_lvc (lv2 := [(0, .ref l0), (1, .int l1)]) rfl ?_
  refine z_iload_n (pc := 0) G 1 dX9_crowd_0 rfl rfl ?_
  refine z_iconst (pc := 1) (v := 0) G dX9_crowd_1 (by decide) ?_
  refine z_iconst (pc := 2) (v := 1) G dX9_crowd_2 (by decide) ?_
  obtain ⟨r3, hv3, hX⟩ := z_bd hX
  refine z_cSI (pc := 3) (As := [.int l1, .int (0 : Int32), .int (1 : Int32)]) (c2 := 0) (s2 := 0) G (lX9_isIn hO hv3) kt_1559 kt_11 kt_1557 kt_1558 ydX9_isIn ⟨by decide, by decide⟩ rfl (Nat.le_of_ble_eq_true rfl) ⟨rfl, rfl⟩ ⟨by decide, by decide⟩ rfl dX9_crowd_3 ?_
  refine z_if_ne (pc := 6) (tgt := 11) G dX9_crowd_6 (by decide) (fun hc6 => ?_) (fun hc6 => ?_)
  · have hX := z_if hc6 hX
    refine z_iconst (pc := 11) (v := 0) G dX9_crowd_11 (by decide) ?_
    refine z_istore_n (pc := 12) (lv2 := [(0, .ref l0), (1, .int l1), (2, .int (0 : Int32))]) G dX9_crowd_12 rfl (by decide) rfl rfl ?_
    refine z_iconst (pc := 13) (v := 1) G dX9_crowd_13 (by decide) ?_
    refine z_istore_n (pc := 14) (lv2 := [(0, .ref l0), (1, .int l1), (2, .int (0 : Int32)), (3, .int (1 : Int32))]) G dX9_crowd_14 rfl (by decide) rfl rfl ?_
    exact wX9_crowd_L15 hO G hr hnm zFU _ _ _ _ _ hX
  · have hX := z_it hc6 hX
    refine z_iconst (pc := 9) (v := (-1)) G dX9_crowd_9 (by decide) ?_
    exact z_iretX (pc := 10) hX G hr dX9_crowd_10 (by decide) (by decide)
theorem dX9_parts_0 : decode cX9_parts 0 = .ok (.aload_n 0, 1) := by decide +kernel
theorem dX9_parts_1 : decode cX9_parts 1 = .ok (.invokevirtual 456, 3) := by decide +kernel
theorem dX9_parts_4 : decode cX9_parts 4 = .ok (.istore_n 1, 1) := by decide +kernel
theorem dX9_parts_5 : decode cX9_parts 5 = .ok (.iconst 0, 1) := by decide +kernel
theorem dX9_parts_6 : decode cX9_parts 6 = .ok (.istore_n 2, 1) := by decide +kernel
theorem dX9_parts_7 : decode cX9_parts 7 = .ok (.iload_n 1, 1) := by decide +kernel
theorem dX9_parts_8 : decode cX9_parts 8 = .ok (.ifCond .eq 74, 3) := by decide +kernel
theorem dX9_parts_11 : decode cX9_parts 11 = .ok (.iload_n 1, 1) := by decide +kernel
theorem dX9_parts_12 : decode cX9_parts 12 = .ok (.iload_n 1, 1) := by decide +kernel
theorem dX9_parts_13 : decode cX9_parts 13 = .ok (.ineg, 1) := by decide +kernel
theorem dX9_parts_14 : decode cX9_parts 14 = .ok (.iand, 1) := by decide +kernel
theorem dX9_parts_15 : decode cX9_parts 15 = .ok (.istore_n 3, 1) := by decide +kernel
theorem dX9_parts_16 : decode cX9_parts 16 = .ok (.iconst 0, 1) := by decide +kernel
theorem dX9_parts_17 : decode cX9_parts 17 = .ok (.istore 4, 2) := by decide +kernel
theorem dX9_parts_19 : decode cX9_parts 19 = .ok (.iload 4, 2) := by decide +kernel
theorem dX9_parts_21 : decode cX9_parts 21 = .ok (.bipush 6, 2) := by decide +kernel
theorem dX9_parts_23 : decode cX9_parts 23 = .ok (.if_icmp .ge 47, 3) := by decide +kernel
theorem dX9_parts_26 : decode cX9_parts 26 = .ok (.iconst 0, 1) := by decide +kernel
theorem dX9_parts_27 : decode cX9_parts 27 = .ok (.istore 5, 2) := by decide +kernel
theorem dX9_parts_29 : decode cX9_parts 29 = .ok (.iload 5, 2) := by decide +kernel
theorem dX9_parts_31 : decode cX9_parts 31 = .ok (.aload_n 0, 1) := by decide +kernel
theorem dX9_parts_32 : decode cX9_parts 32 = .ok (.invokevirtual 337, 3) := by decide +kernel
theorem dX9_parts_35 : decode cX9_parts 35 = .ok (.if_icmp .ge 29, 3) := by decide +kernel
theorem dX9_parts_38 : decode cX9_parts 38 = .ok (.iload_n 3, 1) := by decide +kernel
theorem dX9_parts_39 : decode cX9_parts 39 = .ok (.iload 5, 2) := by decide +kernel
theorem dX9_parts_41 : decode cX9_parts 41 = .ok (.invokestatic 265, 3) := by decide +kernel
theorem dX9_parts_44 : decode cX9_parts 44 = .ok (.ifCond .eq 14, 3) := by decide +kernel
theorem dX9_parts_47 : decode cX9_parts 47 = .ok (.iload_n 3, 1) := by decide +kernel
theorem dX9_parts_48 : decode cX9_parts 48 = .ok (.aload_n 0, 1) := by decide +kernel
theorem dX9_parts_49 : decode cX9_parts 49 = .ok (.iload 5, 2) := by decide +kernel
theorem dX9_parts_51 : decode cX9_parts 51 = .ok (.invokevirtual 459, 3) := by decide +kernel
theorem dX9_parts_54 : decode cX9_parts 54 = .ok (.iload_n 1, 1) := by decide +kernel
theorem dX9_parts_55 : decode cX9_parts 55 = .ok (.iand, 1) := by decide +kernel
theorem dX9_parts_56 : decode cX9_parts 56 = .ok (.ior, 1) := by decide +kernel
theorem dX9_parts_57 : decode cX9_parts 57 = .ok (.istore_n 3, 1) := by decide +kernel
theorem dX9_parts_58 : decode cX9_parts 58 = .ok (.iinc 5 1, 3) := by decide +kernel
theorem dX9_parts_61 : decode cX9_parts 61 = .ok (.goto (-32), 3) := by decide +kernel
theorem dX9_parts_64 : decode cX9_parts 64 = .ok (.iinc 4 1, 3) := by decide +kernel
theorem dX9_parts_67 : decode cX9_parts 67 = .ok (.goto (-48), 3) := by decide +kernel
theorem dX9_parts_70 : decode cX9_parts 70 = .ok (.iload_n 1, 1) := by decide +kernel
theorem dX9_parts_71 : decode cX9_parts 71 = .ok (.iload_n 3, 1) := by decide +kernel
theorem dX9_parts_72 : decode cX9_parts 72 = .ok (.iconst (-1), 1) := by decide +kernel
theorem dX9_parts_73 : decode cX9_parts 73 = .ok (.ixor, 1) := by decide +kernel
theorem dX9_parts_74 : decode cX9_parts 74 = .ok (.iand, 1) := by decide +kernel
theorem dX9_parts_75 : decode cX9_parts 75 = .ok (.istore_n 1, 1) := by decide +kernel
theorem dX9_parts_76 : decode cX9_parts 76 = .ok (.iinc 2 1, 3) := by decide +kernel
theorem dX9_parts_79 : decode cX9_parts 79 = .ok (.goto (-72), 3) := by decide +kernel
theorem dX9_parts_82 : decode cX9_parts 82 = .ok (.iload_n 2, 1) := by decide +kernel
theorem dX9_parts_83 : decode cX9_parts 83 = .ok (.ireturn, 1) := by decide +kernel
theorem ydX9_parts : z_yd yX9_parts 0 := ⟨by decide, by decide, by decide +kernel⟩
abbrev rmX9_parts : Room := { frames := 4, cells := 0, slots := 0, locals := 87 }
noncomputable def xX9_parts_B29 (r7 : Nat → Int32 → Int32 → ZH → Option (Int32 × ZH)) (r19 : Nat → Int32 → Int32 → Int32 → Int32 → ZH → Option (Int32 × ZH)) (r29 : Nat → Int32 → Int32 → Int32 → Int32 → Int32 → ZH → Option (Int32 × ZH)) (l0 : Nat) (l1 : Int32) (l2 : Int32) (l3 : Int32) (l4 : Int32) (l5 : Int32) (h : ZH) : Option (Int32 × ZH) := (z_gu (z_is h l0 9) ((xX9_lots l0 h).bind fun r32 => (if r32.1 ≤ l5 then r19 l0 l1 l2 l3 (l4 + 1) r32.2 else ((xX9_bit l3 l5 r32.2).bind fun r41 => (if r41.1 = 0 then r29 l0 l1 l2 l3 l4 (l5 + 1) r41.2 else (z_gu (z_is r41.2 l0 9) ((xX9_inRange l0 l5 r41.2).bind fun r51 => r29 l0 l1 l2 (l3 ||| (r51.1 &&& l1)) l4 (l5 + 1) r51.2)))))))
noncomputable def xX9_parts_L29 (r7 : Nat → Int32 → Int32 → ZH → Option (Int32 × ZH)) (r19 : Nat → Int32 → Int32 → Int32 → Int32 → ZH → Option (Int32 × ZH)) (n : Nat) : Nat → Int32 → Int32 → Int32 → Int32 → Int32 → ZH → Option (Int32 × ZH) := Nat.rec (motive := fun _ => Nat → Int32 → Int32 → Int32 → Int32 → Int32 → ZH → Option (Int32 × ZH)) (fun _ _ _ _ _ _ _ => none) (fun _ rec => xX9_parts_B29  r7 r19 rec) n
set_option maxHeartbeats 4000000 in
set_option maxRecDepth 100000 in
theorem wX9_parts_B29 {Γ : ZG} {p : Program} {l : Launch} {e : Env} {s : State} {m : MethodId} {args : Array Value} {below : List Frame} {meth : Method} {c : Code} (hO : z_OK Γ) (G : z_GG Γ p s m args meth c cX9_parts 6 RX9) (hr : meth.sig.returnType = (some .int)) (hnm : meth.name = "parts") {r : (Int32 × ZH)} {r7 : Nat → Int32 → Int32 → ZH → Option (Int32 × ZH)} (H7 : ∀ (l0 : Nat) (l1 : Int32) (l2 : Int32) (h : ZH), r7 l0 l1 l2 h = some r → z_W Γ p l e rmX9_parts s m args below meth c 6 0 0 (MQ below (z_Qc Γ (some (.int r.1)) r.2) args s rmX9_parts.cells rmX9_parts.slots (z_A Γ)) 7 [(0, .ref l0), (1, .int l1), (2, .int l2)] [] h) {r19 : Nat → Int32 → Int32 → Int32 → Int32 → ZH → Option (Int32 × ZH)} (H19 : ∀ (l0 : Nat) (l1 : Int32) (l2 : Int32) (l3 : Int32) (l4 : Int32) (h : ZH), r19 l0 l1 l2 l3 l4 h = some r → z_W Γ p l e rmX9_parts s m args below meth c 6 0 0 (MQ below (z_Qc Γ (some (.int r.1)) r.2) args s rmX9_parts.cells rmX9_parts.slots (z_A Γ)) 19 [(0, .ref l0), (1, .int l1), (2, .int l2), (3, .int l3), (4, .int l4)] [] h) {r29 : Nat → Int32 → Int32 → Int32 → Int32 → Int32 → ZH → Option (Int32 × ZH)} (H29 : ∀ (l0 : Nat) (l1 : Int32) (l2 : Int32) (l3 : Int32) (l4 : Int32) (l5 : Int32) (h : ZH), r29 l0 l1 l2 l3 l4 l5 h = some r → z_W Γ p l e rmX9_parts s m args below meth c 6 0 0 (MQ below (z_Qc Γ (some (.int r.1)) r.2) args s rmX9_parts.cells rmX9_parts.slots (z_A Γ)) 29 [(0, .ref l0), (1, .int l1), (2, .int l2), (3, .int l3), (4, .int l4), (5, .int l5)] [] h) : ∀ (l0 : Nat) (l1 : Int32) (l2 : Int32) (l3 : Int32) (l4 : Int32) (l5 : Int32) (h : ZH), xX9_parts_B29  r7 r19 r29 l0 l1 l2 l3 l4 l5 h = some r → z_W Γ p l e rmX9_parts s m args below meth c 6 0 0 (MQ below (z_Qc Γ (some (.int r.1)) r.2) args s rmX9_parts.cells rmX9_parts.slots (z_A Γ)) 29 [(0, .ref l0), (1, .int l1), (2, .int l2), (3, .int l3), (4, .int l4), (5, .int l5)] [] h := by
  intro l0 l1 l2 l3 l4 l5 h hX
  refine z_iload (pc := 29) G 5 dX9_parts_29 rfl ?_
  refine z_aload_n (pc := 31) G 0 dX9_parts_31 rfl rfl ?_
  obtain ⟨hi32, hX⟩ := z_gu_s hX
  obtain ⟨r32, hv32, hX⟩ := z_bd hX
  refine z_cVI (pc := 32) (As := []) (c2 := 0) (s2 := 0) G kK9 (lX9_lots hO hv32) hi32 kt_1221 kt_11 kt_1218 kt_1220 ks_36 ydX9_lots ⟨by decide, by decide⟩ rfl (Nat.le_of_ble_eq_true rfl) ⟨rfl, rfl⟩ ⟨by decide, by decide⟩ rfl dX9_parts_32 ?_
  refine z_icmp_ge (pc := 35) (tgt := 64) G dX9_parts_35 (by decide) (fun hc35 => ?_) (fun hc35 => ?_)
  · have hX := z_it hc35 hX
    refine z_iincw (pc := 64) (w := 1) (lv2 := [(0, .ref l0), (1, .int l1), (2, .int l2), (3, .int l3), (4, .int (l4 + 1)), (5, .int l5)]) G 4 dX9_parts_64 rfl (by decide) (by decide) rfl rfl ?_
    refine z_goto (pc := 67) (tgt := 19) G dX9_parts_67 (by decide) ?_
    refine z_drop (lv2 := [(0, .ref l0), (1, .int l1), (2, .int l2), (3, .int l3), (4, .int (l4 + 1))]) [0, 1, 2, 3, 4] rfl ?_
    exact H19 _ _ _ _ _ _ hX
  · have hX := z_if hc35 hX
    refine z_iload_n (pc := 38) G 3 dX9_parts_38 rfl rfl ?_
    refine z_iload (pc := 39) G 5 dX9_parts_39 rfl ?_
    obtain ⟨r41, hv41, hX⟩ := z_bd hX
    refine z_cSI (pc := 41) (As := [.int l3, .int l5]) (c2 := 0) (s2 := 0) G (lX9_bit hO hv41) kt_1476 kt_11 kt_1474 kt_1475 ydX9_bit ⟨by decide, by decide⟩ rfl (Nat.le_of_ble_eq_true rfl) ⟨rfl, rfl⟩ ⟨by decide, by decide⟩ rfl dX9_parts_41 ?_
    refine z_if_eq (pc := 44) (tgt := 58) G dX9_parts_44 (by decide) (fun hc44 => ?_) (fun hc44 => ?_)
    · have hX := z_it hc44 hX
      refine z_iincw (pc := 58) (w := 1) (lv2 := [(0, .ref l0), (1, .int l1), (2, .int l2), (3, .int l3), (4, .int l4), (5, .int (l5 + 1))]) G 5 dX9_parts_58 rfl (by decide) (by decide) rfl rfl ?_
      refine z_goto (pc := 61) (tgt := 29) G dX9_parts_61 (by decide) ?_
      exact H29 _ _ _ _ _ _ _ hX
    · have hX := z_if hc44 hX
      refine z_iload_n (pc := 47) G 3 dX9_parts_47 rfl rfl ?_
      refine z_aload_n (pc := 48) G 0 dX9_parts_48 rfl rfl ?_
      refine z_iload (pc := 49) G 5 dX9_parts_49 rfl ?_
      obtain ⟨hi51, hX⟩ := z_gu_s hX
      obtain ⟨r51, hv51, hX⟩ := z_bd hX
      refine z_cVI (pc := 51) (As := [.int l5]) (c2 := 0) (s2 := 0) G kK9 (lX9_inRange hO hv51) hi51 kt_1707 kt_11 kt_1704 kt_1706 ks_80 ydX9_inRange ⟨by decide, by decide⟩ rfl (Nat.le_of_ble_eq_true rfl) ⟨rfl, rfl⟩ ⟨by decide, by decide⟩ rfl dX9_parts_51 ?_
      refine z_iload_n (pc := 54) G 1 dX9_parts_54 rfl rfl ?_
      refine z_iand (pc := 55) G dX9_parts_55 ?_
      refine z_ior (pc := 56) G dX9_parts_56 ?_
      refine z_istore_n (pc := 57) (lv2 := [(0, .ref l0), (1, .int l1), (2, .int l2), (3, .int (l3 ||| (r51.1 &&& l1))), (4, .int l4), (5, .int l5)]) G dX9_parts_57 rfl (by decide) rfl rfl ?_
      refine z_iincw (pc := 58) (w := 1) (lv2 := [(0, .ref l0), (1, .int l1), (2, .int l2), (3, .int (l3 ||| (r51.1 &&& l1))), (4, .int l4), (5, .int (l5 + 1))]) G 5 dX9_parts_58 rfl (by decide) (by decide) rfl rfl ?_
      refine z_goto (pc := 61) (tgt := 29) G dX9_parts_61 (by decide) ?_
      exact H29 _ _ _ _ _ _ _ hX
set_option maxHeartbeats 4000000 in
set_option maxRecDepth 100000 in
theorem wX9_parts_L29 {Γ : ZG} {p : Program} {l : Launch} {e : Env} {s : State} {m : MethodId} {args : Array Value} {below : List Frame} {meth : Method} {c : Code} (hO : z_OK Γ) (G : z_GG Γ p s m args meth c cX9_parts 6 RX9) (hr : meth.sig.returnType = (some .int)) (hnm : meth.name = "parts") {r : (Int32 × ZH)} {r7 : Nat → Int32 → Int32 → ZH → Option (Int32 × ZH)} (H7 : ∀ (l0 : Nat) (l1 : Int32) (l2 : Int32) (h : ZH), r7 l0 l1 l2 h = some r → z_W Γ p l e rmX9_parts s m args below meth c 6 0 0 (MQ below (z_Qc Γ (some (.int r.1)) r.2) args s rmX9_parts.cells rmX9_parts.slots (z_A Γ)) 7 [(0, .ref l0), (1, .int l1), (2, .int l2)] [] h) {r19 : Nat → Int32 → Int32 → Int32 → Int32 → ZH → Option (Int32 × ZH)} (H19 : ∀ (l0 : Nat) (l1 : Int32) (l2 : Int32) (l3 : Int32) (l4 : Int32) (h : ZH), r19 l0 l1 l2 l3 l4 h = some r → z_W Γ p l e rmX9_parts s m args below meth c 6 0 0 (MQ below (z_Qc Γ (some (.int r.1)) r.2) args s rmX9_parts.cells rmX9_parts.slots (z_A Γ)) 19 [(0, .ref l0), (1, .int l1), (2, .int l2), (3, .int l3), (4, .int l4)] [] h) : ∀ (nn : Nat) (l0 : Nat) (l1 : Int32) (l2 : Int32) (l3 : Int32) (l4 : Int32) (l5 : Int32) (h : ZH), xX9_parts_L29  r7 r19 nn l0 l1 l2 l3 l4 l5 h = some r → z_W Γ p l e rmX9_parts s m args below meth c 6 0 0 (MQ below (z_Qc Γ (some (.int r.1)) r.2) args s rmX9_parts.cells rmX9_parts.slots (z_A Γ)) 29 [(0, .ref l0), (1, .int l1), (2, .int l2), (3, .int l3), (4, .int l4), (5, .int l5)] [] h := by
  intro nn
  induction nn with
  | zero => intro l0 l1 l2 l3 l4 l5 h hX; cases hX
  | succ nn ih => intro l0 l1 l2 l3 l4 l5 h hX; exact wX9_parts_B29 hO G hr hnm  H7 H19 ih l0 l1 l2 l3 l4 l5 h hX
noncomputable def xX9_parts_B70 (r7 : Nat → Int32 → Int32 → ZH → Option (Int32 × ZH)) (l0 : Nat) (l1 : Int32) (l2 : Int32) (l3 : Int32) (h : ZH) : Option (Int32 × ZH) := r7 l0 (l1 &&& (l3 ^^^ (-1 : Int32))) (l2 + 1) h
set_option maxHeartbeats 4000000 in
set_option maxRecDepth 100000 in
theorem wX9_parts_B70 {Γ : ZG} {p : Program} {l : Launch} {e : Env} {s : State} {m : MethodId} {args : Array Value} {below : List Frame} {meth : Method} {c : Code} (hO : z_OK Γ) (G : z_GG Γ p s m args meth c cX9_parts 6 RX9) (hr : meth.sig.returnType = (some .int)) (hnm : meth.name = "parts") {r : (Int32 × ZH)} {r7 : Nat → Int32 → Int32 → ZH → Option (Int32 × ZH)} (H7 : ∀ (l0 : Nat) (l1 : Int32) (l2 : Int32) (h : ZH), r7 l0 l1 l2 h = some r → z_W Γ p l e rmX9_parts s m args below meth c 6 0 0 (MQ below (z_Qc Γ (some (.int r.1)) r.2) args s rmX9_parts.cells rmX9_parts.slots (z_A Γ)) 7 [(0, .ref l0), (1, .int l1), (2, .int l2)] [] h) : ∀ (l0 : Nat) (l1 : Int32) (l2 : Int32) (l3 : Int32) (h : ZH), xX9_parts_B70  r7 l0 l1 l2 l3 h = some r → z_W Γ p l e rmX9_parts s m args below meth c 6 0 0 (MQ below (z_Qc Γ (some (.int r.1)) r.2) args s rmX9_parts.cells rmX9_parts.slots (z_A Γ)) 70 [(0, .ref l0), (1, .int l1), (2, .int l2), (3, .int l3)] [] h := by
  intro l0 l1 l2 l3 h hX
  refine z_iload_n (pc := 70) G 1 dX9_parts_70 rfl rfl ?_
  refine z_iload_n (pc := 71) G 3 dX9_parts_71 rfl rfl ?_
  refine z_iconst (pc := 72) (v := (-1)) G dX9_parts_72 (by decide) ?_
  refine z_ixor (pc := 73) G dX9_parts_73 ?_
  refine z_iand (pc := 74) G dX9_parts_74 ?_
  refine z_istore_n (pc := 75) (lv2 := [(0, .ref l0), (1, .int (l1 &&& (l3 ^^^ (-1 : Int32)))), (2, .int l2), (3, .int l3)]) G dX9_parts_75 rfl (by decide) rfl rfl ?_
  refine z_iincw (pc := 76) (w := 1) (lv2 := [(0, .ref l0), (1, .int (l1 &&& (l3 ^^^ (-1 : Int32)))), (2, .int (l2 + 1)), (3, .int l3)]) G 2 dX9_parts_76 rfl (by decide) (by decide) rfl rfl ?_
  refine z_goto (pc := 79) (tgt := 7) G dX9_parts_79 (by decide) ?_
  refine z_drop (lv2 := [(0, .ref l0), (1, .int (l1 &&& (l3 ^^^ (-1 : Int32)))), (2, .int (l2 + 1))]) [0, 1, 2] rfl ?_
  exact H7 _ _ _ _ hX
noncomputable def xX9_parts_B19 (r7 : Nat → Int32 → Int32 → ZH → Option (Int32 × ZH)) (r19 : Nat → Int32 → Int32 → Int32 → Int32 → ZH → Option (Int32 × ZH)) (l0 : Nat) (l1 : Int32) (l2 : Int32) (l3 : Int32) (l4 : Int32) (h : ZH) : Option (Int32 × ZH) := (if (6 : Int32) ≤ l4 then xX9_parts_B70 r7 l0 l1 l2 l3 h else xX9_parts_L29 r7 r19 zFU l0 l1 l2 l3 l4 (0 : Int32) h)
noncomputable def xX9_parts_L19 (r7 : Nat → Int32 → Int32 → ZH → Option (Int32 × ZH)) (n : Nat) : Nat → Int32 → Int32 → Int32 → Int32 → ZH → Option (Int32 × ZH) := Nat.rec (motive := fun _ => Nat → Int32 → Int32 → Int32 → Int32 → ZH → Option (Int32 × ZH)) (fun _ _ _ _ _ _ => none) (fun _ rec => xX9_parts_B19  r7 rec) n
set_option maxHeartbeats 4000000 in
set_option maxRecDepth 100000 in
theorem wX9_parts_B19 {Γ : ZG} {p : Program} {l : Launch} {e : Env} {s : State} {m : MethodId} {args : Array Value} {below : List Frame} {meth : Method} {c : Code} (hO : z_OK Γ) (G : z_GG Γ p s m args meth c cX9_parts 6 RX9) (hr : meth.sig.returnType = (some .int)) (hnm : meth.name = "parts") {r : (Int32 × ZH)} {r7 : Nat → Int32 → Int32 → ZH → Option (Int32 × ZH)} (H7 : ∀ (l0 : Nat) (l1 : Int32) (l2 : Int32) (h : ZH), r7 l0 l1 l2 h = some r → z_W Γ p l e rmX9_parts s m args below meth c 6 0 0 (MQ below (z_Qc Γ (some (.int r.1)) r.2) args s rmX9_parts.cells rmX9_parts.slots (z_A Γ)) 7 [(0, .ref l0), (1, .int l1), (2, .int l2)] [] h) {r19 : Nat → Int32 → Int32 → Int32 → Int32 → ZH → Option (Int32 × ZH)} (H19 : ∀ (l0 : Nat) (l1 : Int32) (l2 : Int32) (l3 : Int32) (l4 : Int32) (h : ZH), r19 l0 l1 l2 l3 l4 h = some r → z_W Γ p l e rmX9_parts s m args below meth c 6 0 0 (MQ below (z_Qc Γ (some (.int r.1)) r.2) args s rmX9_parts.cells rmX9_parts.slots (z_A Γ)) 19 [(0, .ref l0), (1, .int l1), (2, .int l2), (3, .int l3), (4, .int l4)] [] h) : ∀ (l0 : Nat) (l1 : Int32) (l2 : Int32) (l3 : Int32) (l4 : Int32) (h : ZH), xX9_parts_B19  r7 r19 l0 l1 l2 l3 l4 h = some r → z_W Γ p l e rmX9_parts s m args below meth c 6 0 0 (MQ below (z_Qc Γ (some (.int r.1)) r.2) args s rmX9_parts.cells rmX9_parts.slots (z_A Γ)) 19 [(0, .ref l0), (1, .int l1), (2, .int l2), (3, .int l3), (4, .int l4)] [] h := by
  intro l0 l1 l2 l3 l4 h hX
  refine z_iload (pc := 19) G 4 dX9_parts_19 rfl ?_
  refine z_bipush (pc := 21) (v := 6) G dX9_parts_21 (by decide) ?_
  refine z_icmp_ge (pc := 23) (tgt := 70) G dX9_parts_23 (by decide) (fun hc23 => ?_) (fun hc23 => ?_)
  · have hX := z_it hc23 hX
    refine z_drop (lv2 := [(0, .ref l0), (1, .int l1), (2, .int l2), (3, .int l3)]) [0, 1, 2, 3] rfl ?_
    exact wX9_parts_B70 hO G hr hnm H7 _ _ _ _ _ hX
  · have hX := z_if hc23 hX
    refine z_iconst (pc := 26) (v := 0) G dX9_parts_26 (by decide) ?_
    refine z_istore (pc := 27) (lv2 := [(0, .ref l0), (1, .int l1), (2, .int l2), (3, .int l3), (4, .int l4), (5, .int (0 : Int32))]) G dX9_parts_27 (by decide) rfl rfl ?_
    exact wX9_parts_L29 hO G hr hnm H7 H19 zFU _ _ _ _ _ _ _ hX
set_option maxHeartbeats 4000000 in
set_option maxRecDepth 100000 in
theorem wX9_parts_L19 {Γ : ZG} {p : Program} {l : Launch} {e : Env} {s : State} {m : MethodId} {args : Array Value} {below : List Frame} {meth : Method} {c : Code} (hO : z_OK Γ) (G : z_GG Γ p s m args meth c cX9_parts 6 RX9) (hr : meth.sig.returnType = (some .int)) (hnm : meth.name = "parts") {r : (Int32 × ZH)} {r7 : Nat → Int32 → Int32 → ZH → Option (Int32 × ZH)} (H7 : ∀ (l0 : Nat) (l1 : Int32) (l2 : Int32) (h : ZH), r7 l0 l1 l2 h = some r → z_W Γ p l e rmX9_parts s m args below meth c 6 0 0 (MQ below (z_Qc Γ (some (.int r.1)) r.2) args s rmX9_parts.cells rmX9_parts.slots (z_A Γ)) 7 [(0, .ref l0), (1, .int l1), (2, .int l2)] [] h) : ∀ (nn : Nat) (l0 : Nat) (l1 : Int32) (l2 : Int32) (l3 : Int32) (l4 : Int32) (h : ZH), xX9_parts_L19  r7 nn l0 l1 l2 l3 l4 h = some r → z_W Γ p l e rmX9_parts s m args below meth c 6 0 0 (MQ below (z_Qc Γ (some (.int r.1)) r.2) args s rmX9_parts.cells rmX9_parts.slots (z_A Γ)) 19 [(0, .ref l0), (1, .int l1), (2, .int l2), (3, .int l3), (4, .int l4)] [] h := by
  intro nn
  induction nn with
  | zero => intro l0 l1 l2 l3 l4 h hX; cases hX
  | succ nn ih => intro l0 l1 l2 l3 l4 h hX; exact wX9_parts_B19 hO G hr hnm  H7 ih l0 l1 l2 l3 l4 h hX
noncomputable def xX9_parts_B7 (r7 : Nat → Int32 → Int32 → ZH → Option (Int32 × ZH)) (l0 : Nat) (l1 : Int32) (l2 : Int32) (h : ZH) : Option (Int32 × ZH) := (if l1 = 0 then some (l2, h) else xX9_parts_L19 r7 zFU l0 l1 l2 (l1 &&& (-l1)) (0 : Int32) h)
noncomputable def xX9_parts_L7 (n : Nat) : Nat → Int32 → Int32 → ZH → Option (Int32 × ZH) := Nat.rec (motive := fun _ => Nat → Int32 → Int32 → ZH → Option (Int32 × ZH)) (fun _ _ _ _ => none) (fun _ rec => xX9_parts_B7  rec) n
set_option maxHeartbeats 4000000 in
set_option maxRecDepth 100000 in
theorem wX9_parts_B7 {Γ : ZG} {p : Program} {l : Launch} {e : Env} {s : State} {m : MethodId} {args : Array Value} {below : List Frame} {meth : Method} {c : Code} (hO : z_OK Γ) (G : z_GG Γ p s m args meth c cX9_parts 6 RX9) (hr : meth.sig.returnType = (some .int)) (hnm : meth.name = "parts") {r : (Int32 × ZH)} {r7 : Nat → Int32 → Int32 → ZH → Option (Int32 × ZH)} (H7 : ∀ (l0 : Nat) (l1 : Int32) (l2 : Int32) (h : ZH), r7 l0 l1 l2 h = some r → z_W Γ p l e rmX9_parts s m args below meth c 6 0 0 (MQ below (z_Qc Γ (some (.int r.1)) r.2) args s rmX9_parts.cells rmX9_parts.slots (z_A Γ)) 7 [(0, .ref l0), (1, .int l1), (2, .int l2)] [] h) : ∀ (l0 : Nat) (l1 : Int32) (l2 : Int32) (h : ZH), xX9_parts_B7  r7 l0 l1 l2 h = some r → z_W Γ p l e rmX9_parts s m args below meth c 6 0 0 (MQ below (z_Qc Γ (some (.int r.1)) r.2) args s rmX9_parts.cells rmX9_parts.slots (z_A Γ)) 7 [(0, .ref l0), (1, .int l1), (2, .int l2)] [] h := by
  intro l0 l1 l2 h hX
  refine z_iload_n (pc := 7) G 1 dX9_parts_7 rfl rfl ?_
  refine z_if_eq (pc := 8) (tgt := 82) G dX9_parts_8 (by decide) (fun hc8 => ?_) (fun hc8 => ?_)
  · have hX := z_it hc8 hX
    refine z_iload_n (pc := 82) G 2 dX9_parts_82 rfl rfl ?_
    exact z_iretX (pc := 83) hX G hr dX9_parts_83 (by decide) (by decide)
  · have hX := z_if hc8 hX
    refine z_iload_n (pc := 11) G 1 dX9_parts_11 rfl rfl ?_
    refine z_iload_n (pc := 12) G 1 dX9_parts_12 rfl rfl ?_
    refine z_ineg (pc := 13) G dX9_parts_13 ?_
    refine z_iand (pc := 14) G dX9_parts_14 ?_
    refine z_istore_n (pc := 15) (lv2 := [(0, .ref l0), (1, .int l1), (2, .int l2), (3, .int (l1 &&& (-l1)))]) G dX9_parts_15 rfl (by decide) rfl rfl ?_
    refine z_iconst (pc := 16) (v := 0) G dX9_parts_16 (by decide) ?_
    refine z_istore (pc := 17) (lv2 := [(0, .ref l0), (1, .int l1), (2, .int l2), (3, .int (l1 &&& (-l1))), (4, .int (0 : Int32))]) G dX9_parts_17 (by decide) rfl rfl ?_
    exact wX9_parts_L19 hO G hr hnm H7 zFU _ _ _ _ _ _ hX
set_option maxHeartbeats 4000000 in
set_option maxRecDepth 100000 in
theorem wX9_parts_L7 {Γ : ZG} {p : Program} {l : Launch} {e : Env} {s : State} {m : MethodId} {args : Array Value} {below : List Frame} {meth : Method} {c : Code} (hO : z_OK Γ) (G : z_GG Γ p s m args meth c cX9_parts 6 RX9) (hr : meth.sig.returnType = (some .int)) (hnm : meth.name = "parts") {r : (Int32 × ZH)} : ∀ (nn : Nat) (l0 : Nat) (l1 : Int32) (l2 : Int32) (h : ZH), xX9_parts_L7  nn l0 l1 l2 h = some r → z_W Γ p l e rmX9_parts s m args below meth c 6 0 0 (MQ below (z_Qc Γ (some (.int r.1)) r.2) args s rmX9_parts.cells rmX9_parts.slots (z_A Γ)) 7 [(0, .ref l0), (1, .int l1), (2, .int l2)] [] h := by
  intro nn
  induction nn with
  | zero => intro l0 l1 l2 h hX; cases hX
  | succ nn ih => intro l0 l1 l2 h hX; exact wX9_parts_B7 hO G hr hnm  ih l0 l1 l2 h hX
noncomputable def xX9_parts (l0 : Nat) (h : ZH) : Option (Int32 × ZH) := (z_gu (z_is h l0 9) ((xX9_litNow l0 h).bind fun r1 => xX9_parts_L7 zFU l0 r1.1 (0 : Int32) r1.2))
set_option maxHeartbeats 4000000 in
set_option maxRecDepth 100000 in
theorem lX9_parts {Γ : ZG} {l : Launch} (hO : z_OK Γ) {l0 : Nat} {h : ZH} {r : (Int32 × ZH)} (hX : xX9_parts l0 h = some r) : z_M Γ l yX9_parts (z_ws1 yX9_parts cX9_parts 6 (some .int)) rmX9_parts [.ref l0] h (some (.int r.1)) r.2 := by
  refine z_start hO (plainFor_of_name (by decide)) (Nat.le_of_ble_eq_true rfl) ?_
  intro p e s m args below meth c G hr hnm
  refine z_lvc (lv2 := [(0, .ref l0)]) rfl ?_
  refine z_aload_n (pc := 0) G 0 dX9_parts_0 rfl rfl ?_
  obtain ⟨hi1, hX⟩ := z_gu_s hX
  obtain ⟨r1, hv1, hX⟩ := z_bd hX
  refine z_cVI (pc := 1) (As := []) (c2 := 0) (s2 := 0) G kK9 (lX9_litNow hO hv1) hi1 kt_1687 kt_11 kt_1684 kt_1686 ks_79 ydX9_litNow ⟨by decide, by decide⟩ rfl (Nat.le_of_ble_eq_true rfl) ⟨rfl, rfl⟩ ⟨by decide, by decide⟩ rfl dX9_parts_1 ?_
  refine z_istore_n (pc := 4) (lv2 := [(0, .ref l0), (1, .int r1.1)]) G dX9_parts_4 rfl (by decide) rfl rfl ?_
  refine z_iconst (pc := 5) (v := 0) G dX9_parts_5 (by decide) ?_
  refine z_istore_n (pc := 6) (lv2 := [(0, .ref l0), (1, .int r1.1), (2, .int (0 : Int32))]) G dX9_parts_6 rfl (by decide) rfl rfl ?_
  exact wX9_parts_L7 hO G hr hnm zFU _ _ _ _ hX
theorem dX9_meet_0 : decode cX9_meet 0 = .ok (.aload_n 0, 1) := by decide +kernel
theorem dX9_meet_1 : decode cX9_meet 1 = .ok (.iload_n 1, 1) := by decide +kernel
theorem dX9_meet_2 : decode cX9_meet 2 = .ok (.invokevirtual 450, 3) := by decide +kernel
theorem dX9_meet_5 : decode cX9_meet 5 = .ok (.ifCond .eq 25, 3) := by decide +kernel
theorem dX9_meet_8 : decode cX9_meet 8 = .ok (.aload_n 0, 1) := by decide +kernel
theorem dX9_meet_9 : decode cX9_meet 9 = .ok (.iload_n 2, 1) := by decide +kernel
theorem dX9_meet_10 : decode cX9_meet 10 = .ok (.invokevirtual 450, 3) := by decide +kernel
theorem dX9_meet_13 : decode cX9_meet 13 = .ok (.ifCond .eq 17, 3) := by decide +kernel
theorem dX9_meet_16 : decode cX9_meet 16 = .ok (.iload_n 1, 1) := by decide +kernel
theorem dX9_meet_17 : decode cX9_meet 17 = .ok (.iload_n 2, 1) := by decide +kernel
theorem dX9_meet_18 : decode cX9_meet 18 = .ok (.if_icmp .eq 12, 3) := by decide +kernel
theorem dX9_meet_21 : decode cX9_meet 21 = .ok (.iload_n 3, 1) := by decide +kernel
theorem dX9_meet_22 : decode cX9_meet 22 = .ok (.iconst 0, 1) := by decide +kernel
theorem dX9_meet_23 : decode cX9_meet 23 = .ok (.iconst 1, 1) := by decide +kernel
theorem dX9_meet_24 : decode cX9_meet 24 = .ok (.invokestatic 340, 3) := by decide +kernel
theorem dX9_meet_27 : decode cX9_meet 27 = .ok (.ifCond .ne 5, 3) := by decide +kernel
theorem dX9_meet_30 : decode cX9_meet 30 = .ok (.iconst (-1), 1) := by decide +kernel
theorem dX9_meet_31 : decode cX9_meet 31 = .ok (.ireturn, 1) := by decide +kernel
theorem dX9_meet_32 : decode cX9_meet 32 = .ok (.iconst 0, 1) := by decide +kernel
theorem dX9_meet_33 : decode cX9_meet 33 = .ok (.istore 4, 2) := by decide +kernel
theorem dX9_meet_35 : decode cX9_meet 35 = .ok (.iload 4, 2) := by decide +kernel
theorem dX9_meet_37 : decode cX9_meet 37 = .ok (.bipush 99, 2) := by decide +kernel
theorem dX9_meet_39 : decode cX9_meet 39 = .ok (.if_icmp .gt 156, 3) := by decide +kernel
theorem dX9_meet_42 : decode cX9_meet 42 = .ok (.aload_n 0, 1) := by decide +kernel
theorem dX9_meet_43 : decode cX9_meet 43 = .ok (.getfield 91, 3) := by decide +kernel
theorem dX9_meet_46 : decode cX9_meet 46 = .ok (.iconst 0, 1) := by decide +kernel
theorem dX9_meet_47 : decode cX9_meet 47 = .ok (.iload_n 1, 1) := by decide +kernel
theorem dX9_meet_48 : decode cX9_meet 48 = .ok (.iadd, 1) := by decide +kernel
theorem dX9_meet_49 : decode cX9_meet 49 = .ok (.iaload, 1) := by decide +kernel
theorem dX9_meet_50 : decode cX9_meet 50 = .ok (.iload 4, 2) := by decide +kernel
theorem dX9_meet_52 : decode cX9_meet 52 = .ok (.aload_n 0, 1) := by decide +kernel
theorem dX9_meet_53 : decode cX9_meet 53 = .ok (.getfield 91, 3) := by decide +kernel
theorem dX9_meet_56 : decode cX9_meet 56 = .ok (.bipush 12, 2) := by decide +kernel
theorem dX9_meet_58 : decode cX9_meet 58 = .ok (.iload_n 1, 1) := by decide +kernel
theorem dX9_meet_59 : decode cX9_meet 59 = .ok (.iadd, 1) := by decide +kernel
theorem dX9_meet_60 : decode cX9_meet 60 = .ok (.iaload, 1) := by decide +kernel
theorem dX9_meet_61 : decode cX9_meet 61 = .ok (.imul, 1) := by decide +kernel
theorem dX9_meet_62 : decode cX9_meet 62 = .ok (.iadd, 1) := by decide +kernel
theorem dX9_meet_63 : decode cX9_meet 63 = .ok (.bipush 100, 2) := by decide +kernel
theorem dX9_meet_65 : decode cX9_meet 65 = .ok (.irem, 1) := by decide +kernel
theorem dX9_meet_66 : decode cX9_meet 66 = .ok (.aload_n 0, 1) := by decide +kernel
theorem dX9_meet_67 : decode cX9_meet 67 = .ok (.getfield 91, 3) := by decide +kernel
theorem dX9_meet_70 : decode cX9_meet 70 = .ok (.iconst 0, 1) := by decide +kernel
theorem dX9_meet_71 : decode cX9_meet 71 = .ok (.iload_n 2, 1) := by decide +kernel
theorem dX9_meet_72 : decode cX9_meet 72 = .ok (.iadd, 1) := by decide +kernel
theorem dX9_meet_73 : decode cX9_meet 73 = .ok (.iaload, 1) := by decide +kernel
theorem dX9_meet_74 : decode cX9_meet 74 = .ok (.iload 4, 2) := by decide +kernel
theorem dX9_meet_76 : decode cX9_meet 76 = .ok (.aload_n 0, 1) := by decide +kernel
theorem dX9_meet_77 : decode cX9_meet 77 = .ok (.getfield 91, 3) := by decide +kernel
theorem dX9_meet_80 : decode cX9_meet 80 = .ok (.bipush 12, 2) := by decide +kernel
theorem dX9_meet_82 : decode cX9_meet 82 = .ok (.iload_n 2, 1) := by decide +kernel
theorem dX9_meet_83 : decode cX9_meet 83 = .ok (.iadd, 1) := by decide +kernel
theorem dX9_meet_84 : decode cX9_meet 84 = .ok (.iaload, 1) := by decide +kernel
theorem dX9_meet_85 : decode cX9_meet 85 = .ok (.imul, 1) := by decide +kernel
theorem dX9_meet_86 : decode cX9_meet 86 = .ok (.iadd, 1) := by decide +kernel
theorem dX9_meet_87 : decode cX9_meet 87 = .ok (.bipush 100, 2) := by decide +kernel
theorem dX9_meet_89 : decode cX9_meet 89 = .ok (.irem, 1) := by decide +kernel
theorem dX9_meet_90 : decode cX9_meet 90 = .ok (.isub, 1) := by decide +kernel
theorem dX9_meet_91 : decode cX9_meet 91 = .ok (.invokestatic 350, 3) := by decide +kernel
theorem dX9_meet_94 : decode cX9_meet 94 = .ok (.istore 5, 2) := by decide +kernel
theorem dX9_meet_96 : decode cX9_meet 96 = .ok (.aload_n 0, 1) := by decide +kernel
theorem dX9_meet_97 : decode cX9_meet 97 = .ok (.getfield 91, 3) := by decide +kernel
theorem dX9_meet_100 : decode cX9_meet 100 = .ok (.bipush 6, 2) := by decide +kernel
theorem dX9_meet_102 : decode cX9_meet 102 = .ok (.iload_n 1, 1) := by decide +kernel
theorem dX9_meet_103 : decode cX9_meet 103 = .ok (.iadd, 1) := by decide +kernel
theorem dX9_meet_104 : decode cX9_meet 104 = .ok (.iaload, 1) := by decide +kernel
theorem dX9_meet_105 : decode cX9_meet 105 = .ok (.iload 4, 2) := by decide +kernel
theorem dX9_meet_107 : decode cX9_meet 107 = .ok (.aload_n 0, 1) := by decide +kernel
theorem dX9_meet_108 : decode cX9_meet 108 = .ok (.getfield 91, 3) := by decide +kernel
theorem dX9_meet_111 : decode cX9_meet 111 = .ok (.bipush 18, 2) := by decide +kernel
theorem dX9_meet_113 : decode cX9_meet 113 = .ok (.iload_n 1, 1) := by decide +kernel
theorem dX9_meet_114 : decode cX9_meet 114 = .ok (.iadd, 1) := by decide +kernel
theorem dX9_meet_115 : decode cX9_meet 115 = .ok (.iaload, 1) := by decide +kernel
theorem dX9_meet_116 : decode cX9_meet 116 = .ok (.imul, 1) := by decide +kernel
theorem dX9_meet_117 : decode cX9_meet 117 = .ok (.iadd, 1) := by decide +kernel
theorem dX9_meet_118 : decode cX9_meet 118 = .ok (.bipush 100, 2) := by decide +kernel
theorem dX9_meet_120 : decode cX9_meet 120 = .ok (.irem, 1) := by decide +kernel
theorem dX9_meet_121 : decode cX9_meet 121 = .ok (.aload_n 0, 1) := by decide +kernel
theorem dX9_meet_122 : decode cX9_meet 122 = .ok (.getfield 91, 3) := by decide +kernel
theorem dX9_meet_125 : decode cX9_meet 125 = .ok (.bipush 6, 2) := by decide +kernel
theorem dX9_meet_127 : decode cX9_meet 127 = .ok (.iload_n 2, 1) := by decide +kernel
theorem dX9_meet_128 : decode cX9_meet 128 = .ok (.iadd, 1) := by decide +kernel
theorem dX9_meet_129 : decode cX9_meet 129 = .ok (.iaload, 1) := by decide +kernel
theorem dX9_meet_130 : decode cX9_meet 130 = .ok (.iload 4, 2) := by decide +kernel
theorem dX9_meet_132 : decode cX9_meet 132 = .ok (.aload_n 0, 1) := by decide +kernel
theorem dX9_meet_133 : decode cX9_meet 133 = .ok (.getfield 91, 3) := by decide +kernel
theorem dX9_meet_136 : decode cX9_meet 136 = .ok (.bipush 18, 2) := by decide +kernel
theorem dX9_meet_138 : decode cX9_meet 138 = .ok (.iload_n 2, 1) := by decide +kernel
theorem dX9_meet_139 : decode cX9_meet 139 = .ok (.iadd, 1) := by decide +kernel
theorem dX9_meet_140 : decode cX9_meet 140 = .ok (.iaload, 1) := by decide +kernel
theorem dX9_meet_141 : decode cX9_meet 141 = .ok (.imul, 1) := by decide +kernel
theorem dX9_meet_142 : decode cX9_meet 142 = .ok (.iadd, 1) := by decide +kernel
theorem dX9_meet_143 : decode cX9_meet 143 = .ok (.bipush 100, 2) := by decide +kernel
theorem dX9_meet_145 : decode cX9_meet 145 = .ok (.irem, 1) := by decide +kernel
theorem dX9_meet_146 : decode cX9_meet 146 = .ok (.isub, 1) := by decide +kernel
theorem dX9_meet_147 : decode cX9_meet 147 = .ok (.invokestatic 350, 3) := by decide +kernel
theorem dX9_meet_150 : decode cX9_meet 150 = .ok (.istore 6, 2) := by decide +kernel
theorem dX9_meet_152 : decode cX9_meet 152 = .ok (.iload 5, 2) := by decide +kernel
theorem dX9_meet_154 : decode cX9_meet 154 = .ok (.iload 6, 2) := by decide +kernel
theorem dX9_meet_156 : decode cX9_meet 156 = .ok (.iadd, 1) := by decide +kernel
theorem dX9_meet_157 : decode cX9_meet 157 = .ok (.aload_n 0, 1) := by decide +kernel
theorem dX9_meet_158 : decode cX9_meet 158 = .ok (.getfield 27, 3) := by decide +kernel
theorem dX9_meet_161 : decode cX9_meet 161 = .ok (.aload_n 0, 1) := by decide +kernel
theorem dX9_meet_162 : decode cX9_meet 162 = .ok (.getfield 255, 3) := by decide +kernel
theorem dX9_meet_165 : decode cX9_meet 165 = .ok (.iaload, 1) := by decide +kernel
theorem dX9_meet_166 : decode cX9_meet 166 = .ok (.if_icmp .gt 7, 3) := by decide +kernel
theorem dX9_meet_169 : decode cX9_meet 169 = .ok (.iconst 1, 1) := by decide +kernel
theorem dX9_meet_170 : decode cX9_meet 170 = .ok (.goto 4, 3) := by decide +kernel
theorem dX9_meet_173 : decode cX9_meet 173 = .ok (.iconst 0, 1) := by decide +kernel
theorem dX9_meet_174 : decode cX9_meet 174 = .ok (.iload_n 3, 1) := by decide +kernel
theorem dX9_meet_175 : decode cX9_meet 175 = .ok (.ifCond .ne 7, 3) := by decide +kernel
theorem dX9_meet_178 : decode cX9_meet 178 = .ok (.iconst 1, 1) := by decide +kernel
theorem dX9_meet_179 : decode cX9_meet 179 = .ok (.goto 4, 3) := by decide +kernel
theorem dX9_meet_182 : decode cX9_meet 182 = .ok (.iconst 0, 1) := by decide +kernel
theorem dX9_meet_183 : decode cX9_meet 183 = .ok (.if_icmp .ne 6, 3) := by decide +kernel
theorem dX9_meet_186 : decode cX9_meet 186 = .ok (.iload 4, 2) := by decide +kernel
theorem dX9_meet_188 : decode cX9_meet 188 = .ok (.ireturn, 1) := by decide +kernel
theorem dX9_meet_189 : decode cX9_meet 189 = .ok (.iinc 4 1, 3) := by decide +kernel
theorem dX9_meet_192 : decode cX9_meet 192 = .ok (.goto (-157), 3) := by decide +kernel
theorem dX9_meet_195 : decode cX9_meet 195 = .ok (.iconst (-1), 1) := by decide +kernel
theorem dX9_meet_196 : decode cX9_meet 196 = .ok (.ireturn, 1) := by decide +kernel
theorem ydX9_meet : z_yd yX9_meet 3 := ⟨by decide, by decide, by decide +kernel⟩
abbrev rmX9_meet : Room := { frames := 2, cells := 0, slots := 0, locals := 43 }
noncomputable def xX9_meet_B174 (r35 : Nat → Int32 → Int32 → Int32 → Int32 → ZH → Option (Int32 × ZH)) (l0 : Nat) (l1 : Int32) (l2 : Int32) (l3 : Int32) (l4 : Int32) (s0 : Int32) (h : ZH) : Option (Int32 × ZH) := (if l3 = 0 then (if s0 = (1 : Int32) then some (l4, h) else r35 l0 l1 l2 l3 (l4 + 1) h) else (if s0 = (0 : Int32) then some (l4, h) else r35 l0 l1 l2 l3 (l4 + 1) h))
set_option maxHeartbeats 4000000 in
set_option maxRecDepth 100000 in
theorem wX9_meet_B174 {Γ : ZG} {p : Program} {l : Launch} {e : Env} {s : State} {m : MethodId} {args : Array Value} {below : List Frame} {meth : Method} {c : Code} (hO : z_OK Γ) (G : z_GG Γ p s m args meth c cX9_meet 7 RX9) (hr : meth.sig.returnType = (some .int)) (hnm : meth.name = "meet") {r : (Int32 × ZH)} {r35 : Nat → Int32 → Int32 → Int32 → Int32 → ZH → Option (Int32 × ZH)} (H35 : ∀ (l0 : Nat) (l1 : Int32) (l2 : Int32) (l3 : Int32) (l4 : Int32) (h : ZH), r35 l0 l1 l2 l3 l4 h = some r → z_W Γ p l e rmX9_meet s m args below meth c 7 0 0 (MQ below (z_Qc Γ (some (.int r.1)) r.2) args s rmX9_meet.cells rmX9_meet.slots (z_A Γ)) 35 [(0, .ref l0), (1, .int l1), (2, .int l2), (3, .int l3), (4, .int l4)] [] h) : ∀ (l0 : Nat) (l1 : Int32) (l2 : Int32) (l3 : Int32) (l4 : Int32) (s0 : Int32) (h : ZH), xX9_meet_B174  r35 l0 l1 l2 l3 l4 s0 h = some r → z_W Γ p l e rmX9_meet s m args below meth c 7 0 0 (MQ below (z_Qc Γ (some (.int r.1)) r.2) args s rmX9_meet.cells rmX9_meet.slots (z_A Γ)) 174 [(0, .ref l0), (1, .int l1), (2, .int l2), (3, .int l3), (4, .int l4)] [.int s0] h := by
  intro l0 l1 l2 l3 l4 s0 h hX
  refine z_iload_n (pc := 174) G 3 dX9_meet_174 rfl rfl ?_
  refine z_if_ne (pc := 175) (tgt := 182) G dX9_meet_175 (by decide) (fun hc175 => ?_) (fun hc175 => ?_)
  · have hX := z_if hc175 hX
    refine z_iconst (pc := 182) (v := 0) G dX9_meet_182 (by decide) ?_
    refine z_icmp_ne (pc := 183) (tgt := 189) G dX9_meet_183 (by decide) (fun hc183 => ?_) (fun hc183 => ?_)
    · have hX := z_if hc183 hX
      refine z_iincw (pc := 189) (w := 1) (lv2 := [(0, .ref l0), (1, .int l1), (2, .int l2), (3, .int l3), (4, .int (l4 + 1))]) G 4 dX9_meet_189 rfl (by decide) (by decide) rfl rfl ?_
      refine z_goto (pc := 192) (tgt := 35) G dX9_meet_192 (by decide) ?_
      exact H35 _ _ _ _ _ _ hX
    · have hX := z_it hc183 hX
      refine z_iload (pc := 186) G 4 dX9_meet_186 rfl ?_
      exact z_iretX (pc := 188) hX G hr dX9_meet_188 (by decide) (by decide)
  · have hX := z_it hc175 hX
    refine z_iconst (pc := 178) (v := 1) G dX9_meet_178 (by decide) ?_
    refine z_goto (pc := 179) (tgt := 183) G dX9_meet_179 (by decide) ?_
    refine z_icmp_ne (pc := 183) (tgt := 189) G dX9_meet_183 (by decide) (fun hc183 => ?_) (fun hc183 => ?_)
    · have hX := z_if hc183 hX
      refine z_iincw (pc := 189) (w := 1) (lv2 := [(0, .ref l0), (1, .int l1), (2, .int l2), (3, .int l3), (4, .int (l4 + 1))]) G 4 dX9_meet_189 rfl (by decide) (by decide) rfl rfl ?_
      refine z_goto (pc := 192) (tgt := 35) G dX9_meet_192 (by decide) ?_
      exact H35 _ _ _ _ _ _ hX
    · have hX := z_it hc183 hX
      refine z_iload (pc := 186) G 4 dX9_meet_186 rfl ?_
      exact z_iretX (pc := 188) hX G hr dX9_meet_188 (by decide) (by decide)
noncomputable def xX9_meet_B35 (r35 : Nat → Int32 → Int32 → Int32 → Int32 → ZH → Option (Int32 × ZH)) (l0 : Nat) (l1 : Int32) (l2 : Int32) (l3 : Int32) (l4 : Int32) (h : ZH) : Option (Int32 × ZH) := (if (99 : Int32) < l4 then some ((-1 : Int32), h) else ((z_gR h l0 9 41).bind fun x43 => ((z_aI h x43 ((0 : Int32) + l1)).bind fun x49 => ((z_gR h l0 9 41).bind fun x53 => ((z_aI h x53 ((12 : Int32) + l1)).bind fun x60 => ((z_gR h l0 9 41).bind fun x67 => ((z_aI h x67 ((0 : Int32) + l2)).bind fun x73 => ((z_gR h l0 9 41).bind fun x77 => ((z_aI h x77 ((12 : Int32) + l2)).bind fun x84 => ((xX9_absolute (((x49 + (l4 * x60)) - (x49 + (l4 * x60)) / (100 : Int32) * (100 : Int32)) - ((x73 + (l4 * x84)) - (x73 + (l4 * x84)) / (100 : Int32) * (100 : Int32))) h).bind fun r91 => ((z_gR r91.2 l0 9 41).bind fun x97 => ((z_aI r91.2 x97 ((6 : Int32) + l1)).bind fun x104 => ((z_gR r91.2 l0 9 41).bind fun x108 => ((z_aI r91.2 x108 ((18 : Int32) + l1)).bind fun x115 => ((z_gR r91.2 l0 9 41).bind fun x122 => ((z_aI r91.2 x122 ((6 : Int32) + l2)).bind fun x129 => ((z_gR r91.2 l0 9 41).bind fun x133 => ((z_aI r91.2 x133 ((18 : Int32) + l2)).bind fun x140 => ((xX9_absolute (((x104 + (l4 * x115)) - (x104 + (l4 * x115)) / (100 : Int32) * (100 : Int32)) - ((x129 + (l4 * x140)) - (x129 + (l4 * x140)) / (100 : Int32) * (100 : Int32))) r91.2).bind fun r147 => ((z_gR r147.2 l0 9 13).bind fun x158 => ((z_gI r147.2 l0 9 34).bind fun x162 => ((z_aI r147.2 x158 x162).bind fun x165 => (if x165 < (r91.1 + r147.1) then xX9_meet_B174 r35 l0 l1 l2 l3 l4 (0 : Int32) r147.2 else xX9_meet_B174 r35 l0 l1 l2 l3 l4 (1 : Int32) r147.2)))))))))))))))))))))))
noncomputable def xX9_meet_L35 (n : Nat) : Nat → Int32 → Int32 → Int32 → Int32 → ZH → Option (Int32 × ZH) := Nat.rec (motive := fun _ => Nat → Int32 → Int32 → Int32 → Int32 → ZH → Option (Int32 × ZH)) (fun _ _ _ _ _ _ => none) (fun _ rec => xX9_meet_B35  rec) n
set_option maxHeartbeats 4000000 in
set_option maxRecDepth 100000 in
theorem wX9_meet_B35 {Γ : ZG} {p : Program} {l : Launch} {e : Env} {s : State} {m : MethodId} {args : Array Value} {below : List Frame} {meth : Method} {c : Code} (hO : z_OK Γ) (G : z_GG Γ p s m args meth c cX9_meet 7 RX9) (hr : meth.sig.returnType = (some .int)) (hnm : meth.name = "meet") {r : (Int32 × ZH)} {r35 : Nat → Int32 → Int32 → Int32 → Int32 → ZH → Option (Int32 × ZH)} (H35 : ∀ (l0 : Nat) (l1 : Int32) (l2 : Int32) (l3 : Int32) (l4 : Int32) (h : ZH), r35 l0 l1 l2 l3 l4 h = some r → z_W Γ p l e rmX9_meet s m args below meth c 7 0 0 (MQ below (z_Qc Γ (some (.int r.1)) r.2) args s rmX9_meet.cells rmX9_meet.slots (z_A Γ)) 35 [(0, .ref l0), (1, .int l1), (2, .int l2), (3, .int l3), (4, .int l4)] [] h) : ∀ (l0 : Nat) (l1 : Int32) (l2 : Int32) (l3 : Int32) (l4 : Int32) (h : ZH), xX9_meet_B35  r35 l0 l1 l2 l3 l4 h = some r → z_W Γ p l e rmX9_meet s m args below meth c 7 0 0 (MQ below (z_Qc Γ (some (.int r.1)) r.2) args s rmX9_meet.cells rmX9_meet.slots (z_A Γ)) 35 [(0, .ref l0), (1, .int l1), (2, .int l2), (3, .int l3), (4, .int l4)] [] h := by
  intro l0 l1 l2 l3 l4 h hX
  refine z_iload (pc := 35) G 4 dX9_meet_35 rfl ?_
  refine z_bipush (pc := 37) (v := 99) G dX9_meet_37 (by decide) ?_
  refine z_icmp_gt (pc := 39) (tgt := 195) G dX9_meet_39 (by decide) (fun hc39 => ?_) (fun hc39 => ?_)
  · have hX := z_it hc39 hX
    refine z_iconst (pc := 195) (v := (-1)) G dX9_meet_195 (by decide) ?_
    exact z_iretX (pc := 196) hX G hr dX9_meet_196 (by decide) (by decide)
  · have hX := z_if hc39 hX
    refine z_aload_n (pc := 42) G 0 dX9_meet_42 rfl rfl ?_
    obtain ⟨x43, hv43, hX⟩ := z_bd hX
    refine z_getR (pc := 43) G kK9 (k := 41) (by decide) kt_1267 dX9_meet_43 hv43 ?_
    refine z_iconst (pc := 46) (v := 0) G dX9_meet_46 (by decide) ?_
    refine z_iload_n (pc := 47) G 1 dX9_meet_47 rfl rfl ?_
    refine z_iadd (pc := 48) G dX9_meet_48 ?_
    obtain ⟨x49, hv49, hX⟩ := z_bd hX
    refine z_iald (pc := 49) G dX9_meet_49 hv49 ?_
    refine z_iload (pc := 50) G 4 dX9_meet_50 rfl ?_
    refine z_aload_n (pc := 52) G 0 dX9_meet_52 rfl rfl ?_
    obtain ⟨x53, hv53, hX⟩ := z_bd hX
    refine z_getR (pc := 53) G kK9 (k := 41) (by decide) kt_1267 dX9_meet_53 hv53 ?_
    refine z_bipush (pc := 56) (v := 12) G dX9_meet_56 (by decide) ?_
    refine z_iload_n (pc := 58) G 1 dX9_meet_58 rfl rfl ?_
    refine z_iadd (pc := 59) G dX9_meet_59 ?_
    obtain ⟨x60, hv60, hX⟩ := z_bd hX
    refine z_iald (pc := 60) G dX9_meet_60 hv60 ?_
    refine z_imul (pc := 61) G dX9_meet_61 ?_
    refine z_iadd (pc := 62) G dX9_meet_62 ?_
    refine z_bipush (pc := 63) (v := 100) G dX9_meet_63 (by decide) ?_
    refine z_irem (pc := 65) G dX9_meet_65 (by decide) ?_
    refine z_aload_n (pc := 66) G 0 dX9_meet_66 rfl rfl ?_
    obtain ⟨x67, hv67, hX⟩ := z_bd hX
    refine z_getR (pc := 67) G kK9 (k := 41) (by decide) kt_1267 dX9_meet_67 hv67 ?_
    refine z_iconst (pc := 70) (v := 0) G dX9_meet_70 (by decide) ?_
    refine z_iload_n (pc := 71) G 2 dX9_meet_71 rfl rfl ?_
    refine z_iadd (pc := 72) G dX9_meet_72 ?_
    obtain ⟨x73, hv73, hX⟩ := z_bd hX
    refine z_iald (pc := 73) G dX9_meet_73 hv73 ?_
    refine z_iload (pc := 74) G 4 dX9_meet_74 rfl ?_
    refine z_aload_n (pc := 76) G 0 dX9_meet_76 rfl rfl ?_
    obtain ⟨x77, hv77, hX⟩ := z_bd hX
    refine z_getR (pc := 77) G kK9 (k := 41) (by decide) kt_1267 dX9_meet_77 hv77 ?_
    refine z_bipush (pc := 80) (v := 12) G dX9_meet_80 (by decide) ?_
    refine z_iload_n (pc := 82) G 2 dX9_meet_82 rfl rfl ?_
    refine z_iadd (pc := 83) G dX9_meet_83 ?_
    obtain ⟨x84, hv84, hX⟩ := z_bd hX
    refine z_iald (pc := 84) G dX9_meet_84 hv84 ?_
    refine z_imul (pc := 85) G dX9_meet_85 ?_
    refine z_iadd (pc := 86) G dX9_meet_86 ?_
    refine z_bipush (pc := 87) (v := 100) G dX9_meet_87 (by decide) ?_
    refine z_irem (pc := 89) G dX9_meet_89 (by decide) ?_
    refine z_isub (pc := 90) G dX9_meet_90 ?_
    obtain ⟨r91, hv91, hX⟩ := z_bd hX
    refine z_cSI (pc := 91) (As := [.int (((x49 + (l4 * x60)) - (x49 + (l4 * x60)) / (100 : Int32) * (100 : Int32)) - ((x73 + (l4 * x84)) - (x73 + (l4 * x84)) / (100 : Int32) * (100 : Int32)))]) (c2 := 0) (s2 := 0) G (lX9_absolute hO hv91) kt_1609 kt_11 kt_1607 kt_1608 ydX9_absolute ⟨by decide, by decide⟩ rfl (Nat.le_of_ble_eq_true rfl) ⟨rfl, rfl⟩ ⟨by decide, by decide⟩ rfl dX9_meet_91 ?_
    refine z_istore (pc := 94) (lv2 := [(0, .ref l0), (1, .int l1), (2, .int l2), (3, .int l3), (4, .int l4), (5, .int r91.1)]) G dX9_meet_94 (by decide) rfl rfl ?_
    refine z_aload_n (pc := 96) G 0 dX9_meet_96 rfl rfl ?_
    obtain ⟨x97, hv97, hX⟩ := z_bd hX
    refine z_getR (pc := 97) G kK9 (k := 41) (by decide) kt_1267 dX9_meet_97 hv97 ?_
    refine z_bipush (pc := 100) (v := 6) G dX9_meet_100 (by decide) ?_
    refine z_iload_n (pc := 102) G 1 dX9_meet_102 rfl rfl ?_
    refine z_iadd (pc := 103) G dX9_meet_103 ?_
    obtain ⟨x104, hv104, hX⟩ := z_bd hX
    refine z_iald (pc := 104) G dX9_meet_104 hv104 ?_
    refine z_iload (pc := 105) G 4 dX9_meet_105 rfl ?_
    refine z_aload_n (pc := 107) G 0 dX9_meet_107 rfl rfl ?_
    obtain ⟨x108, hv108, hX⟩ := z_bd hX
    refine z_getR (pc := 108) G kK9 (k := 41) (by decide) kt_1267 dX9_meet_108 hv108 ?_
    refine z_bipush (pc := 111) (v := 18) G dX9_meet_111 (by decide) ?_
    refine z_iload_n (pc := 113) G 1 dX9_meet_113 rfl rfl ?_
    refine z_iadd (pc := 114) G dX9_meet_114 ?_
    obtain ⟨x115, hv115, hX⟩ := z_bd hX
    refine z_iald (pc := 115) G dX9_meet_115 hv115 ?_
    refine z_imul (pc := 116) G dX9_meet_116 ?_
    refine z_iadd (pc := 117) G dX9_meet_117 ?_
    refine z_bipush (pc := 118) (v := 100) G dX9_meet_118 (by decide) ?_
    refine z_irem (pc := 120) G dX9_meet_120 (by decide) ?_
    refine z_aload_n (pc := 121) G 0 dX9_meet_121 rfl rfl ?_
    obtain ⟨x122, hv122, hX⟩ := z_bd hX
    refine z_getR (pc := 122) G kK9 (k := 41) (by decide) kt_1267 dX9_meet_122 hv122 ?_
    refine z_bipush (pc := 125) (v := 6) G dX9_meet_125 (by decide) ?_
    refine z_iload_n (pc := 127) G 2 dX9_meet_127 rfl rfl ?_
    refine z_iadd (pc := 128) G dX9_meet_128 ?_
    obtain ⟨x129, hv129, hX⟩ := z_bd hX
    refine z_iald (pc := 129) G dX9_meet_129 hv129 ?_
    refine z_iload (pc := 130) G 4 dX9_meet_130 rfl ?_
    refine z_aload_n (pc := 132) G 0 dX9_meet_132 rfl rfl ?_
    obtain ⟨x133, hv133, hX⟩ := z_bd hX
    refine z_getR (pc := 133) G kK9 (k := 41) (by decide) kt_1267 dX9_meet_133 hv133 ?_
    refine z_bipush (pc := 136) (v := 18) G dX9_meet_136 (by decide) ?_
    refine z_iload_n (pc := 138) G 2 dX9_meet_138 rfl rfl ?_
    refine z_iadd (pc := 139) G dX9_meet_139 ?_
    obtain ⟨x140, hv140, hX⟩ := z_bd hX
    refine z_iald (pc := 140) G dX9_meet_140 hv140 ?_
    refine z_imul (pc := 141) G dX9_meet_141 ?_
    refine z_iadd (pc := 142) G dX9_meet_142 ?_
    refine z_bipush (pc := 143) (v := 100) G dX9_meet_143 (by decide) ?_
    refine z_irem (pc := 145) G dX9_meet_145 (by decide) ?_
    refine z_isub (pc := 146) G dX9_meet_146 ?_
    obtain ⟨r147, hv147, hX⟩ := z_bd hX
    refine z_cSI (pc := 147) (As := [.int (((x104 + (l4 * x115)) - (x104 + (l4 * x115)) / (100 : Int32) * (100 : Int32)) - ((x129 + (l4 * x140)) - (x129 + (l4 * x140)) / (100 : Int32) * (100 : Int32)))]) (c2 := 0) (s2 := 0) G (lX9_absolute hO hv147) kt_1609 kt_11 kt_1607 kt_1608 ydX9_absolute ⟨by decide, by decide⟩ rfl (Nat.le_of_ble_eq_true rfl) ⟨rfl, rfl⟩ ⟨by decide, by decide⟩ rfl dX9_meet_147 ?_
    refine z_istore (pc := 150) (lv2 := [(0, .ref l0), (1, .int l1), (2, .int l2), (3, .int l3), (4, .int l4), (5, .int r91.1), (6, .int r147.1)]) G dX9_meet_150 (by decide) rfl rfl ?_
    refine z_iload (pc := 152) G 5 dX9_meet_152 rfl ?_
    refine z_iload (pc := 154) G 6 dX9_meet_154 rfl ?_
    refine z_iadd (pc := 156) G dX9_meet_156 ?_
    refine z_aload_n (pc := 157) G 0 dX9_meet_157 rfl rfl ?_
    obtain ⟨x158, hv158, hX⟩ := z_bd hX
    refine z_getR (pc := 158) G kK9 (k := 13) (by decide) kt_1239 dX9_meet_158 hv158 ?_
    refine z_aload_n (pc := 161) G 0 dX9_meet_161 rfl rfl ?_
    obtain ⟨x162, hv162, hX⟩ := z_bd hX
    refine z_getI (pc := 162) G kK9 (k := 34) (by decide) kt_1260 dX9_meet_162 hv162 ?_
    obtain ⟨x165, hv165, hX⟩ := z_bd hX
    refine z_iald (pc := 165) G dX9_meet_165 hv165 ?_
    refine z_icmp_gt (pc := 166) (tgt := 173) G dX9_meet_166 (by decide) (fun hc166 => ?_) (fun hc166 => ?_)
    · have hX := z_it hc166 hX
      refine z_iconst (pc := 173) (v := 0) G dX9_meet_173 (by decide) ?_
      refine z_drop (lv2 := [(0, .ref l0), (1, .int l1), (2, .int l2), (3, .int l3), (4, .int l4)]) [0, 1, 2, 3, 4] rfl ?_
      exact wX9_meet_B174 hO G hr hnm H35 _ _ _ _ _ _ _ hX
    · have hX := z_if hc166 hX
      refine z_iconst (pc := 169) (v := 1) G dX9_meet_169 (by decide) ?_
      refine z_goto (pc := 170) (tgt := 174) G dX9_meet_170 (by decide) ?_
      refine z_drop (lv2 := [(0, .ref l0), (1, .int l1), (2, .int l2), (3, .int l3), (4, .int l4)]) [0, 1, 2, 3, 4] rfl ?_
      exact wX9_meet_B174 hO G hr hnm H35 _ _ _ _ _ _ _ hX
set_option maxHeartbeats 4000000 in
set_option maxRecDepth 100000 in
theorem wX9_meet_L35 {Γ : ZG} {p : Program} {l : Launch} {e : Env} {s : State} {m : MethodId} {args : Array Value} {below : List Frame} {meth : Method} {c : Code} (hO : z_OK Γ) (G : z_GG Γ p s m args meth c cX9_meet 7 RX9) (hr : meth.sig.returnType = (some .int)) (hnm : meth.name = "meet") {r : (Int32 × ZH)} : ∀ (nn : Nat) (l0 : Nat) (l1 : Int32) (l2 : Int32) (l3 : Int32) (l4 : Int32) (h : ZH), xX9_meet_L35  nn l0 l1 l2 l3 l4 h = some r → z_W Γ p l e rmX9_meet s m args below meth c 7 0 0 (MQ below (z_Qc Γ (some (.int r.1)) r.2) args s rmX9_meet.cells rmX9_meet.slots (z_A Γ)) 35 [(0, .ref l0), (1, .int l1), (2, .int l2), (3, .int l3), (4, .int l4)] [] h := by
  intro nn
  induction nn with
  | zero => intro l0 l1 l2 l3 l4 h hX; cases hX
  | succ nn ih => intro l0 l1 l2 l3 l4 h hX; exact wX9_meet_B35 hO G hr hnm  ih l0 l1 l2 l3 l4 h hX
noncomputable def xX9_meet (l0 : Nat) (l1 : Int32) (l2 : Int32) (l3 : Int32) (h : ZH) : Option (Int32 × ZH) := (z_gu (z_is h l0 9) ((xX9_isShip l0 l1 h).bind fun r2 => (if r2.1 = 0 then some ((-1 : Int32), r2.2) else (z_gu (z_is r2.2 l0 9) ((xX9_isShip l0 l2 r2.2).bind fun r10 => (if r10.1 = 0 then some ((-1 : Int32), r10.2) else (if l1 = l2 then some ((-1 : Int32), r10.2) else ((xX9_isIn l3 (0 : Int32) (1 : Int32) r10.2).bind fun r24 => (if r24.1 = 0 then some ((-1 : Int32), r24.2) else xX9_meet_L35 zFU l0 l1 l2 l3 (0 : Int32) r24.2)))))))))
set_option maxHeartbeats 4000000 in
set_option maxRecDepth 100000 in
theorem lX9_meet {Γ : ZG} {l : Launch} (hO : z_OK Γ) {l0 : Nat} {l1 : Int32} {l2 : Int32} {l3 : Int32} {h : ZH} {r : (Int32 × ZH)} (hX : xX9_meet l0 l1 l2 l3 h = some r) : z_M Γ l yX9_meet (z_ws1 yX9_meet cX9_meet 7 (some .int)) rmX9_meet [.ref l0, .int l1, .int l2, .int l3] h (some (.int r.1)) r.2 := by
  refine z_start hO (plainFor_of_name (by decide)) (Nat.le_of_ble_eq_true rfl) ?_
  intro p e s m args below meth c G hr hnm
  refine z_lvc (lv2 := [(0, .ref l0), (1, .int l1), (2, .int l2), (3, .int l3)]) rfl ?_
  refine z_aload_n (pc := 0) G 0 dX9_meet_0 rfl rfl ?_
  refine z_iload_n (pc := 1) G 1 dX9_meet_1 rfl rfl ?_
  obtain ⟨hi2, hX⟩ := z_gu_s hX
  obtain ⟨r2, hv2, hX⟩ := z_bd hX
  refine z_cVI (pc := 2) (As := [.int l1]) (c2 := 0) (s2 := 0) G kK9 (lX9_isShip hO hv2) hi2 kt_1556 kt_11 kt_1553 kt_1555 ks_62 ydX9_isShip ⟨by decide, by decide⟩ rfl (Nat.le_of_ble_eq_true rfl) ⟨rfl, rfl⟩ ⟨by decide, by decide⟩ rfl dX9_meet_2 ?_
  refine z_if_eq (pc := 5) (tgt := 30) G dX9_meet_5 (by decide) (fun hc5 => ?_) (fun hc5 => ?_)
  · have hX := z_it hc5 hX
    refine z_iconst (pc := 30) (v := (-1)) G dX9_meet_30 (by decide) ?_
    exact z_iretX (pc := 31) hX G hr dX9_meet_31 (by decide) (by decide)
  · have hX := z_if hc5 hX
    refine z_aload_n (pc := 8) G 0 dX9_meet_8 rfl rfl ?_
    refine z_iload_n (pc := 9) G 2 dX9_meet_9 rfl rfl ?_
    obtain ⟨hi10, hX⟩ := z_gu_s hX
    obtain ⟨r10, hv10, hX⟩ := z_bd hX
    refine z_cVI (pc := 10) (As := [.int l2]) (c2 := 0) (s2 := 0) G kK9 (lX9_isShip hO hv10) hi10 kt_1556 kt_11 kt_1553 kt_1555 ks_62 ydX9_isShip ⟨by decide, by decide⟩ rfl (Nat.le_of_ble_eq_true rfl) ⟨rfl, rfl⟩ ⟨by decide, by decide⟩ rfl dX9_meet_10 ?_
    refine z_if_eq (pc := 13) (tgt := 30) G dX9_meet_13 (by decide) (fun hc13 => ?_) (fun hc13 => ?_)
    · have hX := z_it hc13 hX
      refine z_iconst (pc := 30) (v := (-1)) G dX9_meet_30 (by decide) ?_
      exact z_iretX (pc := 31) hX G hr dX9_meet_31 (by decide) (by decide)
    · have hX := z_if hc13 hX
      refine z_iload_n (pc := 16) G 1 dX9_meet_16 rfl rfl ?_
      refine z_iload_n (pc := 17) G 2 dX9_meet_17 rfl rfl ?_
      refine z_icmp_eq (pc := 18) (tgt := 30) G dX9_meet_18 (by decide) (fun hc18 => ?_) (fun hc18 => ?_)
      · have hX := z_it hc18 hX
        refine z_iconst (pc := 30) (v := (-1)) G dX9_meet_30 (by decide) ?_
        exact z_iretX (pc := 31) hX G hr dX9_meet_31 (by decide) (by decide)
      · have hX := z_if hc18 hX
        refine z_iload_n (pc := 21) G 3 dX9_meet_21 rfl rfl ?_
        refine z_iconst (pc := 22) (v := 0) G dX9_meet_22 (by decide) ?_
        refine z_iconst (pc := 23) (v := 1) G dX9_meet_23 (by decide) ?_
        obtain ⟨r24, hv24, hX⟩ := z_bd hX
        refine z_cSI (pc := 24) (As := [.int l3, .int (0 : Int32), .int (1 : Int32)]) (c2 := 0) (s2 := 0) G (lX9_isIn hO hv24) kt_1559 kt_11 kt_1557 kt_1558 ydX9_isIn ⟨by decide, by decide⟩ rfl (Nat.le_of_ble_eq_true rfl) ⟨rfl, rfl⟩ ⟨by decide, by decide⟩ rfl dX9_meet_24 ?_
        refine z_if_ne (pc := 27) (tgt := 32) G dX9_meet_27 (by decide) (fun hc27 => ?_) (fun hc27 => ?_)
        · have hX := z_if hc27 hX
          refine z_iconst (pc := 32) (v := 0) G dX9_meet_32 (by decide) ?_
          refine z_istore (pc := 33) (lv2 := [(0, .ref l0), (1, .int l1), (2, .int l2), (3, .int l3), (4, .int (0 : Int32))]) G dX9_meet_33 (by decide) rfl rfl ?_
          exact wX9_meet_L35 hO G hr hnm zFU _ _ _ _ _ _ hX
        · have hX := z_it hc27 hX
          refine z_iconst (pc := 30) (v := (-1)) G dX9_meet_30 (by decide) ?_
          exact z_iretX (pc := 31) hX G hr dX9_meet_31 (by decide) (by decide)
theorem dX9_reach_0 : decode cX9_reach 0 = .ok (.iload_n 1, 1) := by decide +kernel
theorem dX9_reach_1 : decode cX9_reach 1 = .ok (.iconst 0, 1) := by decide +kernel
theorem dX9_reach_2 : decode cX9_reach 2 = .ok (.iconst 2, 1) := by decide +kernel
theorem dX9_reach_3 : decode cX9_reach 3 = .ok (.invokestatic 340, 3) := by decide +kernel
theorem dX9_reach_6 : decode cX9_reach 6 = .ok (.ifCond .ne 5, 3) := by decide +kernel
theorem dX9_reach_9 : decode cX9_reach 9 = .ok (.iconst (-1), 1) := by decide +kernel
theorem dX9_reach_10 : decode cX9_reach 10 = .ok (.ireturn, 1) := by decide +kernel
theorem dX9_reach_11 : decode cX9_reach 11 = .ok (.iconst (-1), 1) := by decide +kernel
theorem dX9_reach_12 : decode cX9_reach 12 = .ok (.istore_n 2, 1) := by decide +kernel
theorem dX9_reach_13 : decode cX9_reach 13 = .ok (.iconst (-1), 1) := by decide +kernel
theorem dX9_reach_14 : decode cX9_reach 14 = .ok (.istore_n 3, 1) := by decide +kernel
theorem dX9_reach_15 : decode cX9_reach 15 = .ok (.iconst 0, 1) := by decide +kernel
theorem dX9_reach_16 : decode cX9_reach 16 = .ok (.istore 4, 2) := by decide +kernel
theorem dX9_reach_18 : decode cX9_reach 18 = .ok (.iload 4, 2) := by decide +kernel
theorem dX9_reach_20 : decode cX9_reach 20 = .ok (.bipush 36, 2) := by decide +kernel
theorem dX9_reach_22 : decode cX9_reach 22 = .ok (.if_icmp .ge 95, 3) := by decide +kernel
theorem dX9_reach_25 : decode cX9_reach 25 = .ok (.iload 4, 2) := by decide +kernel
theorem dX9_reach_27 : decode cX9_reach 27 = .ok (.bipush 6, 2) := by decide +kernel
theorem dX9_reach_29 : decode cX9_reach 29 = .ok (.idiv, 1) := by decide +kernel
theorem dX9_reach_30 : decode cX9_reach 30 = .ok (.istore 5, 2) := by decide +kernel
theorem dX9_reach_32 : decode cX9_reach 32 = .ok (.iload 4, 2) := by decide +kernel
theorem dX9_reach_34 : decode cX9_reach 34 = .ok (.bipush 6, 2) := by decide +kernel
theorem dX9_reach_36 : decode cX9_reach 36 = .ok (.irem, 1) := by decide +kernel
theorem dX9_reach_37 : decode cX9_reach 37 = .ok (.istore 6, 2) := by decide +kernel
theorem dX9_reach_39 : decode cX9_reach 39 = .ok (.iload 5, 2) := by decide +kernel
theorem dX9_reach_41 : decode cX9_reach 41 = .ok (.iload 6, 2) := by decide +kernel
theorem dX9_reach_43 : decode cX9_reach 43 = .ok (.if_icmp .ge 68, 3) := by decide +kernel
theorem dX9_reach_46 : decode cX9_reach 46 = .ok (.aload_n 0, 1) := by decide +kernel
theorem dX9_reach_47 : decode cX9_reach 47 = .ok (.iload 6, 2) := by decide +kernel
theorem dX9_reach_49 : decode cX9_reach 49 = .ok (.invokevirtual 450, 3) := by decide +kernel
theorem dX9_reach_52 : decode cX9_reach 52 = .ok (.ifCond .eq 59, 3) := by decide +kernel
theorem dX9_reach_55 : decode cX9_reach 55 = .ok (.aload_n 0, 1) := by decide +kernel
theorem dX9_reach_56 : decode cX9_reach 56 = .ok (.iload 5, 2) := by decide +kernel
theorem dX9_reach_58 : decode cX9_reach 58 = .ok (.invokevirtual 347, 3) := by decide +kernel
theorem dX9_reach_61 : decode cX9_reach 61 = .ok (.ifCond .eq 50, 3) := by decide +kernel
theorem dX9_reach_64 : decode cX9_reach 64 = .ok (.aload_n 0, 1) := by decide +kernel
theorem dX9_reach_65 : decode cX9_reach 65 = .ok (.iload 6, 2) := by decide +kernel
theorem dX9_reach_67 : decode cX9_reach 67 = .ok (.invokevirtual 347, 3) := by decide +kernel
theorem dX9_reach_70 : decode cX9_reach 70 = .ok (.ifCond .eq 41, 3) := by decide +kernel
theorem dX9_reach_73 : decode cX9_reach 73 = .ok (.aload_n 0, 1) := by decide +kernel
theorem dX9_reach_74 : decode cX9_reach 74 = .ok (.iload 5, 2) := by decide +kernel
theorem dX9_reach_76 : decode cX9_reach 76 = .ok (.iload 6, 2) := by decide +kernel
theorem dX9_reach_78 : decode cX9_reach 78 = .ok (.invokevirtual 431, 3) := by decide +kernel
theorem dX9_reach_81 : decode cX9_reach 81 = .ok (.ifCond .eq 30, 3) := by decide +kernel
theorem dX9_reach_84 : decode cX9_reach 84 = .ok (.aload_n 0, 1) := by decide +kernel
theorem dX9_reach_85 : decode cX9_reach 85 = .ok (.iload 5, 2) := by decide +kernel
theorem dX9_reach_87 : decode cX9_reach 87 = .ok (.iload 6, 2) := by decide +kernel
theorem dX9_reach_89 : decode cX9_reach 89 = .ok (.invokevirtual 353, 3) := by decide +kernel
theorem dX9_reach_92 : decode cX9_reach 92 = .ok (.iload_n 3, 1) := by decide +kernel
theorem dX9_reach_93 : decode cX9_reach 93 = .ok (.if_icmp .gt 6, 3) := by decide +kernel
theorem dX9_reach_96 : decode cX9_reach 96 = .ok (.goto 15, 3) := by decide +kernel
theorem dX9_reach_99 : decode cX9_reach 99 = .ok (.iload 4, 2) := by decide +kernel
theorem dX9_reach_101 : decode cX9_reach 101 = .ok (.istore_n 2, 1) := by decide +kernel
theorem dX9_reach_102 : decode cX9_reach 102 = .ok (.aload_n 0, 1) := by decide +kernel
theorem dX9_reach_103 : decode cX9_reach 103 = .ok (.iload 5, 2) := by decide +kernel
theorem dX9_reach_105 : decode cX9_reach 105 = .ok (.iload 6, 2) := by decide +kernel
theorem dX9_reach_107 : decode cX9_reach 107 = .ok (.invokevirtual 353, 3) := by decide +kernel
theorem dX9_reach_110 : decode cX9_reach 110 = .ok (.istore_n 3, 1) := by decide +kernel
theorem dX9_reach_111 : decode cX9_reach 111 = .ok (.iinc 4 1, 3) := by decide +kernel
theorem dX9_reach_114 : decode cX9_reach 114 = .ok (.goto (-96), 3) := by decide +kernel
theorem dX9_reach_117 : decode cX9_reach 117 = .ok (.iload_n 2, 1) := by decide +kernel
theorem dX9_reach_118 : decode cX9_reach 118 = .ok (.ifCond .ge 7, 3) := by decide +kernel
theorem dX9_reach_121 : decode cX9_reach 121 = .ok (.iconst (-1), 1) := by decide +kernel
theorem dX9_reach_122 : decode cX9_reach 122 = .ok (.goto 27, 3) := by decide +kernel
theorem dX9_reach_125 : decode cX9_reach 125 = .ok (.iload_n 1, 1) := by decide +kernel
theorem dX9_reach_126 : decode cX9_reach 126 = .ok (.ifCond .ne 10, 3) := by decide +kernel
theorem dX9_reach_129 : decode cX9_reach 129 = .ok (.iload_n 2, 1) := by decide +kernel
theorem dX9_reach_130 : decode cX9_reach 130 = .ok (.bipush 6, 2) := by decide +kernel
theorem dX9_reach_132 : decode cX9_reach 132 = .ok (.idiv, 1) := by decide +kernel
theorem dX9_reach_133 : decode cX9_reach 133 = .ok (.goto 16, 3) := by decide +kernel
theorem dX9_reach_136 : decode cX9_reach 136 = .ok (.iload_n 1, 1) := by decide +kernel
theorem dX9_reach_137 : decode cX9_reach 137 = .ok (.iconst 1, 1) := by decide +kernel
theorem dX9_reach_138 : decode cX9_reach 138 = .ok (.if_icmp .ne 10, 3) := by decide +kernel
theorem dX9_reach_141 : decode cX9_reach 141 = .ok (.iload_n 2, 1) := by decide +kernel
theorem dX9_reach_142 : decode cX9_reach 142 = .ok (.bipush 6, 2) := by decide +kernel
theorem dX9_reach_144 : decode cX9_reach 144 = .ok (.irem, 1) := by decide +kernel
theorem dX9_reach_145 : decode cX9_reach 145 = .ok (.goto 4, 3) := by decide +kernel
theorem dX9_reach_148 : decode cX9_reach 148 = .ok (.iload_n 3, 1) := by decide +kernel
theorem dX9_reach_149 : decode cX9_reach 149 = .ok (.ireturn, 1) := by decide +kernel
theorem ydX9_reach : z_yd yX9_reach 1 := ⟨by decide, by decide, by decide +kernel⟩
abbrev rmX9_reach : Room := { frames := 3, cells := 0, slots := 0, locals := 64 }
noncomputable def xX9_reach_B117 (l1 : Int32) (l2 : Int32) (l3 : Int32) (h : ZH) : Option (Int32 × ZH) := (if 0 ≤ l2 then (if l1 = 0 then some ((l2 / (6 : Int32)), h) else (if l1 = (1 : Int32) then some ((l2 - l2 / (6 : Int32) * (6 : Int32)), h) else some (l3, h))) else some ((-1 : Int32), h))
set_option maxHeartbeats 4000000 in
set_option maxRecDepth 100000 in
theorem wX9_reach_B117 {Γ : ZG} {p : Program} {l : Launch} {e : Env} {s : State} {m : MethodId} {args : Array Value} {below : List Frame} {meth : Method} {c : Code} (hO : z_OK Γ) (G : z_GG Γ p s m args meth c cX9_reach 7 RX9) (hr : meth.sig.returnType = (some .int)) (hnm : meth.name = "reach") {r : (Int32 × ZH)} : ∀ (l1 : Int32) (l2 : Int32) (l3 : Int32) (h : ZH), xX9_reach_B117  l1 l2 l3 h = some r → z_W Γ p l e rmX9_reach s m args below meth c 7 0 0 (MQ below (z_Qc Γ (some (.int r.1)) r.2) args s rmX9_reach.cells rmX9_reach.slots (z_A Γ)) 117 [(1, .int l1), (2, .int l2), (3, .int l3)] [] h := by
  intro l1 l2 l3 h hX
  refine z_iload_n (pc := 117) G 1 dX9_reach_117 rfl rfl ?_
  refine z_if_ge (pc := 118) (tgt := 125) G dX9_reach_118 (by decide) (fun hc118 => ?_) (fun hc118 => ?_)
  · have hX := z_it hc118 hX
    refine z_iload_n (pc := 125) G 0 dX9_reach_125 rfl rfl ?_
    refine z_if_ne (pc := 126) (tgt := 136) G dX9_reach_126 (by decide) (fun hc126 => ?_) (fun hc126 => ?_)
    · have hX := z_if hc126 hX
      refine z_iload_n (pc := 136) G 0 dX9_reach_136 rfl rfl ?_
      refine z_iconst (pc := 137) (v := 1) G dX9_reach_137 (by decide) ?_
      refine z_icmp_ne (pc := 138) (tgt := 148) G dX9_reach_138 (by decide) (fun hc138 => ?_) (fun hc138 => ?_)
      · have hX := z_if hc138 hX
        refine z_iload_n (pc := 148) G 2 dX9_reach_148 rfl rfl ?_
        exact z_iretX (pc := 149) hX G hr dX9_reach_149 (by decide) (by decide)
      · have hX := z_it hc138 hX
        refine z_iload_n (pc := 141) G 1 dX9_reach_141 rfl rfl ?_
        refine z_bipush (pc := 142) (v := 6) G dX9_reach_142 (by decide) ?_
        refine z_irem (pc := 144) G dX9_reach_144 (by decide) ?_
        refine z_goto (pc := 145) (tgt := 149) G dX9_reach_145 (by decide) ?_
        exact z_iretX (pc := 149) hX G hr dX9_reach_149 (by decide) (by decide)
    · have hX := z_it hc126 hX
      refine z_iload_n (pc := 129) G 1 dX9_reach_129 rfl rfl ?_
      refine z_bipush (pc := 130) (v := 6) G dX9_reach_130 (by decide) ?_
      refine z_idiv (pc := 132) G dX9_reach_132 (by decide) ?_
      refine z_goto (pc := 133) (tgt := 149) G dX9_reach_133 (by decide) ?_
      exact z_iretX (pc := 149) hX G hr dX9_reach_149 (by decide) (by decide)
  · have hX := z_if hc118 hX
    refine z_iconst (pc := 121) (v := (-1)) G dX9_reach_121 (by decide) ?_
    refine z_goto (pc := 122) (tgt := 149) G dX9_reach_122 (by decide) ?_
    exact z_iretX (pc := 149) hX G hr dX9_reach_149 (by decide) (by decide)
noncomputable def xX9_reach_B18 (r18 : Nat → Int32 → Int32 → Int32 → Int32 → ZH → Option (Int32 × ZH)) (l0 : Nat) (l1 : Int32) (l2 : Int32) (l3 : Int32) (l4 : Int32) (h : ZH) : Option (Int32 × ZH) := (if (36 : Int32) ≤ l4 then xX9_reach_B117 l1 l2 l3 h else (if (l4 - l4 / (6 : Int32) * (6 : Int32)) ≤ (l4 / (6 : Int32)) then r18 l0 l1 l2 l3 (l4 + 1) h else (z_gu (z_is h l0 9) ((xX9_isShip l0 (l4 - l4 / (6 : Int32) * (6 : Int32)) h).bind fun r49 => (if r49.1 = 0 then r18 l0 l1 l2 l3 (l4 + 1) r49.2 else (z_gu (z_is r49.2 l0 9) ((xX9_isOn l0 (l4 / (6 : Int32)) r49.2).bind fun r58 => (if r58.1 = 0 then r18 l0 l1 l2 l3 (l4 + 1) r58.2 else (z_gu (z_is r58.2 l0 9) ((xX9_isOn l0 (l4 - l4 / (6 : Int32) * (6 : Int32)) r58.2).bind fun r67 => (if r67.1 = 0 then r18 l0 l1 l2 l3 (l4 + 1) r67.2 else (z_gu (z_is r67.2 l0 9) ((xX9_doHear l0 (l4 / (6 : Int32)) (l4 - l4 / (6 : Int32) * (6 : Int32)) r67.2).bind fun r78 => (if r78.1 = 0 then r18 l0 l1 l2 l3 (l4 + 1) r78.2 else (z_gu (z_is r78.2 l0 9) ((xX9_apart l0 (l4 / (6 : Int32)) (l4 - l4 / (6 : Int32) * (6 : Int32)) r78.2).bind fun r89 => (if l3 < r89.1 then (z_gu (z_is r89.2 l0 9) ((xX9_apart l0 (l4 / (6 : Int32)) (l4 - l4 / (6 : Int32) * (6 : Int32)) r89.2).bind fun r107 => r18 l0 l1 l4 r107.1 (l4 + 1) r107.2)) else r18 l0 l1 l2 l3 (l4 + 1) r89.2)))))))))))))))))
noncomputable def xX9_reach_L18 (n : Nat) : Nat → Int32 → Int32 → Int32 → Int32 → ZH → Option (Int32 × ZH) := Nat.rec (motive := fun _ => Nat → Int32 → Int32 → Int32 → Int32 → ZH → Option (Int32 × ZH)) (fun _ _ _ _ _ _ => none) (fun _ rec => xX9_reach_B18  rec) n
set_option maxHeartbeats 4000000 in
set_option maxRecDepth 100000 in
theorem wX9_reach_B18 {Γ : ZG} {p : Program} {l : Launch} {e : Env} {s : State} {m : MethodId} {args : Array Value} {below : List Frame} {meth : Method} {c : Code} (hO : z_OK Γ) (G : z_GG Γ p s m args meth c cX9_reach 7 RX9) (hr : meth.sig.returnType = (some .int)) (hnm : meth.name = "reach") {r : (Int32 × ZH)} {r18 : Nat → Int32 → Int32 → Int32 → Int32 → ZH → Option (Int32 × ZH)} (H18 : ∀ (l0 : Nat) (l1 : Int32) (l2 : Int32) (l3 : Int32) (l4 : Int32) (h : ZH), r18 l0 l1 l2 l3 l4 h = some r → z_W Γ p l e rmX9_reach s m args below meth c 7 0 0 (MQ below (z_Qc Γ (some (.int r.1)) r.2) args s rmX9_reach.cells rmX9_reach.slots (z_A Γ)) 18 [(0, .ref l0), (1, .int l1), (2, .int l2), (3, .int l3), (4, .int l4)] [] h) : ∀ (l0 : Nat) (l1 : Int32) (l2 : Int32) (l3 : Int32) (l4 : Int32) (h : ZH), xX9_reach_B18  r18 l0 l1 l2 l3 l4 h = some r → z_W Γ p l e rmX9_reach s m args below meth c 7 0 0 (MQ below (z_Qc Γ (some (.int r.1)) r.2) args s rmX9_reach.cells rmX9_reach.slots (z_A Γ)) 18 [(0, .ref l0), (1, .int l1), (2, .int l2), (3, .int l3), (4, .int l4)] [] h := by
  intro l0 l1 l2 l3 l4 h hX
  refine z_iload (pc := 18) G 4 dX9_reach_18 rfl ?_
  refine z_bipush (pc := 20) (v := 36) G dX9_reach_20 (by decide) ?_
  refine z_icmp_ge (pc := 22) (tgt := 117) G dX9_reach_22 (by decide) (fun hc22 => ?_) (fun hc22 => ?_)
  · have hX := z_it hc22 hX
    refine z_drop (lv2 := [(1, .int l1), (2, .int l2), (3, .int l3)]) [1, 2, 3] rfl ?_
    exact wX9_reach_B117 hO G hr hnm _ _ _ _ hX
  · have hX := z_if hc22 hX
    refine z_iload (pc := 25) G 4 dX9_reach_25 rfl ?_
    refine z_bipush (pc := 27) (v := 6) G dX9_reach_27 (by decide) ?_
    refine z_idiv (pc := 29) G dX9_reach_29 (by decide) ?_
    refine z_istore (pc := 30) (lv2 := [(0, .ref l0), (1, .int l1), (2, .int l2), (3, .int l3), (4, .int l4), (5, .int (l4 / (6 : Int32)))]) G dX9_reach_30 (by decide) rfl rfl ?_
    refine z_iload (pc := 32) G 4 dX9_reach_32 rfl ?_
    refine z_bipush (pc := 34) (v := 6) G dX9_reach_34 (by decide) ?_
    refine z_irem (pc := 36) G dX9_reach_36 (by decide) ?_
    refine z_istore (pc := 37) (lv2 := [(0, .ref l0), (1, .int l1), (2, .int l2), (3, .int l3), (4, .int l4), (5, .int (l4 / (6 : Int32))), (6, .int (l4 - l4 / (6 : Int32) * (6 : Int32)))]) G dX9_reach_37 (by decide) rfl rfl ?_
    refine z_iload (pc := 39) G 5 dX9_reach_39 rfl ?_
    refine z_iload (pc := 41) G 6 dX9_reach_41 rfl ?_
    refine z_icmp_ge (pc := 43) (tgt := 111) G dX9_reach_43 (by decide) (fun hc43 => ?_) (fun hc43 => ?_)
    · have hX := z_it hc43 hX
      refine z_iincw (pc := 111) (w := 1) (lv2 := [(0, .ref l0), (1, .int l1), (2, .int l2), (3, .int l3), (4, .int (l4 + 1)), (5, .int (l4 / (6 : Int32))), (6, .int (l4 - l4 / (6 : Int32) * (6 : Int32)))]) G 4 dX9_reach_111 rfl (by decide) (by decide) rfl rfl ?_
      refine z_goto (pc := 114) (tgt := 18) G dX9_reach_114 (by decide) ?_
      refine z_drop (lv2 := [(0, .ref l0), (1, .int l1), (2, .int l2), (3, .int l3), (4, .int (l4 + 1))]) [0, 1, 2, 3, 4] rfl ?_
      exact H18 _ _ _ _ _ _ hX
    · have hX := z_if hc43 hX
      refine z_aload_n (pc := 46) G 0 dX9_reach_46 rfl rfl ?_
      refine z_iload (pc := 47) G 6 dX9_reach_47 rfl ?_
      obtain ⟨hi49, hX⟩ := z_gu_s hX
      obtain ⟨r49, hv49, hX⟩ := z_bd hX
      refine z_cVI (pc := 49) (As := [.int (l4 - l4 / (6 : Int32) * (6 : Int32))]) (c2 := 0) (s2 := 0) G kK9 (lX9_isShip hO hv49) hi49 kt_1556 kt_11 kt_1553 kt_1555 ks_62 ydX9_isShip ⟨by decide, by decide⟩ rfl (Nat.le_of_ble_eq_true rfl) ⟨rfl, rfl⟩ ⟨by decide, by decide⟩ rfl dX9_reach_49 ?_
      refine z_if_eq (pc := 52) (tgt := 111) G dX9_reach_52 (by decide) (fun hc52 => ?_) (fun hc52 => ?_)
      · have hX := z_it hc52 hX
        refine z_iincw (pc := 111) (w := 1) (lv2 := [(0, .ref l0), (1, .int l1), (2, .int l2), (3, .int l3), (4, .int (l4 + 1)), (5, .int (l4 / (6 : Int32))), (6, .int (l4 - l4 / (6 : Int32) * (6 : Int32)))]) G 4 dX9_reach_111 rfl (by decide) (by decide) rfl rfl ?_
        refine z_goto (pc := 114) (tgt := 18) G dX9_reach_114 (by decide) ?_
        refine z_drop (lv2 := [(0, .ref l0), (1, .int l1), (2, .int l2), (3, .int l3), (4, .int (l4 + 1))]) [0, 1, 2, 3, 4] rfl ?_
        exact H18 _ _ _ _ _ _ hX
      · have hX := z_if hc52 hX
        refine z_aload_n (pc := 55) G 0 dX9_reach_55 rfl rfl ?_
        refine z_iload (pc := 56) G 5 dX9_reach_56 rfl ?_
        obtain ⟨hi58, hX⟩ := z_gu_s hX
        obtain ⟨r58, hv58, hX⟩ := z_bd hX
        refine z_cVI (pc := 58) (As := [.int (l4 / (6 : Int32))]) (c2 := 0) (s2 := 0) G kK9 (lX9_isOn hO hv58) hi58 kt_1567 kt_11 kt_1564 kt_1566 ks_64 ydX9_isOn ⟨by decide, by decide⟩ rfl (Nat.le_of_ble_eq_true rfl) ⟨rfl, rfl⟩ ⟨by decide, by decide⟩ rfl dX9_reach_58 ?_
        refine z_if_eq (pc := 61) (tgt := 111) G dX9_reach_61 (by decide) (fun hc61 => ?_) (fun hc61 => ?_)
        · have hX := z_it hc61 hX
          refine z_iincw (pc := 111) (w := 1) (lv2 := [(0, .ref l0), (1, .int l1), (2, .int l2), (3, .int l3), (4, .int (l4 + 1)), (5, .int (l4 / (6 : Int32))), (6, .int (l4 - l4 / (6 : Int32) * (6 : Int32)))]) G 4 dX9_reach_111 rfl (by decide) (by decide) rfl rfl ?_
          refine z_goto (pc := 114) (tgt := 18) G dX9_reach_114 (by decide) ?_
          refine z_drop (lv2 := [(0, .ref l0), (1, .int l1), (2, .int l2), (3, .int l3), (4, .int (l4 + 1))]) [0, 1, 2, 3, 4] rfl ?_
          exact H18 _ _ _ _ _ _ hX
        · have hX := z_if hc61 hX
          refine z_aload_n (pc := 64) G 0 dX9_reach_64 rfl rfl ?_
          refine z_iload (pc := 65) G 6 dX9_reach_65 rfl ?_
          obtain ⟨hi67, hX⟩ := z_gu_s hX
          obtain ⟨r67, hv67, hX⟩ := z_bd hX
          refine z_cVI (pc := 67) (As := [.int (l4 - l4 / (6 : Int32) * (6 : Int32))]) (c2 := 0) (s2 := 0) G kK9 (lX9_isOn hO hv67) hi67 kt_1567 kt_11 kt_1564 kt_1566 ks_64 ydX9_isOn ⟨by decide, by decide⟩ rfl (Nat.le_of_ble_eq_true rfl) ⟨rfl, rfl⟩ ⟨by decide, by decide⟩ rfl dX9_reach_67 ?_
          refine z_if_eq (pc := 70) (tgt := 111) G dX9_reach_70 (by decide) (fun hc70 => ?_) (fun hc70 => ?_)
          · have hX := z_it hc70 hX
            refine z_iincw (pc := 111) (w := 1) (lv2 := [(0, .ref l0), (1, .int l1), (2, .int l2), (3, .int l3), (4, .int (l4 + 1)), (5, .int (l4 / (6 : Int32))), (6, .int (l4 - l4 / (6 : Int32) * (6 : Int32)))]) G 4 dX9_reach_111 rfl (by decide) (by decide) rfl rfl ?_
            refine z_goto (pc := 114) (tgt := 18) G dX9_reach_114 (by decide) ?_
            refine z_drop (lv2 := [(0, .ref l0), (1, .int l1), (2, .int l2), (3, .int l3), (4, .int (l4 + 1))]) [0, 1, 2, 3, 4] rfl ?_
            exact H18 _ _ _ _ _ _ hX
          · have hX := z_if hc70 hX
            refine z_aload_n (pc := 73) G 0 dX9_reach_73 rfl rfl ?_
            refine z_iload (pc := 74) G 5 dX9_reach_74 rfl ?_
            refine z_iload (pc := 76) G 6 dX9_reach_76 rfl ?_
            obtain ⟨hi78, hX⟩ := z_gu_s hX
            obtain ⟨r78, hv78, hX⟩ := z_bd hX
            refine z_cVI (pc := 78) (As := [.int (l4 / (6 : Int32)), .int (l4 - l4 / (6 : Int32) * (6 : Int32))]) (c2 := 0) (s2 := 0) G kK9 (lX9_doHear hO hv78) hi78 kt_1711 kt_11 kt_1708 kt_1710 ks_81 ydX9_doHear ⟨by decide, by decide⟩ rfl (Nat.le_of_ble_eq_true rfl) ⟨rfl, rfl⟩ ⟨by decide, by decide⟩ rfl dX9_reach_78 ?_
            refine z_if_eq (pc := 81) (tgt := 111) G dX9_reach_81 (by decide) (fun hc81 => ?_) (fun hc81 => ?_)
            · have hX := z_it hc81 hX
              refine z_iincw (pc := 111) (w := 1) (lv2 := [(0, .ref l0), (1, .int l1), (2, .int l2), (3, .int l3), (4, .int (l4 + 1)), (5, .int (l4 / (6 : Int32))), (6, .int (l4 - l4 / (6 : Int32) * (6 : Int32)))]) G 4 dX9_reach_111 rfl (by decide) (by decide) rfl rfl ?_
              refine z_goto (pc := 114) (tgt := 18) G dX9_reach_114 (by decide) ?_
              refine z_drop (lv2 := [(0, .ref l0), (1, .int l1), (2, .int l2), (3, .int l3), (4, .int (l4 + 1))]) [0, 1, 2, 3, 4] rfl ?_
              exact H18 _ _ _ _ _ _ hX
            · have hX := z_if hc81 hX
              refine z_aload_n (pc := 84) G 0 dX9_reach_84 rfl rfl ?_
              refine z_iload (pc := 85) G 5 dX9_reach_85 rfl ?_
              refine z_iload (pc := 87) G 6 dX9_reach_87 rfl ?_
              obtain ⟨hi89, hX⟩ := z_gu_s hX
              obtain ⟨r89, hv89, hX⟩ := z_bd hX
              refine z_cVI (pc := 89) (As := [.int (l4 / (6 : Int32)), .int (l4 - l4 / (6 : Int32) * (6 : Int32))]) (c2 := 0) (s2 := 0) G kK9 (lX9_apart hO hv89) hi89 kt_1606 kt_11 kt_1603 kt_1605 ks_69 ydX9_apart ⟨by decide, by decide⟩ rfl (Nat.le_of_ble_eq_true rfl) ⟨rfl, rfl⟩ ⟨by decide, by decide⟩ rfl dX9_reach_89 ?_
              refine z_iload_n (pc := 92) G 3 dX9_reach_92 rfl rfl ?_
              refine z_icmp_gt (pc := 93) (tgt := 99) G dX9_reach_93 (by decide) (fun hc93 => ?_) (fun hc93 => ?_)
              · have hX := z_it hc93 hX
                refine z_iload (pc := 99) G 4 dX9_reach_99 rfl ?_
                refine z_istore_n (pc := 101) (lv2 := [(0, .ref l0), (1, .int l1), (2, .int l4), (3, .int l3), (4, .int l4), (5, .int (l4 / (6 : Int32))), (6, .int (l4 - l4 / (6 : Int32) * (6 : Int32)))]) G dX9_reach_101 rfl (by decide) rfl rfl ?_
                refine z_aload_n (pc := 102) G 0 dX9_reach_102 rfl rfl ?_
                refine z_iload (pc := 103) G 5 dX9_reach_103 rfl ?_
                refine z_iload (pc := 105) G 6 dX9_reach_105 rfl ?_
                obtain ⟨hi107, hX⟩ := z_gu_s hX
                obtain ⟨r107, hv107, hX⟩ := z_bd hX
                refine z_cVI (pc := 107) (As := [.int (l4 / (6 : Int32)), .int (l4 - l4 / (6 : Int32) * (6 : Int32))]) (c2 := 0) (s2 := 0) G kK9 (lX9_apart hO hv107) hi107 kt_1606 kt_11 kt_1603 kt_1605 ks_69 ydX9_apart ⟨by decide, by decide⟩ rfl (Nat.le_of_ble_eq_true rfl) ⟨rfl, rfl⟩ ⟨by decide, by decide⟩ rfl dX9_reach_107 ?_
                refine z_istore_n (pc := 110) (lv2 := [(0, .ref l0), (1, .int l1), (2, .int l4), (3, .int r107.1), (4, .int l4), (5, .int (l4 / (6 : Int32))), (6, .int (l4 - l4 / (6 : Int32) * (6 : Int32)))]) G dX9_reach_110 rfl (by decide) rfl rfl ?_
                refine z_iincw (pc := 111) (w := 1) (lv2 := [(0, .ref l0), (1, .int l1), (2, .int l4), (3, .int r107.1), (4, .int (l4 + 1)), (5, .int (l4 / (6 : Int32))), (6, .int (l4 - l4 / (6 : Int32) * (6 : Int32)))]) G 4 dX9_reach_111 rfl (by decide) (by decide) rfl rfl ?_
                refine z_goto (pc := 114) (tgt := 18) G dX9_reach_114 (by decide) ?_
                refine z_drop (lv2 := [(0, .ref l0), (1, .int l1), (2, .int l4), (3, .int r107.1), (4, .int (l4 + 1))]) [0, 1, 2, 3, 4] rfl ?_
                exact H18 _ _ _ _ _ _ hX
              · have hX := z_if hc93 hX
                refine z_goto (pc := 96) (tgt := 111) G dX9_reach_96 (by decide) ?_
                refine z_iincw (pc := 111) (w := 1) (lv2 := [(0, .ref l0), (1, .int l1), (2, .int l2), (3, .int l3), (4, .int (l4 + 1)), (5, .int (l4 / (6 : Int32))), (6, .int (l4 - l4 / (6 : Int32) * (6 : Int32)))]) G 4 dX9_reach_111 rfl (by decide) (by decide) rfl rfl ?_
                refine z_goto (pc := 114) (tgt := 18) G dX9_reach_114 (by decide) ?_
                refine z_drop (lv2 := [(0, .ref l0), (1, .int l1), (2, .int l2), (3, .int l3), (4, .int (l4 + 1))]) [0, 1, 2, 3, 4] rfl ?_
                exact H18 _ _ _ _ _ _ hX
set_option maxHeartbeats 4000000 in
set_option maxRecDepth 100000 in
theorem wX9_reach_L18 {Γ : ZG} {p : Program} {l : Launch} {e : Env} {s : State} {m : MethodId} {args : Array Value} {below : List Frame} {meth : Method} {c : Code} (hO : z_OK Γ) (G : z_GG Γ p s m args meth c cX9_reach 7 RX9) (hr : meth.sig.returnType = (some .int)) (hnm : meth.name = "reach") {r : (Int32 × ZH)} : ∀ (nn : Nat) (l0 : Nat) (l1 : Int32) (l2 : Int32) (l3 : Int32) (l4 : Int32) (h : ZH), xX9_reach_L18  nn l0 l1 l2 l3 l4 h = some r → z_W Γ p l e rmX9_reach s m args below meth c 7 0 0 (MQ below (z_Qc Γ (some (.int r.1)) r.2) args s rmX9_reach.cells rmX9_reach.slots (z_A Γ)) 18 [(0, .ref l0), (1, .int l1), (2, .int l2), (3, .int l3), (4, .int l4)] [] h := by
  intro nn
  induction nn with
  | zero => intro l0 l1 l2 l3 l4 h hX; cases hX
  | succ nn ih => intro l0 l1 l2 l3 l4 h hX; exact wX9_reach_B18 hO G hr hnm  ih l0 l1 l2 l3 l4 h hX
noncomputable def xX9_reach (l0 : Nat) (l1 : Int32) (h : ZH) : Option (Int32 × ZH) := ((xX9_isIn l1 (0 : Int32) (2 : Int32) h).bind fun r3 => (if r3.1 = 0 then some ((-1 : Int32), r3.2) else xX9_reach_L18 zFU l0 l1 (-1 : Int32) (-1 : Int32) (0 : Int32) r3.2))
set_option maxHeartbeats 4000000 in
set_option maxRecDepth 100000 in
theorem lX9_reach {Γ : ZG} {l : Launch} (hO : z_OK Γ) {l0 : Nat} {l1 : Int32} {h : ZH} {r : (Int32 × ZH)} (hX : xX9_reach l0 l1 h = some r) : z_M Γ l yX9_reach (z_ws1 yX9_reach cX9_reach 7 (some .int)) rmX9_reach [.ref l0, .int l1] h (some (.int r.1)) r.2 := by
  refine z_start hO (plainFor_of_name (by decide)) (Nat.le_of_ble_eq_true rfl) ?_
  intro p e s m args below meth c G hr hnm
  refine z_lvc (lv2 := [(0, .ref l0), (1, .int l1)]) rfl ?_
  refine z_iload_n (pc := 0) G 1 dX9_reach_0 rfl rfl ?_
  refine z_iconst (pc := 1) (v := 0) G dX9_reach_1 (by decide) ?_
  refine z_iconst (pc := 2) (v := 2) G dX9_reach_2 (by decide) ?_
  obtain ⟨r3, hv3, hX⟩ := z_bd hX
  refine z_cSI (pc := 3) (As := [.int l1, .int (0 : Int32), .int (2 : Int32)]) (c2 := 0) (s2 := 0) G (lX9_isIn hO hv3) kt_1559 kt_11 kt_1557 kt_1558 ydX9_isIn ⟨by decide, by decide⟩ rfl (Nat.le_of_ble_eq_true rfl) ⟨rfl, rfl⟩ ⟨by decide, by decide⟩ rfl dX9_reach_3 ?_
  refine z_if_ne (pc := 6) (tgt := 11) G dX9_reach_6 (by decide) (fun hc6 => ?_) (fun hc6 => ?_)
  · have hX := z_if hc6 hX
    refine z_iconst (pc := 11) (v := (-1)) G dX9_reach_11 (by decide) ?_
    refine z_istore_n (pc := 12) (lv2 := [(0, .ref l0), (1, .int l1), (2, .int (-1 : Int32))]) G dX9_reach_12 rfl (by decide) rfl rfl ?_
    refine z_iconst (pc := 13) (v := (-1)) G dX9_reach_13 (by decide) ?_
    refine z_istore_n (pc := 14) (lv2 := [(0, .ref l0), (1, .int l1), (2, .int (-1 : Int32)), (3, .int (-1 : Int32))]) G dX9_reach_14 rfl (by decide) rfl rfl ?_
    refine z_iconst (pc := 15) (v := 0) G dX9_reach_15 (by decide) ?_
    refine z_istore (pc := 16) (lv2 := [(0, .ref l0), (1, .int l1), (2, .int (-1 : Int32)), (3, .int (-1 : Int32)), (4, .int (0 : Int32))]) G dX9_reach_16 (by decide) rfl rfl ?_
    exact wX9_reach_L18 hO G hr hnm zFU _ _ _ _ _ _ hX
  · have hX := z_it hc6 hX
    refine z_iconst (pc := 9) (v := (-1)) G dX9_reach_9 (by decide) ?_
    exact z_iretX (pc := 10) hX G hr dX9_reach_10 (by decide) (by decide)
theorem dX9_lies_0 : decode cX9_lies 0 = .ok (.iload_n 1, 1) := by decide +kernel
theorem dX9_lies_1 : decode cX9_lies 1 = .ok (.iconst 0, 1) := by decide +kernel
theorem dX9_lies_2 : decode cX9_lies 2 = .ok (.aload_n 0, 1) := by decide +kernel
theorem dX9_lies_3 : decode cX9_lies 3 = .ok (.getfield 380, 3) := by decide +kernel
theorem dX9_lies_6 : decode cX9_lies 6 = .ok (.iconst 1, 1) := by decide +kernel
theorem dX9_lies_7 : decode cX9_lies 7 = .ok (.isub, 1) := by decide +kernel
theorem dX9_lies_8 : decode cX9_lies 8 = .ok (.invokestatic 340, 3) := by decide +kernel
theorem dX9_lies_11 : decode cX9_lies 11 = .ok (.ifCond .eq 12, 3) := by decide +kernel
theorem dX9_lies_14 : decode cX9_lies 14 = .ok (.aload_n 0, 1) := by decide +kernel
theorem dX9_lies_15 : decode cX9_lies 15 = .ok (.getfield 112, 3) := by decide +kernel
theorem dX9_lies_18 : decode cX9_lies 18 = .ok (.iload_n 1, 1) := by decide +kernel
theorem dX9_lies_19 : decode cX9_lies 19 = .ok (.iaload, 1) := by decide +kernel
theorem dX9_lies_20 : decode cX9_lies 20 = .ok (.goto 5, 3) := by decide +kernel
theorem dX9_lies_23 : decode cX9_lies 23 = .ok (.bipush (-2), 2) := by decide +kernel
theorem dX9_lies_25 : decode cX9_lies 25 = .ok (.ireturn, 1) := by decide +kernel
theorem ydX9_lies : z_yd yX9_lies 1 := ⟨by decide, by decide, by decide +kernel⟩
abbrev rmX9_lies : Room := { frames := 1, cells := 0, slots := 0, locals := 22 }
noncomputable def xX9_lies (l0 : Nat) (l1 : Int32) (h : ZH) : Option (Int32 × ZH) := ((z_gI h l0 9 51).bind fun x3 => ((xX9_isIn l1 (0 : Int32) (x3 - (1 : Int32)) h).bind fun r8 => (if r8.1 = 0 then some ((-2 : Int32), r8.2) else ((z_gR r8.2 l0 9 50).bind fun x15 => ((z_aI r8.2 x15 l1).bind fun x19 => some (x19, r8.2))))))
set_option maxHeartbeats 4000000 in
set_option maxRecDepth 100000 in
theorem lX9_lies {Γ : ZG} {l : Launch} (hO : z_OK Γ) {l0 : Nat} {l1 : Int32} {h : ZH} {r : (Int32 × ZH)} (hX : xX9_lies l0 l1 h = some r) : z_M Γ l yX9_lies (z_ws1 yX9_lies cX9_lies 2 (some .int)) rmX9_lies [.ref l0, .int l1] h (some (.int r.1)) r.2 := by
  refine z_start hO (plainFor_of_name (by decide)) (Nat.le_of_ble_eq_true rfl) ?_
  intro p e s m args below meth c G hr hnm
  refine z_lvc (lv2 := [(0, .ref l0), (1, .int l1)]) rfl ?_
  refine z_iload_n (pc := 0) G 1 dX9_lies_0 rfl rfl ?_
  refine z_iconst (pc := 1) (v := 0) G dX9_lies_1 (by decide) ?_
  refine z_aload_n (pc := 2) G 0 dX9_lies_2 rfl rfl ?_
  obtain ⟨x3, hv3, hX⟩ := z_bd hX
  refine z_getI (pc := 3) G kK9 (k := 51) (by decide) kt_1277 dX9_lies_3 hv3 ?_
  refine z_iconst (pc := 6) (v := 1) G dX9_lies_6 (by decide) ?_
  refine z_isub (pc := 7) G dX9_lies_7 ?_
  obtain ⟨r8, hv8, hX⟩ := z_bd hX
  refine z_cSI (pc := 8) (As := [.int l1, .int (0 : Int32), .int (x3 - (1 : Int32))]) (c2 := 0) (s2 := 0) G (lX9_isIn hO hv8) kt_1559 kt_11 kt_1557 kt_1558 ydX9_isIn ⟨by decide, by decide⟩ rfl (Nat.le_of_ble_eq_true rfl) ⟨rfl, rfl⟩ ⟨by decide, by decide⟩ rfl dX9_lies_8 ?_
  refine z_if_eq (pc := 11) (tgt := 23) G dX9_lies_11 (by decide) (fun hc11 => ?_) (fun hc11 => ?_)
  · have hX := z_it hc11 hX
    refine z_bipush (pc := 23) (v := (-2)) G dX9_lies_23 (by decide) ?_
    exact z_iretX (pc := 25) hX G hr dX9_lies_25 (by decide) (by decide)
  · have hX := z_if hc11 hX
    refine z_aload_n (pc := 14) G 0 dX9_lies_14 rfl rfl ?_
    obtain ⟨x15, hv15, hX⟩ := z_bd hX
    refine z_getR (pc := 15) G kK9 (k := 50) (by decide) kt_1276 dX9_lies_15 hv15 ?_
    refine z_iload_n (pc := 18) G 1 dX9_lies_18 rfl rfl ?_
    obtain ⟨x19, hv19, hX⟩ := z_bd hX
    refine z_iald (pc := 19) G dX9_lies_19 hv19 ?_
    refine z_goto (pc := 20) (tgt := 25) G dX9_lies_20 (by decide) ?_
    exact z_iretX (pc := 25) hX G hr dX9_lies_25 (by decide) (by decide)
theorem dX9_near_0 : decode cX9_near 0 = .ok (.aload_n 0, 1) := by decide +kernel
theorem dX9_near_1 : decode cX9_near 1 = .ok (.iconst 0, 1) := by decide +kernel
theorem dX9_near_2 : decode cX9_near 2 = .ok (.putfield 380, 3) := by decide +kernel
theorem dX9_near_5 : decode cX9_near 5 = .ok (.aload_n 0, 1) := by decide +kernel
theorem dX9_near_6 : decode cX9_near 6 = .ok (.iload_n 1, 1) := by decide +kernel
theorem dX9_near_7 : decode cX9_near 7 = .ok (.invokevirtual 450, 3) := by decide +kernel
theorem dX9_near_10 : decode cX9_near 10 = .ok (.ifCond .ne 5, 3) := by decide +kernel
theorem dX9_near_13 : decode cX9_near 13 = .ok (.iconst (-1), 1) := by decide +kernel
theorem dX9_near_14 : decode cX9_near 14 = .ok (.ireturn, 1) := by decide +kernel
theorem dX9_near_15 : decode cX9_near 15 = .ok (.iconst 0, 1) := by decide +kernel
theorem dX9_near_16 : decode cX9_near 16 = .ok (.istore_n 2, 1) := by decide +kernel
theorem dX9_near_17 : decode cX9_near 17 = .ok (.iload_n 2, 1) := by decide +kernel
theorem dX9_near_18 : decode cX9_near 18 = .ok (.aload_n 0, 1) := by decide +kernel
theorem dX9_near_19 : decode cX9_near 19 = .ok (.invokevirtual 337, 3) := by decide +kernel
theorem dX9_near_22 : decode cX9_near 22 = .ok (.if_icmp .ge 85, 3) := by decide +kernel
theorem dX9_near_25 : decode cX9_near 25 = .ok (.iload_n 2, 1) := by decide +kernel
theorem dX9_near_26 : decode cX9_near 26 = .ok (.iload_n 1, 1) := by decide +kernel
theorem dX9_near_27 : decode cX9_near 27 = .ok (.if_icmp .ne 6, 3) := by decide +kernel
theorem dX9_near_30 : decode cX9_near 30 = .ok (.goto 71, 3) := by decide +kernel
theorem dX9_near_33 : decode cX9_near 33 = .ok (.aload_n 0, 1) := by decide +kernel
theorem dX9_near_34 : decode cX9_near 34 = .ok (.getfield 380, 3) := by decide +kernel
theorem dX9_near_37 : decode cX9_near 37 = .ok (.istore_n 3, 1) := by decide +kernel
theorem dX9_near_38 : decode cX9_near 38 = .ok (.iload_n 3, 1) := by decide +kernel
theorem dX9_near_39 : decode cX9_near 39 = .ok (.ifCond .le 45, 3) := by decide +kernel
theorem dX9_near_42 : decode cX9_near 42 = .ok (.aload_n 0, 1) := by decide +kernel
theorem dX9_near_43 : decode cX9_near 43 = .ok (.iload_n 1, 1) := by decide +kernel
theorem dX9_near_44 : decode cX9_near 44 = .ok (.aload_n 0, 1) := by decide +kernel
theorem dX9_near_45 : decode cX9_near 45 = .ok (.getfield 112, 3) := by decide +kernel
theorem dX9_near_48 : decode cX9_near 48 = .ok (.iload_n 3, 1) := by decide +kernel
theorem dX9_near_49 : decode cX9_near 49 = .ok (.iconst 1, 1) := by decide +kernel
theorem dX9_near_50 : decode cX9_near 50 = .ok (.isub, 1) := by decide +kernel
theorem dX9_near_51 : decode cX9_near 51 = .ok (.iaload, 1) := by decide +kernel
theorem dX9_near_52 : decode cX9_near 52 = .ok (.invokevirtual 353, 3) := by decide +kernel
theorem dX9_near_55 : decode cX9_near 55 = .ok (.aload_n 0, 1) := by decide +kernel
theorem dX9_near_56 : decode cX9_near 56 = .ok (.iload_n 1, 1) := by decide +kernel
theorem dX9_near_57 : decode cX9_near 57 = .ok (.iload_n 2, 1) := by decide +kernel
theorem dX9_near_58 : decode cX9_near 58 = .ok (.invokevirtual 353, 3) := by decide +kernel
theorem dX9_near_61 : decode cX9_near 61 = .ok (.if_icmp .le 23, 3) := by decide +kernel
theorem dX9_near_64 : decode cX9_near 64 = .ok (.aload_n 0, 1) := by decide +kernel
theorem dX9_near_65 : decode cX9_near 65 = .ok (.getfield 112, 3) := by decide +kernel
theorem dX9_near_68 : decode cX9_near 68 = .ok (.iload_n 3, 1) := by decide +kernel
theorem dX9_near_69 : decode cX9_near 69 = .ok (.aload_n 0, 1) := by decide +kernel
theorem dX9_near_70 : decode cX9_near 70 = .ok (.getfield 112, 3) := by decide +kernel
theorem dX9_near_73 : decode cX9_near 73 = .ok (.iload_n 3, 1) := by decide +kernel
theorem dX9_near_74 : decode cX9_near 74 = .ok (.iconst 1, 1) := by decide +kernel
theorem dX9_near_75 : decode cX9_near 75 = .ok (.isub, 1) := by decide +kernel
theorem dX9_near_76 : decode cX9_near 76 = .ok (.iaload, 1) := by decide +kernel
theorem dX9_near_77 : decode cX9_near 77 = .ok (.iastore, 1) := by decide +kernel
theorem dX9_near_78 : decode cX9_near 78 = .ok (.iinc 3 (-1), 3) := by decide +kernel
theorem dX9_near_81 : decode cX9_near 81 = .ok (.goto (-43), 3) := by decide +kernel
theorem dX9_near_84 : decode cX9_near 84 = .ok (.aload_n 0, 1) := by decide +kernel
theorem dX9_near_85 : decode cX9_near 85 = .ok (.getfield 112, 3) := by decide +kernel
theorem dX9_near_88 : decode cX9_near 88 = .ok (.iload_n 3, 1) := by decide +kernel
theorem dX9_near_89 : decode cX9_near 89 = .ok (.iload_n 2, 1) := by decide +kernel
theorem dX9_near_90 : decode cX9_near 90 = .ok (.iastore, 1) := by decide +kernel
theorem dX9_near_91 : decode cX9_near 91 = .ok (.aload_n 0, 1) := by decide +kernel
theorem dX9_near_92 : decode cX9_near 92 = .ok (.dup, 1) := by decide +kernel
theorem dX9_near_93 : decode cX9_near 93 = .ok (.getfield 380, 3) := by decide +kernel
theorem dX9_near_96 : decode cX9_near 96 = .ok (.iconst 1, 1) := by decide +kernel
theorem dX9_near_97 : decode cX9_near 97 = .ok (.iadd, 1) := by decide +kernel
theorem dX9_near_98 : decode cX9_near 98 = .ok (.putfield 380, 3) := by decide +kernel
theorem dX9_near_101 : decode cX9_near 101 = .ok (.iinc 2 1, 3) := by decide +kernel
theorem dX9_near_104 : decode cX9_near 104 = .ok (.goto (-87), 3) := by decide +kernel
theorem dX9_near_107 : decode cX9_near 107 = .ok (.aload_n 0, 1) := by decide +kernel
theorem dX9_near_108 : decode cX9_near 108 = .ok (.getfield 380, 3) := by decide +kernel
theorem dX9_near_111 : decode cX9_near 111 = .ok (.ireturn, 1) := by decide +kernel
theorem ydX9_near : z_yd yX9_near 1 := ⟨by decide, by decide, by decide +kernel⟩
abbrev rmX9_near : Room := { frames := 2, cells := 0, slots := 0, locals := 43 }
noncomputable def xX9_near_B84 (r17 : Nat → Int32 → Int32 → ZH → Option (Int32 × ZH)) (l0 : Nat) (l1 : Int32) (l2 : Int32) (l3 : Int32) (h : ZH) : Option (Int32 × ZH) := ((z_gR h l0 9 50).bind fun x85 => ((z_uI h x85 l3 l2).bind fun h90 => ((z_gI h90 l0 9 51).bind fun x93 => ((z_sF h90 l0 9 51 (.int (x93 + (1 : Int32)))).bind fun h98 => r17 l0 l1 (l2 + 1) h98))))
set_option maxHeartbeats 4000000 in
set_option maxRecDepth 100000 in
theorem wX9_near_B84 {Γ : ZG} {p : Program} {l : Launch} {e : Env} {s : State} {m : MethodId} {args : Array Value} {below : List Frame} {meth : Method} {c : Code} (hO : z_OK Γ) (G : z_GG Γ p s m args meth c cX9_near 4 RX9) (hr : meth.sig.returnType = (some .int)) (hnm : meth.name = "near") {r : (Int32 × ZH)} {r17 : Nat → Int32 → Int32 → ZH → Option (Int32 × ZH)} (H17 : ∀ (l0 : Nat) (l1 : Int32) (l2 : Int32) (h : ZH), r17 l0 l1 l2 h = some r → z_W Γ p l e rmX9_near s m args below meth c 4 0 0 (MQ below (z_Qc Γ (some (.int r.1)) r.2) args s rmX9_near.cells rmX9_near.slots (z_A Γ)) 17 [(0, .ref l0), (1, .int l1), (2, .int l2)] [] h) : ∀ (l0 : Nat) (l1 : Int32) (l2 : Int32) (l3 : Int32) (h : ZH), xX9_near_B84  r17 l0 l1 l2 l3 h = some r → z_W Γ p l e rmX9_near s m args below meth c 4 0 0 (MQ below (z_Qc Γ (some (.int r.1)) r.2) args s rmX9_near.cells rmX9_near.slots (z_A Γ)) 84 [(0, .ref l0), (1, .int l1), (2, .int l2), (3, .int l3)] [] h := by
  intro l0 l1 l2 l3 h hX
  refine z_aload_n (pc := 84) G 0 dX9_near_84 rfl rfl ?_
  obtain ⟨x85, hv85, hX⟩ := z_bd hX
  refine z_getR (pc := 85) G kK9 (k := 50) (by decide) kt_1276 dX9_near_85 hv85 ?_
  refine z_iload_n (pc := 88) G 3 dX9_near_88 rfl rfl ?_
  refine z_iload_n (pc := 89) G 2 dX9_near_89 rfl rfl ?_
  obtain ⟨h90, hv90, hX⟩ := z_bd hX
  refine z_iast (pc := 90) G dX9_near_90 hv90 ?_
  refine z_aload_n (pc := 91) G 0 dX9_near_91 rfl rfl ?_
  refine z_dup (pc := 92) G dX9_near_92 rfl ?_
  obtain ⟨x93, hv93, hX⟩ := z_bd hX
  refine z_getI (pc := 93) G kK9 (k := 51) (by decide) kt_1277 dX9_near_93 hv93 ?_
  refine z_iconst (pc := 96) (v := 1) G dX9_near_96 (by decide) ?_
  refine z_iadd (pc := 97) G dX9_near_97 ?_
  obtain ⟨h98, hv98, hX⟩ := z_bd hX
  refine z_putF (pc := 98) G kK9 (k := 51) (by decide) kt_1277 (Or.inl rfl) rfl rfl dX9_near_98 hv98 ?_
  refine z_iincw (pc := 101) (w := 1) (lv2 := [(0, .ref l0), (1, .int l1), (2, .int (l2 + 1)), (3, .int l3)]) G 2 dX9_near_101 rfl (by decide) (by decide) rfl rfl ?_
  refine z_goto (pc := 104) (tgt := 17) G dX9_near_104 (by decide) ?_
  refine z_drop (lv2 := [(0, .ref l0), (1, .int l1), (2, .int (l2 + 1))]) [0, 1, 2] rfl ?_
  exact H17 _ _ _ _ hX
noncomputable def xX9_near_B38 (r17 : Nat → Int32 → Int32 → ZH → Option (Int32 × ZH)) (r38 : Nat → Int32 → Int32 → Int32 → ZH → Option (Int32 × ZH)) (l0 : Nat) (l1 : Int32) (l2 : Int32) (l3 : Int32) (h : ZH) : Option (Int32 × ZH) := (if l3 ≤ 0 then xX9_near_B84 r17 l0 l1 l2 l3 h else ((z_gR h l0 9 50).bind fun x45 => ((z_aI h x45 (l3 - (1 : Int32))).bind fun x51 => (z_gu (z_is h l0 9) ((xX9_apart l0 l1 x51 h).bind fun r52 => (z_gu (z_is r52.2 l0 9) ((xX9_apart l0 l1 l2 r52.2).bind fun r58 => (if r52.1 ≤ r58.1 then xX9_near_B84 r17 l0 l1 l2 l3 r58.2 else ((z_gR r58.2 l0 9 50).bind fun x65 => ((z_gR r58.2 l0 9 50).bind fun x70 => ((z_aI r58.2 x70 (l3 - (1 : Int32))).bind fun x76 => ((z_uI r58.2 x65 l3 x76).bind fun h77 => r38 l0 l1 l2 (l3 + (-1)) h77))))))))))))
noncomputable def xX9_near_L38 (r17 : Nat → Int32 → Int32 → ZH → Option (Int32 × ZH)) (n : Nat) : Nat → Int32 → Int32 → Int32 → ZH → Option (Int32 × ZH) := Nat.rec (motive := fun _ => Nat → Int32 → Int32 → Int32 → ZH → Option (Int32 × ZH)) (fun _ _ _ _ _ => none) (fun _ rec => xX9_near_B38  r17 rec) n
set_option maxHeartbeats 4000000 in
set_option maxRecDepth 100000 in
theorem wX9_near_B38 {Γ : ZG} {p : Program} {l : Launch} {e : Env} {s : State} {m : MethodId} {args : Array Value} {below : List Frame} {meth : Method} {c : Code} (hO : z_OK Γ) (G : z_GG Γ p s m args meth c cX9_near 4 RX9) (hr : meth.sig.returnType = (some .int)) (hnm : meth.name = "near") {r : (Int32 × ZH)} {r17 : Nat → Int32 → Int32 → ZH → Option (Int32 × ZH)} (H17 : ∀ (l0 : Nat) (l1 : Int32) (l2 : Int32) (h : ZH), r17 l0 l1 l2 h = some r → z_W Γ p l e rmX9_near s m args below meth c 4 0 0 (MQ below (z_Qc Γ (some (.int r.1)) r.2) args s rmX9_near.cells rmX9_near.slots (z_A Γ)) 17 [(0, .ref l0), (1, .int l1), (2, .int l2)] [] h) {r38 : Nat → Int32 → Int32 → Int32 → ZH → Option (Int32 × ZH)} (H38 : ∀ (l0 : Nat) (l1 : Int32) (l2 : Int32) (l3 : Int32) (h : ZH), r38 l0 l1 l2 l3 h = some r → z_W Γ p l e rmX9_near s m args below meth c 4 0 0 (MQ below (z_Qc Γ (some (.int r.1)) r.2) args s rmX9_near.cells rmX9_near.slots (z_A Γ)) 38 [(0, .ref l0), (1, .int l1), (2, .int l2), (3, .int l3)] [] h) : ∀ (l0 : Nat) (l1 : Int32) (l2 : Int32) (l3 : Int32) (h : ZH), xX9_near_B38  r17 r38 l0 l1 l2 l3 h = some r → z_W Γ p l e rmX9_near s m args below meth c 4 0 0 (MQ below (z_Qc Γ (some (.int r.1)) r.2) args s rmX9_near.cells rmX9_near.slots (z_A Γ)) 38 [(0, .ref l0), (1, .int l1), (2, .int l2), (3, .int l3)] [] h := by
  intro l0 l1 l2 l3 h hX
  refine z_iload_n (pc := 38) G 3 dX9_near_38 rfl rfl ?_
  refine z_if_le (pc := 39) (tgt := 84) G dX9_near_39 (by decide) (fun hc39 => ?_) (fun hc39 => ?_)
  · have hX := z_it hc39 hX
    exact wX9_near_B84 hO G hr hnm H17 _ _ _ _ _ hX
  · have hX := z_if hc39 hX
    refine z_aload_n (pc := 42) G 0 dX9_near_42 rfl rfl ?_
    refine z_iload_n (pc := 43) G 1 dX9_near_43 rfl rfl ?_
    refine z_aload_n (pc := 44) G 0 dX9_near_44 rfl rfl ?_
    obtain ⟨x45, hv45, hX⟩ := z_bd hX
    refine z_getR (pc := 45) G kK9 (k := 50) (by decide) kt_1276 dX9_near_45 hv45 ?_
    refine z_iload_n (pc := 48) G 3 dX9_near_48 rfl rfl ?_
    refine z_iconst (pc := 49) (v := 1) G dX9_near_49 (by decide) ?_
    refine z_isub (pc := 50) G dX9_near_50 ?_
    obtain ⟨x51, hv51, hX⟩ := z_bd hX
    refine z_iald (pc := 51) G dX9_near_51 hv51 ?_
    obtain ⟨hi52, hX⟩ := z_gu_s hX
    obtain ⟨r52, hv52, hX⟩ := z_bd hX
    refine z_cVI (pc := 52) (As := [.int l1, .int x51]) (c2 := 0) (s2 := 0) G kK9 (lX9_apart hO hv52) hi52 kt_1606 kt_11 kt_1603 kt_1605 ks_69 ydX9_apart ⟨by decide, by decide⟩ rfl (Nat.le_of_ble_eq_true rfl) ⟨rfl, rfl⟩ ⟨by decide, by decide⟩ rfl dX9_near_52 ?_
    refine z_aload_n (pc := 55) G 0 dX9_near_55 rfl rfl ?_
    refine z_iload_n (pc := 56) G 1 dX9_near_56 rfl rfl ?_
    refine z_iload_n (pc := 57) G 2 dX9_near_57 rfl rfl ?_
    obtain ⟨hi58, hX⟩ := z_gu_s hX
    obtain ⟨r58, hv58, hX⟩ := z_bd hX
    refine z_cVI (pc := 58) (As := [.int l1, .int l2]) (c2 := 0) (s2 := 0) G kK9 (lX9_apart hO hv58) hi58 kt_1606 kt_11 kt_1603 kt_1605 ks_69 ydX9_apart ⟨by decide, by decide⟩ rfl (Nat.le_of_ble_eq_true rfl) ⟨rfl, rfl⟩ ⟨by decide, by decide⟩ rfl dX9_near_58 ?_
    refine z_icmp_le (pc := 61) (tgt := 84) G dX9_near_61 (by decide) (fun hc61 => ?_) (fun hc61 => ?_)
    · have hX := z_it hc61 hX
      exact wX9_near_B84 hO G hr hnm H17 _ _ _ _ _ hX
    · have hX := z_if hc61 hX
      refine z_aload_n (pc := 64) G 0 dX9_near_64 rfl rfl ?_
      obtain ⟨x65, hv65, hX⟩ := z_bd hX
      refine z_getR (pc := 65) G kK9 (k := 50) (by decide) kt_1276 dX9_near_65 hv65 ?_
      refine z_iload_n (pc := 68) G 3 dX9_near_68 rfl rfl ?_
      refine z_aload_n (pc := 69) G 0 dX9_near_69 rfl rfl ?_
      obtain ⟨x70, hv70, hX⟩ := z_bd hX
      refine z_getR (pc := 70) G kK9 (k := 50) (by decide) kt_1276 dX9_near_70 hv70 ?_
      refine z_iload_n (pc := 73) G 3 dX9_near_73 rfl rfl ?_
      refine z_iconst (pc := 74) (v := 1) G dX9_near_74 (by decide) ?_
      refine z_isub (pc := 75) G dX9_near_75 ?_
      obtain ⟨x76, hv76, hX⟩ := z_bd hX
      refine z_iald (pc := 76) G dX9_near_76 hv76 ?_
      obtain ⟨h77, hv77, hX⟩ := z_bd hX
      refine z_iast (pc := 77) G dX9_near_77 hv77 ?_
      refine z_iincw (pc := 78) (w := (-1)) (lv2 := [(0, .ref l0), (1, .int l1), (2, .int l2), (3, .int (l3 + (-1)))]) G 3 dX9_near_78 rfl (by decide) (by decide) rfl rfl ?_
      refine z_goto (pc := 81) (tgt := 38) G dX9_near_81 (by decide) ?_
      exact H38 _ _ _ _ _ hX
set_option maxHeartbeats 4000000 in
set_option maxRecDepth 100000 in
theorem wX9_near_L38 {Γ : ZG} {p : Program} {l : Launch} {e : Env} {s : State} {m : MethodId} {args : Array Value} {below : List Frame} {meth : Method} {c : Code} (hO : z_OK Γ) (G : z_GG Γ p s m args meth c cX9_near 4 RX9) (hr : meth.sig.returnType = (some .int)) (hnm : meth.name = "near") {r : (Int32 × ZH)} {r17 : Nat → Int32 → Int32 → ZH → Option (Int32 × ZH)} (H17 : ∀ (l0 : Nat) (l1 : Int32) (l2 : Int32) (h : ZH), r17 l0 l1 l2 h = some r → z_W Γ p l e rmX9_near s m args below meth c 4 0 0 (MQ below (z_Qc Γ (some (.int r.1)) r.2) args s rmX9_near.cells rmX9_near.slots (z_A Γ)) 17 [(0, .ref l0), (1, .int l1), (2, .int l2)] [] h) : ∀ (nn : Nat) (l0 : Nat) (l1 : Int32) (l2 : Int32) (l3 : Int32) (h : ZH), xX9_near_L38  r17 nn l0 l1 l2 l3 h = some r → z_W Γ p l e rmX9_near s m args below meth c 4 0 0 (MQ below (z_Qc Γ (some (.int r.1)) r.2) args s rmX9_near.cells rmX9_near.slots (z_A Γ)) 38 [(0, .ref l0), (1, .int l1), (2, .int l2), (3, .int l3)] [] h := by
  intro nn
  induction nn with
  | zero => intro l0 l1 l2 l3 h hX; cases hX
  | succ nn ih => intro l0 l1 l2 l3 h hX; exact wX9_near_B38 hO G hr hnm  H17 ih l0 l1 l2 l3 h hX
noncomputable def xX9_near_B17 (r17 : Nat → Int32 → Int32 → ZH → Option (Int32 × ZH)) (l0 : Nat) (l1 : Int32) (l2 : Int32) (h : ZH) : Option (Int32 × ZH) := (z_gu (z_is h l0 9) ((xX9_lots l0 h).bind fun r19 => (if r19.1 ≤ l2 then ((z_gI r19.2 l0 9 51).bind fun x108 => some (x108, r19.2)) else (if l2 = l1 then r17 l0 l1 (l2 + 1) r19.2 else ((z_gI r19.2 l0 9 51).bind fun x34 => xX9_near_L38 r17 zFU l0 l1 l2 x34 r19.2)))))
noncomputable def xX9_near_L17 (n : Nat) : Nat → Int32 → Int32 → ZH → Option (Int32 × ZH) := Nat.rec (motive := fun _ => Nat → Int32 → Int32 → ZH → Option (Int32 × ZH)) (fun _ _ _ _ => none) (fun _ rec => xX9_near_B17  rec) n
set_option maxHeartbeats 4000000 in
set_option maxRecDepth 100000 in
theorem wX9_near_B17 {Γ : ZG} {p : Program} {l : Launch} {e : Env} {s : State} {m : MethodId} {args : Array Value} {below : List Frame} {meth : Method} {c : Code} (hO : z_OK Γ) (G : z_GG Γ p s m args meth c cX9_near 4 RX9) (hr : meth.sig.returnType = (some .int)) (hnm : meth.name = "near") {r : (Int32 × ZH)} {r17 : Nat → Int32 → Int32 → ZH → Option (Int32 × ZH)} (H17 : ∀ (l0 : Nat) (l1 : Int32) (l2 : Int32) (h : ZH), r17 l0 l1 l2 h = some r → z_W Γ p l e rmX9_near s m args below meth c 4 0 0 (MQ below (z_Qc Γ (some (.int r.1)) r.2) args s rmX9_near.cells rmX9_near.slots (z_A Γ)) 17 [(0, .ref l0), (1, .int l1), (2, .int l2)] [] h) : ∀ (l0 : Nat) (l1 : Int32) (l2 : Int32) (h : ZH), xX9_near_B17  r17 l0 l1 l2 h = some r → z_W Γ p l e rmX9_near s m args below meth c 4 0 0 (MQ below (z_Qc Γ (some (.int r.1)) r.2) args s rmX9_near.cells rmX9_near.slots (z_A Γ)) 17 [(0, .ref l0), (1, .int l1), (2, .int l2)] [] h := by
  intro l0 l1 l2 h hX
  refine z_iload_n (pc := 17) G 2 dX9_near_17 rfl rfl ?_
  refine z_aload_n (pc := 18) G 0 dX9_near_18 rfl rfl ?_
  obtain ⟨hi19, hX⟩ := z_gu_s hX
  obtain ⟨r19, hv19, hX⟩ := z_bd hX
  refine z_cVI (pc := 19) (As := []) (c2 := 0) (s2 := 0) G kK9 (lX9_lots hO hv19) hi19 kt_1221 kt_11 kt_1218 kt_1220 ks_36 ydX9_lots ⟨by decide, by decide⟩ rfl (Nat.le_of_ble_eq_true rfl) ⟨rfl, rfl⟩ ⟨by decide, by decide⟩ rfl dX9_near_19 ?_
  refine z_icmp_ge (pc := 22) (tgt := 107) G dX9_near_22 (by decide) (fun hc22 => ?_) (fun hc22 => ?_)
  · have hX := z_it hc22 hX
    refine z_aload_n (pc := 107) G 0 dX9_near_107 rfl rfl ?_
    obtain ⟨x108, hv108, hX⟩ := z_bd hX
    refine z_getI (pc := 108) G kK9 (k := 51) (by decide) kt_1277 dX9_near_108 hv108 ?_
    exact z_iretX (pc := 111) hX G hr dX9_near_111 (by decide) (by decide)
  · have hX := z_if hc22 hX
    refine z_iload_n (pc := 25) G 2 dX9_near_25 rfl rfl ?_
    refine z_iload_n (pc := 26) G 1 dX9_near_26 rfl rfl ?_
    refine z_icmp_ne (pc := 27) (tgt := 33) G dX9_near_27 (by decide) (fun hc27 => ?_) (fun hc27 => ?_)
    · have hX := z_if hc27 hX
      refine z_aload_n (pc := 33) G 0 dX9_near_33 rfl rfl ?_
      obtain ⟨x34, hv34, hX⟩ := z_bd hX
      refine z_getI (pc := 34) G kK9 (k := 51) (by decide) kt_1277 dX9_near_34 hv34 ?_
      refine z_istore_n (pc := 37) (lv2 := [(0, .ref l0), (1, .int l1), (2, .int l2), (3, .int x34)]) G dX9_near_37 rfl (by decide) rfl rfl ?_
      exact wX9_near_L38 hO G hr hnm H17 zFU _ _ _ _ _ hX
    · have hX := z_it hc27 hX
      refine z_goto (pc := 30) (tgt := 101) G dX9_near_30 (by decide) ?_
      refine z_iincw (pc := 101) (w := 1) (lv2 := [(0, .ref l0), (1, .int l1), (2, .int (l2 + 1))]) G 2 dX9_near_101 rfl (by decide) (by decide) rfl rfl ?_
      refine z_goto (pc := 104) (tgt := 17) G dX9_near_104 (by decide) ?_
      exact H17 _ _ _ _ hX
set_option maxHeartbeats 4000000 in
set_option maxRecDepth 100000 in
theorem wX9_near_L17 {Γ : ZG} {p : Program} {l : Launch} {e : Env} {s : State} {m : MethodId} {args : Array Value} {below : List Frame} {meth : Method} {c : Code} (hO : z_OK Γ) (G : z_GG Γ p s m args meth c cX9_near 4 RX9) (hr : meth.sig.returnType = (some .int)) (hnm : meth.name = "near") {r : (Int32 × ZH)} : ∀ (nn : Nat) (l0 : Nat) (l1 : Int32) (l2 : Int32) (h : ZH), xX9_near_L17  nn l0 l1 l2 h = some r → z_W Γ p l e rmX9_near s m args below meth c 4 0 0 (MQ below (z_Qc Γ (some (.int r.1)) r.2) args s rmX9_near.cells rmX9_near.slots (z_A Γ)) 17 [(0, .ref l0), (1, .int l1), (2, .int l2)] [] h := by
  intro nn
  induction nn with
  | zero => intro l0 l1 l2 h hX; cases hX
  | succ nn ih => intro l0 l1 l2 h hX; exact wX9_near_B17 hO G hr hnm  ih l0 l1 l2 h hX
noncomputable def xX9_near (l0 : Nat) (l1 : Int32) (h : ZH) : Option (Int32 × ZH) := ((z_sF h l0 9 51 (.int (0 : Int32))).bind fun h2 => (z_gu (z_is h2 l0 9) ((xX9_isShip l0 l1 h2).bind fun r7 => (if r7.1 = 0 then some ((-1 : Int32), r7.2) else xX9_near_L17 zFU l0 l1 (0 : Int32) r7.2))))
set_option maxHeartbeats 4000000 in
set_option maxRecDepth 100000 in
theorem lX9_near {Γ : ZG} {l : Launch} (hO : z_OK Γ) {l0 : Nat} {l1 : Int32} {h : ZH} {r : (Int32 × ZH)} (hX : xX9_near l0 l1 h = some r) : z_M Γ l yX9_near (z_ws1 yX9_near cX9_near 4 (some .int)) rmX9_near [.ref l0, .int l1] h (some (.int r.1)) r.2 := by
  refine z_start hO (plainFor_of_name (by decide)) (Nat.le_of_ble_eq_true rfl) ?_
  intro p e s m args below meth c G hr hnm
  refine z_lvc (lv2 := [(0, .ref l0), (1, .int l1)]) rfl ?_
  refine z_aload_n (pc := 0) G 0 dX9_near_0 rfl rfl ?_
  refine z_iconst (pc := 1) (v := 0) G dX9_near_1 (by decide) ?_
  obtain ⟨h2, hv2, hX⟩ := z_bd hX
  refine z_putF (pc := 2) G kK9 (k := 51) (by decide) kt_1277 (Or.inl rfl) rfl rfl dX9_near_2 hv2 ?_
  refine z_aload_n (pc := 5) G 0 dX9_near_5 rfl rfl ?_
  refine z_iload_n (pc := 6) G 1 dX9_near_6 rfl rfl ?_
  obtain ⟨hi7, hX⟩ := z_gu_s hX
  obtain ⟨r7, hv7, hX⟩ := z_bd hX
  refine z_cVI (pc := 7) (As := [.int l1]) (c2 := 0) (s2 := 0) G kK9 (lX9_isShip hO hv7) hi7 kt_1556 kt_11 kt_1553 kt_1555 ks_62 ydX9_isShip ⟨by decide, by decide⟩ rfl (Nat.le_of_ble_eq_true rfl) ⟨rfl, rfl⟩ ⟨by decide, by decide⟩ rfl dX9_near_7 ?_
  refine z_if_ne (pc := 10) (tgt := 15) G dX9_near_10 (by decide) (fun hc10 => ?_) (fun hc10 => ?_)
  · have hX := z_if hc10 hX
    refine z_iconst (pc := 15) (v := 0) G dX9_near_15 (by decide) ?_
    refine z_istore_n (pc := 16) (lv2 := [(0, .ref l0), (1, .int l1), (2, .int (0 : Int32))]) G dX9_near_16 rfl (by decide) rfl rfl ?_
    exact wX9_near_L17 hO G hr hnm zFU _ _ _ _ hX
  · have hX := z_it hc10 hX
    refine z_iconst (pc := 13) (v := (-1)) G dX9_near_13 (by decide) ?_
    exact z_iretX (pc := 14) hX G hr dX9_near_14 (by decide) (by decide)
theorem dX9_odds_0 : decode cX9_odds 0 = .ok (.iload_n 1, 1) := by decide +kernel
theorem dX9_odds_1 : decode cX9_odds 1 = .ok (.iconst 0, 1) := by decide +kernel
theorem dX9_odds_2 : decode cX9_odds 2 = .ok (.iconst 4, 1) := by decide +kernel
theorem dX9_odds_3 : decode cX9_odds 3 = .ok (.invokestatic 340, 3) := by decide +kernel
theorem dX9_odds_6 : decode cX9_odds 6 = .ok (.ifCond .eq 12, 3) := by decide +kernel
theorem dX9_odds_9 : decode cX9_odds 9 = .ok (.iload_n 2, 1) := by decide +kernel
theorem dX9_odds_10 : decode cX9_odds 10 = .ok (.iconst 0, 1) := by decide +kernel
theorem dX9_odds_11 : decode cX9_odds 11 = .ok (.iconst 1, 1) := by decide +kernel
theorem dX9_odds_12 : decode cX9_odds 12 = .ok (.invokestatic 340, 3) := by decide +kernel
theorem dX9_odds_15 : decode cX9_odds 15 = .ok (.ifCond .ne 5, 3) := by decide +kernel
theorem dX9_odds_18 : decode cX9_odds 18 = .ok (.iconst (-1), 1) := by decide +kernel
theorem dX9_odds_19 : decode cX9_odds 19 = .ok (.ireturn, 1) := by decide +kernel
theorem dX9_odds_20 : decode cX9_odds 20 = .ok (.bipush 100, 2) := by decide +kernel
theorem dX9_odds_22 : decode cX9_odds 22 = .ok (.aload_n 0, 1) := by decide +kernel
theorem dX9_odds_23 : decode cX9_odds 23 = .ok (.getfield 42, 3) := by decide +kernel
theorem dX9_odds_26 : decode cX9_odds 26 = .ok (.aload_n 0, 1) := by decide +kernel
theorem dX9_odds_27 : decode cX9_odds 27 = .ok (.getfield 255, 3) := by decide +kernel
theorem dX9_odds_30 : decode cX9_odds 30 = .ok (.iaload, 1) := by decide +kernel
theorem dX9_odds_31 : decode cX9_odds 31 = .ok (.isub, 1) := by decide +kernel
theorem dX9_odds_32 : decode cX9_odds 32 = .ok (.iload_n 1, 1) := by decide +kernel
theorem dX9_odds_33 : decode cX9_odds 33 = .ok (.invokestatic 483, 3) := by decide +kernel
theorem dX9_odds_36 : decode cX9_odds 36 = .ok (.istore_n 3, 1) := by decide +kernel
theorem dX9_odds_37 : decode cX9_odds 37 = .ok (.bipush 100, 2) := by decide +kernel
theorem dX9_odds_39 : decode cX9_odds 39 = .ok (.iload_n 1, 1) := by decide +kernel
theorem dX9_odds_40 : decode cX9_odds 40 = .ok (.invokestatic 483, 3) := by decide +kernel
theorem dX9_odds_43 : decode cX9_odds 43 = .ok (.istore 4, 2) := by decide +kernel
theorem dX9_odds_45 : decode cX9_odds 45 = .ok (.iload_n 2, 1) := by decide +kernel
theorem dX9_odds_46 : decode cX9_odds 46 = .ok (.ifCond .ne 7, 3) := by decide +kernel
theorem dX9_odds_49 : decode cX9_odds 49 = .ok (.iload_n 3, 1) := by decide +kernel
theorem dX9_odds_50 : decode cX9_odds 50 = .ok (.goto 5, 3) := by decide +kernel
theorem dX9_odds_53 : decode cX9_odds 53 = .ok (.iload 4, 2) := by decide +kernel
theorem dX9_odds_55 : decode cX9_odds 55 = .ok (.iload 4, 2) := by decide +kernel
theorem dX9_odds_57 : decode cX9_odds 57 = .ok (.iload_n 3, 1) := by decide +kernel
theorem dX9_odds_58 : decode cX9_odds 58 = .ok (.invokestatic 501, 3) := by decide +kernel
theorem dX9_odds_61 : decode cX9_odds 61 = .ok (.idiv, 1) := by decide +kernel
theorem dX9_odds_62 : decode cX9_odds 62 = .ok (.ireturn, 1) := by decide +kernel
theorem ydX9_odds : z_yd yX9_odds 2 := ⟨by decide, by decide, by decide +kernel⟩
abbrev rmX9_odds : Room := { frames := 1, cells := 0, slots := 0, locals := 24 }
noncomputable def xX9_odds (l0 : Nat) (l1 : Int32) (l2 : Int32) (h : ZH) : Option (Int32 × ZH) := ((xX9_isIn l1 (0 : Int32) (4 : Int32) h).bind fun r3 => (if r3.1 = 0 then some ((-1 : Int32), r3.2) else ((xX9_isIn l2 (0 : Int32) (1 : Int32) r3.2).bind fun r12 => (if r12.1 = 0 then some ((-1 : Int32), r12.2) else ((z_gR r12.2 l0 9 18).bind fun x23 => ((z_gI r12.2 l0 9 34).bind fun x27 => ((z_aI r12.2 x23 x27).bind fun x30 => ((xX9_power ((100 : Int32) - x30) l1 r12.2).bind fun r33 => ((xX9_power (100 : Int32) l1 r33.2).bind fun r40 => (if l2 = 0 then ((xX9_divisor r40.1 r33.1 r40.2).bind fun r58 => (if r58.1 = 0 then none else some ((r33.1 / r58.1), r58.2))) else ((xX9_divisor r40.1 r33.1 r40.2).bind fun r58 => (if r58.1 = 0 then none else some ((r40.1 / r58.1), r58.2)))))))))))))
set_option maxHeartbeats 4000000 in
set_option maxRecDepth 100000 in
theorem lX9_odds {Γ : ZG} {l : Launch} (hO : z_OK Γ) {l0 : Nat} {l1 : Int32} {l2 : Int32} {h : ZH} {r : (Int32 × ZH)} (hX : xX9_odds l0 l1 l2 h = some r) : z_M Γ l yX9_odds (z_ws1 yX9_odds cX9_odds 5 (some .int)) rmX9_odds [.ref l0, .int l1, .int l2] h (some (.int r.1)) r.2 := by
  refine z_start hO (plainFor_of_name (by decide)) (Nat.le_of_ble_eq_true rfl) ?_
  intro p e s m args below meth c G hr hnm
  refine z_lvc (lv2 := [(0, .ref l0), (1, .int l1), (2, .int l2)]) rfl ?_
  refine z_iload_n (pc := 0) G 1 dX9_odds_0 rfl rfl ?_
  refine z_iconst (pc := 1) (v := 0) G dX9_odds_1 (by decide) ?_
  refine z_iconst (pc := 2) (v := 4) G dX9_odds_2 (by decide) ?_
  obtain ⟨r3, hv3, hX⟩ := z_bd hX
  refine z_cSI (pc := 3) (As := [.int l1, .int (0 : Int32), .int (4 : Int32)]) (c2 := 0) (s2 := 0) G (lX9_isIn hO hv3) kt_1559 kt_11 kt_1557 kt_1558 ydX9_isIn ⟨by decide, by decide⟩ rfl (Nat.le_of_ble_eq_true rfl) ⟨rfl, rfl⟩ ⟨by decide, by decide⟩ rfl dX9_odds_3 ?_
  refine z_if_eq (pc := 6) (tgt := 18) G dX9_odds_6 (by decide) (fun hc6 => ?_) (fun hc6 => ?_)
  · have hX := z_it hc6 hX
    refine z_iconst (pc := 18) (v := (-1)) G dX9_odds_18 (by decide) ?_
    exact z_iretX (pc := 19) hX G hr dX9_odds_19 (by decide) (by decide)
  · have hX := z_if hc6 hX
    refine z_iload_n (pc := 9) G 2 dX9_odds_9 rfl rfl ?_
    refine z_iconst (pc := 10) (v := 0) G dX9_odds_10 (by decide) ?_
    refine z_iconst (pc := 11) (v := 1) G dX9_odds_11 (by decide) ?_
    obtain ⟨r12, hv12, hX⟩ := z_bd hX
    refine z_cSI (pc := 12) (As := [.int l2, .int (0 : Int32), .int (1 : Int32)]) (c2 := 0) (s2 := 0) G (lX9_isIn hO hv12) kt_1559 kt_11 kt_1557 kt_1558 ydX9_isIn ⟨by decide, by decide⟩ rfl (Nat.le_of_ble_eq_true rfl) ⟨rfl, rfl⟩ ⟨by decide, by decide⟩ rfl dX9_odds_12 ?_
    refine z_if_ne (pc := 15) (tgt := 20) G dX9_odds_15 (by decide) (fun hc15 => ?_) (fun hc15 => ?_)
    · have hX := z_if hc15 hX
      refine z_bipush (pc := 20) (v := 100) G dX9_odds_20 (by decide) ?_
      refine z_aload_n (pc := 22) G 0 dX9_odds_22 rfl rfl ?_
      obtain ⟨x23, hv23, hX⟩ := z_bd hX
      refine z_getR (pc := 23) G kK9 (k := 18) (by decide) kt_1244 dX9_odds_23 hv23 ?_
      refine z_aload_n (pc := 26) G 0 dX9_odds_26 rfl rfl ?_
      obtain ⟨x27, hv27, hX⟩ := z_bd hX
      refine z_getI (pc := 27) G kK9 (k := 34) (by decide) kt_1260 dX9_odds_27 hv27 ?_
      obtain ⟨x30, hv30, hX⟩ := z_bd hX
      refine z_iald (pc := 30) G dX9_odds_30 hv30 ?_
      refine z_isub (pc := 31) G dX9_odds_31 ?_
      refine z_iload_n (pc := 32) G 1 dX9_odds_32 rfl rfl ?_
      obtain ⟨r33, hv33, hX⟩ := z_bd hX
      refine z_cSI (pc := 33) (As := [.int ((100 : Int32) - x30), .int l1]) (c2 := 0) (s2 := 0) G (lX9_power hO hv33) kt_1838 kt_11 kt_1836 kt_1837 ydX9_power ⟨by decide, by decide⟩ rfl (Nat.le_of_ble_eq_true rfl) ⟨rfl, rfl⟩ ⟨by decide, by decide⟩ rfl dX9_odds_33 ?_
      refine z_istore_n (pc := 36) (lv2 := [(0, .ref l0), (1, .int l1), (2, .int l2), (3, .int r33.1)]) G dX9_odds_36 rfl (by decide) rfl rfl ?_
      refine z_bipush (pc := 37) (v := 100) G dX9_odds_37 (by decide) ?_
      refine z_iload_n (pc := 39) G 1 dX9_odds_39 rfl rfl ?_
      obtain ⟨r40, hv40, hX⟩ := z_bd hX
      refine z_cSI (pc := 40) (As := [.int (100 : Int32), .int l1]) (c2 := 0) (s2 := 0) G (lX9_power hO hv40) kt_1838 kt_11 kt_1836 kt_1837 ydX9_power ⟨by decide, by decide⟩ rfl (Nat.le_of_ble_eq_true rfl) ⟨rfl, rfl⟩ ⟨by decide, by decide⟩ rfl dX9_odds_40 ?_
      refine z_istore (pc := 43) (lv2 := [(0, .ref l0), (1, .int l1), (2, .int l2), (3, .int r33.1), (4, .int r40.1)]) G dX9_odds_43 (by decide) rfl rfl ?_
      refine z_iload_n (pc := 45) G 2 dX9_odds_45 rfl rfl ?_
      refine z_if_ne (pc := 46) (tgt := 53) G dX9_odds_46 (by decide) (fun hc46 => ?_) (fun hc46 => ?_)
      · have hX := z_if hc46 hX
        refine z_iload (pc := 53) G 4 dX9_odds_53 rfl ?_
        refine z_iload (pc := 55) G 4 dX9_odds_55 rfl ?_
        refine z_iload_n (pc := 57) G 3 dX9_odds_57 rfl rfl ?_
        obtain ⟨r58, hv58, hX⟩ := z_bd hX
        refine z_cSI (pc := 58) (As := [.int r40.1, .int r33.1]) (c2 := 0) (s2 := 0) G (lX9_divisor hO hv58) kt_1884 kt_11 kt_1882 kt_1883 ydX9_divisor ⟨by decide, by decide⟩ rfl (Nat.le_of_ble_eq_true rfl) ⟨rfl, rfl⟩ ⟨by decide, by decide⟩ rfl dX9_odds_58 ?_
        obtain ⟨hn61, hX⟩ := z_ng hX
        refine z_idiv (pc := 61) G dX9_odds_61 hn61 ?_
        exact z_iretX (pc := 62) hX G hr dX9_odds_62 (by decide) (by decide)
      · have hX := z_it hc46 hX
        refine z_iload_n (pc := 49) G 3 dX9_odds_49 rfl rfl ?_
        refine z_goto (pc := 50) (tgt := 55) G dX9_odds_50 (by decide) ?_
        refine z_iload (pc := 55) G 4 dX9_odds_55 rfl ?_
        refine z_iload_n (pc := 57) G 3 dX9_odds_57 rfl rfl ?_
        obtain ⟨r58, hv58, hX⟩ := z_bd hX
        refine z_cSI (pc := 58) (As := [.int r40.1, .int r33.1]) (c2 := 0) (s2 := 0) G (lX9_divisor hO hv58) kt_1884 kt_11 kt_1882 kt_1883 ydX9_divisor ⟨by decide, by decide⟩ rfl (Nat.le_of_ble_eq_true rfl) ⟨rfl, rfl⟩ ⟨by decide, by decide⟩ rfl dX9_odds_58 ?_
        obtain ⟨hn61, hX⟩ := z_ng hX
        refine z_idiv (pc := 61) G dX9_odds_61 hn61 ?_
        exact z_iretX (pc := 62) hX G hr dX9_odds_62 (by decide) (by decide)
    · have hX := z_it hc15 hX
      refine z_iconst (pc := 18) (v := (-1)) G dX9_odds_18 (by decide) ?_
      exact z_iretX (pc := 19) hX G hr dX9_odds_19 (by decide) (by decide)
theorem dX9_seen_0 : decode cX9_seen 0 = .ok (.iload_n 1, 1) := by decide +kernel
theorem dX9_seen_1 : decode cX9_seen 1 = .ok (.iconst 0, 1) := by decide +kernel
theorem dX9_seen_2 : decode cX9_seen 2 = .ok (.bipush 40, 2) := by decide +kernel
theorem dX9_seen_4 : decode cX9_seen 4 = .ok (.invokestatic 340, 3) := by decide +kernel
theorem dX9_seen_7 : decode cX9_seen 7 = .ok (.ifCond .eq 26, 3) := by decide +kernel
theorem dX9_seen_10 : decode cX9_seen 10 = .ok (.iload_n 2, 1) := by decide +kernel
theorem dX9_seen_11 : decode cX9_seen 11 = .ok (.iconst 0, 1) := by decide +kernel
theorem dX9_seen_12 : decode cX9_seen 12 = .ok (.aload_n 0, 1) := by decide +kernel
theorem dX9_seen_13 : decode cX9_seen 13 = .ok (.invokevirtual 337, 3) := by decide +kernel
theorem dX9_seen_16 : decode cX9_seen 16 = .ok (.iconst 2, 1) := by decide +kernel
theorem dX9_seen_17 : decode cX9_seen 17 = .ok (.isub, 1) := by decide +kernel
theorem dX9_seen_18 : decode cX9_seen 18 = .ok (.invokestatic 340, 3) := by decide +kernel
theorem dX9_seen_21 : decode cX9_seen 21 = .ok (.ifCond .eq 12, 3) := by decide +kernel
theorem dX9_seen_24 : decode cX9_seen 24 = .ok (.aload_n 0, 1) := by decide +kernel
theorem dX9_seen_25 : decode cX9_seen 25 = .ok (.getfield 377, 3) := by decide +kernel
theorem dX9_seen_28 : decode cX9_seen 28 = .ok (.bipush 30, 2) := by decide +kernel
theorem dX9_seen_30 : decode cX9_seen 30 = .ok (.if_icmp .ne 5, 3) := by decide +kernel
theorem dX9_seen_33 : decode cX9_seen 33 = .ok (.iconst (-1), 1) := by decide +kernel
theorem dX9_seen_34 : decode cX9_seen 34 = .ok (.ireturn, 1) := by decide +kernel
theorem dX9_seen_35 : decode cX9_seen 35 = .ok (.aload_n 0, 1) := by decide +kernel
theorem dX9_seen_36 : decode cX9_seen 36 = .ok (.getfield 115, 3) := by decide +kernel
theorem dX9_seen_39 : decode cX9_seen 39 = .ok (.aload_n 0, 1) := by decide +kernel
theorem dX9_seen_40 : decode cX9_seen 40 = .ok (.getfield 377, 3) := by decide +kernel
theorem dX9_seen_43 : decode cX9_seen 43 = .ok (.iload_n 1, 1) := by decide +kernel
theorem dX9_seen_44 : decode cX9_seen 44 = .ok (.iastore, 1) := by decide +kernel
theorem dX9_seen_45 : decode cX9_seen 45 = .ok (.aload_n 0, 1) := by decide +kernel
theorem dX9_seen_46 : decode cX9_seen 46 = .ok (.getfield 118, 3) := by decide +kernel
theorem dX9_seen_49 : decode cX9_seen 49 = .ok (.aload_n 0, 1) := by decide +kernel
theorem dX9_seen_50 : decode cX9_seen 50 = .ok (.getfield 377, 3) := by decide +kernel
theorem dX9_seen_53 : decode cX9_seen 53 = .ok (.iload_n 2, 1) := by decide +kernel
theorem dX9_seen_54 : decode cX9_seen 54 = .ok (.iastore, 1) := by decide +kernel
theorem dX9_seen_55 : decode cX9_seen 55 = .ok (.aload_n 0, 1) := by decide +kernel
theorem dX9_seen_56 : decode cX9_seen 56 = .ok (.getfield 121, 3) := by decide +kernel
theorem dX9_seen_59 : decode cX9_seen 59 = .ok (.aload_n 0, 1) := by decide +kernel
theorem dX9_seen_60 : decode cX9_seen 60 = .ok (.getfield 377, 3) := by decide +kernel
theorem dX9_seen_63 : decode cX9_seen 63 = .ok (.iload_n 3, 1) := by decide +kernel
theorem dX9_seen_64 : decode cX9_seen 64 = .ok (.ifCond .eq 7, 3) := by decide +kernel
theorem dX9_seen_67 : decode cX9_seen 67 = .ok (.iconst 1, 1) := by decide +kernel
theorem dX9_seen_68 : decode cX9_seen 68 = .ok (.goto 4, 3) := by decide +kernel
theorem dX9_seen_71 : decode cX9_seen 71 = .ok (.iconst 0, 1) := by decide +kernel
theorem dX9_seen_72 : decode cX9_seen 72 = .ok (.iastore, 1) := by decide +kernel
theorem dX9_seen_73 : decode cX9_seen 73 = .ok (.aload_n 0, 1) := by decide +kernel
theorem dX9_seen_74 : decode cX9_seen 74 = .ok (.getfield 124, 3) := by decide +kernel
theorem dX9_seen_77 : decode cX9_seen 77 = .ok (.aload_n 0, 1) := by decide +kernel
theorem dX9_seen_78 : decode cX9_seen 78 = .ok (.getfield 377, 3) := by decide +kernel
theorem dX9_seen_81 : decode cX9_seen 81 = .ok (.aload_n 0, 1) := by decide +kernel
theorem dX9_seen_82 : decode cX9_seen 82 = .ok (.getfield 504, 3) := by decide +kernel
theorem dX9_seen_85 : decode cX9_seen 85 = .ok (.iastore, 1) := by decide +kernel
theorem dX9_seen_86 : decode cX9_seen 86 = .ok (.aload_n 0, 1) := by decide +kernel
theorem dX9_seen_87 : decode cX9_seen 87 = .ok (.getfield 127, 3) := by decide +kernel
theorem dX9_seen_90 : decode cX9_seen 90 = .ok (.aload_n 0, 1) := by decide +kernel
theorem dX9_seen_91 : decode cX9_seen 91 = .ok (.getfield 377, 3) := by decide +kernel
theorem dX9_seen_94 : decode cX9_seen 94 = .ok (.iconst (-1), 1) := by decide +kernel
theorem dX9_seen_95 : decode cX9_seen 95 = .ok (.iastore, 1) := by decide +kernel
theorem dX9_seen_96 : decode cX9_seen 96 = .ok (.aload_n 0, 1) := by decide +kernel
theorem dX9_seen_97 : decode cX9_seen 97 = .ok (.dup, 1) := by decide +kernel
theorem dX9_seen_98 : decode cX9_seen 98 = .ok (.getfield 377, 3) := by decide +kernel
theorem dX9_seen_101 : decode cX9_seen 101 = .ok (.iconst 1, 1) := by decide +kernel
theorem dX9_seen_102 : decode cX9_seen 102 = .ok (.iadd, 1) := by decide +kernel
theorem dX9_seen_103 : decode cX9_seen 103 = .ok (.putfield 377, 3) := by decide +kernel
theorem dX9_seen_106 : decode cX9_seen 106 = .ok (.aload_n 0, 1) := by decide +kernel
theorem dX9_seen_107 : decode cX9_seen 107 = .ok (.getfield 377, 3) := by decide +kernel
theorem dX9_seen_110 : decode cX9_seen 110 = .ok (.iconst 1, 1) := by decide +kernel
theorem dX9_seen_111 : decode cX9_seen 111 = .ok (.isub, 1) := by decide +kernel
theorem dX9_seen_112 : decode cX9_seen 112 = .ok (.ireturn, 1) := by decide +kernel
theorem ydX9_seen : z_yd yX9_seen 3 := ⟨by decide, by decide, by decide +kernel⟩
abbrev rmX9_seen : Room := { frames := 1, cells := 0, slots := 0, locals := 22 }
noncomputable def xX9_seen_B72 (l0 : Nat) (s0 : Int32) (s1 : Int32) (s2 : Nat) (h : ZH) : Option (Int32 × ZH) := ((z_uI h s2 s1 s0).bind fun h72 => ((z_gR h72 l0 9 55).bind fun x74 => ((z_gI h72 l0 9 57).bind fun x78 => ((z_gI h72 l0 9 58).bind fun x82 => ((z_uI h72 x74 x78 x82).bind fun h85 => ((z_gR h85 l0 9 56).bind fun x87 => ((z_gI h85 l0 9 57).bind fun x91 => ((z_uI h85 x87 x91 (-1 : Int32)).bind fun h95 => ((z_gI h95 l0 9 57).bind fun x98 => ((z_sF h95 l0 9 57 (.int (x98 + (1 : Int32)))).bind fun h103 => ((z_gI h103 l0 9 57).bind fun x107 => some ((x107 - (1 : Int32)), h103))))))))))))
set_option maxHeartbeats 4000000 in
set_option maxRecDepth 100000 in
theorem wX9_seen_B72 {Γ : ZG} {p : Program} {l : Launch} {e : Env} {s : State} {m : MethodId} {args : Array Value} {below : List Frame} {meth : Method} {c : Code} (hO : z_OK Γ) (G : z_GG Γ p s m args meth c cX9_seen 4 RX9) (hr : meth.sig.returnType = (some .int)) (hnm : meth.name = "seen") {r : (Int32 × ZH)} : ∀ (l0 : Nat) (s0 : Int32) (s1 : Int32) (s2 : Nat) (h : ZH), xX9_seen_B72  l0 s0 s1 s2 h = some r → z_W Γ p l e rmX9_seen s m args below meth c 4 0 0 (MQ below (z_Qc Γ (some (.int r.1)) r.2) args s rmX9_seen.cells rmX9_seen.slots (z_A Γ)) 72 [(0, .ref l0)] [.int s0, .int s1, .ref s2] h := by
  intro l0 s0 s1 s2 h hX
  obtain ⟨h72, hv72, hX⟩ := z_bd hX
  refine z_iast (pc := 72) G dX9_seen_72 hv72 ?_
  refine z_aload_n (pc := 73) G 0 dX9_seen_73 rfl rfl ?_
  obtain ⟨x74, hv74, hX⟩ := z_bd hX
  refine z_getR (pc := 74) G kK9 (k := 55) (by decide) kt_1281 dX9_seen_74 hv74 ?_
  refine z_aload_n (pc := 77) G 0 dX9_seen_77 rfl rfl ?_
  obtain ⟨x78, hv78, hX⟩ := z_bd hX
  refine z_getI (pc := 78) G kK9 (k := 57) (by decide) kt_1283 dX9_seen_78 hv78 ?_
  refine z_aload_n (pc := 81) G 0 dX9_seen_81 rfl rfl ?_
  obtain ⟨x82, hv82, hX⟩ := z_bd hX
  refine z_getI (pc := 82) G kK9 (k := 58) (by decide) kt_1284 dX9_seen_82 hv82 ?_
  obtain ⟨h85, hv85, hX⟩ := z_bd hX
  refine z_iast (pc := 85) G dX9_seen_85 hv85 ?_
  refine z_aload_n (pc := 86) G 0 dX9_seen_86 rfl rfl ?_
  obtain ⟨x87, hv87, hX⟩ := z_bd hX
  refine z_getR (pc := 87) G kK9 (k := 56) (by decide) kt_1282 dX9_seen_87 hv87 ?_
  refine z_aload_n (pc := 90) G 0 dX9_seen_90 rfl rfl ?_
  obtain ⟨x91, hv91, hX⟩ := z_bd hX
  refine z_getI (pc := 91) G kK9 (k := 57) (by decide) kt_1283 dX9_seen_91 hv91 ?_
  refine z_iconst (pc := 94) (v := (-1)) G dX9_seen_94 (by decide) ?_
  obtain ⟨h95, hv95, hX⟩ := z_bd hX
  refine z_iast (pc := 95) G dX9_seen_95 hv95 ?_
  refine z_aload_n (pc := 96) G 0 dX9_seen_96 rfl rfl ?_
  refine z_dup (pc := 97) G dX9_seen_97 rfl ?_
  obtain ⟨x98, hv98, hX⟩ := z_bd hX
  refine z_getI (pc := 98) G kK9 (k := 57) (by decide) kt_1283 dX9_seen_98 hv98 ?_
  refine z_iconst (pc := 101) (v := 1) G dX9_seen_101 (by decide) ?_
  refine z_iadd (pc := 102) G dX9_seen_102 ?_
  obtain ⟨h103, hv103, hX⟩ := z_bd hX
  refine z_putF (pc := 103) G kK9 (k := 57) (by decide) kt_1283 (Or.inl rfl) rfl rfl dX9_seen_103 hv103 ?_
  refine z_aload_n (pc := 106) G 0 dX9_seen_106 rfl rfl ?_
  obtain ⟨x107, hv107, hX⟩ := z_bd hX
  refine z_getI (pc := 107) G kK9 (k := 57) (by decide) kt_1283 dX9_seen_107 hv107 ?_
  refine z_iconst (pc := 110) (v := 1) G dX9_seen_110 (by decide) ?_
  refine z_isub (pc := 111) G dX9_seen_111 ?_
  exact z_iretX (pc := 112) hX G hr dX9_seen_112 (by decide) (by decide)
noncomputable def xX9_seen (l0 : Nat) (l1 : Int32) (l2 : Int32) (l3 : Int32) (h : ZH) : Option (Int32 × ZH) := ((xX9_isIn l1 (0 : Int32) (40 : Int32) h).bind fun r4 => (if r4.1 = 0 then some ((-1 : Int32), r4.2) else (z_gu (z_is r4.2 l0 9) ((xX9_lots l0 r4.2).bind fun r13 => ((xX9_isIn l2 (0 : Int32) (r13.1 - (2 : Int32)) r13.2).bind fun r18 => (if r18.1 = 0 then some ((-1 : Int32), r18.2) else ((z_gI r18.2 l0 9 57).bind fun x25 => (if x25 = (30 : Int32) then some ((-1 : Int32), r18.2) else ((z_gR r18.2 l0 9 52).bind fun x36 => ((z_gI r18.2 l0 9 57).bind fun x40 => ((z_uI r18.2 x36 x40 l1).bind fun h44 => ((z_gR h44 l0 9 53).bind fun x46 => ((z_gI h44 l0 9 57).bind fun x50 => ((z_uI h44 x46 x50 l2).bind fun h54 => ((z_gR h54 l0 9 54).bind fun x56 => ((z_gI h54 l0 9 57).bind fun x60 => (if l3 = 0 then xX9_seen_B72 l0 (0 : Int32) x60 x56 h54 else xX9_seen_B72 l0 (1 : Int32) x60 x56 h54)))))))))))))))))
set_option maxHeartbeats 4000000 in
set_option maxRecDepth 100000 in
theorem lX9_seen {Γ : ZG} {l : Launch} (hO : z_OK Γ) {l0 : Nat} {l1 : Int32} {l2 : Int32} {l3 : Int32} {h : ZH} {r : (Int32 × ZH)} (hX : xX9_seen l0 l1 l2 l3 h = some r) : z_M Γ l yX9_seen (z_ws1 yX9_seen cX9_seen 4 (some .int)) rmX9_seen [.ref l0, .int l1, .int l2, .int l3] h (some (.int r.1)) r.2 := by
  refine z_start hO (plainFor_of_name (by decide)) (Nat.le_of_ble_eq_true rfl) ?_
  intro p e s m args below meth c G hr hnm
  refine z_lvc (lv2 := [(0, .ref l0), (1, .int l1), (2, .int l2), (3, .int l3)]) rfl ?_
  refine z_iload_n (pc := 0) G 1 dX9_seen_0 rfl rfl ?_
  refine z_iconst (pc := 1) (v := 0) G dX9_seen_1 (by decide) ?_
  refine z_bipush (pc := 2) (v := 40) G dX9_seen_2 (by decide) ?_
  obtain ⟨r4, hv4, hX⟩ := z_bd hX
  refine z_cSI (pc := 4) (As := [.int l1, .int (0 : Int32), .int (40 : Int32)]) (c2 := 0) (s2 := 0) G (lX9_isIn hO hv4) kt_1559 kt_11 kt_1557 kt_1558 ydX9_isIn ⟨by decide, by decide⟩ rfl (Nat.le_of_ble_eq_true rfl) ⟨rfl, rfl⟩ ⟨by decide, by decide⟩ rfl dX9_seen_4 ?_
  refine z_if_eq (pc := 7) (tgt := 33) G dX9_seen_7 (by decide) (fun hc7 => ?_) (fun hc7 => ?_)
  · have hX := z_it hc7 hX
    refine z_iconst (pc := 33) (v := (-1)) G dX9_seen_33 (by decide) ?_
    exact z_iretX (pc := 34) hX G hr dX9_seen_34 (by decide) (by decide)
  · have hX := z_if hc7 hX
    refine z_iload_n (pc := 10) G 2 dX9_seen_10 rfl rfl ?_
    refine z_iconst (pc := 11) (v := 0) G dX9_seen_11 (by decide) ?_
    refine z_aload_n (pc := 12) G 0 dX9_seen_12 rfl rfl ?_
    obtain ⟨hi13, hX⟩ := z_gu_s hX
    obtain ⟨r13, hv13, hX⟩ := z_bd hX
    refine z_cVI (pc := 13) (As := []) (c2 := 0) (s2 := 0) G kK9 (lX9_lots hO hv13) hi13 kt_1221 kt_11 kt_1218 kt_1220 ks_36 ydX9_lots ⟨by decide, by decide⟩ rfl (Nat.le_of_ble_eq_true rfl) ⟨rfl, rfl⟩ ⟨by decide, by decide⟩ rfl dX9_seen_13 ?_
    refine z_iconst (pc := 16) (v := 2) G dX9_seen_16 (by decide) ?_
    refine z_isub (pc := 17) G dX9_seen_17 ?_
    obtain ⟨r18, hv18, hX⟩ := z_bd hX
    refine z_cSI (pc := 18) (As := [.int l2, .int (0 : Int32), .int (r13.1 - (2 : Int32))]) (c2 := 0) (s2 := 0) G (lX9_isIn hO hv18) kt_1559 kt_11 kt_1557 kt_1558 ydX9_isIn ⟨by decide, by decide⟩ rfl (Nat.le_of_ble_eq_true rfl) ⟨rfl, rfl⟩ ⟨by decide, by decide⟩ rfl dX9_seen_18 ?_
    refine z_if_eq (pc := 21) (tgt := 33) G dX9_seen_21 (by decide) (fun hc21 => ?_) (fun hc21 => ?_)
    · have hX := z_it hc21 hX
      refine z_iconst (pc := 33) (v := (-1)) G dX9_seen_33 (by decide) ?_
      exact z_iretX (pc := 34) hX G hr dX9_seen_34 (by decide) (by decide)
    · have hX := z_if hc21 hX
      refine z_aload_n (pc := 24) G 0 dX9_seen_24 rfl rfl ?_
      obtain ⟨x25, hv25, hX⟩ := z_bd hX
      refine z_getI (pc := 25) G kK9 (k := 57) (by decide) kt_1283 dX9_seen_25 hv25 ?_
      refine z_bipush (pc := 28) (v := 30) G dX9_seen_28 (by decide) ?_
      refine z_icmp_ne (pc := 30) (tgt := 35) G dX9_seen_30 (by decide) (fun hc30 => ?_) (fun hc30 => ?_)
      · have hX := z_if hc30 hX
        refine z_aload_n (pc := 35) G 0 dX9_seen_35 rfl rfl ?_
        obtain ⟨x36, hv36, hX⟩ := z_bd hX
        refine z_getR (pc := 36) G kK9 (k := 52) (by decide) kt_1278 dX9_seen_36 hv36 ?_
        refine z_aload_n (pc := 39) G 0 dX9_seen_39 rfl rfl ?_
        obtain ⟨x40, hv40, hX⟩ := z_bd hX
        refine z_getI (pc := 40) G kK9 (k := 57) (by decide) kt_1283 dX9_seen_40 hv40 ?_
        refine z_iload_n (pc := 43) G 1 dX9_seen_43 rfl rfl ?_
        obtain ⟨h44, hv44, hX⟩ := z_bd hX
        refine z_iast (pc := 44) G dX9_seen_44 hv44 ?_
        refine z_aload_n (pc := 45) G 0 dX9_seen_45 rfl rfl ?_
        obtain ⟨x46, hv46, hX⟩ := z_bd hX
        refine z_getR (pc := 46) G kK9 (k := 53) (by decide) kt_1279 dX9_seen_46 hv46 ?_
        refine z_aload_n (pc := 49) G 0 dX9_seen_49 rfl rfl ?_
        obtain ⟨x50, hv50, hX⟩ := z_bd hX
        refine z_getI (pc := 50) G kK9 (k := 57) (by decide) kt_1283 dX9_seen_50 hv50 ?_
        refine z_iload_n (pc := 53) G 2 dX9_seen_53 rfl rfl ?_
        obtain ⟨h54, hv54, hX⟩ := z_bd hX
        refine z_iast (pc := 54) G dX9_seen_54 hv54 ?_
        refine z_aload_n (pc := 55) G 0 dX9_seen_55 rfl rfl ?_
        obtain ⟨x56, hv56, hX⟩ := z_bd hX
        refine z_getR (pc := 56) G kK9 (k := 54) (by decide) kt_1280 dX9_seen_56 hv56 ?_
        refine z_aload_n (pc := 59) G 0 dX9_seen_59 rfl rfl ?_
        obtain ⟨x60, hv60, hX⟩ := z_bd hX
        refine z_getI (pc := 60) G kK9 (k := 57) (by decide) kt_1283 dX9_seen_60 hv60 ?_
        refine z_iload_n (pc := 63) G 3 dX9_seen_63 rfl rfl ?_
        refine z_if_eq (pc := 64) (tgt := 71) G dX9_seen_64 (by decide) (fun hc64 => ?_) (fun hc64 => ?_)
        · have hX := z_it hc64 hX
          refine z_iconst (pc := 71) (v := 0) G dX9_seen_71 (by decide) ?_
          refine z_drop (lv2 := [(0, .ref l0)]) [0] rfl ?_
          exact wX9_seen_B72 hO G hr hnm _ _ _ _ _ hX
        · have hX := z_if hc64 hX
          refine z_iconst (pc := 67) (v := 1) G dX9_seen_67 (by decide) ?_
          refine z_goto (pc := 68) (tgt := 72) G dX9_seen_68 (by decide) ?_
          refine z_drop (lv2 := [(0, .ref l0)]) [0] rfl ?_
          exact wX9_seen_B72 hO G hr hnm _ _ _ _ _ hX
      · have hX := z_it hc30 hX
        refine z_iconst (pc := 33) (v := (-1)) G dX9_seen_33 (by decide) ?_
        exact z_iretX (pc := 34) hX G hr dX9_seen_34 (by decide) (by decide)
theorem dX9_untell_0 : decode cX9_untell 0 = .ok (.iload_n 1, 1) := by decide +kernel
theorem dX9_untell_1 : decode cX9_untell 1 = .ok (.iconst 0, 1) := by decide +kernel
theorem dX9_untell_2 : decode cX9_untell 2 = .ok (.aload_n 0, 1) := by decide +kernel
theorem dX9_untell_3 : decode cX9_untell 3 = .ok (.getfield 377, 3) := by decide +kernel
theorem dX9_untell_6 : decode cX9_untell 6 = .ok (.iconst 1, 1) := by decide +kernel
theorem dX9_untell_7 : decode cX9_untell 7 = .ok (.isub, 1) := by decide +kernel
theorem dX9_untell_8 : decode cX9_untell 8 = .ok (.invokestatic 340, 3) := by decide +kernel
theorem dX9_untell_11 : decode cX9_untell 11 = .ok (.ifCond .eq 12, 3) := by decide +kernel
theorem dX9_untell_14 : decode cX9_untell 14 = .ok (.aload_n 0, 1) := by decide +kernel
theorem dX9_untell_15 : decode cX9_untell 15 = .ok (.getfield 127, 3) := by decide +kernel
theorem dX9_untell_18 : decode cX9_untell 18 = .ok (.iload_n 1, 1) := by decide +kernel
theorem dX9_untell_19 : decode cX9_untell 19 = .ok (.iaload, 1) := by decide +kernel
theorem dX9_untell_20 : decode cX9_untell 20 = .ok (.ifCond .lt 5, 3) := by decide +kernel
theorem dX9_untell_23 : decode cX9_untell 23 = .ok (.iconst 0, 1) := by decide +kernel
theorem dX9_untell_24 : decode cX9_untell 24 = .ok (.ireturn, 1) := by decide +kernel
theorem dX9_untell_25 : decode cX9_untell 25 = .ok (.aload_n 0, 1) := by decide +kernel
theorem dX9_untell_26 : decode cX9_untell 26 = .ok (.getfield 127, 3) := by decide +kernel
theorem dX9_untell_29 : decode cX9_untell 29 = .ok (.iload_n 1, 1) := by decide +kernel
theorem dX9_untell_30 : decode cX9_untell 30 = .ok (.aload_n 0, 1) := by decide +kernel
theorem dX9_untell_31 : decode cX9_untell 31 = .ok (.getfield 504, 3) := by decide +kernel
theorem dX9_untell_34 : decode cX9_untell 34 = .ok (.iastore, 1) := by decide +kernel
theorem dX9_untell_35 : decode cX9_untell 35 = .ok (.iconst 1, 1) := by decide +kernel
theorem dX9_untell_36 : decode cX9_untell 36 = .ok (.ireturn, 1) := by decide +kernel
theorem ydX9_untell : z_yd yX9_untell 1 := ⟨by decide, by decide, by decide +kernel⟩
abbrev rmX9_untell : Room := { frames := 1, cells := 0, slots := 0, locals := 22 }
noncomputable def xX9_untell (l0 : Nat) (l1 : Int32) (h : ZH) : Option (Int32 × ZH) := ((z_gI h l0 9 57).bind fun x3 => ((xX9_isIn l1 (0 : Int32) (x3 - (1 : Int32)) h).bind fun r8 => (if r8.1 = 0 then some ((0 : Int32), r8.2) else ((z_gR r8.2 l0 9 56).bind fun x15 => ((z_aI r8.2 x15 l1).bind fun x19 => (if x19 < 0 then ((z_gR r8.2 l0 9 56).bind fun x26 => ((z_gI r8.2 l0 9 58).bind fun x31 => ((z_uI r8.2 x26 l1 x31).bind fun h34 => some ((1 : Int32), h34)))) else some ((0 : Int32), r8.2)))))))
set_option maxHeartbeats 4000000 in
set_option maxRecDepth 100000 in
theorem lX9_untell {Γ : ZG} {l : Launch} (hO : z_OK Γ) {l0 : Nat} {l1 : Int32} {h : ZH} {r : (Int32 × ZH)} (hX : xX9_untell l0 l1 h = some r) : z_M Γ l yX9_untell (z_ws1 yX9_untell cX9_untell 2 (some .boolean)) rmX9_untell [.ref l0, .int l1] h (some (.int r.1)) r.2 := by
  refine z_start hO (plainFor_of_name (by decide)) (Nat.le_of_ble_eq_true rfl) ?_
  intro p e s m args below meth c G hr hnm
  refine z_lvc (lv2 := [(0, .ref l0), (1, .int l1)]) rfl ?_
  refine z_iload_n (pc := 0) G 1 dX9_untell_0 rfl rfl ?_
  refine z_iconst (pc := 1) (v := 0) G dX9_untell_1 (by decide) ?_
  refine z_aload_n (pc := 2) G 0 dX9_untell_2 rfl rfl ?_
  obtain ⟨x3, hv3, hX⟩ := z_bd hX
  refine z_getI (pc := 3) G kK9 (k := 57) (by decide) kt_1283 dX9_untell_3 hv3 ?_
  refine z_iconst (pc := 6) (v := 1) G dX9_untell_6 (by decide) ?_
  refine z_isub (pc := 7) G dX9_untell_7 ?_
  obtain ⟨r8, hv8, hX⟩ := z_bd hX
  refine z_cSI (pc := 8) (As := [.int l1, .int (0 : Int32), .int (x3 - (1 : Int32))]) (c2 := 0) (s2 := 0) G (lX9_isIn hO hv8) kt_1559 kt_11 kt_1557 kt_1558 ydX9_isIn ⟨by decide, by decide⟩ rfl (Nat.le_of_ble_eq_true rfl) ⟨rfl, rfl⟩ ⟨by decide, by decide⟩ rfl dX9_untell_8 ?_
  refine z_if_eq (pc := 11) (tgt := 23) G dX9_untell_11 (by decide) (fun hc11 => ?_) (fun hc11 => ?_)
  · have hX := z_it hc11 hX
    refine z_iconst (pc := 23) (v := 0) G dX9_untell_23 (by decide) ?_
    exact z_zretX (pc := 24) hX G hr rfl dX9_untell_24 (by decide) (by decide)
  · have hX := z_if hc11 hX
    refine z_aload_n (pc := 14) G 0 dX9_untell_14 rfl rfl ?_
    obtain ⟨x15, hv15, hX⟩ := z_bd hX
    refine z_getR (pc := 15) G kK9 (k := 56) (by decide) kt_1282 dX9_untell_15 hv15 ?_
    refine z_iload_n (pc := 18) G 1 dX9_untell_18 rfl rfl ?_
    obtain ⟨x19, hv19, hX⟩ := z_bd hX
    refine z_iald (pc := 19) G dX9_untell_19 hv19 ?_
    refine z_if_lt (pc := 20) (tgt := 25) G dX9_untell_20 (by decide) (fun hc20 => ?_) (fun hc20 => ?_)
    · have hX := z_it hc20 hX
      refine z_aload_n (pc := 25) G 0 dX9_untell_25 rfl rfl ?_
      obtain ⟨x26, hv26, hX⟩ := z_bd hX
      refine z_getR (pc := 26) G kK9 (k := 56) (by decide) kt_1282 dX9_untell_26 hv26 ?_
      refine z_iload_n (pc := 29) G 1 dX9_untell_29 rfl rfl ?_
      refine z_aload_n (pc := 30) G 0 dX9_untell_30 rfl rfl ?_
      obtain ⟨x31, hv31, hX⟩ := z_bd hX
      refine z_getI (pc := 31) G kK9 (k := 58) (by decide) kt_1284 dX9_untell_31 hv31 ?_
      obtain ⟨h34, hv34, hX⟩ := z_bd hX
      refine z_iast (pc := 34) G dX9_untell_34 hv34 ?_
      refine z_iconst (pc := 35) (v := 1) G dX9_untell_35 (by decide) ?_
      exact z_zretX (pc := 36) hX G hr rfl dX9_untell_36 (by decide) (by decide)
    · have hX := z_if hc20 hX
      refine z_iconst (pc := 23) (v := 0) G dX9_untell_23 (by decide) ?_
      exact z_zretX (pc := 24) hX G hr rfl dX9_untell_24 (by decide) (by decide)
theorem dX9_later_0 : decode cX9_later 0 = .ok (.iload_n 1, 1) := by decide +kernel
theorem dX9_later_1 : decode cX9_later 1 = .ok (.iconst 0, 1) := by decide +kernel
theorem dX9_later_2 : decode cX9_later 2 = .ok (.sipush 1000, 3) := by decide +kernel
theorem dX9_later_5 : decode cX9_later 5 = .ok (.invokestatic 340, 3) := by decide +kernel
theorem dX9_later_8 : decode cX9_later 8 = .ok (.ifCond .eq 15, 3) := by decide +kernel
theorem dX9_later_11 : decode cX9_later 11 = .ok (.aload_n 0, 1) := by decide +kernel
theorem dX9_later_12 : decode cX9_later 12 = .ok (.getfield 504, 3) := by decide +kernel
theorem dX9_later_15 : decode cX9_later 15 = .ok (.iload_n 1, 1) := by decide +kernel
theorem dX9_later_16 : decode cX9_later 16 = .ok (.iadd, 1) := by decide +kernel
theorem dX9_later_17 : decode cX9_later 17 = .ok (.ldc_w 507, 3) := by decide +kernel
theorem dX9_later_20 : decode cX9_later 20 = .ok (.if_icmp .le 5, 3) := by decide +kernel
theorem dX9_later_23 : decode cX9_later 23 = .ok (.iconst (-1), 1) := by decide +kernel
theorem dX9_later_24 : decode cX9_later 24 = .ok (.ireturn, 1) := by decide +kernel
theorem dX9_later_25 : decode cX9_later 25 = .ok (.aload_n 0, 1) := by decide +kernel
theorem dX9_later_26 : decode cX9_later 26 = .ok (.dup, 1) := by decide +kernel
theorem dX9_later_27 : decode cX9_later 27 = .ok (.getfield 504, 3) := by decide +kernel
theorem dX9_later_30 : decode cX9_later 30 = .ok (.iload_n 1, 1) := by decide +kernel
theorem dX9_later_31 : decode cX9_later 31 = .ok (.iadd, 1) := by decide +kernel
theorem dX9_later_32 : decode cX9_later 32 = .ok (.putfield 504, 3) := by decide +kernel
theorem dX9_later_35 : decode cX9_later 35 = .ok (.aload_n 0, 1) := by decide +kernel
theorem dX9_later_36 : decode cX9_later 36 = .ok (.getfield 504, 3) := by decide +kernel
theorem dX9_later_39 : decode cX9_later 39 = .ok (.ireturn, 1) := by decide +kernel
theorem ydX9_later : z_yd yX9_later 1 := ⟨by decide, by decide, by decide +kernel⟩
abbrev rmX9_later : Room := { frames := 1, cells := 0, slots := 0, locals := 22 }
noncomputable def xX9_later (l0 : Nat) (l1 : Int32) (h : ZH) : Option (Int32 × ZH) := ((xX9_isIn l1 (0 : Int32) (1000 : Int32) h).bind fun r5 => (if r5.1 = 0 then some ((-1 : Int32), r5.2) else ((z_gI r5.2 l0 9 58).bind fun x12 => (if (x12 + l1) ≤ (100000 : Int32) then ((z_gI r5.2 l0 9 58).bind fun x27 => ((z_sF r5.2 l0 9 58 (.int (x27 + l1))).bind fun h32 => ((z_gI h32 l0 9 58).bind fun x36 => some (x36, h32)))) else some ((-1 : Int32), r5.2)))))
set_option maxHeartbeats 4000000 in
set_option maxRecDepth 100000 in
theorem lX9_later {Γ : ZG} {l : Launch} (hO : z_OK Γ) {l0 : Nat} {l1 : Int32} {h : ZH} {r : (Int32 × ZH)} (hX : xX9_later l0 l1 h = some r) : z_M Γ l yX9_later (z_ws1 yX9_later cX9_later 2 (some .int)) rmX9_later [.ref l0, .int l1] h (some (.int r.1)) r.2 := by
  refine z_start hO (plainFor_of_name (by decide)) (Nat.le_of_ble_eq_true rfl) ?_
  intro p e s m args below meth c G hr hnm
  refine z_lvc (lv2 := [(0, .ref l0), (1, .int l1)]) rfl ?_
  refine z_iload_n (pc := 0) G 1 dX9_later_0 rfl rfl ?_
  refine z_iconst (pc := 1) (v := 0) G dX9_later_1 (by decide) ?_
  refine z_sipush (pc := 2) (v := 1000) G dX9_later_2 (by decide) ?_
  obtain ⟨r5, hv5, hX⟩ := z_bd hX
  refine z_cSI (pc := 5) (As := [.int l1, .int (0 : Int32), .int (1000 : Int32)]) (c2 := 0) (s2 := 0) G (lX9_isIn hO hv5) kt_1559 kt_11 kt_1557 kt_1558 ydX9_isIn ⟨by decide, by decide⟩ rfl (Nat.le_of_ble_eq_true rfl) ⟨rfl, rfl⟩ ⟨by decide, by decide⟩ rfl dX9_later_5 ?_
  refine z_if_eq (pc := 8) (tgt := 23) G dX9_later_8 (by decide) (fun hc8 => ?_) (fun hc8 => ?_)
  · have hX := z_it hc8 hX
    refine z_iconst (pc := 23) (v := (-1)) G dX9_later_23 (by decide) ?_
    exact z_iretX (pc := 24) hX G hr dX9_later_24 (by decide) (by decide)
  · have hX := z_if hc8 hX
    refine z_aload_n (pc := 11) G 0 dX9_later_11 rfl rfl ?_
    obtain ⟨x12, hv12, hX⟩ := z_bd hX
    refine z_getI (pc := 12) G kK9 (k := 58) (by decide) kt_1284 dX9_later_12 hv12 ?_
    refine z_iload_n (pc := 15) G 1 dX9_later_15 rfl rfl ?_
    refine z_iadd (pc := 16) G dX9_later_16 ?_
    refine z_ldcw (pc := 17) G kt_1897 dX9_later_17 ?_
    refine z_icmp_le (pc := 20) (tgt := 25) G dX9_later_20 (by decide) (fun hc20 => ?_) (fun hc20 => ?_)
    · have hX := z_it hc20 hX
      refine z_aload_n (pc := 25) G 0 dX9_later_25 rfl rfl ?_
      refine z_dup (pc := 26) G dX9_later_26 rfl ?_
      obtain ⟨x27, hv27, hX⟩ := z_bd hX
      refine z_getI (pc := 27) G kK9 (k := 58) (by decide) kt_1284 dX9_later_27 hv27 ?_
      refine z_iload_n (pc := 30) G 1 dX9_later_30 rfl rfl ?_
      refine z_iadd (pc := 31) G dX9_later_31 ?_
      obtain ⟨h32, hv32, hX⟩ := z_bd hX
      refine z_putF (pc := 32) G kK9 (k := 58) (by decide) kt_1284 (Or.inl rfl) rfl rfl dX9_later_32 hv32 ?_
      refine z_aload_n (pc := 35) G 0 dX9_later_35 rfl rfl ?_
      obtain ⟨x36, hv36, hX⟩ := z_bd hX
      refine z_getI (pc := 36) G kK9 (k := 58) (by decide) kt_1284 dX9_later_36 hv36 ?_
      exact z_iretX (pc := 39) hX G hr dX9_later_39 (by decide) (by decide)
    · have hX := z_if hc20 hX
      refine z_iconst (pc := 23) (v := (-1)) G dX9_later_23 (by decide) ?_
      exact z_iretX (pc := 24) hX G hr dX9_later_24 (by decide) (by decide)
theorem dX9_wasNear_0 : decode cX9_wasNear 0 = .ok (.bipush 6, 2) := by decide +kernel
theorem dX9_wasNear_2 : decode cX9_wasNear 2 = .ok (.aload_n 0, 1) := by decide +kernel
theorem dX9_wasNear_3 : decode cX9_wasNear 3 = .ok (.getfield 255, 3) := by decide +kernel
theorem dX9_wasNear_6 : decode cX9_wasNear 6 = .ok (.imul, 1) := by decide +kernel
theorem dX9_wasNear_7 : decode cX9_wasNear 7 = .ok (.iload_n 3, 1) := by decide +kernel
theorem dX9_wasNear_8 : decode cX9_wasNear 8 = .ok (.iadd, 1) := by decide +kernel
theorem dX9_wasNear_9 : decode cX9_wasNear 9 = .ok (.istore 4, 2) := by decide +kernel
theorem dX9_wasNear_11 : decode cX9_wasNear 11 = .ok (.bipush 6, 2) := by decide +kernel
theorem dX9_wasNear_13 : decode cX9_wasNear 13 = .ok (.aload_n 0, 1) := by decide +kernel
theorem dX9_wasNear_14 : decode cX9_wasNear 14 = .ok (.getfield 255, 3) := by decide +kernel
theorem dX9_wasNear_17 : decode cX9_wasNear 17 = .ok (.imul, 1) := by decide +kernel
theorem dX9_wasNear_18 : decode cX9_wasNear 18 = .ok (.aload_n 0, 1) := by decide +kernel
theorem dX9_wasNear_19 : decode cX9_wasNear 19 = .ok (.invokevirtual 337, 3) := by decide +kernel
theorem dX9_wasNear_22 : decode cX9_wasNear 22 = .ok (.iadd, 1) := by decide +kernel
theorem dX9_wasNear_23 : decode cX9_wasNear 23 = .ok (.iconst 1, 1) := by decide +kernel
theorem dX9_wasNear_24 : decode cX9_wasNear 24 = .ok (.isub, 1) := by decide +kernel
theorem dX9_wasNear_25 : decode cX9_wasNear 25 = .ok (.istore 5, 2) := by decide +kernel
theorem dX9_wasNear_27 : decode cX9_wasNear 27 = .ok (.aload_n 0, 1) := by decide +kernel
theorem dX9_wasNear_28 : decode cX9_wasNear 28 = .ok (.getfield 51, 3) := by decide +kernel
theorem dX9_wasNear_31 : decode cX9_wasNear 31 = .ok (.iload 4, 2) := by decide +kernel
theorem dX9_wasNear_33 : decode cX9_wasNear 33 = .ok (.iaload, 1) := by decide +kernel
theorem dX9_wasNear_34 : decode cX9_wasNear 34 = .ok (.iload_n 2, 1) := by decide +kernel
theorem dX9_wasNear_35 : decode cX9_wasNear 35 = .ok (.aload_n 0, 1) := by decide +kernel
theorem dX9_wasNear_36 : decode cX9_wasNear 36 = .ok (.getfield 57, 3) := by decide +kernel
theorem dX9_wasNear_39 : decode cX9_wasNear 39 = .ok (.iload 4, 2) := by decide +kernel
theorem dX9_wasNear_41 : decode cX9_wasNear 41 = .ok (.iaload, 1) := by decide +kernel
theorem dX9_wasNear_42 : decode cX9_wasNear 42 = .ok (.imul, 1) := by decide +kernel
theorem dX9_wasNear_43 : decode cX9_wasNear 43 = .ok (.iadd, 1) := by decide +kernel
theorem dX9_wasNear_44 : decode cX9_wasNear 44 = .ok (.bipush 100, 2) := by decide +kernel
theorem dX9_wasNear_46 : decode cX9_wasNear 46 = .ok (.irem, 1) := by decide +kernel
theorem dX9_wasNear_47 : decode cX9_wasNear 47 = .ok (.iload_n 1, 1) := by decide +kernel
theorem dX9_wasNear_48 : decode cX9_wasNear 48 = .ok (.iload_n 2, 1) := by decide +kernel
theorem dX9_wasNear_49 : decode cX9_wasNear 49 = .ok (.aload_n 0, 1) := by decide +kernel
theorem dX9_wasNear_50 : decode cX9_wasNear 50 = .ok (.getfield 57, 3) := by decide +kernel
theorem dX9_wasNear_53 : decode cX9_wasNear 53 = .ok (.iload 5, 2) := by decide +kernel
theorem dX9_wasNear_55 : decode cX9_wasNear 55 = .ok (.iaload, 1) := by decide +kernel
theorem dX9_wasNear_56 : decode cX9_wasNear 56 = .ok (.imul, 1) := by decide +kernel
theorem dX9_wasNear_57 : decode cX9_wasNear 57 = .ok (.iadd, 1) := by decide +kernel
theorem dX9_wasNear_58 : decode cX9_wasNear 58 = .ok (.bipush 100, 2) := by decide +kernel
theorem dX9_wasNear_60 : decode cX9_wasNear 60 = .ok (.irem, 1) := by decide +kernel
theorem dX9_wasNear_61 : decode cX9_wasNear 61 = .ok (.isub, 1) := by decide +kernel
theorem dX9_wasNear_62 : decode cX9_wasNear 62 = .ok (.invokestatic 350, 3) := by decide +kernel
theorem dX9_wasNear_65 : decode cX9_wasNear 65 = .ok (.istore 6, 2) := by decide +kernel
theorem dX9_wasNear_67 : decode cX9_wasNear 67 = .ok (.aload_n 0, 1) := by decide +kernel
theorem dX9_wasNear_68 : decode cX9_wasNear 68 = .ok (.getfield 54, 3) := by decide +kernel
theorem dX9_wasNear_71 : decode cX9_wasNear 71 = .ok (.iload 4, 2) := by decide +kernel
theorem dX9_wasNear_73 : decode cX9_wasNear 73 = .ok (.iaload, 1) := by decide +kernel
theorem dX9_wasNear_74 : decode cX9_wasNear 74 = .ok (.iload_n 2, 1) := by decide +kernel
theorem dX9_wasNear_75 : decode cX9_wasNear 75 = .ok (.aload_n 0, 1) := by decide +kernel
theorem dX9_wasNear_76 : decode cX9_wasNear 76 = .ok (.getfield 60, 3) := by decide +kernel
theorem dX9_wasNear_79 : decode cX9_wasNear 79 = .ok (.iload 4, 2) := by decide +kernel
theorem dX9_wasNear_81 : decode cX9_wasNear 81 = .ok (.iaload, 1) := by decide +kernel
theorem dX9_wasNear_82 : decode cX9_wasNear 82 = .ok (.imul, 1) := by decide +kernel
theorem dX9_wasNear_83 : decode cX9_wasNear 83 = .ok (.iadd, 1) := by decide +kernel
theorem dX9_wasNear_84 : decode cX9_wasNear 84 = .ok (.bipush 100, 2) := by decide +kernel
theorem dX9_wasNear_86 : decode cX9_wasNear 86 = .ok (.irem, 1) := by decide +kernel
theorem dX9_wasNear_87 : decode cX9_wasNear 87 = .ok (.aload_n 0, 1) := by decide +kernel
theorem dX9_wasNear_88 : decode cX9_wasNear 88 = .ok (.getfield 54, 3) := by decide +kernel
theorem dX9_wasNear_91 : decode cX9_wasNear 91 = .ok (.iload 5, 2) := by decide +kernel
theorem dX9_wasNear_93 : decode cX9_wasNear 93 = .ok (.iaload, 1) := by decide +kernel
theorem dX9_wasNear_94 : decode cX9_wasNear 94 = .ok (.iload_n 2, 1) := by decide +kernel
theorem dX9_wasNear_95 : decode cX9_wasNear 95 = .ok (.aload_n 0, 1) := by decide +kernel
theorem dX9_wasNear_96 : decode cX9_wasNear 96 = .ok (.getfield 60, 3) := by decide +kernel
theorem dX9_wasNear_99 : decode cX9_wasNear 99 = .ok (.iload 5, 2) := by decide +kernel
theorem dX9_wasNear_101 : decode cX9_wasNear 101 = .ok (.iaload, 1) := by decide +kernel
theorem dX9_wasNear_102 : decode cX9_wasNear 102 = .ok (.imul, 1) := by decide +kernel
theorem dX9_wasNear_103 : decode cX9_wasNear 103 = .ok (.iadd, 1) := by decide +kernel
theorem dX9_wasNear_104 : decode cX9_wasNear 104 = .ok (.bipush 100, 2) := by decide +kernel
theorem dX9_wasNear_106 : decode cX9_wasNear 106 = .ok (.irem, 1) := by decide +kernel
theorem dX9_wasNear_107 : decode cX9_wasNear 107 = .ok (.isub, 1) := by decide +kernel
theorem dX9_wasNear_108 : decode cX9_wasNear 108 = .ok (.invokestatic 350, 3) := by decide +kernel
theorem dX9_wasNear_111 : decode cX9_wasNear 111 = .ok (.istore 7, 2) := by decide +kernel
theorem dX9_wasNear_113 : decode cX9_wasNear 113 = .ok (.iload 6, 2) := by decide +kernel
theorem dX9_wasNear_115 : decode cX9_wasNear 115 = .ok (.iload 7, 2) := by decide +kernel
theorem dX9_wasNear_117 : decode cX9_wasNear 117 = .ok (.iadd, 1) := by decide +kernel
theorem dX9_wasNear_118 : decode cX9_wasNear 118 = .ok (.aload_n 0, 1) := by decide +kernel
theorem dX9_wasNear_119 : decode cX9_wasNear 119 = .ok (.getfield 27, 3) := by decide +kernel
theorem dX9_wasNear_122 : decode cX9_wasNear 122 = .ok (.aload_n 0, 1) := by decide +kernel
theorem dX9_wasNear_123 : decode cX9_wasNear 123 = .ok (.getfield 255, 3) := by decide +kernel
theorem dX9_wasNear_126 : decode cX9_wasNear 126 = .ok (.iaload, 1) := by decide +kernel
theorem dX9_wasNear_127 : decode cX9_wasNear 127 = .ok (.if_icmp .gt 7, 3) := by decide +kernel
theorem dX9_wasNear_130 : decode cX9_wasNear 130 = .ok (.iconst 1, 1) := by decide +kernel
theorem dX9_wasNear_131 : decode cX9_wasNear 131 = .ok (.goto 4, 3) := by decide +kernel
theorem dX9_wasNear_134 : decode cX9_wasNear 134 = .ok (.iconst 0, 1) := by decide +kernel
theorem dX9_wasNear_135 : decode cX9_wasNear 135 = .ok (.ireturn, 1) := by decide +kernel
theorem ydX9_wasNear : z_yd yX9_wasNear 3 := ⟨by decide, by decide, by decide +kernel⟩
abbrev rmX9_wasNear : Room := { frames := 1, cells := 0, slots := 0, locals := 20 }
noncomputable def xX9_wasNear (l0 : Nat) (l1 : Int32) (l2 : Int32) (l3 : Int32) (h : ZH) : Option (Int32 × ZH) := ((z_gI h l0 9 34).bind fun x3 => ((z_gI h l0 9 34).bind fun x14 => (z_gu (z_is h l0 9) ((xX9_lots l0 h).bind fun r19 => ((z_gR r19.2 l0 9 21).bind fun x28 => ((z_aI r19.2 x28 (((6 : Int32) * x3) + l3)).bind fun x33 => ((z_gR r19.2 l0 9 23).bind fun x36 => ((z_aI r19.2 x36 (((6 : Int32) * x3) + l3)).bind fun x41 => ((z_gR r19.2 l0 9 23).bind fun x50 => ((z_aI r19.2 x50 ((((6 : Int32) * x14) + r19.1) - (1 : Int32))).bind fun x55 => ((xX9_absolute (((x33 + (l2 * x41)) - (x33 + (l2 * x41)) / (100 : Int32) * (100 : Int32)) - ((l1 + (l2 * x55)) - (l1 + (l2 * x55)) / (100 : Int32) * (100 : Int32))) r19.2).bind fun r62 => ((z_gR r62.2 l0 9 22).bind fun x68 => ((z_aI r62.2 x68 (((6 : Int32) * x3) + l3)).bind fun x73 => ((z_gR r62.2 l0 9 24).bind fun x76 => ((z_aI r62.2 x76 (((6 : Int32) * x3) + l3)).bind fun x81 => ((z_gR r62.2 l0 9 22).bind fun x88 => ((z_aI r62.2 x88 ((((6 : Int32) * x14) + r19.1) - (1 : Int32))).bind fun x93 => ((z_gR r62.2 l0 9 24).bind fun x96 => ((z_aI r62.2 x96 ((((6 : Int32) * x14) + r19.1) - (1 : Int32))).bind fun x101 => ((xX9_absolute (((x73 + (l2 * x81)) - (x73 + (l2 * x81)) / (100 : Int32) * (100 : Int32)) - ((x93 + (l2 * x101)) - (x93 + (l2 * x101)) / (100 : Int32) * (100 : Int32))) r62.2).bind fun r108 => ((z_gR r108.2 l0 9 13).bind fun x119 => ((z_gI r108.2 l0 9 34).bind fun x123 => ((z_aI r108.2 x119 x123).bind fun x126 => (if x126 < (r62.1 + r108.1) then some ((0 : Int32), r108.2) else some ((1 : Int32), r108.2)))))))))))))))))))))))))
set_option maxHeartbeats 4000000 in
set_option maxRecDepth 100000 in
theorem lX9_wasNear {Γ : ZG} {l : Launch} (hO : z_OK Γ) {l0 : Nat} {l1 : Int32} {l2 : Int32} {l3 : Int32} {h : ZH} {r : (Int32 × ZH)} (hX : xX9_wasNear l0 l1 l2 l3 h = some r) : z_M Γ l yX9_wasNear (z_ws1 yX9_wasNear cX9_wasNear 8 (some .boolean)) rmX9_wasNear [.ref l0, .int l1, .int l2, .int l3] h (some (.int r.1)) r.2 := by
  refine z_start hO (plainFor_of_name (by decide)) (Nat.le_of_ble_eq_true rfl) ?_
  intro p e s m args below meth c G hr hnm
  refine z_lvc (lv2 := [(0, .ref l0), (1, .int l1), (2, .int l2), (3, .int l3)]) rfl ?_
  refine z_bipush (pc := 0) (v := 6) G dX9_wasNear_0 (by decide) ?_
  refine z_aload_n (pc := 2) G 0 dX9_wasNear_2 rfl rfl ?_
  obtain ⟨x3, hv3, hX⟩ := z_bd hX
  refine z_getI (pc := 3) G kK9 (k := 34) (by decide) kt_1260 dX9_wasNear_3 hv3 ?_
  refine z_imul (pc := 6) G dX9_wasNear_6 ?_
  refine z_iload_n (pc := 7) G 3 dX9_wasNear_7 rfl rfl ?_
  refine z_iadd (pc := 8) G dX9_wasNear_8 ?_
  refine z_istore (pc := 9) (lv2 := [(0, .ref l0), (1, .int l1), (2, .int l2), (3, .int l3), (4, .int (((6 : Int32) * x3) + l3))]) G dX9_wasNear_9 (by decide) rfl rfl ?_
  refine z_bipush (pc := 11) (v := 6) G dX9_wasNear_11 (by decide) ?_
  refine z_aload_n (pc := 13) G 0 dX9_wasNear_13 rfl rfl ?_
  obtain ⟨x14, hv14, hX⟩ := z_bd hX
  refine z_getI (pc := 14) G kK9 (k := 34) (by decide) kt_1260 dX9_wasNear_14 hv14 ?_
  refine z_imul (pc := 17) G dX9_wasNear_17 ?_
  refine z_aload_n (pc := 18) G 0 dX9_wasNear_18 rfl rfl ?_
  obtain ⟨hi19, hX⟩ := z_gu_s hX
  obtain ⟨r19, hv19, hX⟩ := z_bd hX
  refine z_cVI (pc := 19) (As := []) (c2 := 0) (s2 := 0) G kK9 (lX9_lots hO hv19) hi19 kt_1221 kt_11 kt_1218 kt_1220 ks_36 ydX9_lots ⟨by decide, by decide⟩ rfl (Nat.le_of_ble_eq_true rfl) ⟨rfl, rfl⟩ ⟨by decide, by decide⟩ rfl dX9_wasNear_19 ?_
  refine z_iadd (pc := 22) G dX9_wasNear_22 ?_
  refine z_iconst (pc := 23) (v := 1) G dX9_wasNear_23 (by decide) ?_
  refine z_isub (pc := 24) G dX9_wasNear_24 ?_
  refine z_istore (pc := 25) (lv2 := [(0, .ref l0), (1, .int l1), (2, .int l2), (3, .int l3), (4, .int (((6 : Int32) * x3) + l3)), (5, .int ((((6 : Int32) * x14) + r19.1) - (1 : Int32)))]) G dX9_wasNear_25 (by decide) rfl rfl ?_
  refine z_aload_n (pc := 27) G 0 dX9_wasNear_27 rfl rfl ?_
  obtain ⟨x28, hv28, hX⟩ := z_bd hX
  refine z_getR (pc := 28) G kK9 (k := 21) (by decide) kt_1247 dX9_wasNear_28 hv28 ?_
  refine z_iload (pc := 31) G 4 dX9_wasNear_31 rfl ?_
  obtain ⟨x33, hv33, hX⟩ := z_bd hX
  refine z_iald (pc := 33) G dX9_wasNear_33 hv33 ?_
  refine z_iload_n (pc := 34) G 2 dX9_wasNear_34 rfl rfl ?_
  refine z_aload_n (pc := 35) G 0 dX9_wasNear_35 rfl rfl ?_
  obtain ⟨x36, hv36, hX⟩ := z_bd hX
  refine z_getR (pc := 36) G kK9 (k := 23) (by decide) kt_1249 dX9_wasNear_36 hv36 ?_
  refine z_iload (pc := 39) G 4 dX9_wasNear_39 rfl ?_
  obtain ⟨x41, hv41, hX⟩ := z_bd hX
  refine z_iald (pc := 41) G dX9_wasNear_41 hv41 ?_
  refine z_imul (pc := 42) G dX9_wasNear_42 ?_
  refine z_iadd (pc := 43) G dX9_wasNear_43 ?_
  refine z_bipush (pc := 44) (v := 100) G dX9_wasNear_44 (by decide) ?_
  refine z_irem (pc := 46) G dX9_wasNear_46 (by decide) ?_
  refine z_iload_n (pc := 47) G 1 dX9_wasNear_47 rfl rfl ?_
  refine z_iload_n (pc := 48) G 2 dX9_wasNear_48 rfl rfl ?_
  refine z_aload_n (pc := 49) G 0 dX9_wasNear_49 rfl rfl ?_
  obtain ⟨x50, hv50, hX⟩ := z_bd hX
  refine z_getR (pc := 50) G kK9 (k := 23) (by decide) kt_1249 dX9_wasNear_50 hv50 ?_
  refine z_iload (pc := 53) G 5 dX9_wasNear_53 rfl ?_
  obtain ⟨x55, hv55, hX⟩ := z_bd hX
  refine z_iald (pc := 55) G dX9_wasNear_55 hv55 ?_
  refine z_imul (pc := 56) G dX9_wasNear_56 ?_
  refine z_iadd (pc := 57) G dX9_wasNear_57 ?_
  refine z_bipush (pc := 58) (v := 100) G dX9_wasNear_58 (by decide) ?_
  refine z_irem (pc := 60) G dX9_wasNear_60 (by decide) ?_
  refine z_isub (pc := 61) G dX9_wasNear_61 ?_
  obtain ⟨r62, hv62, hX⟩ := z_bd hX
  refine z_cSI (pc := 62) (As := [.int (((x33 + (l2 * x41)) - (x33 + (l2 * x41)) / (100 : Int32) * (100 : Int32)) - ((l1 + (l2 * x55)) - (l1 + (l2 * x55)) / (100 : Int32) * (100 : Int32)))]) (c2 := 0) (s2 := 0) G (lX9_absolute hO hv62) kt_1609 kt_11 kt_1607 kt_1608 ydX9_absolute ⟨by decide, by decide⟩ rfl (Nat.le_of_ble_eq_true rfl) ⟨rfl, rfl⟩ ⟨by decide, by decide⟩ rfl dX9_wasNear_62 ?_
  refine z_istore (pc := 65) (lv2 := [(0, .ref l0), (1, .int l1), (2, .int l2), (3, .int l3), (4, .int (((6 : Int32) * x3) + l3)), (5, .int ((((6 : Int32) * x14) + r19.1) - (1 : Int32))), (6, .int r62.1)]) G dX9_wasNear_65 (by decide) rfl rfl ?_
  refine z_aload_n (pc := 67) G 0 dX9_wasNear_67 rfl rfl ?_
  obtain ⟨x68, hv68, hX⟩ := z_bd hX
  refine z_getR (pc := 68) G kK9 (k := 22) (by decide) kt_1248 dX9_wasNear_68 hv68 ?_
  refine z_iload (pc := 71) G 4 dX9_wasNear_71 rfl ?_
  obtain ⟨x73, hv73, hX⟩ := z_bd hX
  refine z_iald (pc := 73) G dX9_wasNear_73 hv73 ?_
  refine z_iload_n (pc := 74) G 2 dX9_wasNear_74 rfl rfl ?_
  refine z_aload_n (pc := 75) G 0 dX9_wasNear_75 rfl rfl ?_
  obtain ⟨x76, hv76, hX⟩ := z_bd hX
  refine z_getR (pc := 76) G kK9 (k := 24) (by decide) kt_1250 dX9_wasNear_76 hv76 ?_
  refine z_iload (pc := 79) G 4 dX9_wasNear_79 rfl ?_
  obtain ⟨x81, hv81, hX⟩ := z_bd hX
  refine z_iald (pc := 81) G dX9_wasNear_81 hv81 ?_
  refine z_imul (pc := 82) G dX9_wasNear_82 ?_
  refine z_iadd (pc := 83) G dX9_wasNear_83 ?_
  refine z_bipush (pc := 84) (v := 100) G dX9_wasNear_84 (by decide) ?_
  refine z_irem (pc := 86) G dX9_wasNear_86 (by decide) ?_
  refine z_aload_n (pc := 87) G 0 dX9_wasNear_87 rfl rfl ?_
  obtain ⟨x88, hv88, hX⟩ := z_bd hX
  refine z_getR (pc := 88) G kK9 (k := 22) (by decide) kt_1248 dX9_wasNear_88 hv88 ?_
  refine z_iload (pc := 91) G 5 dX9_wasNear_91 rfl ?_
  obtain ⟨x93, hv93, hX⟩ := z_bd hX
  refine z_iald (pc := 93) G dX9_wasNear_93 hv93 ?_
  refine z_iload_n (pc := 94) G 2 dX9_wasNear_94 rfl rfl ?_
  refine z_aload_n (pc := 95) G 0 dX9_wasNear_95 rfl rfl ?_
  obtain ⟨x96, hv96, hX⟩ := z_bd hX
  refine z_getR (pc := 96) G kK9 (k := 24) (by decide) kt_1250 dX9_wasNear_96 hv96 ?_
  refine z_iload (pc := 99) G 5 dX9_wasNear_99 rfl ?_
  obtain ⟨x101, hv101, hX⟩ := z_bd hX
  refine z_iald (pc := 101) G dX9_wasNear_101 hv101 ?_
  refine z_imul (pc := 102) G dX9_wasNear_102 ?_
  refine z_iadd (pc := 103) G dX9_wasNear_103 ?_
  refine z_bipush (pc := 104) (v := 100) G dX9_wasNear_104 (by decide) ?_
  refine z_irem (pc := 106) G dX9_wasNear_106 (by decide) ?_
  refine z_isub (pc := 107) G dX9_wasNear_107 ?_
  obtain ⟨r108, hv108, hX⟩ := z_bd hX
  refine z_cSI (pc := 108) (As := [.int (((x73 + (l2 * x81)) - (x73 + (l2 * x81)) / (100 : Int32) * (100 : Int32)) - ((x93 + (l2 * x101)) - (x93 + (l2 * x101)) / (100 : Int32) * (100 : Int32)))]) (c2 := 0) (s2 := 0) G (lX9_absolute hO hv108) kt_1609 kt_11 kt_1607 kt_1608 ydX9_absolute ⟨by decide, by decide⟩ rfl (Nat.le_of_ble_eq_true rfl) ⟨rfl, rfl⟩ ⟨by decide, by decide⟩ rfl dX9_wasNear_108 ?_
  refine z_istore (pc := 111) (lv2 := [(0, .ref l0), (1, .int l1), (2, .int l2), (3, .int l3), (4, .int (((6 : Int32) * x3) + l3)), (5, .int ((((6 : Int32) * x14) + r19.1) - (1 : Int32))), (6, .int r62.1), (7, .int r108.1)]) G dX9_wasNear_111 (by decide) rfl rfl ?_
  refine z_iload (pc := 113) G 6 dX9_wasNear_113 rfl ?_
  refine z_iload (pc := 115) G 7 dX9_wasNear_115 rfl ?_
  refine z_iadd (pc := 117) G dX9_wasNear_117 ?_
  refine z_aload_n (pc := 118) G 0 dX9_wasNear_118 rfl rfl ?_
  obtain ⟨x119, hv119, hX⟩ := z_bd hX
  refine z_getR (pc := 119) G kK9 (k := 13) (by decide) kt_1239 dX9_wasNear_119 hv119 ?_
  refine z_aload_n (pc := 122) G 0 dX9_wasNear_122 rfl rfl ?_
  obtain ⟨x123, hv123, hX⟩ := z_bd hX
  refine z_getI (pc := 123) G kK9 (k := 34) (by decide) kt_1260 dX9_wasNear_123 hv123 ?_
  obtain ⟨x126, hv126, hX⟩ := z_bd hX
  refine z_iald (pc := 126) G dX9_wasNear_126 hv126 ?_
  refine z_icmp_gt (pc := 127) (tgt := 134) G dX9_wasNear_127 (by decide) (fun hc127 => ?_) (fun hc127 => ?_)
  · have hX := z_it hc127 hX
    refine z_iconst (pc := 134) (v := 0) G dX9_wasNear_134 (by decide) ?_
    exact z_zretX (pc := 135) hX G hr rfl dX9_wasNear_135 (by decide) (by decide)
  · have hX := z_if hc127 hX
    refine z_iconst (pc := 130) (v := 1) G dX9_wasNear_130 (by decide) ?_
    refine z_goto (pc := 131) (tgt := 135) G dX9_wasNear_131 (by decide) ?_
    exact z_zretX (pc := 135) hX G hr rfl dX9_wasNear_135 (by decide) (by decide)
