/-! fleet: what comes behind the reading -/
theorem inj_I {a b : ZS} {c ci k : Nat} (h : mkH a = mkH b) (h1 : z_gI (mkH a) c ci k = some (sI a c k)) (h2 : z_gI (mkH b) c ci k = some (sI b c k)) : sI a c k = sI b c k := by
  rw [h, h2] at h1
  exact (Option.some.inj h1).symm
theorem inj_F {a b : ZS} {c k : Nat} (h : mkH a = mkH b) (h1 : z_aI (mkH a) c (nI k) = some (sF a c k)) (h2 : z_aI (mkH b) c (nI k) = some (sF b c k)) : sF a c k = sF b c k := by
  rw [h, h2] at h1
  exact (Option.some.inj h1).symm
theorem inj_11 {a b : ZS} (h : mkH a = mkH b) : (∀ j, j < 7 → sI a 11 j = sI b 11 j) ∧ sI a 11 7 = sI b 11 7 ∧ sI a 11 8 = sI b 11 8 ∧ sI a 11 15 = sI b 11 15 ∧ sI a 10 1 = sI b 10 1 ∧ sI a 10 2 = sI b 10 2 := by
  refine ⟨fun j hj => ?_, inj_I h (rI_11_7 a) (rI_11_7 b), inj_I h (rI_11_8 a) (rI_11_8 b), inj_I h (rI_11_15 a) (rI_11_15 b), inj_I h (rI_10_1 a) (rI_10_1 b), inj_I h (rI_10_2 a) (rI_10_2 b)⟩
  rcases j7 hj with rfl | rfl | rfl | rfl | rfl | rfl | rfl
  · exact inj_I h (rI_11_0 a) (rI_11_0 b)
  · exact inj_I h (rI_11_1 a) (rI_11_1 b)
  · exact inj_I h (rI_11_2 a) (rI_11_2 b)
  · exact inj_I h (rI_11_3 a) (rI_11_3 b)
  · exact inj_I h (rI_11_4 a) (rI_11_4 b)
  · exact inj_I h (rI_11_5 a) (rI_11_5 b)
  · exact inj_I h (rI_11_6 a) (rI_11_6 b)
theorem inj_12 {a b : ZS} (h : mkH a = mkH b) : (∀ r s, r < 5 → s < 6 → sF a (12 + r) s = sF b (12 + r) s) ∧ ∀ i, i < 280 → sF a 17 i = sF b 17 i := by
  refine ⟨fun r s hr hs => ?_, fun i hi => inj_F h (ra_17 a hi) (ra_17 b hi)⟩
  have hx : r = 0 ∨ r = 1 ∨ r = 2 ∨ r = 3 ∨ r = 4 := by omega
  rcases hx with rfl | rfl | rfl | rfl | rfl
  · exact inj_F h (ra_12 a hs) (ra_12 b hs)
  · exact inj_F h (ra_13 a hs) (ra_13 b hs)
  · exact inj_F h (ra_14 a hs) (ra_14 b hs)
  · exact inj_F h (ra_15 a hs) (ra_15 b hs)
  · exact inj_F h (ra_16 a hs) (ra_16 b hs)
def cpI (s : ZS) : ZS := setI (setI (setI (setI (setI (setI (setI (setI (setI (setI s 21 0 (sI s 11 0)) 21 1 (sI s 11 1)) 21 2 (sI s 11 2)) 21 3 (sI s 11 3)) 21 4 (sI s 11 4)) 21 5 (sI s 11 5)) 21 6 (sI s 11 6)) 21 7 (sI s 11 7)) 21 8 (sI s 11 8)) 21 15 (sI s 11 15)
theorem cpI_V {s : ZS} : sI (cpI s) 21 0 = sI s 11 0 ∧ sI (cpI s) 21 1 = sI s 11 1 ∧ sI (cpI s) 21 2 = sI s 11 2 ∧ sI (cpI s) 21 3 = sI s 11 3 ∧ sI (cpI s) 21 4 = sI s 11 4 ∧ sI (cpI s) 21 5 = sI s 11 5 ∧ sI (cpI s) 21 6 = sI s 11 6 ∧ sI (cpI s) 21 7 = sI s 11 7 ∧ sI (cpI s) 21 8 = sI s 11 8 ∧ sI (cpI s) 21 15 = sI s 11 15 := by
  unfold cpI
  refine ⟨?_, ?_, ?_, ?_, ?_, ?_, ?_, ?_, ?_, ?_⟩ <;> simp [sI_setI]
theorem cpI_F {s : ZS} : FR (fun _ => False) (fun a _ => a = 21) s (cpI s) := by
  unfold cpI
  exact FR_t (FR_I rfl) (FR_t (FR_I rfl) (FR_t (FR_I rfl) (FR_t (FR_I rfl) (FR_t (FR_I rfl) (FR_t (FR_I rfl) (FR_t (FR_I rfl) (FR_t (FR_I rfl) (FR_t (FR_I rfl) (FR_I rfl)))))))))
theorem cp_r {s : ZS} {r : Nat} (hr : r < 5) : z_cp (mkH s) (12 + r) (22 + r) (6 : Int32) = some (mkH (setRow s (22 + r) (sF s (12 + r)))) := by
  have hx : r = 0 ∨ r = 1 ∨ r = 2 ∨ r = 3 ∨ r = 4 := by omega
  rcases hx with rfl | rfl | rfl | rfl | rfl <;> exact mk_cp (n := 6) (m := 6) (by decide) (by decide) rfl rfl (by decide) (by decide)
theorem cp_f {s : ZS} : z_cp (mkH s) 17 27 (280 : Int32) = some (mkH (setRow s 27 (sF s 17))) := mk_cp (n := 280) (m := 280) (by decide) (by decide) rfl rfl (by decide) (by decide)
theorem sR_eq {s : ZS} {a : Nat} {g : Nat → Int32} : sF (setRow s a g) a = g := by
  funext j
  show (if a = a then g j else sF s a j) = g j
  rw [if_pos rfl]
theorem sR_ne {s : ZS} {a b : Nat} {g : Nat → Int32} (h : b ≠ a) : sF (setRow s a g) b = sF s b := by
  funext j
  show (if b = a then g j else sF s b j) = sF s b j
  rw [if_neg h]
theorem c_cpP {s : ZS} : ∃ s', xX2_copy 21 11 (mkH s) = some (mkH s') ∧ (∀ k, sI s' 21 k = sI (cpI s) 21 k) ∧ (∀ r, r < 6 → sF s' (22 + r) = sF s (12 + r)) ∧ FR (fun a => 22 ≤ a ∧ a ≤ 27) (fun a _ => a = 21) s s' := by
  have hI : ∀ (q : ZS) k v j, sI (setI q 21 k v) 11 j = sI q 11 j := fun q k v j => sI_ne (by omega)
  have hF : ∀ a, sF (cpI s) a = sF s a := fun a => rfl
  have hu : xX2_copy 21 11 (mkH s) = some (mkH (setRow (setRow (setRow (setRow (setRow (setRow (cpI s) 22 (sF s 12)) 23 (sF s 13)) 24 (sF s 14)) 25 (sF s 15)) 26 (sF s 16)) 27 (sF s 17))) := by
    have c0 := cp_r (s := cpI s) (r := 0) (by omega)
    have c1 := cp_r (s := setRow (cpI s) 22 (sF s 12)) (r := 1) (by omega)
    have c2 := cp_r (s := setRow (setRow (cpI s) 22 (sF s 12)) 23 (sF s 13)) (r := 2) (by omega)
    have c3 := cp_r (s := setRow (setRow (setRow (cpI s) 22 (sF s 12)) 23 (sF s 13)) 24 (sF s 14)) (r := 3) (by omega)
    have c4 := cp_r (s := setRow (setRow (setRow (setRow (cpI s) 22 (sF s 12)) 23 (sF s 13)) 24 (sF s 14)) 25 (sF s 15)) (r := 4) (by omega)
    have c5 := cp_f (s := setRow (setRow (setRow (setRow (setRow (cpI s) 22 (sF s 12)) 23 (sF s 13)) 24 (sF s 14)) 25 (sF s 15)) 26 (sF s 16))
    rw [sR_ne (by omega), hF] at c1
    rw [sR_ne (by omega), sR_ne (by omega), hF] at c2
    rw [sR_ne (by omega), sR_ne (by omega), sR_ne (by omega), hF] at c3
    rw [sR_ne (by omega), sR_ne (by omega), sR_ne (by omega), sR_ne (by omega), hF] at c4
    rw [sR_ne (by omega), sR_ne (by omega), sR_ne (by omega), sR_ne (by omega), sR_ne (by omega), hF] at c5
    rw [hF] at c0
    unfold xX2_copy
    rw [rI_11_0, Option.bind_some, wI_21_0, Option.bind_some, rI_11_1, Option.bind_some, hI, wI_21_1, Option.bind_some]
    rw [rI_11_2, Option.bind_some, hI, hI, wI_21_2, Option.bind_some]
    rw [rI_11_3, Option.bind_some, hI, hI, hI, wI_21_3, Option.bind_some]
    rw [rI_11_4, Option.bind_some, hI, hI, hI, hI, wI_21_4, Option.bind_some]
    rw [rI_11_5, Option.bind_some, hI, hI, hI, hI, hI, wI_21_5, Option.bind_some]
    rw [rI_11_6, Option.bind_some, hI, hI, hI, hI, hI, hI, wI_21_6, Option.bind_some]
    rw [rI_11_7, Option.bind_some, hI, hI, hI, hI, hI, hI, hI, wI_21_7, Option.bind_some]
    rw [rI_11_8, Option.bind_some, hI, hI, hI, hI, hI, hI, hI, hI, wI_21_8, Option.bind_some]
    rw [rI_11_15, Option.bind_some, hI, hI, hI, hI, hI, hI, hI, hI, hI, wI_21_15, Option.bind_some]
    rw [show setI (setI (setI (setI (setI (setI (setI (setI (setI (setI s 21 0 (sI s 11 0)) 21 1 (sI s 11 1)) 21 2 (sI s 11 2)) 21 3 (sI s 11 3)) 21 4 (sI s 11 4)) 21 5 (sI s 11 5)) 21 6 (sI s 11 6)) 21 7 (sI s 11 7)) 21 8 (sI s 11 8)) 21 15 (sI s 11 15) = cpI s from rfl]
    generalize cpI s = w at *
    rw [rR_11_9, Option.bind_some, rR_21_9, Option.bind_some, c0, Option.bind_some, rR_11_10, Option.bind_some, rR_21_10, Option.bind_some, c1, Option.bind_some, rR_11_11, Option.bind_some, rR_21_11, Option.bind_some, c2, Option.bind_some, rR_11_12, Option.bind_some, rR_21_12, Option.bind_some, c3, Option.bind_some, rR_11_13, Option.bind_some, rR_21_13, Option.bind_some, c4, Option.bind_some, rR_11_14, Option.bind_some, rR_21_14, Option.bind_some, c5, Option.bind_some]
  refine ⟨_, hu, fun k => rfl, fun r hr => ?_, FR_t (FR_m cpI_F (fun _ z => z.elim) (fun _ _ z => z)) (FR_t (FR_R (by omega)) (FR_t (FR_R (by omega)) (FR_t (FR_R (by omega)) (FR_t (FR_R (by omega)) (FR_t (FR_R (by omega)) (FR_R (by omega)))))))⟩
  have hx : r = 0 ∨ r = 1 ∨ r = 2 ∨ r = 3 ∨ r = 4 ∨ r = 5 := by omega
  rcases hx with rfl | rfl | rfl | rfl | rfl | rfl
  · rw [sR_ne (by omega), sR_ne (by omega), sR_ne (by omega), sR_ne (by omega), sR_ne (by omega), sR_eq]
  · rw [sR_ne (by omega), sR_ne (by omega), sR_ne (by omega), sR_ne (by omega), sR_eq]
  · rw [sR_ne (by omega), sR_ne (by omega), sR_ne (by omega), sR_eq]
  · rw [sR_ne (by omega), sR_ne (by omega), sR_eq]
  · rw [sR_ne (by omega), sR_eq]
  · rw [sR_eq]
