/-! reads and writes of each cell of the store -/
theorem is_8 (σ : ZS) : z_is (mkH σ) 8 8 = true := mk_is (by decide) rfl
theorem rR_8_0 (σ : ZS) : z_gR (mkH σ) 8 8 0 = some 9 := mk_gR (by decide) rfl rfl (by decide)
theorem rI_8_1 (σ : ZS) : z_gI (mkH σ) 8 8 1 = some (sI σ 8 1) := mk_gI (by decide) rfl rfl
theorem wI_8_1 (σ : ZS) (v : Int32) : z_sF (mkH σ) 8 8 1 (.int v) = some (mkH (setI σ 8 1 v)) := mk_sI (by decide) rfl rfl
theorem rI_8_2 (σ : ZS) : z_gI (mkH σ) 8 8 2 = some (sI σ 8 2) := mk_gI (by decide) rfl rfl
theorem wI_8_2 (σ : ZS) (v : Int32) : z_sF (mkH σ) 8 8 2 (.int v) = some (mkH (setI σ 8 2 v)) := mk_sI (by decide) rfl rfl
theorem rI_8_3 (σ : ZS) : z_gI (mkH σ) 8 8 3 = some (sI σ 8 3) := mk_gI (by decide) rfl rfl
theorem wI_8_3 (σ : ZS) (v : Int32) : z_sF (mkH σ) 8 8 3 (.int v) = some (mkH (setI σ 8 3 v)) := mk_sI (by decide) rfl rfl
theorem rR_8_4 (σ : ZS) : z_gR (mkH σ) 8 8 4 = some 10 := mk_gR (by decide) rfl rfl (by decide)
theorem rR_8_5 (σ : ZS) : z_gR (mkH σ) 8 8 5 = some 21 := mk_gR (by decide) rfl rfl (by decide)
theorem rR_8_7 (σ : ZS) : z_gR (mkH σ) 8 8 7 = some 42 := mk_gR (by decide) rfl rfl (by decide)
theorem rR_8_8 (σ : ZS) : z_gR (mkH σ) 8 8 8 = some 55 := mk_gR (by decide) rfl rfl (by decide)
theorem rR_8_9 (σ : ZS) : z_gR (mkH σ) 8 8 9 = some 57 := mk_gR (by decide) rfl rfl (by decide)
theorem rR_8_10 (σ : ZS) : z_gR (mkH σ) 8 8 10 = some 62 := mk_gR (by decide) rfl rfl (by decide)
theorem rR_8_11 (σ : ZS) : z_gR (mkH σ) 8 8 11 = some 66 := mk_gR (by decide) rfl rfl (by decide)
theorem rR_8_12 (σ : ZS) : z_gR (mkH σ) 8 8 12 = some 68 := mk_gR (by decide) rfl rfl (by decide)
theorem rR_8_13 (σ : ZS) : z_gR (mkH σ) 8 8 13 = some 75 := mk_gR (by decide) rfl rfl (by decide)
theorem rR_8_14 (σ : ZS) : z_gR (mkH σ) 8 8 14 = some 76 := mk_gR (by decide) rfl rfl (by decide)
theorem rR_8_15 (σ : ZS) : z_gR (mkH σ) 8 8 15 = some 77 := mk_gR (by decide) rfl rfl (by decide)
theorem rI_8_16 (σ : ZS) : z_gI (mkH σ) 8 8 16 = some (sI σ 8 16) := mk_gI (by decide) rfl rfl
theorem wI_8_16 (σ : ZS) (v : Int32) : z_sF (mkH σ) 8 8 16 (.int v) = some (mkH (setI σ 8 16 v)) := mk_sI (by decide) rfl rfl
theorem rI_8_17 (σ : ZS) : z_gI (mkH σ) 8 8 17 = some (sI σ 8 17) := mk_gI (by decide) rfl rfl
theorem wI_8_17 (σ : ZS) (v : Int32) : z_sF (mkH σ) 8 8 17 (.int v) = some (mkH (setI σ 8 17 v)) := mk_sI (by decide) rfl rfl
theorem is_10 (σ : ZS) : z_is (mkH σ) 10 3 = true := mk_is (by decide) rfl
theorem rR_10_0 (σ : ZS) : z_gR (mkH σ) 10 3 0 = some 11 := mk_gR (by decide) rfl rfl (by decide)
theorem rI_10_1 (σ : ZS) : z_gI (mkH σ) 10 3 1 = some (sI σ 10 1) := mk_gI (by decide) rfl rfl
theorem wI_10_1 (σ : ZS) (v : Int32) : z_sF (mkH σ) 10 3 1 (.int v) = some (mkH (setI σ 10 1 v)) := mk_sI (by decide) rfl rfl
theorem rI_10_2 (σ : ZS) : z_gI (mkH σ) 10 3 2 = some (sI σ 10 2) := mk_gI (by decide) rfl rfl
theorem wI_10_2 (σ : ZS) (v : Int32) : z_sF (mkH σ) 10 3 2 (.int v) = some (mkH (setI σ 10 2 v)) := mk_sI (by decide) rfl rfl
theorem rI_10_4 (σ : ZS) : z_gI (mkH σ) 10 3 4 = some (sI σ 10 4) := mk_gI (by decide) rfl rfl
theorem wI_10_4 (σ : ZS) (v : Int32) : z_sF (mkH σ) 10 3 4 (.int v) = some (mkH (setI σ 10 4 v)) := mk_sI (by decide) rfl rfl
theorem rI_10_5 (σ : ZS) : z_gI (mkH σ) 10 3 5 = some (sI σ 10 5) := mk_gI (by decide) rfl rfl
theorem wI_10_5 (σ : ZS) (v : Int32) : z_sF (mkH σ) 10 3 5 (.int v) = some (mkH (setI σ 10 5 v)) := mk_sI (by decide) rfl rfl
theorem rI_10_6 (σ : ZS) : z_gI (mkH σ) 10 3 6 = some (sI σ 10 6) := mk_gI (by decide) rfl rfl
theorem wI_10_6 (σ : ZS) (v : Int32) : z_sF (mkH σ) 10 3 6 (.int v) = some (mkH (setI σ 10 6 v)) := mk_sI (by decide) rfl rfl
theorem rI_10_7 (σ : ZS) : z_gI (mkH σ) 10 3 7 = some (sI σ 10 7) := mk_gI (by decide) rfl rfl
theorem wI_10_7 (σ : ZS) (v : Int32) : z_sF (mkH σ) 10 3 7 (.int v) = some (mkH (setI σ 10 7 v)) := mk_sI (by decide) rfl rfl
theorem rI_10_8 (σ : ZS) : z_gI (mkH σ) 10 3 8 = some (sI σ 10 8) := mk_gI (by decide) rfl rfl
theorem wI_10_8 (σ : ZS) (v : Int32) : z_sF (mkH σ) 10 3 8 (.int v) = some (mkH (setI σ 10 8 v)) := mk_sI (by decide) rfl rfl
theorem rI_10_9 (σ : ZS) : z_gI (mkH σ) 10 3 9 = some (sI σ 10 9) := mk_gI (by decide) rfl rfl
theorem wI_10_9 (σ : ZS) (v : Int32) : z_sF (mkH σ) 10 3 9 (.int v) = some (mkH (setI σ 10 9 v)) := mk_sI (by decide) rfl rfl
theorem rI_10_10 (σ : ZS) : z_gI (mkH σ) 10 3 10 = some (sI σ 10 10) := mk_gI (by decide) rfl rfl
theorem wI_10_10 (σ : ZS) (v : Int32) : z_sF (mkH σ) 10 3 10 (.int v) = some (mkH (setI σ 10 10 v)) := mk_sI (by decide) rfl rfl
theorem rR_10_11 (σ : ZS) : z_gR (mkH σ) 10 3 11 = some 19 := mk_gR (by decide) rfl rfl (by decide)
theorem rR_10_12 (σ : ZS) : z_gR (mkH σ) 10 3 12 = some 20 := mk_gR (by decide) rfl rfl (by decide)
theorem is_11 (σ : ZS) : z_is (mkH σ) 11 2 = true := mk_is (by decide) rfl
theorem rI_11_0 (σ : ZS) : z_gI (mkH σ) 11 2 0 = some (sI σ 11 0) := mk_gI (by decide) rfl rfl
theorem wI_11_0 (σ : ZS) (v : Int32) : z_sF (mkH σ) 11 2 0 (.int v) = some (mkH (setI σ 11 0 v)) := mk_sI (by decide) rfl rfl
theorem rI_11_1 (σ : ZS) : z_gI (mkH σ) 11 2 1 = some (sI σ 11 1) := mk_gI (by decide) rfl rfl
theorem wI_11_1 (σ : ZS) (v : Int32) : z_sF (mkH σ) 11 2 1 (.int v) = some (mkH (setI σ 11 1 v)) := mk_sI (by decide) rfl rfl
theorem rI_11_2 (σ : ZS) : z_gI (mkH σ) 11 2 2 = some (sI σ 11 2) := mk_gI (by decide) rfl rfl
theorem wI_11_2 (σ : ZS) (v : Int32) : z_sF (mkH σ) 11 2 2 (.int v) = some (mkH (setI σ 11 2 v)) := mk_sI (by decide) rfl rfl
theorem rI_11_3 (σ : ZS) : z_gI (mkH σ) 11 2 3 = some (sI σ 11 3) := mk_gI (by decide) rfl rfl
theorem wI_11_3 (σ : ZS) (v : Int32) : z_sF (mkH σ) 11 2 3 (.int v) = some (mkH (setI σ 11 3 v)) := mk_sI (by decide) rfl rfl
theorem rI_11_4 (σ : ZS) : z_gI (mkH σ) 11 2 4 = some (sI σ 11 4) := mk_gI (by decide) rfl rfl
theorem wI_11_4 (σ : ZS) (v : Int32) : z_sF (mkH σ) 11 2 4 (.int v) = some (mkH (setI σ 11 4 v)) := mk_sI (by decide) rfl rfl
theorem rI_11_5 (σ : ZS) : z_gI (mkH σ) 11 2 5 = some (sI σ 11 5) := mk_gI (by decide) rfl rfl
theorem wI_11_5 (σ : ZS) (v : Int32) : z_sF (mkH σ) 11 2 5 (.int v) = some (mkH (setI σ 11 5 v)) := mk_sI (by decide) rfl rfl
theorem rI_11_6 (σ : ZS) : z_gI (mkH σ) 11 2 6 = some (sI σ 11 6) := mk_gI (by decide) rfl rfl
theorem wI_11_6 (σ : ZS) (v : Int32) : z_sF (mkH σ) 11 2 6 (.int v) = some (mkH (setI σ 11 6 v)) := mk_sI (by decide) rfl rfl
theorem rI_11_7 (σ : ZS) : z_gI (mkH σ) 11 2 7 = some (sI σ 11 7) := mk_gI (by decide) rfl rfl
theorem wI_11_7 (σ : ZS) (v : Int32) : z_sF (mkH σ) 11 2 7 (.int v) = some (mkH (setI σ 11 7 v)) := mk_sI (by decide) rfl rfl
theorem rI_11_8 (σ : ZS) : z_gI (mkH σ) 11 2 8 = some (sI σ 11 8) := mk_gI (by decide) rfl rfl
theorem wI_11_8 (σ : ZS) (v : Int32) : z_sF (mkH σ) 11 2 8 (.int v) = some (mkH (setI σ 11 8 v)) := mk_sI (by decide) rfl rfl
theorem rR_11_9 (σ : ZS) : z_gR (mkH σ) 11 2 9 = some 12 := mk_gR (by decide) rfl rfl (by decide)
theorem rR_11_10 (σ : ZS) : z_gR (mkH σ) 11 2 10 = some 13 := mk_gR (by decide) rfl rfl (by decide)
theorem rR_11_11 (σ : ZS) : z_gR (mkH σ) 11 2 11 = some 14 := mk_gR (by decide) rfl rfl (by decide)
theorem rR_11_12 (σ : ZS) : z_gR (mkH σ) 11 2 12 = some 15 := mk_gR (by decide) rfl rfl (by decide)
theorem rR_11_13 (σ : ZS) : z_gR (mkH σ) 11 2 13 = some 16 := mk_gR (by decide) rfl rfl (by decide)
theorem rR_11_14 (σ : ZS) : z_gR (mkH σ) 11 2 14 = some 17 := mk_gR (by decide) rfl rfl (by decide)
theorem rI_11_15 (σ : ZS) : z_gI (mkH σ) 11 2 15 = some (sI σ 11 15) := mk_gI (by decide) rfl rfl
theorem wI_11_15 (σ : ZS) (v : Int32) : z_sF (mkH σ) 11 2 15 (.int v) = some (mkH (setI σ 11 15 v)) := mk_sI (by decide) rfl rfl
theorem rR_11_16 (σ : ZS) : z_gR (mkH σ) 11 2 16 = some 18 := mk_gR (by decide) rfl rfl (by decide)
theorem is_21 (σ : ZS) : z_is (mkH σ) 21 2 = true := mk_is (by decide) rfl
theorem rI_21_0 (σ : ZS) : z_gI (mkH σ) 21 2 0 = some (sI σ 21 0) := mk_gI (by decide) rfl rfl
theorem wI_21_0 (σ : ZS) (v : Int32) : z_sF (mkH σ) 21 2 0 (.int v) = some (mkH (setI σ 21 0 v)) := mk_sI (by decide) rfl rfl
theorem rI_21_1 (σ : ZS) : z_gI (mkH σ) 21 2 1 = some (sI σ 21 1) := mk_gI (by decide) rfl rfl
theorem wI_21_1 (σ : ZS) (v : Int32) : z_sF (mkH σ) 21 2 1 (.int v) = some (mkH (setI σ 21 1 v)) := mk_sI (by decide) rfl rfl
theorem rI_21_2 (σ : ZS) : z_gI (mkH σ) 21 2 2 = some (sI σ 21 2) := mk_gI (by decide) rfl rfl
theorem wI_21_2 (σ : ZS) (v : Int32) : z_sF (mkH σ) 21 2 2 (.int v) = some (mkH (setI σ 21 2 v)) := mk_sI (by decide) rfl rfl
theorem rI_21_3 (σ : ZS) : z_gI (mkH σ) 21 2 3 = some (sI σ 21 3) := mk_gI (by decide) rfl rfl
theorem wI_21_3 (σ : ZS) (v : Int32) : z_sF (mkH σ) 21 2 3 (.int v) = some (mkH (setI σ 21 3 v)) := mk_sI (by decide) rfl rfl
theorem rI_21_4 (σ : ZS) : z_gI (mkH σ) 21 2 4 = some (sI σ 21 4) := mk_gI (by decide) rfl rfl
theorem wI_21_4 (σ : ZS) (v : Int32) : z_sF (mkH σ) 21 2 4 (.int v) = some (mkH (setI σ 21 4 v)) := mk_sI (by decide) rfl rfl
theorem rI_21_5 (σ : ZS) : z_gI (mkH σ) 21 2 5 = some (sI σ 21 5) := mk_gI (by decide) rfl rfl
theorem wI_21_5 (σ : ZS) (v : Int32) : z_sF (mkH σ) 21 2 5 (.int v) = some (mkH (setI σ 21 5 v)) := mk_sI (by decide) rfl rfl
theorem rI_21_6 (σ : ZS) : z_gI (mkH σ) 21 2 6 = some (sI σ 21 6) := mk_gI (by decide) rfl rfl
theorem wI_21_6 (σ : ZS) (v : Int32) : z_sF (mkH σ) 21 2 6 (.int v) = some (mkH (setI σ 21 6 v)) := mk_sI (by decide) rfl rfl
theorem rI_21_7 (σ : ZS) : z_gI (mkH σ) 21 2 7 = some (sI σ 21 7) := mk_gI (by decide) rfl rfl
theorem wI_21_7 (σ : ZS) (v : Int32) : z_sF (mkH σ) 21 2 7 (.int v) = some (mkH (setI σ 21 7 v)) := mk_sI (by decide) rfl rfl
theorem rI_21_8 (σ : ZS) : z_gI (mkH σ) 21 2 8 = some (sI σ 21 8) := mk_gI (by decide) rfl rfl
theorem wI_21_8 (σ : ZS) (v : Int32) : z_sF (mkH σ) 21 2 8 (.int v) = some (mkH (setI σ 21 8 v)) := mk_sI (by decide) rfl rfl
theorem rR_21_9 (σ : ZS) : z_gR (mkH σ) 21 2 9 = some 22 := mk_gR (by decide) rfl rfl (by decide)
theorem rR_21_10 (σ : ZS) : z_gR (mkH σ) 21 2 10 = some 23 := mk_gR (by decide) rfl rfl (by decide)
theorem rR_21_11 (σ : ZS) : z_gR (mkH σ) 21 2 11 = some 24 := mk_gR (by decide) rfl rfl (by decide)
theorem rR_21_12 (σ : ZS) : z_gR (mkH σ) 21 2 12 = some 25 := mk_gR (by decide) rfl rfl (by decide)
theorem rR_21_13 (σ : ZS) : z_gR (mkH σ) 21 2 13 = some 26 := mk_gR (by decide) rfl rfl (by decide)
theorem rR_21_14 (σ : ZS) : z_gR (mkH σ) 21 2 14 = some 27 := mk_gR (by decide) rfl rfl (by decide)
theorem rI_21_15 (σ : ZS) : z_gI (mkH σ) 21 2 15 = some (sI σ 21 15) := mk_gI (by decide) rfl rfl
theorem wI_21_15 (σ : ZS) (v : Int32) : z_sF (mkH σ) 21 2 15 (.int v) = some (mkH (setI σ 21 15 v)) := mk_sI (by decide) rfl rfl
theorem rR_21_16 (σ : ZS) : z_gR (mkH σ) 21 2 16 = some 28 := mk_gR (by decide) rfl rfl (by decide)
theorem is_55 (σ : ZS) : z_is (mkH σ) 55 0 = true := mk_is (by decide) rfl
theorem rI_55_0 (σ : ZS) : z_gI (mkH σ) 55 0 0 = some (sI σ 55 0) := mk_gI (by decide) rfl rfl
theorem wI_55_0 (σ : ZS) (v : Int32) : z_sF (mkH σ) 55 0 0 (.int v) = some (mkH (setI σ 55 0 v)) := mk_sI (by decide) rfl rfl
theorem rI_55_1 (σ : ZS) : z_gI (mkH σ) 55 0 1 = some (sI σ 55 1) := mk_gI (by decide) rfl rfl
theorem wI_55_1 (σ : ZS) (v : Int32) : z_sF (mkH σ) 55 0 1 (.int v) = some (mkH (setI σ 55 1 v)) := mk_sI (by decide) rfl rfl
theorem rI_55_2 (σ : ZS) : z_gI (mkH σ) 55 0 2 = some (sI σ 55 2) := mk_gI (by decide) rfl rfl
theorem wI_55_2 (σ : ZS) (v : Int32) : z_sF (mkH σ) 55 0 2 (.int v) = some (mkH (setI σ 55 2 v)) := mk_sI (by decide) rfl rfl
theorem rR_55_3 (σ : ZS) : z_gR (mkH σ) 55 0 3 = some 56 := mk_gR (by decide) rfl rfl (by decide)
theorem rI_55_4 (σ : ZS) : z_gI (mkH σ) 55 0 4 = some (sI σ 55 4) := mk_gI (by decide) rfl rfl
theorem wI_55_4 (σ : ZS) (v : Int32) : z_sF (mkH σ) 55 0 4 (.int v) = some (mkH (setI σ 55 4 v)) := mk_sI (by decide) rfl rfl
theorem is_57 (σ : ZS) : z_is (mkH σ) 57 6 = true := mk_is (by decide) rfl
theorem rR_57_0 (σ : ZS) : z_gR (mkH σ) 57 6 0 = some 58 := mk_gR (by decide) rfl rfl (by decide)
theorem rR_57_1 (σ : ZS) : z_gR (mkH σ) 57 6 1 = some 60 := mk_gR (by decide) rfl rfl (by decide)
theorem rR_57_2 (σ : ZS) : z_gR (mkH σ) 57 6 2 = some 61 := mk_gR (by decide) rfl rfl (by decide)
theorem rI_57_3 (σ : ZS) : z_gI (mkH σ) 57 6 3 = some (sI σ 57 3) := mk_gI (by decide) rfl rfl
theorem wI_57_3 (σ : ZS) (v : Int32) : z_sF (mkH σ) 57 6 3 (.int v) = some (mkH (setI σ 57 3 v)) := mk_sI (by decide) rfl rfl
theorem is_58 (σ : ZS) : z_is (mkH σ) 58 0 = true := mk_is (by decide) rfl
theorem rI_58_0 (σ : ZS) : z_gI (mkH σ) 58 0 0 = some (sI σ 58 0) := mk_gI (by decide) rfl rfl
theorem wI_58_0 (σ : ZS) (v : Int32) : z_sF (mkH σ) 58 0 0 (.int v) = some (mkH (setI σ 58 0 v)) := mk_sI (by decide) rfl rfl
theorem rI_58_1 (σ : ZS) : z_gI (mkH σ) 58 0 1 = some (sI σ 58 1) := mk_gI (by decide) rfl rfl
theorem wI_58_1 (σ : ZS) (v : Int32) : z_sF (mkH σ) 58 0 1 (.int v) = some (mkH (setI σ 58 1 v)) := mk_sI (by decide) rfl rfl
theorem rI_58_2 (σ : ZS) : z_gI (mkH σ) 58 0 2 = some (sI σ 58 2) := mk_gI (by decide) rfl rfl
theorem wI_58_2 (σ : ZS) (v : Int32) : z_sF (mkH σ) 58 0 2 (.int v) = some (mkH (setI σ 58 2 v)) := mk_sI (by decide) rfl rfl
theorem rR_58_3 (σ : ZS) : z_gR (mkH σ) 58 0 3 = some 59 := mk_gR (by decide) rfl rfl (by decide)
theorem rI_58_4 (σ : ZS) : z_gI (mkH σ) 58 0 4 = some (sI σ 58 4) := mk_gI (by decide) rfl rfl
theorem wI_58_4 (σ : ZS) (v : Int32) : z_sF (mkH σ) 58 0 4 (.int v) = some (mkH (setI σ 58 4 v)) := mk_sI (by decide) rfl rfl
theorem is_62 (σ : ZS) : z_is (mkH σ) 62 7 = true := mk_is (by decide) rfl
theorem rI_62_0 (σ : ZS) : z_gI (mkH σ) 62 7 0 = some (sI σ 62 0) := mk_gI (by decide) rfl rfl
theorem wI_62_0 (σ : ZS) (v : Int32) : z_sF (mkH σ) 62 7 0 (.int v) = some (mkH (setI σ 62 0 v)) := mk_sI (by decide) rfl rfl
theorem rR_62_1 (σ : ZS) : z_gR (mkH σ) 62 7 1 = some 63 := mk_gR (by decide) rfl rfl (by decide)
theorem rR_62_2 (σ : ZS) : z_gR (mkH σ) 62 7 2 = some 64 := mk_gR (by decide) rfl rfl (by decide)
theorem rR_62_3 (σ : ZS) : z_gR (mkH σ) 62 7 3 = some 65 := mk_gR (by decide) rfl rfl (by decide)
theorem is_66 (σ : ZS) : z_is (mkH σ) 66 1 = true := mk_is (by decide) rfl
theorem rR_66_0 (σ : ZS) : z_gR (mkH σ) 66 1 0 = some 21 := mk_gR (by decide) rfl rfl (by decide)
theorem rR_66_1 (σ : ZS) : z_gR (mkH σ) 66 1 1 = some 67 := mk_gR (by decide) rfl rfl (by decide)
theorem rI_66_2 (σ : ZS) : z_gI (mkH σ) 66 1 2 = some (sI σ 66 2) := mk_gI (by decide) rfl rfl
theorem wI_66_2 (σ : ZS) (v : Int32) : z_sF (mkH σ) 66 1 2 (.int v) = some (mkH (setI σ 66 2 v)) := mk_sI (by decide) rfl rfl
theorem rI_66_3 (σ : ZS) : z_gI (mkH σ) 66 1 3 = some (sI σ 66 3) := mk_gI (by decide) rfl rfl
theorem wI_66_3 (σ : ZS) (v : Int32) : z_sF (mkH σ) 66 1 3 (.int v) = some (mkH (setI σ 66 3 v)) := mk_sI (by decide) rfl rfl
theorem is_68 (σ : ZS) : z_is (mkH σ) 68 4 = true := mk_is (by decide) rfl
theorem rR_68_0 (σ : ZS) : z_gR (mkH σ) 68 4 0 = some 21 := mk_gR (by decide) rfl rfl (by decide)
theorem rR_68_1 (σ : ZS) : z_gR (mkH σ) 68 4 1 = some 69 := mk_gR (by decide) rfl rfl (by decide)
theorem rR_68_2 (σ : ZS) : z_gR (mkH σ) 68 4 2 = some 70 := mk_gR (by decide) rfl rfl (by decide)
theorem rR_68_3 (σ : ZS) : z_gR (mkH σ) 68 4 3 = some 71 := mk_gR (by decide) rfl rfl (by decide)
theorem rR_68_4 (σ : ZS) : z_gR (mkH σ) 68 4 4 = some 72 := mk_gR (by decide) rfl rfl (by decide)
theorem rR_68_5 (σ : ZS) : z_gR (mkH σ) 68 4 5 = some 73 := mk_gR (by decide) rfl rfl (by decide)
theorem rR_68_6 (σ : ZS) : z_gR (mkH σ) 68 4 6 = some 74 := mk_gR (by decide) rfl rfl (by decide)
theorem rI_68_7 (σ : ZS) : z_gI (mkH σ) 68 4 7 = some (sI σ 68 7) := mk_gI (by decide) rfl rfl
theorem wI_68_7 (σ : ZS) (v : Int32) : z_sF (mkH σ) 68 4 7 (.int v) = some (mkH (setI σ 68 7 v)) := mk_sI (by decide) rfl rfl
theorem rI_68_8 (σ : ZS) : z_gI (mkH σ) 68 4 8 = some (sI σ 68 8) := mk_gI (by decide) rfl rfl
theorem wI_68_8 (σ : ZS) (v : Int32) : z_sF (mkH σ) 68 4 8 (.int v) = some (mkH (setI σ 68 8 v)) := mk_sI (by decide) rfl rfl
theorem rI_68_9 (σ : ZS) : z_gI (mkH σ) 68 4 9 = some (sI σ 68 9) := mk_gI (by decide) rfl rfl
theorem wI_68_9 (σ : ZS) (v : Int32) : z_sF (mkH σ) 68 4 9 (.int v) = some (mkH (setI σ 68 9 v)) := mk_sI (by decide) rfl rfl
theorem rI_68_10 (σ : ZS) : z_gI (mkH σ) 68 4 10 = some (sI σ 68 10) := mk_gI (by decide) rfl rfl
theorem wI_68_10 (σ : ZS) (v : Int32) : z_sF (mkH σ) 68 4 10 (.int v) = some (mkH (setI σ 68 10 v)) := mk_sI (by decide) rfl rfl
theorem is_78 (σ : ZS) : z_is (mkH σ) 78 9 = true := mk_is (by decide) rfl
theorem rR_78_0 (σ : ZS) : z_gR (mkH σ) 78 9 0 = some 79 := mk_gR (by decide) rfl rfl (by decide)
theorem rR_78_1 (σ : ZS) : z_gR (mkH σ) 78 9 1 = some 80 := mk_gR (by decide) rfl rfl (by decide)
theorem rI_78_2 (σ : ZS) : z_gI (mkH σ) 78 9 2 = some (sI σ 78 2) := mk_gI (by decide) rfl rfl
theorem wI_78_2 (σ : ZS) (v : Int32) : z_sF (mkH σ) 78 9 2 (.int v) = some (mkH (setI σ 78 2 v)) := mk_sI (by decide) rfl rfl
theorem rI_78_3 (σ : ZS) : z_gI (mkH σ) 78 9 3 = some (sI σ 78 3) := mk_gI (by decide) rfl rfl
theorem wI_78_3 (σ : ZS) (v : Int32) : z_sF (mkH σ) 78 9 3 (.int v) = some (mkH (setI σ 78 3 v)) := mk_sI (by decide) rfl rfl
theorem rI_78_4 (σ : ZS) : z_gI (mkH σ) 78 9 4 = some (sI σ 78 4) := mk_gI (by decide) rfl rfl
theorem wI_78_4 (σ : ZS) (v : Int32) : z_sF (mkH σ) 78 9 4 (.int v) = some (mkH (setI σ 78 4 v)) := mk_sI (by decide) rfl rfl
theorem rI_78_5 (σ : ZS) : z_gI (mkH σ) 78 9 5 = some (sI σ 78 5) := mk_gI (by decide) rfl rfl
theorem wI_78_5 (σ : ZS) (v : Int32) : z_sF (mkH σ) 78 9 5 (.int v) = some (mkH (setI σ 78 5 v)) := mk_sI (by decide) rfl rfl
theorem rI_78_6 (σ : ZS) : z_gI (mkH σ) 78 9 6 = some (sI σ 78 6) := mk_gI (by decide) rfl rfl
theorem wI_78_6 (σ : ZS) (v : Int32) : z_sF (mkH σ) 78 9 6 (.int v) = some (mkH (setI σ 78 6 v)) := mk_sI (by decide) rfl rfl
theorem rI_78_7 (σ : ZS) : z_gI (mkH σ) 78 9 7 = some (sI σ 78 7) := mk_gI (by decide) rfl rfl
theorem wI_78_7 (σ : ZS) (v : Int32) : z_sF (mkH σ) 78 9 7 (.int v) = some (mkH (setI σ 78 7 v)) := mk_sI (by decide) rfl rfl
theorem rI_78_8 (σ : ZS) : z_gI (mkH σ) 78 9 8 = some (sI σ 78 8) := mk_gI (by decide) rfl rfl
theorem wI_78_8 (σ : ZS) (v : Int32) : z_sF (mkH σ) 78 9 8 (.int v) = some (mkH (setI σ 78 8 v)) := mk_sI (by decide) rfl rfl
theorem rI_78_9 (σ : ZS) : z_gI (mkH σ) 78 9 9 = some (sI σ 78 9) := mk_gI (by decide) rfl rfl
theorem wI_78_9 (σ : ZS) (v : Int32) : z_sF (mkH σ) 78 9 9 (.int v) = some (mkH (setI σ 78 9 v)) := mk_sI (by decide) rfl rfl
theorem rR_78_11 (σ : ZS) : z_gR (mkH σ) 78 9 11 = some 81 := mk_gR (by decide) rfl rfl (by decide)
theorem rR_78_12 (σ : ZS) : z_gR (mkH σ) 78 9 12 = some 82 := mk_gR (by decide) rfl rfl (by decide)
theorem rR_78_13 (σ : ZS) : z_gR (mkH σ) 78 9 13 = some 83 := mk_gR (by decide) rfl rfl (by decide)
theorem rR_78_14 (σ : ZS) : z_gR (mkH σ) 78 9 14 = some 84 := mk_gR (by decide) rfl rfl (by decide)
theorem rR_78_15 (σ : ZS) : z_gR (mkH σ) 78 9 15 = some 85 := mk_gR (by decide) rfl rfl (by decide)
theorem rR_78_16 (σ : ZS) : z_gR (mkH σ) 78 9 16 = some 86 := mk_gR (by decide) rfl rfl (by decide)
theorem rR_78_17 (σ : ZS) : z_gR (mkH σ) 78 9 17 = some 87 := mk_gR (by decide) rfl rfl (by decide)
theorem rR_78_18 (σ : ZS) : z_gR (mkH σ) 78 9 18 = some 88 := mk_gR (by decide) rfl rfl (by decide)
theorem rR_78_19 (σ : ZS) : z_gR (mkH σ) 78 9 19 = some 89 := mk_gR (by decide) rfl rfl (by decide)
theorem rR_78_20 (σ : ZS) : z_gR (mkH σ) 78 9 20 = some 90 := mk_gR (by decide) rfl rfl (by decide)
theorem rR_78_21 (σ : ZS) : z_gR (mkH σ) 78 9 21 = some 91 := mk_gR (by decide) rfl rfl (by decide)
theorem rR_78_22 (σ : ZS) : z_gR (mkH σ) 78 9 22 = some 92 := mk_gR (by decide) rfl rfl (by decide)
theorem rR_78_23 (σ : ZS) : z_gR (mkH σ) 78 9 23 = some 93 := mk_gR (by decide) rfl rfl (by decide)
theorem rR_78_24 (σ : ZS) : z_gR (mkH σ) 78 9 24 = some 94 := mk_gR (by decide) rfl rfl (by decide)
theorem rR_78_25 (σ : ZS) : z_gR (mkH σ) 78 9 25 = some 95 := mk_gR (by decide) rfl rfl (by decide)
theorem rR_78_26 (σ : ZS) : z_gR (mkH σ) 78 9 26 = some 96 := mk_gR (by decide) rfl rfl (by decide)
theorem rR_78_27 (σ : ZS) : z_gR (mkH σ) 78 9 27 = some 97 := mk_gR (by decide) rfl rfl (by decide)
theorem rR_78_28 (σ : ZS) : z_gR (mkH σ) 78 9 28 = some 98 := mk_gR (by decide) rfl rfl (by decide)
theorem rR_78_29 (σ : ZS) : z_gR (mkH σ) 78 9 29 = some 99 := mk_gR (by decide) rfl rfl (by decide)
theorem rR_78_30 (σ : ZS) : z_gR (mkH σ) 78 9 30 = some 100 := mk_gR (by decide) rfl rfl (by decide)
theorem rR_78_31 (σ : ZS) : z_gR (mkH σ) 78 9 31 = some 101 := mk_gR (by decide) rfl rfl (by decide)
theorem rR_78_32 (σ : ZS) : z_gR (mkH σ) 78 9 32 = some 102 := mk_gR (by decide) rfl rfl (by decide)
theorem rR_78_33 (σ : ZS) : z_gR (mkH σ) 78 9 33 = some 103 := mk_gR (by decide) rfl rfl (by decide)
theorem rI_78_34 (σ : ZS) : z_gI (mkH σ) 78 9 34 = some (sI σ 78 34) := mk_gI (by decide) rfl rfl
theorem wI_78_34 (σ : ZS) (v : Int32) : z_sF (mkH σ) 78 9 34 (.int v) = some (mkH (setI σ 78 34 v)) := mk_sI (by decide) rfl rfl
theorem rI_78_35 (σ : ZS) : z_gI (mkH σ) 78 9 35 = some (sI σ 78 35) := mk_gI (by decide) rfl rfl
theorem wI_78_35 (σ : ZS) (v : Int32) : z_sF (mkH σ) 78 9 35 (.int v) = some (mkH (setI σ 78 35 v)) := mk_sI (by decide) rfl rfl
theorem rI_78_36 (σ : ZS) : z_gI (mkH σ) 78 9 36 = some (sI σ 78 36) := mk_gI (by decide) rfl rfl
theorem wI_78_36 (σ : ZS) (v : Int32) : z_sF (mkH σ) 78 9 36 (.int v) = some (mkH (setI σ 78 36 v)) := mk_sI (by decide) rfl rfl
theorem rI_78_37 (σ : ZS) : z_gI (mkH σ) 78 9 37 = some (sI σ 78 37) := mk_gI (by decide) rfl rfl
theorem wI_78_37 (σ : ZS) (v : Int32) : z_sF (mkH σ) 78 9 37 (.int v) = some (mkH (setI σ 78 37 v)) := mk_sI (by decide) rfl rfl
theorem rI_78_38 (σ : ZS) : z_gI (mkH σ) 78 9 38 = some (sI σ 78 38) := mk_gI (by decide) rfl rfl
theorem wI_78_38 (σ : ZS) (v : Int32) : z_sF (mkH σ) 78 9 38 (.int v) = some (mkH (setI σ 78 38 v)) := mk_sI (by decide) rfl rfl
theorem rI_78_39 (σ : ZS) : z_gI (mkH σ) 78 9 39 = some (sI σ 78 39) := mk_gI (by decide) rfl rfl
theorem wI_78_39 (σ : ZS) (v : Int32) : z_sF (mkH σ) 78 9 39 (.int v) = some (mkH (setI σ 78 39 v)) := mk_sI (by decide) rfl rfl
theorem rI_78_40 (σ : ZS) : z_gI (mkH σ) 78 9 40 = some (sI σ 78 40) := mk_gI (by decide) rfl rfl
theorem wI_78_40 (σ : ZS) (v : Int32) : z_sF (mkH σ) 78 9 40 (.int v) = some (mkH (setI σ 78 40 v)) := mk_sI (by decide) rfl rfl
theorem rR_78_41 (σ : ZS) : z_gR (mkH σ) 78 9 41 = some 104 := mk_gR (by decide) rfl rfl (by decide)
theorem rR_78_42 (σ : ZS) : z_gR (mkH σ) 78 9 42 = some 105 := mk_gR (by decide) rfl rfl (by decide)
theorem rI_78_43 (σ : ZS) : z_gI (mkH σ) 78 9 43 = some (sI σ 78 43) := mk_gI (by decide) rfl rfl
theorem wI_78_43 (σ : ZS) (v : Int32) : z_sF (mkH σ) 78 9 43 (.int v) = some (mkH (setI σ 78 43 v)) := mk_sI (by decide) rfl rfl
theorem rR_78_44 (σ : ZS) : z_gR (mkH σ) 78 9 44 = some 106 := mk_gR (by decide) rfl rfl (by decide)
theorem rR_78_45 (σ : ZS) : z_gR (mkH σ) 78 9 45 = some 107 := mk_gR (by decide) rfl rfl (by decide)
theorem rR_78_46 (σ : ZS) : z_gR (mkH σ) 78 9 46 = some 108 := mk_gR (by decide) rfl rfl (by decide)
theorem rR_78_47 (σ : ZS) : z_gR (mkH σ) 78 9 47 = some 109 := mk_gR (by decide) rfl rfl (by decide)
theorem rI_78_48 (σ : ZS) : z_gI (mkH σ) 78 9 48 = some (sI σ 78 48) := mk_gI (by decide) rfl rfl
theorem wI_78_48 (σ : ZS) (v : Int32) : z_sF (mkH σ) 78 9 48 (.int v) = some (mkH (setI σ 78 48 v)) := mk_sI (by decide) rfl rfl
theorem rI_78_49 (σ : ZS) : z_gI (mkH σ) 78 9 49 = some (sI σ 78 49) := mk_gI (by decide) rfl rfl
theorem wI_78_49 (σ : ZS) (v : Int32) : z_sF (mkH σ) 78 9 49 (.int v) = some (mkH (setI σ 78 49 v)) := mk_sI (by decide) rfl rfl
theorem rR_78_50 (σ : ZS) : z_gR (mkH σ) 78 9 50 = some 110 := mk_gR (by decide) rfl rfl (by decide)
theorem rI_78_51 (σ : ZS) : z_gI (mkH σ) 78 9 51 = some (sI σ 78 51) := mk_gI (by decide) rfl rfl
theorem wI_78_51 (σ : ZS) (v : Int32) : z_sF (mkH σ) 78 9 51 (.int v) = some (mkH (setI σ 78 51 v)) := mk_sI (by decide) rfl rfl
theorem rR_78_52 (σ : ZS) : z_gR (mkH σ) 78 9 52 = some 111 := mk_gR (by decide) rfl rfl (by decide)
theorem rR_78_53 (σ : ZS) : z_gR (mkH σ) 78 9 53 = some 112 := mk_gR (by decide) rfl rfl (by decide)
theorem rR_78_54 (σ : ZS) : z_gR (mkH σ) 78 9 54 = some 113 := mk_gR (by decide) rfl rfl (by decide)
theorem rR_78_55 (σ : ZS) : z_gR (mkH σ) 78 9 55 = some 114 := mk_gR (by decide) rfl rfl (by decide)
theorem rR_78_56 (σ : ZS) : z_gR (mkH σ) 78 9 56 = some 115 := mk_gR (by decide) rfl rfl (by decide)
theorem rI_78_57 (σ : ZS) : z_gI (mkH σ) 78 9 57 = some (sI σ 78 57) := mk_gI (by decide) rfl rfl
theorem wI_78_57 (σ : ZS) (v : Int32) : z_sF (mkH σ) 78 9 57 (.int v) = some (mkH (setI σ 78 57 v)) := mk_sI (by decide) rfl rfl
theorem rI_78_58 (σ : ZS) : z_gI (mkH σ) 78 9 58 = some (sI σ 78 58) := mk_gI (by decide) rfl rfl
theorem wI_78_58 (σ : ZS) (v : Int32) : z_sF (mkH σ) 78 9 58 (.int v) = some (mkH (setI σ 78 58 v)) := mk_sI (by decide) rfl rfl
theorem rR_78_59 (σ : ZS) : z_gR (mkH σ) 78 9 59 = some 116 := mk_gR (by decide) rfl rfl (by decide)
theorem rR_78_60 (σ : ZS) : z_gR (mkH σ) 78 9 60 = some 117 := mk_gR (by decide) rfl rfl (by decide)
theorem ra_9 (σ : ZS) {k : Nat} (hk : k < 1600) : z_aB (mkH σ) 9 (nI k) = some (sF σ 9 k) := mk_aB (t := 1) (by decide) rfl (by decide) (by decide) hk
theorem wa_9 (σ : ZS) {k : Nat} (v : Int32) (hk : k < 1600) : z_uB (mkH σ) 9 (nI k) v = some (mkH (setF σ 9 k (vp_nar .byte v))) := (mk_uB (t := 1) (by decide) rfl (by decide) hk).1 rfl
theorem ra_12 (σ : ZS) {k : Nat} (hk : k < 6) : z_aI (mkH σ) 12 (nI k) = some (sF σ 12 k) := mk_aI (by decide) rfl (by decide) hk
theorem wa_12 (σ : ZS) {k : Nat} (v : Int32) (hk : k < 6) : z_uI (mkH σ) 12 (nI k) v = some (mkH (setF σ 12 k v)) := mk_uI (by decide) rfl (by decide) hk
theorem ra_13 (σ : ZS) {k : Nat} (hk : k < 6) : z_aI (mkH σ) 13 (nI k) = some (sF σ 13 k) := mk_aI (by decide) rfl (by decide) hk
theorem wa_13 (σ : ZS) {k : Nat} (v : Int32) (hk : k < 6) : z_uI (mkH σ) 13 (nI k) v = some (mkH (setF σ 13 k v)) := mk_uI (by decide) rfl (by decide) hk
theorem ra_14 (σ : ZS) {k : Nat} (hk : k < 6) : z_aI (mkH σ) 14 (nI k) = some (sF σ 14 k) := mk_aI (by decide) rfl (by decide) hk
theorem wa_14 (σ : ZS) {k : Nat} (v : Int32) (hk : k < 6) : z_uI (mkH σ) 14 (nI k) v = some (mkH (setF σ 14 k v)) := mk_uI (by decide) rfl (by decide) hk
theorem ra_15 (σ : ZS) {k : Nat} (hk : k < 6) : z_aI (mkH σ) 15 (nI k) = some (sF σ 15 k) := mk_aI (by decide) rfl (by decide) hk
theorem wa_15 (σ : ZS) {k : Nat} (v : Int32) (hk : k < 6) : z_uI (mkH σ) 15 (nI k) v = some (mkH (setF σ 15 k v)) := mk_uI (by decide) rfl (by decide) hk
theorem ra_16 (σ : ZS) {k : Nat} (hk : k < 6) : z_aI (mkH σ) 16 (nI k) = some (sF σ 16 k) := mk_aI (by decide) rfl (by decide) hk
theorem wa_16 (σ : ZS) {k : Nat} (v : Int32) (hk : k < 6) : z_uI (mkH σ) 16 (nI k) v = some (mkH (setF σ 16 k v)) := mk_uI (by decide) rfl (by decide) hk
theorem ra_17 (σ : ZS) {k : Nat} (hk : k < 280) : z_aI (mkH σ) 17 (nI k) = some (sF σ 17 k) := mk_aI (by decide) rfl (by decide) hk
theorem wa_17 (σ : ZS) {k : Nat} (v : Int32) (hk : k < 280) : z_uI (mkH σ) 17 (nI k) v = some (mkH (setF σ 17 k v)) := mk_uI (by decide) rfl (by decide) hk
theorem ra_18 (σ : ZS) {k : Nat} (hk : k < 32) : z_aI (mkH σ) 18 (nI k) = some (sF σ 18 k) := mk_aI (by decide) rfl (by decide) hk
theorem wa_18 (σ : ZS) {k : Nat} (v : Int32) (hk : k < 32) : z_uI (mkH σ) 18 (nI k) v = some (mkH (setF σ 18 k v)) := mk_uI (by decide) rfl (by decide) hk
theorem ra_19 (σ : ZS) {k : Nat} (hk : k < 6) : z_aI (mkH σ) 19 (nI k) = some (sF σ 19 k) := mk_aI (by decide) rfl (by decide) hk
theorem wa_19 (σ : ZS) {k : Nat} (v : Int32) (hk : k < 6) : z_uI (mkH σ) 19 (nI k) v = some (mkH (setF σ 19 k v)) := mk_uI (by decide) rfl (by decide) hk
theorem ra_20 (σ : ZS) {k : Nat} (hk : k < 6) : z_aI (mkH σ) 20 (nI k) = some (sF σ 20 k) := mk_aI (by decide) rfl (by decide) hk
theorem wa_20 (σ : ZS) {k : Nat} (v : Int32) (hk : k < 6) : z_uI (mkH σ) 20 (nI k) v = some (mkH (setF σ 20 k v)) := mk_uI (by decide) rfl (by decide) hk
theorem ra_22 (σ : ZS) {k : Nat} (hk : k < 6) : z_aI (mkH σ) 22 (nI k) = some (sF σ 22 k) := mk_aI (by decide) rfl (by decide) hk
theorem wa_22 (σ : ZS) {k : Nat} (v : Int32) (hk : k < 6) : z_uI (mkH σ) 22 (nI k) v = some (mkH (setF σ 22 k v)) := mk_uI (by decide) rfl (by decide) hk
theorem ra_23 (σ : ZS) {k : Nat} (hk : k < 6) : z_aI (mkH σ) 23 (nI k) = some (sF σ 23 k) := mk_aI (by decide) rfl (by decide) hk
theorem wa_23 (σ : ZS) {k : Nat} (v : Int32) (hk : k < 6) : z_uI (mkH σ) 23 (nI k) v = some (mkH (setF σ 23 k v)) := mk_uI (by decide) rfl (by decide) hk
theorem ra_24 (σ : ZS) {k : Nat} (hk : k < 6) : z_aI (mkH σ) 24 (nI k) = some (sF σ 24 k) := mk_aI (by decide) rfl (by decide) hk
theorem wa_24 (σ : ZS) {k : Nat} (v : Int32) (hk : k < 6) : z_uI (mkH σ) 24 (nI k) v = some (mkH (setF σ 24 k v)) := mk_uI (by decide) rfl (by decide) hk
theorem ra_25 (σ : ZS) {k : Nat} (hk : k < 6) : z_aI (mkH σ) 25 (nI k) = some (sF σ 25 k) := mk_aI (by decide) rfl (by decide) hk
theorem wa_25 (σ : ZS) {k : Nat} (v : Int32) (hk : k < 6) : z_uI (mkH σ) 25 (nI k) v = some (mkH (setF σ 25 k v)) := mk_uI (by decide) rfl (by decide) hk
theorem ra_26 (σ : ZS) {k : Nat} (hk : k < 6) : z_aI (mkH σ) 26 (nI k) = some (sF σ 26 k) := mk_aI (by decide) rfl (by decide) hk
theorem wa_26 (σ : ZS) {k : Nat} (v : Int32) (hk : k < 6) : z_uI (mkH σ) 26 (nI k) v = some (mkH (setF σ 26 k v)) := mk_uI (by decide) rfl (by decide) hk
theorem ra_27 (σ : ZS) {k : Nat} (hk : k < 280) : z_aI (mkH σ) 27 (nI k) = some (sF σ 27 k) := mk_aI (by decide) rfl (by decide) hk
theorem wa_27 (σ : ZS) {k : Nat} (v : Int32) (hk : k < 280) : z_uI (mkH σ) 27 (nI k) v = some (mkH (setF σ 27 k v)) := mk_uI (by decide) rfl (by decide) hk
theorem ra_28 (σ : ZS) {k : Nat} (hk : k < 32) : z_aI (mkH σ) 28 (nI k) = some (sF σ 28 k) := mk_aI (by decide) rfl (by decide) hk
theorem wa_28 (σ : ZS) {k : Nat} (v : Int32) (hk : k < 32) : z_uI (mkH σ) 28 (nI k) v = some (mkH (setF σ 28 k v)) := mk_uI (by decide) rfl (by decide) hk
theorem ra_56 (σ : ZS) {k : Nat} (hk : k < 30) : z_aI (mkH σ) 56 (nI k) = some (sF σ 56 k) := mk_aI (by decide) rfl (by decide) hk
theorem wa_56 (σ : ZS) {k : Nat} (v : Int32) (hk : k < 30) : z_uI (mkH σ) 56 (nI k) v = some (mkH (setF σ 56 k v)) := mk_uI (by decide) rfl (by decide) hk
theorem ra_59 (σ : ZS) {k : Nat} (hk : k < 30) : z_aI (mkH σ) 59 (nI k) = some (sF σ 59 k) := mk_aI (by decide) rfl (by decide) hk
theorem wa_59 (σ : ZS) {k : Nat} (v : Int32) (hk : k < 30) : z_uI (mkH σ) 59 (nI k) v = some (mkH (setF σ 59 k v)) := mk_uI (by decide) rfl (by decide) hk
theorem ra_60 (σ : ZS) {k : Nat} (hk : k < 6) : z_aI (mkH σ) 60 (nI k) = some (sF σ 60 k) := mk_aI (by decide) rfl (by decide) hk
theorem wa_60 (σ : ZS) {k : Nat} (v : Int32) (hk : k < 6) : z_uI (mkH σ) 60 (nI k) v = some (mkH (setF σ 60 k v)) := mk_uI (by decide) rfl (by decide) hk
theorem ra_61 (σ : ZS) {k : Nat} (hk : k < 6) : z_aI (mkH σ) 61 (nI k) = some (sF σ 61 k) := mk_aI (by decide) rfl (by decide) hk
theorem wa_61 (σ : ZS) {k : Nat} (v : Int32) (hk : k < 6) : z_uI (mkH σ) 61 (nI k) v = some (mkH (setF σ 61 k v)) := mk_uI (by decide) rfl (by decide) hk
theorem ra_63 (σ : ZS) {k : Nat} (hk : k < 6) : z_aI (mkH σ) 63 (nI k) = some (sF σ 63 k) := mk_aI (by decide) rfl (by decide) hk
theorem wa_63 (σ : ZS) {k : Nat} (v : Int32) (hk : k < 6) : z_uI (mkH σ) 63 (nI k) v = some (mkH (setF σ 63 k v)) := mk_uI (by decide) rfl (by decide) hk
theorem ra_64 (σ : ZS) {k : Nat} (hk : k < 6) : z_aI (mkH σ) 64 (nI k) = some (sF σ 64 k) := mk_aI (by decide) rfl (by decide) hk
theorem wa_64 (σ : ZS) {k : Nat} (v : Int32) (hk : k < 6) : z_uI (mkH σ) 64 (nI k) v = some (mkH (setF σ 64 k v)) := mk_uI (by decide) rfl (by decide) hk
theorem ra_65 (σ : ZS) {k : Nat} (hk : k < 64) : z_aI (mkH σ) 65 (nI k) = some (sF σ 65 k) := mk_aI (by decide) rfl (by decide) hk
theorem wa_65 (σ : ZS) {k : Nat} (v : Int32) (hk : k < 64) : z_uI (mkH σ) 65 (nI k) v = some (mkH (setF σ 65 k v)) := mk_uI (by decide) rfl (by decide) hk
theorem ra_67 (σ : ZS) {k : Nat} (hk : k < 40) : z_aQ (mkH σ) 67 (nI k) = some (sQ σ 67 k) := mk_aQ (by decide) rfl (by decide) hk
theorem ra_69 (σ : ZS) {k : Nat} (hk : k < 30) : z_aI (mkH σ) 69 (nI k) = some (sF σ 69 k) := mk_aI (by decide) rfl (by decide) hk
theorem wa_69 (σ : ZS) {k : Nat} (v : Int32) (hk : k < 30) : z_uI (mkH σ) 69 (nI k) v = some (mkH (setF σ 69 k v)) := mk_uI (by decide) rfl (by decide) hk
theorem ra_70 (σ : ZS) {k : Nat} (hk : k < 30) : z_aI (mkH σ) 70 (nI k) = some (sF σ 70 k) := mk_aI (by decide) rfl (by decide) hk
theorem wa_70 (σ : ZS) {k : Nat} (v : Int32) (hk : k < 30) : z_uI (mkH σ) 70 (nI k) v = some (mkH (setF σ 70 k v)) := mk_uI (by decide) rfl (by decide) hk
theorem ra_71 (σ : ZS) {k : Nat} (hk : k < 30) : z_aB (mkH σ) 71 (nI k) = some (sF σ 71 k) := mk_aB (t := 2) (by decide) rfl (by decide) (by decide) hk
theorem wa_71 (σ : ZS) {k : Nat} (v : Int32) (hk : k < 30) : z_uB (mkH σ) 71 (nI k) v = some (mkH (setF σ 71 k (vp_nar .boolean v))) := (mk_uB (t := 2) (by decide) rfl (by decide) hk).2 rfl
theorem ra_72 (σ : ZS) {k : Nat} (hk : k < 30) : z_aI (mkH σ) 72 (nI k) = some (sF σ 72 k) := mk_aI (by decide) rfl (by decide) hk
theorem wa_72 (σ : ZS) {k : Nat} (v : Int32) (hk : k < 30) : z_uI (mkH σ) 72 (nI k) v = some (mkH (setF σ 72 k v)) := mk_uI (by decide) rfl (by decide) hk
theorem ra_73 (σ : ZS) {k : Nat} (hk : k < 30) : z_aI (mkH σ) 73 (nI k) = some (sF σ 73 k) := mk_aI (by decide) rfl (by decide) hk
theorem wa_73 (σ : ZS) {k : Nat} (v : Int32) (hk : k < 30) : z_uI (mkH σ) 73 (nI k) v = some (mkH (setF σ 73 k v)) := mk_uI (by decide) rfl (by decide) hk
theorem ra_74 (σ : ZS) {k : Nat} (hk : k < 100) : z_aB (mkH σ) 74 (nI k) = some (sF σ 74 k) := mk_aB (t := 2) (by decide) rfl (by decide) (by decide) hk
theorem wa_74 (σ : ZS) {k : Nat} (v : Int32) (hk : k < 100) : z_uB (mkH σ) 74 (nI k) v = some (mkH (setF σ 74 k (vp_nar .boolean v))) := (mk_uB (t := 2) (by decide) rfl (by decide) hk).2 rfl
theorem ra_75 (σ : ZS) {k : Nat} (hk : k < 3) : z_aQ (mkH σ) 75 (nI k) = some (sQ σ 75 k) := mk_aQ (by decide) rfl (by decide) hk
theorem ra_76 (σ : ZS) {k : Nat} (hk : k < 3) : z_aB (mkH σ) 76 (nI k) = some (sF σ 76 k) := mk_aB (t := 2) (by decide) rfl (by decide) (by decide) hk
theorem wa_76 (σ : ZS) {k : Nat} (v : Int32) (hk : k < 3) : z_uB (mkH σ) 76 (nI k) v = some (mkH (setF σ 76 k (vp_nar .boolean v))) := (mk_uB (t := 2) (by decide) rfl (by decide) hk).2 rfl
theorem ra_77 (σ : ZS) {k : Nat} (hk : k < 6) : z_aI (mkH σ) 77 (nI k) = some (sF σ 77 k) := mk_aI (by decide) rfl (by decide) hk
theorem wa_77 (σ : ZS) {k : Nat} (v : Int32) (hk : k < 6) : z_uI (mkH σ) 77 (nI k) v = some (mkH (setF σ 77 k v)) := mk_uI (by decide) rfl (by decide) hk
theorem ra_79 (σ : ZS) {k : Nat} (hk : k < 1620) : z_aB (mkH σ) 79 (nI k) = some (sF σ 79 k) := mk_aB (t := 1) (by decide) rfl (by decide) (by decide) hk
theorem wa_79 (σ : ZS) {k : Nat} (v : Int32) (hk : k < 1620) : z_uB (mkH σ) 79 (nI k) v = some (mkH (setF σ 79 k (vp_nar .byte v))) := (mk_uB (t := 1) (by decide) rfl (by decide) hk).1 rfl
theorem ra_80 (σ : ZS) {k : Nat} (hk : k < 1600) : z_aB (mkH σ) 80 (nI k) = some (sF σ 80 k) := mk_aB (t := 1) (by decide) rfl (by decide) (by decide) hk
theorem wa_80 (σ : ZS) {k : Nat} (v : Int32) (hk : k < 1600) : z_uB (mkH σ) 80 (nI k) v = some (mkH (setF σ 80 k (vp_nar .byte v))) := (mk_uB (t := 1) (by decide) rfl (by decide) hk).1 rfl
theorem ra_81 (σ : ZS) {k : Nat} (hk : k < 2) : z_aI (mkH σ) 81 (nI k) = some (sF σ 81 k) := mk_aI (by decide) rfl (by decide) hk
theorem wa_81 (σ : ZS) {k : Nat} (v : Int32) (hk : k < 2) : z_uI (mkH σ) 81 (nI k) v = some (mkH (setF σ 81 k v)) := mk_uI (by decide) rfl (by decide) hk
theorem ra_82 (σ : ZS) {k : Nat} (hk : k < 2) : z_aI (mkH σ) 82 (nI k) = some (sF σ 82 k) := mk_aI (by decide) rfl (by decide) hk
theorem wa_82 (σ : ZS) {k : Nat} (v : Int32) (hk : k < 2) : z_uI (mkH σ) 82 (nI k) v = some (mkH (setF σ 82 k v)) := mk_uI (by decide) rfl (by decide) hk
theorem ra_83 (σ : ZS) {k : Nat} (hk : k < 2) : z_aI (mkH σ) 83 (nI k) = some (sF σ 83 k) := mk_aI (by decide) rfl (by decide) hk
theorem wa_83 (σ : ZS) {k : Nat} (v : Int32) (hk : k < 2) : z_uI (mkH σ) 83 (nI k) v = some (mkH (setF σ 83 k v)) := mk_uI (by decide) rfl (by decide) hk
theorem ra_84 (σ : ZS) {k : Nat} (hk : k < 2) : z_aI (mkH σ) 84 (nI k) = some (sF σ 84 k) := mk_aI (by decide) rfl (by decide) hk
theorem wa_84 (σ : ZS) {k : Nat} (v : Int32) (hk : k < 2) : z_uI (mkH σ) 84 (nI k) v = some (mkH (setF σ 84 k v)) := mk_uI (by decide) rfl (by decide) hk
theorem ra_85 (σ : ZS) {k : Nat} (hk : k < 2) : z_aI (mkH σ) 85 (nI k) = some (sF σ 85 k) := mk_aI (by decide) rfl (by decide) hk
theorem wa_85 (σ : ZS) {k : Nat} (v : Int32) (hk : k < 2) : z_uI (mkH σ) 85 (nI k) v = some (mkH (setF σ 85 k v)) := mk_uI (by decide) rfl (by decide) hk
theorem ra_86 (σ : ZS) {k : Nat} (hk : k < 2) : z_aI (mkH σ) 86 (nI k) = some (sF σ 86 k) := mk_aI (by decide) rfl (by decide) hk
theorem wa_86 (σ : ZS) {k : Nat} (v : Int32) (hk : k < 2) : z_uI (mkH σ) 86 (nI k) v = some (mkH (setF σ 86 k v)) := mk_uI (by decide) rfl (by decide) hk
theorem ra_87 (σ : ZS) {k : Nat} (hk : k < 2) : z_aI (mkH σ) 87 (nI k) = some (sF σ 87 k) := mk_aI (by decide) rfl (by decide) hk
theorem wa_87 (σ : ZS) {k : Nat} (v : Int32) (hk : k < 2) : z_uI (mkH σ) 87 (nI k) v = some (mkH (setF σ 87 k v)) := mk_uI (by decide) rfl (by decide) hk
theorem ra_88 (σ : ZS) {k : Nat} (hk : k < 2) : z_aI (mkH σ) 88 (nI k) = some (sF σ 88 k) := mk_aI (by decide) rfl (by decide) hk
theorem wa_88 (σ : ZS) {k : Nat} (v : Int32) (hk : k < 2) : z_uI (mkH σ) 88 (nI k) v = some (mkH (setF σ 88 k v)) := mk_uI (by decide) rfl (by decide) hk
theorem ra_89 (σ : ZS) {k : Nat} (hk : k < 2) : z_aI (mkH σ) 89 (nI k) = some (sF σ 89 k) := mk_aI (by decide) rfl (by decide) hk
theorem wa_89 (σ : ZS) {k : Nat} (v : Int32) (hk : k < 2) : z_uI (mkH σ) 89 (nI k) v = some (mkH (setF σ 89 k v)) := mk_uI (by decide) rfl (by decide) hk
theorem ra_90 (σ : ZS) {k : Nat} (hk : k < 2) : z_aI (mkH σ) 90 (nI k) = some (sF σ 90 k) := mk_aI (by decide) rfl (by decide) hk
theorem wa_90 (σ : ZS) {k : Nat} (v : Int32) (hk : k < 2) : z_uI (mkH σ) 90 (nI k) v = some (mkH (setF σ 90 k v)) := mk_uI (by decide) rfl (by decide) hk
theorem ra_91 (σ : ZS) {k : Nat} (hk : k < 12) : z_aI (mkH σ) 91 (nI k) = some (sF σ 91 k) := mk_aI (by decide) rfl (by decide) hk
theorem wa_91 (σ : ZS) {k : Nat} (v : Int32) (hk : k < 12) : z_uI (mkH σ) 91 (nI k) v = some (mkH (setF σ 91 k v)) := mk_uI (by decide) rfl (by decide) hk
theorem ra_92 (σ : ZS) {k : Nat} (hk : k < 12) : z_aI (mkH σ) 92 (nI k) = some (sF σ 92 k) := mk_aI (by decide) rfl (by decide) hk
theorem wa_92 (σ : ZS) {k : Nat} (v : Int32) (hk : k < 12) : z_uI (mkH σ) 92 (nI k) v = some (mkH (setF σ 92 k v)) := mk_uI (by decide) rfl (by decide) hk
theorem ra_93 (σ : ZS) {k : Nat} (hk : k < 12) : z_aI (mkH σ) 93 (nI k) = some (sF σ 93 k) := mk_aI (by decide) rfl (by decide) hk
theorem wa_93 (σ : ZS) {k : Nat} (v : Int32) (hk : k < 12) : z_uI (mkH σ) 93 (nI k) v = some (mkH (setF σ 93 k v)) := mk_uI (by decide) rfl (by decide) hk
theorem ra_94 (σ : ZS) {k : Nat} (hk : k < 12) : z_aI (mkH σ) 94 (nI k) = some (sF σ 94 k) := mk_aI (by decide) rfl (by decide) hk
theorem wa_94 (σ : ZS) {k : Nat} (v : Int32) (hk : k < 12) : z_uI (mkH σ) 94 (nI k) v = some (mkH (setF σ 94 k v)) := mk_uI (by decide) rfl (by decide) hk
theorem ra_95 (σ : ZS) {k : Nat} (hk : k < 12) : z_aI (mkH σ) 95 (nI k) = some (sF σ 95 k) := mk_aI (by decide) rfl (by decide) hk
theorem wa_95 (σ : ZS) {k : Nat} (v : Int32) (hk : k < 12) : z_uI (mkH σ) 95 (nI k) v = some (mkH (setF σ 95 k v)) := mk_uI (by decide) rfl (by decide) hk
theorem ra_96 (σ : ZS) {k : Nat} (hk : k < 2) : z_aI (mkH σ) 96 (nI k) = some (sF σ 96 k) := mk_aI (by decide) rfl (by decide) hk
theorem wa_96 (σ : ZS) {k : Nat} (v : Int32) (hk : k < 2) : z_uI (mkH σ) 96 (nI k) v = some (mkH (setF σ 96 k v)) := mk_uI (by decide) rfl (by decide) hk
theorem ra_97 (σ : ZS) {k : Nat} (hk : k < 2) : z_aI (mkH σ) 97 (nI k) = some (sF σ 97 k) := mk_aI (by decide) rfl (by decide) hk
theorem wa_97 (σ : ZS) {k : Nat} (v : Int32) (hk : k < 2) : z_uI (mkH σ) 97 (nI k) v = some (mkH (setF σ 97 k v)) := mk_uI (by decide) rfl (by decide) hk
theorem ra_98 (σ : ZS) {k : Nat} (hk : k < 12) : z_aJ (mkH σ) 98 (nI k) = some (sJ σ k) := mk_aJ (by decide) rfl (by decide) hk
theorem ra_99 (σ : ZS) {k : Nat} (hk : k < 1120) : z_aI (mkH σ) 99 (nI k) = some (sF σ 99 k) := mk_aI (by decide) rfl (by decide) hk
theorem wa_99 (σ : ZS) {k : Nat} (v : Int32) (hk : k < 1120) : z_uI (mkH σ) 99 (nI k) v = some (mkH (setF σ 99 k v)) := mk_uI (by decide) rfl (by decide) hk
theorem ra_100 (σ : ZS) {k : Nat} (hk : k < 1120) : z_aI (mkH σ) 100 (nI k) = some (sF σ 100 k) := mk_aI (by decide) rfl (by decide) hk
theorem wa_100 (σ : ZS) {k : Nat} (v : Int32) (hk : k < 1120) : z_uI (mkH σ) 100 (nI k) v = some (mkH (setF σ 100 k v)) := mk_uI (by decide) rfl (by decide) hk
theorem ra_101 (σ : ZS) {k : Nat} (hk : k < 90) : z_aI (mkH σ) 101 (nI k) = some (sF σ 101 k) := mk_aI (by decide) rfl (by decide) hk
theorem wa_101 (σ : ZS) {k : Nat} (v : Int32) (hk : k < 90) : z_uI (mkH σ) 101 (nI k) v = some (mkH (setF σ 101 k v)) := mk_uI (by decide) rfl (by decide) hk
theorem ra_102 (σ : ZS) {k : Nat} (hk : k < 90) : z_aI (mkH σ) 102 (nI k) = some (sF σ 102 k) := mk_aI (by decide) rfl (by decide) hk
theorem wa_102 (σ : ZS) {k : Nat} (v : Int32) (hk : k < 90) : z_uI (mkH σ) 102 (nI k) v = some (mkH (setF σ 102 k v)) := mk_uI (by decide) rfl (by decide) hk
theorem ra_103 (σ : ZS) {k : Nat} (hk : k < 60) : z_aI (mkH σ) 103 (nI k) = some (sF σ 103 k) := mk_aI (by decide) rfl (by decide) hk
theorem wa_103 (σ : ZS) {k : Nat} (v : Int32) (hk : k < 60) : z_uI (mkH σ) 103 (nI k) v = some (mkH (setF σ 103 k v)) := mk_uI (by decide) rfl (by decide) hk
theorem ra_104 (σ : ZS) {k : Nat} (hk : k < 521) : z_aI (mkH σ) 104 (nI k) = some (sF σ 104 k) := mk_aI (by decide) rfl (by decide) hk
theorem wa_104 (σ : ZS) {k : Nat} (v : Int32) (hk : k < 521) : z_uI (mkH σ) 104 (nI k) v = some (mkH (setF σ 104 k v)) := mk_uI (by decide) rfl (by decide) hk
theorem ra_105 (σ : ZS) {k : Nat} (hk : k < 521) : z_aI (mkH σ) 105 (nI k) = some (sF σ 105 k) := mk_aI (by decide) rfl (by decide) hk
theorem wa_105 (σ : ZS) {k : Nat} (v : Int32) (hk : k < 521) : z_uI (mkH σ) 105 (nI k) v = some (mkH (setF σ 105 k v)) := mk_uI (by decide) rfl (by decide) hk
theorem ra_106 (σ : ZS) {k : Nat} (hk : k < 30) : z_aI (mkH σ) 106 (nI k) = some (sF σ 106 k) := mk_aI (by decide) rfl (by decide) hk
theorem wa_106 (σ : ZS) {k : Nat} (v : Int32) (hk : k < 30) : z_uI (mkH σ) 106 (nI k) v = some (mkH (setF σ 106 k v)) := mk_uI (by decide) rfl (by decide) hk
theorem ra_107 (σ : ZS) {k : Nat} (hk : k < 6) : z_aI (mkH σ) 107 (nI k) = some (sF σ 107 k) := mk_aI (by decide) rfl (by decide) hk
theorem wa_107 (σ : ZS) {k : Nat} (v : Int32) (hk : k < 6) : z_uI (mkH σ) 107 (nI k) v = some (mkH (setF σ 107 k v)) := mk_uI (by decide) rfl (by decide) hk
theorem ra_108 (σ : ZS) {k : Nat} (hk : k < 6) : z_aI (mkH σ) 108 (nI k) = some (sF σ 108 k) := mk_aI (by decide) rfl (by decide) hk
theorem wa_108 (σ : ZS) {k : Nat} (v : Int32) (hk : k < 6) : z_uI (mkH σ) 108 (nI k) v = some (mkH (setF σ 108 k v)) := mk_uI (by decide) rfl (by decide) hk
theorem ra_109 (σ : ZS) {k : Nat} (hk : k < 21361) : z_aI (mkH σ) 109 (nI k) = some (sF σ 109 k) := mk_aI (by decide) rfl (by decide) hk
theorem wa_109 (σ : ZS) {k : Nat} (v : Int32) (hk : k < 21361) : z_uI (mkH σ) 109 (nI k) v = some (mkH (setF σ 109 k v)) := mk_uI (by decide) rfl (by decide) hk
theorem ra_110 (σ : ZS) {k : Nat} (hk : k < 6) : z_aI (mkH σ) 110 (nI k) = some (sF σ 110 k) := mk_aI (by decide) rfl (by decide) hk
theorem wa_110 (σ : ZS) {k : Nat} (v : Int32) (hk : k < 6) : z_uI (mkH σ) 110 (nI k) v = some (mkH (setF σ 110 k v)) := mk_uI (by decide) rfl (by decide) hk
theorem ra_111 (σ : ZS) {k : Nat} (hk : k < 30) : z_aI (mkH σ) 111 (nI k) = some (sF σ 111 k) := mk_aI (by decide) rfl (by decide) hk
theorem wa_111 (σ : ZS) {k : Nat} (v : Int32) (hk : k < 30) : z_uI (mkH σ) 111 (nI k) v = some (mkH (setF σ 111 k v)) := mk_uI (by decide) rfl (by decide) hk
theorem ra_112 (σ : ZS) {k : Nat} (hk : k < 30) : z_aI (mkH σ) 112 (nI k) = some (sF σ 112 k) := mk_aI (by decide) rfl (by decide) hk
theorem wa_112 (σ : ZS) {k : Nat} (v : Int32) (hk : k < 30) : z_uI (mkH σ) 112 (nI k) v = some (mkH (setF σ 112 k v)) := mk_uI (by decide) rfl (by decide) hk
theorem ra_113 (σ : ZS) {k : Nat} (hk : k < 30) : z_aI (mkH σ) 113 (nI k) = some (sF σ 113 k) := mk_aI (by decide) rfl (by decide) hk
theorem wa_113 (σ : ZS) {k : Nat} (v : Int32) (hk : k < 30) : z_uI (mkH σ) 113 (nI k) v = some (mkH (setF σ 113 k v)) := mk_uI (by decide) rfl (by decide) hk
theorem ra_114 (σ : ZS) {k : Nat} (hk : k < 30) : z_aI (mkH σ) 114 (nI k) = some (sF σ 114 k) := mk_aI (by decide) rfl (by decide) hk
theorem wa_114 (σ : ZS) {k : Nat} (v : Int32) (hk : k < 30) : z_uI (mkH σ) 114 (nI k) v = some (mkH (setF σ 114 k v)) := mk_uI (by decide) rfl (by decide) hk
theorem ra_115 (σ : ZS) {k : Nat} (hk : k < 30) : z_aI (mkH σ) 115 (nI k) = some (sF σ 115 k) := mk_aI (by decide) rfl (by decide) hk
theorem wa_115 (σ : ZS) {k : Nat} (v : Int32) (hk : k < 30) : z_uI (mkH σ) 115 (nI k) v = some (mkH (setF σ 115 k v)) := mk_uI (by decide) rfl (by decide) hk
theorem ra_116 (σ : ZS) {k : Nat} (hk : k < 1563) : z_aI (mkH σ) 116 (nI k) = some (sF σ 116 k) := mk_aI (by decide) rfl (by decide) hk
theorem wa_116 (σ : ZS) {k : Nat} (v : Int32) (hk : k < 1563) : z_uI (mkH σ) 116 (nI k) v = some (mkH (setF σ 116 k v)) := mk_uI (by decide) rfl (by decide) hk
theorem ra_117 (σ : ZS) {k : Nat} (hk : k < 3) : z_aB (mkH σ) 117 (nI k) = some (sF σ 117 k) := mk_aB (t := 2) (by decide) rfl (by decide) (by decide) hk
theorem wa_117 (σ : ZS) {k : Nat} (v : Int32) (hk : k < 3) : z_uB (mkH σ) 117 (nI k) v = some (mkH (setF σ 117 k (vp_nar .boolean v))) := (mk_uB (t := 2) (by decide) rfl (by decide) hk).2 rfl
/-- a cell that is a State: the two first ones, or one made later -/
def isSt (n p : Nat) : Prop := p = 29 ∨ p = 42 ∨ ∃ j, j < n ∧ p = 118 + 13 * j
theorem st_lay {n p : Nat} (h : isSt n p) : ¬ p < 8 ∧ ∀ r, r < 13 → layA n (p + r) = layT.getD r layJ := by
  rcases h with rfl | rfl | ⟨j, hj, rfl⟩
  · refine ⟨by decide, fun r hr => ?_⟩
    rcases (show r = 0 ∨ r = 1 ∨ r = 2 ∨ r = 3 ∨ r = 4 ∨ r = 5 ∨ r = 6 ∨ r = 7 ∨ r = 8 ∨ r = 9 ∨ r = 10 ∨ r = 11 ∨ r = 12 by omega) with rfl | rfl | rfl | rfl | rfl | rfl | rfl | rfl | rfl | rfl | rfl | rfl | rfl <;> rfl
  · refine ⟨by decide, fun r hr => ?_⟩
    rcases (show r = 0 ∨ r = 1 ∨ r = 2 ∨ r = 3 ∨ r = 4 ∨ r = 5 ∨ r = 6 ∨ r = 7 ∨ r = 8 ∨ r = 9 ∨ r = 10 ∨ r = 11 ∨ r = 12 by omega) with rfl | rfl | rfl | rfl | rfl | rfl | rfl | rfl | rfl | rfl | rfl | rfl | rfl <;> rfl
  · refine ⟨by omega, fun r hr => ?_⟩
    unfold layA
    rw [if_neg (by omega), if_pos (by omega), show (118 + 13 * j + r - 118) % 13 = r by omega]
theorem is_S {σ : ZS} {p : Nat} (h : isSt (sK σ) p) : z_is (mkH σ) p 5 = true := mk_is (st_lay h).1 ((st_lay h).2 0 (by decide))
theorem rR_S0 {σ : ZS} {p : Nat} (h : isSt (sK σ) p) : z_gR (mkH σ) p 5 0 = some 21 := mk_gR (st_lay h).1 ((st_lay h).2 0 (by decide)) rfl (by decide)
theorem rR_S1 {σ : ZS} {p : Nat} (h : isSt (sK σ) p) : z_gR (mkH σ) p 5 1 = some (p + 1) := mk_gRr (r := 1) (st_lay h).1 ((st_lay h).2 0 (by decide)) rfl
theorem ra_S1 {σ : ZS} {p k : Nat} (h : isSt (sK σ) p) (hk : k < 6) : z_aI (mkH σ) (p + 1) (nI k) = some (sF σ (p + 1) k) := mk_aI (by have := (st_lay h).1; omega) ((st_lay h).2 1 (by decide)) (by decide) hk
theorem wa_S1 {σ : ZS} {p k : Nat} (v : Int32) (h : isSt (sK σ) p) (hk : k < 6) : z_uI (mkH σ) (p + 1) (nI k) v = some (mkH (setF σ (p + 1) k v)) := mk_uI (by have := (st_lay h).1; omega) ((st_lay h).2 1 (by decide)) (by decide) hk
theorem cp_S1 {σ : ZS} {p q : Nat} (h : isSt (sK σ) p) (hq : isSt (sK σ) q) : z_cp (mkH σ) (p + 1) (q + 1) (nI 6) = some (mkH (setRow σ (q + 1) (sF σ (p + 1)))) := mk_cp (m := 6) (by have := (st_lay h).1; omega) (by have := (st_lay hq).1; omega) ((st_lay h).2 1 (by decide)) ((st_lay hq).2 1 (by decide)) (by decide) (Nat.le_refl _)
theorem rR_S2 {σ : ZS} {p : Nat} (h : isSt (sK σ) p) : z_gR (mkH σ) p 5 2 = some (p + 2) := mk_gRr (r := 2) (st_lay h).1 ((st_lay h).2 0 (by decide)) rfl
theorem ra_S2 {σ : ZS} {p k : Nat} (h : isSt (sK σ) p) (hk : k < 6) : z_aI (mkH σ) (p + 2) (nI k) = some (sF σ (p + 2) k) := mk_aI (by have := (st_lay h).1; omega) ((st_lay h).2 2 (by decide)) (by decide) hk
theorem wa_S2 {σ : ZS} {p k : Nat} (v : Int32) (h : isSt (sK σ) p) (hk : k < 6) : z_uI (mkH σ) (p + 2) (nI k) v = some (mkH (setF σ (p + 2) k v)) := mk_uI (by have := (st_lay h).1; omega) ((st_lay h).2 2 (by decide)) (by decide) hk
theorem cp_S2 {σ : ZS} {p q : Nat} (h : isSt (sK σ) p) (hq : isSt (sK σ) q) : z_cp (mkH σ) (p + 2) (q + 2) (nI 6) = some (mkH (setRow σ (q + 2) (sF σ (p + 2)))) := mk_cp (m := 6) (by have := (st_lay h).1; omega) (by have := (st_lay hq).1; omega) ((st_lay h).2 2 (by decide)) ((st_lay hq).2 2 (by decide)) (by decide) (Nat.le_refl _)
theorem rR_S3 {σ : ZS} {p : Nat} (h : isSt (sK σ) p) : z_gR (mkH σ) p 5 3 = some (p + 3) := mk_gRr (r := 3) (st_lay h).1 ((st_lay h).2 0 (by decide)) rfl
theorem ra_S3 {σ : ZS} {p k : Nat} (h : isSt (sK σ) p) (hk : k < 6) : z_aI (mkH σ) (p + 3) (nI k) = some (sF σ (p + 3) k) := mk_aI (by have := (st_lay h).1; omega) ((st_lay h).2 3 (by decide)) (by decide) hk
theorem wa_S3 {σ : ZS} {p k : Nat} (v : Int32) (h : isSt (sK σ) p) (hk : k < 6) : z_uI (mkH σ) (p + 3) (nI k) v = some (mkH (setF σ (p + 3) k v)) := mk_uI (by have := (st_lay h).1; omega) ((st_lay h).2 3 (by decide)) (by decide) hk
theorem cp_S3 {σ : ZS} {p q : Nat} (h : isSt (sK σ) p) (hq : isSt (sK σ) q) : z_cp (mkH σ) (p + 3) (q + 3) (nI 6) = some (mkH (setRow σ (q + 3) (sF σ (p + 3)))) := mk_cp (m := 6) (by have := (st_lay h).1; omega) (by have := (st_lay hq).1; omega) ((st_lay h).2 3 (by decide)) ((st_lay hq).2 3 (by decide)) (by decide) (Nat.le_refl _)
theorem rR_S4 {σ : ZS} {p : Nat} (h : isSt (sK σ) p) : z_gR (mkH σ) p 5 4 = some (p + 4) := mk_gRr (r := 4) (st_lay h).1 ((st_lay h).2 0 (by decide)) rfl
theorem ra_S4 {σ : ZS} {p k : Nat} (h : isSt (sK σ) p) (hk : k < 6) : z_aI (mkH σ) (p + 4) (nI k) = some (sF σ (p + 4) k) := mk_aI (by have := (st_lay h).1; omega) ((st_lay h).2 4 (by decide)) (by decide) hk
theorem wa_S4 {σ : ZS} {p k : Nat} (v : Int32) (h : isSt (sK σ) p) (hk : k < 6) : z_uI (mkH σ) (p + 4) (nI k) v = some (mkH (setF σ (p + 4) k v)) := mk_uI (by have := (st_lay h).1; omega) ((st_lay h).2 4 (by decide)) (by decide) hk
theorem cp_S4 {σ : ZS} {p q : Nat} (h : isSt (sK σ) p) (hq : isSt (sK σ) q) : z_cp (mkH σ) (p + 4) (q + 4) (nI 6) = some (mkH (setRow σ (q + 4) (sF σ (p + 4)))) := mk_cp (m := 6) (by have := (st_lay h).1; omega) (by have := (st_lay hq).1; omega) ((st_lay h).2 4 (by decide)) ((st_lay hq).2 4 (by decide)) (by decide) (Nat.le_refl _)
theorem rR_S5 {σ : ZS} {p : Nat} (h : isSt (sK σ) p) : z_gR (mkH σ) p 5 5 = some (p + 5) := mk_gRr (r := 5) (st_lay h).1 ((st_lay h).2 0 (by decide)) rfl
theorem ra_S5 {σ : ZS} {p k : Nat} (h : isSt (sK σ) p) (hk : k < 6) : z_aI (mkH σ) (p + 5) (nI k) = some (sF σ (p + 5) k) := mk_aI (by have := (st_lay h).1; omega) ((st_lay h).2 5 (by decide)) (by decide) hk
theorem wa_S5 {σ : ZS} {p k : Nat} (v : Int32) (h : isSt (sK σ) p) (hk : k < 6) : z_uI (mkH σ) (p + 5) (nI k) v = some (mkH (setF σ (p + 5) k v)) := mk_uI (by have := (st_lay h).1; omega) ((st_lay h).2 5 (by decide)) (by decide) hk
theorem cp_S5 {σ : ZS} {p q : Nat} (h : isSt (sK σ) p) (hq : isSt (sK σ) q) : z_cp (mkH σ) (p + 5) (q + 5) (nI 6) = some (mkH (setRow σ (q + 5) (sF σ (p + 5)))) := mk_cp (m := 6) (by have := (st_lay h).1; omega) (by have := (st_lay hq).1; omega) ((st_lay h).2 5 (by decide)) ((st_lay hq).2 5 (by decide)) (by decide) (Nat.le_refl _)
theorem rR_S6 {σ : ZS} {p : Nat} (h : isSt (sK σ) p) : z_gR (mkH σ) p 5 6 = some (p + 6) := mk_gRr (r := 6) (st_lay h).1 ((st_lay h).2 0 (by decide)) rfl
theorem ra_S6 {σ : ZS} {p k : Nat} (h : isSt (sK σ) p) (hk : k < 18) : z_aI (mkH σ) (p + 6) (nI k) = some (sF σ (p + 6) k) := mk_aI (by have := (st_lay h).1; omega) ((st_lay h).2 6 (by decide)) (by decide) hk
theorem wa_S6 {σ : ZS} {p k : Nat} (v : Int32) (h : isSt (sK σ) p) (hk : k < 18) : z_uI (mkH σ) (p + 6) (nI k) v = some (mkH (setF σ (p + 6) k v)) := mk_uI (by have := (st_lay h).1; omega) ((st_lay h).2 6 (by decide)) (by decide) hk
theorem cp_S6 {σ : ZS} {p q : Nat} (h : isSt (sK σ) p) (hq : isSt (sK σ) q) : z_cp (mkH σ) (p + 6) (q + 6) (nI 18) = some (mkH (setRow σ (q + 6) (sF σ (p + 6)))) := mk_cp (m := 18) (by have := (st_lay h).1; omega) (by have := (st_lay hq).1; omega) ((st_lay h).2 6 (by decide)) ((st_lay hq).2 6 (by decide)) (by decide) (Nat.le_refl _)
theorem rR_S7 {σ : ZS} {p : Nat} (h : isSt (sK σ) p) : z_gR (mkH σ) p 5 7 = some (p + 7) := mk_gRr (r := 7) (st_lay h).1 ((st_lay h).2 0 (by decide)) rfl
theorem ra_S7 {σ : ZS} {p k : Nat} (h : isSt (sK σ) p) (hk : k < 18) : z_aI (mkH σ) (p + 7) (nI k) = some (sF σ (p + 7) k) := mk_aI (by have := (st_lay h).1; omega) ((st_lay h).2 7 (by decide)) (by decide) hk
theorem wa_S7 {σ : ZS} {p k : Nat} (v : Int32) (h : isSt (sK σ) p) (hk : k < 18) : z_uI (mkH σ) (p + 7) (nI k) v = some (mkH (setF σ (p + 7) k v)) := mk_uI (by have := (st_lay h).1; omega) ((st_lay h).2 7 (by decide)) (by decide) hk
theorem cp_S7 {σ : ZS} {p q : Nat} (h : isSt (sK σ) p) (hq : isSt (sK σ) q) : z_cp (mkH σ) (p + 7) (q + 7) (nI 18) = some (mkH (setRow σ (q + 7) (sF σ (p + 7)))) := mk_cp (m := 18) (by have := (st_lay h).1; omega) (by have := (st_lay hq).1; omega) ((st_lay h).2 7 (by decide)) ((st_lay hq).2 7 (by decide)) (by decide) (Nat.le_refl _)
theorem rR_S8 {σ : ZS} {p : Nat} (h : isSt (sK σ) p) : z_gR (mkH σ) p 5 8 = some (p + 8) := mk_gRr (r := 8) (st_lay h).1 ((st_lay h).2 0 (by decide)) rfl
theorem ra_S8 {σ : ZS} {p k : Nat} (h : isSt (sK σ) p) (hk : k < 18) : z_aI (mkH σ) (p + 8) (nI k) = some (sF σ (p + 8) k) := mk_aI (by have := (st_lay h).1; omega) ((st_lay h).2 8 (by decide)) (by decide) hk
theorem wa_S8 {σ : ZS} {p k : Nat} (v : Int32) (h : isSt (sK σ) p) (hk : k < 18) : z_uI (mkH σ) (p + 8) (nI k) v = some (mkH (setF σ (p + 8) k v)) := mk_uI (by have := (st_lay h).1; omega) ((st_lay h).2 8 (by decide)) (by decide) hk
theorem cp_S8 {σ : ZS} {p q : Nat} (h : isSt (sK σ) p) (hq : isSt (sK σ) q) : z_cp (mkH σ) (p + 8) (q + 8) (nI 18) = some (mkH (setRow σ (q + 8) (sF σ (p + 8)))) := mk_cp (m := 18) (by have := (st_lay h).1; omega) (by have := (st_lay hq).1; omega) ((st_lay h).2 8 (by decide)) ((st_lay hq).2 8 (by decide)) (by decide) (Nat.le_refl _)
theorem rR_S9 {σ : ZS} {p : Nat} (h : isSt (sK σ) p) : z_gR (mkH σ) p 5 9 = some (p + 9) := mk_gRr (r := 9) (st_lay h).1 ((st_lay h).2 0 (by decide)) rfl
theorem ra_S9 {σ : ZS} {p k : Nat} (h : isSt (sK σ) p) (hk : k < 180) : z_aI (mkH σ) (p + 9) (nI k) = some (sF σ (p + 9) k) := mk_aI (by have := (st_lay h).1; omega) ((st_lay h).2 9 (by decide)) (by decide) hk
theorem wa_S9 {σ : ZS} {p k : Nat} (v : Int32) (h : isSt (sK σ) p) (hk : k < 180) : z_uI (mkH σ) (p + 9) (nI k) v = some (mkH (setF σ (p + 9) k v)) := mk_uI (by have := (st_lay h).1; omega) ((st_lay h).2 9 (by decide)) (by decide) hk
theorem cp_S9 {σ : ZS} {p q : Nat} (h : isSt (sK σ) p) (hq : isSt (sK σ) q) : z_cp (mkH σ) (p + 9) (q + 9) (nI 180) = some (mkH (setRow σ (q + 9) (sF σ (p + 9)))) := mk_cp (m := 180) (by have := (st_lay h).1; omega) (by have := (st_lay hq).1; omega) ((st_lay h).2 9 (by decide)) ((st_lay hq).2 9 (by decide)) (by decide) (Nat.le_refl _)
theorem rR_S10 {σ : ZS} {p : Nat} (h : isSt (sK σ) p) : z_gR (mkH σ) p 5 10 = some (p + 10) := mk_gRr (r := 10) (st_lay h).1 ((st_lay h).2 0 (by decide)) rfl
theorem ra_S10 {σ : ZS} {p k : Nat} (h : isSt (sK σ) p) (hk : k < 180) : z_aI (mkH σ) (p + 10) (nI k) = some (sF σ (p + 10) k) := mk_aI (by have := (st_lay h).1; omega) ((st_lay h).2 10 (by decide)) (by decide) hk
theorem wa_S10 {σ : ZS} {p k : Nat} (v : Int32) (h : isSt (sK σ) p) (hk : k < 180) : z_uI (mkH σ) (p + 10) (nI k) v = some (mkH (setF σ (p + 10) k v)) := mk_uI (by have := (st_lay h).1; omega) ((st_lay h).2 10 (by decide)) (by decide) hk
theorem cp_S10 {σ : ZS} {p q : Nat} (h : isSt (sK σ) p) (hq : isSt (sK σ) q) : z_cp (mkH σ) (p + 10) (q + 10) (nI 180) = some (mkH (setRow σ (q + 10) (sF σ (p + 10)))) := mk_cp (m := 180) (by have := (st_lay h).1; omega) (by have := (st_lay hq).1; omega) ((st_lay h).2 10 (by decide)) ((st_lay hq).2 10 (by decide)) (by decide) (Nat.le_refl _)
theorem rR_S11 {σ : ZS} {p : Nat} (h : isSt (sK σ) p) : z_gR (mkH σ) p 5 11 = some (p + 11) := mk_gRr (r := 11) (st_lay h).1 ((st_lay h).2 0 (by decide)) rfl
theorem ra_S11 {σ : ZS} {p k : Nat} (h : isSt (sK σ) p) (hk : k < 36) : z_aI (mkH σ) (p + 11) (nI k) = some (sF σ (p + 11) k) := mk_aI (by have := (st_lay h).1; omega) ((st_lay h).2 11 (by decide)) (by decide) hk
theorem wa_S11 {σ : ZS} {p k : Nat} (v : Int32) (h : isSt (sK σ) p) (hk : k < 36) : z_uI (mkH σ) (p + 11) (nI k) v = some (mkH (setF σ (p + 11) k v)) := mk_uI (by have := (st_lay h).1; omega) ((st_lay h).2 11 (by decide)) (by decide) hk
theorem cp_S11 {σ : ZS} {p q : Nat} (h : isSt (sK σ) p) (hq : isSt (sK σ) q) : z_cp (mkH σ) (p + 11) (q + 11) (nI 36) = some (mkH (setRow σ (q + 11) (sF σ (p + 11)))) := mk_cp (m := 36) (by have := (st_lay h).1; omega) (by have := (st_lay hq).1; omega) ((st_lay h).2 11 (by decide)) ((st_lay hq).2 11 (by decide)) (by decide) (Nat.le_refl _)
theorem rR_S12 {σ : ZS} {p : Nat} (h : isSt (sK σ) p) : z_gR (mkH σ) p 5 12 = some (p + 12) := mk_gRr (r := 12) (st_lay h).1 ((st_lay h).2 0 (by decide)) rfl
theorem ra_S12 {σ : ZS} {p k : Nat} (h : isSt (sK σ) p) (hk : k < 36) : z_aI (mkH σ) (p + 12) (nI k) = some (sF σ (p + 12) k) := mk_aI (by have := (st_lay h).1; omega) ((st_lay h).2 12 (by decide)) (by decide) hk
theorem wa_S12 {σ : ZS} {p k : Nat} (v : Int32) (h : isSt (sK σ) p) (hk : k < 36) : z_uI (mkH σ) (p + 12) (nI k) v = some (mkH (setF σ (p + 12) k v)) := mk_uI (by have := (st_lay h).1; omega) ((st_lay h).2 12 (by decide)) (by decide) hk
theorem cp_S12 {σ : ZS} {p q : Nat} (h : isSt (sK σ) p) (hq : isSt (sK σ) q) : z_cp (mkH σ) (p + 12) (q + 12) (nI 36) = some (mkH (setRow σ (q + 12) (sF σ (p + 12)))) := mk_cp (m := 36) (by have := (st_lay h).1; omega) (by have := (st_lay hq).1; omega) ((st_lay h).2 12 (by decide)) ((st_lay hq).2 12 (by decide)) (by decide) (Nat.le_refl _)
theorem rI_S13 {σ : ZS} {p : Nat} (h : isSt (sK σ) p) : z_gI (mkH σ) p 5 13 = some (sI σ p 13) := mk_gI (st_lay h).1 ((st_lay h).2 0 (by decide)) rfl
theorem wI_S13 {σ : ZS} {p : Nat} (v : Int32) (h : isSt (sK σ) p) : z_sF (mkH σ) p 5 13 (.int v) = some (mkH (setI σ p 13 v)) := mk_sI (st_lay h).1 ((st_lay h).2 0 (by decide)) rfl
theorem rI_S14 {σ : ZS} {p : Nat} (h : isSt (sK σ) p) : z_gI (mkH σ) p 5 14 = some (sI σ p 14) := mk_gI (st_lay h).1 ((st_lay h).2 0 (by decide)) rfl
theorem wI_S14 {σ : ZS} {p : Nat} (v : Int32) (h : isSt (sK σ) p) : z_sF (mkH σ) p 5 14 (.int v) = some (mkH (setI σ p 14 v)) := mk_sI (st_lay h).1 ((st_lay h).2 0 (by decide)) rfl
theorem rI_S15 {σ : ZS} {p : Nat} (h : isSt (sK σ) p) : z_gI (mkH σ) p 5 15 = some (sI σ p 15) := mk_gI (st_lay h).1 ((st_lay h).2 0 (by decide)) rfl
theorem wI_S15 {σ : ZS} {p : Nat} (v : Int32) (h : isSt (sK σ) p) : z_sF (mkH σ) p 5 15 (.int v) = some (mkH (setI σ p 15 v)) := mk_sI (st_lay h).1 ((st_lay h).2 0 (by decide)) rfl
theorem rI_S16 {σ : ZS} {p : Nat} (h : isSt (sK σ) p) : z_gI (mkH σ) p 5 16 = some (sI σ p 16) := mk_gI (st_lay h).1 ((st_lay h).2 0 (by decide)) rfl
theorem wI_S16 {σ : ZS} {p : Nat} (v : Int32) (h : isSt (sK σ) p) : z_sF (mkH σ) p 5 16 (.int v) = some (mkH (setI σ p 16 v)) := mk_sI (st_lay h).1 ((st_lay h).2 0 (by decide)) rfl
theorem rI_S17 {σ : ZS} {p : Nat} (h : isSt (sK σ) p) : z_gI (mkH σ) p 5 17 = some (sI σ p 17) := mk_gI (st_lay h).1 ((st_lay h).2 0 (by decide)) rfl
theorem wI_S17 {σ : ZS} {p : Nat} (v : Int32) (h : isSt (sK σ) p) : z_sF (mkH σ) p 5 17 (.int v) = some (mkH (setI σ p 17 v)) := mk_sI (st_lay h).1 ((st_lay h).2 0 (by decide)) rfl
theorem nl_0 : (0 : Int32) = nI 0 := rfl
theorem nl_1 : (1 : Int32) = nI 1 := rfl
theorem nl_2 : (2 : Int32) = nI 2 := rfl
theorem nl_3 : (3 : Int32) = nI 3 := rfl
theorem nl_4 : (4 : Int32) = nI 4 := rfl
theorem nl_5 : (5 : Int32) = nI 5 := rfl
theorem nl_6 : (6 : Int32) = nI 6 := rfl
theorem nl_7 : (7 : Int32) = nI 7 := rfl
theorem nl_8 : (8 : Int32) = nI 8 := rfl
theorem nl_9 : (9 : Int32) = nI 9 := rfl
theorem nl_10 : (10 : Int32) = nI 10 := rfl
theorem nl_11 : (11 : Int32) = nI 11 := rfl
theorem nl_12 : (12 : Int32) = nI 12 := rfl
theorem nl_13 : (13 : Int32) = nI 13 := rfl
theorem nl_14 : (14 : Int32) = nI 14 := rfl
theorem nl_15 : (15 : Int32) = nI 15 := rfl
theorem nl_16 : (16 : Int32) = nI 16 := rfl
theorem nl_17 : (17 : Int32) = nI 17 := rfl
theorem nl_18 : (18 : Int32) = nI 18 := rfl
theorem nl_19 : (19 : Int32) = nI 19 := rfl
theorem nl_20 : (20 : Int32) = nI 20 := rfl
theorem nl_21 : (21 : Int32) = nI 21 := rfl
theorem nl_22 : (22 : Int32) = nI 22 := rfl
theorem nl_23 : (23 : Int32) = nI 23 := rfl
theorem nl_24 : (24 : Int32) = nI 24 := rfl
theorem nl_25 : (25 : Int32) = nI 25 := rfl
theorem nl_26 : (26 : Int32) = nI 26 := rfl
theorem nl_27 : (27 : Int32) = nI 27 := rfl
theorem nl_28 : (28 : Int32) = nI 28 := rfl
theorem nl_29 : (29 : Int32) = nI 29 := rfl
theorem nl_30 : (30 : Int32) = nI 30 := rfl
theorem nl_31 : (31 : Int32) = nI 31 := rfl
theorem nl_32 : (32 : Int32) = nI 32 := rfl
theorem nl_33 : (33 : Int32) = nI 33 := rfl
theorem nl_34 : (34 : Int32) = nI 34 := rfl
theorem nl_35 : (35 : Int32) = nI 35 := rfl
theorem nl_36 : (36 : Int32) = nI 36 := rfl
theorem nl_37 : (37 : Int32) = nI 37 := rfl
theorem nl_38 : (38 : Int32) = nI 38 := rfl
theorem nl_39 : (39 : Int32) = nI 39 := rfl
theorem nl_46 : (46 : Int32) = nI 46 := rfl
theorem nl_48 : (48 : Int32) = nI 48 := rfl
theorem nl_57 : (57 : Int32) = nI 57 := rfl
theorem nl_63 : (63 : Int32) = nI 63 := rfl
theorem nl_66 : (66 : Int32) = nI 66 := rfl
theorem nl_71 : (71 : Int32) = nI 71 := rfl
theorem nl_84 : (84 : Int32) = nI 84 := rfl
theorem nl_90 : (90 : Int32) = nI 90 := rfl
theorem nl_97 : (97 : Int32) = nI 97 := rfl
theorem nl_99 : (99 : Int32) = nI 99 := rfl
theorem nl_100 : (100 : Int32) = nI 100 := rfl
theorem nl_101 : (101 : Int32) = nI 101 := rfl
theorem nl_102 : (102 : Int32) = nI 102 := rfl
theorem nl_115 : (115 : Int32) = nI 115 := rfl
theorem nl_117 : (117 : Int32) = nI 117 := rfl
theorem nl_122 : (122 : Int32) = nI 122 := rfl
theorem nl_137 : (137 : Int32) = nI 137 := rfl
theorem nl_180 : (180 : Int32) = nI 180 := rfl
theorem nl_255 : (255 : Int32) = nI 255 := rfl
theorem nl_256 : (256 : Int32) = nI 256 := rfl
theorem nl_264 : (264 : Int32) = nI 264 := rfl
theorem nl_280 : (280 : Int32) = nI 280 := rfl
theorem nl_444 : (444 : Int32) = nI 444 := rfl
theorem nl_480 : (480 : Int32) = nI 480 := rfl
theorem nl_516 : (516 : Int32) = nI 516 := rfl
theorem nl_517 : (517 : Int32) = nI 517 := rfl
theorem nl_518 : (518 : Int32) = nI 518 := rfl
theorem nl_519 : (519 : Int32) = nI 519 := rfl
theorem nl_520 : (520 : Int32) = nI 520 := rfl
theorem nl_521 : (521 : Int32) = nI 521 := rfl
theorem nl_560 : (560 : Int32) = nI 560 := rfl
theorem nl_1000 : (1000 : Int32) = nI 1000 := rfl
theorem nl_1600 : (1600 : Int32) = nI 1600 := rfl
theorem nl_100000 : (100000 : Int32) = nI 100000 := rfl
