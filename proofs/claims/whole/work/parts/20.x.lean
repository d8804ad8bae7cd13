theorem dX9_two_0 : decode cX9_two 0 = .ok (.iload_n 0, 1) := by decide +kernel
theorem dX9_two_1 : decode cX9_two 1 = .ok (.tableswitch 202 37 62 #[143, 188, 202, 202, 202, 127, 119, 202, 123, 202, 131, 202, 202, 202, 202, 202, 202, 202, 202, 202, 202, 202, 202, 155, 177, 166], 119) := by decide +kernel
theorem dX9_two_120 : decode cX9_two 120 = .ok (.iload_n 1, 1) := by decide +kernel
theorem dX9_two_121 : decode cX9_two 121 = .ok (.iload_n 2, 1) := by decide +kernel
theorem dX9_two_122 : decode cX9_two 122 = .ok (.iadd, 1) := by decide +kernel
theorem dX9_two_123 : decode cX9_two 123 = .ok (.ireturn, 1) := by decide +kernel
theorem dX9_two_124 : decode cX9_two 124 = .ok (.iload_n 1, 1) := by decide +kernel
theorem dX9_two_125 : decode cX9_two 125 = .ok (.iload_n 2, 1) := by decide +kernel
theorem dX9_two_126 : decode cX9_two 126 = .ok (.isub, 1) := by decide +kernel
theorem dX9_two_127 : decode cX9_two 127 = .ok (.ireturn, 1) := by decide +kernel
theorem dX9_two_128 : decode cX9_two 128 = .ok (.iload_n 1, 1) := by decide +kernel
theorem dX9_two_129 : decode cX9_two 129 = .ok (.iload_n 2, 1) := by decide +kernel
theorem dX9_two_130 : decode cX9_two 130 = .ok (.imul, 1) := by decide +kernel
theorem dX9_two_131 : decode cX9_two 131 = .ok (.ireturn, 1) := by decide +kernel
theorem dX9_two_132 : decode cX9_two 132 = .ok (.iload_n 2, 1) := by decide +kernel
theorem dX9_two_133 : decode cX9_two 133 = .ok (.ifCond .ne 7, 3) := by decide +kernel
theorem dX9_two_136 : decode cX9_two 136 = .ok (.iconst 0, 1) := by decide +kernel
theorem dX9_two_137 : decode cX9_two 137 = .ok (.goto 6, 3) := by decide +kernel
theorem dX9_two_140 : decode cX9_two 140 = .ok (.iload_n 1, 1) := by decide +kernel
theorem dX9_two_141 : decode cX9_two 141 = .ok (.iload_n 2, 1) := by decide +kernel
theorem dX9_two_142 : decode cX9_two 142 = .ok (.idiv, 1) := by decide +kernel
theorem dX9_two_143 : decode cX9_two 143 = .ok (.ireturn, 1) := by decide +kernel
theorem dX9_two_144 : decode cX9_two 144 = .ok (.iload_n 2, 1) := by decide +kernel
theorem dX9_two_145 : decode cX9_two 145 = .ok (.ifCond .ne 7, 3) := by decide +kernel
theorem dX9_two_148 : decode cX9_two 148 = .ok (.iconst 0, 1) := by decide +kernel
theorem dX9_two_149 : decode cX9_two 149 = .ok (.goto 6, 3) := by decide +kernel
theorem dX9_two_152 : decode cX9_two 152 = .ok (.iload_n 1, 1) := by decide +kernel
theorem dX9_two_153 : decode cX9_two 153 = .ok (.iload_n 2, 1) := by decide +kernel
theorem dX9_two_154 : decode cX9_two 154 = .ok (.irem, 1) := by decide +kernel
theorem dX9_two_155 : decode cX9_two 155 = .ok (.ireturn, 1) := by decide +kernel
theorem dX9_two_156 : decode cX9_two 156 = .ok (.iload_n 1, 1) := by decide +kernel
theorem dX9_two_157 : decode cX9_two 157 = .ok (.iload_n 2, 1) := by decide +kernel
theorem dX9_two_158 : decode cX9_two 158 = .ok (.if_icmp .ge 7, 3) := by decide +kernel
theorem dX9_two_161 : decode cX9_two 161 = .ok (.iconst 1, 1) := by decide +kernel
theorem dX9_two_162 : decode cX9_two 162 = .ok (.goto 4, 3) := by decide +kernel
theorem dX9_two_165 : decode cX9_two 165 = .ok (.iconst 0, 1) := by decide +kernel
theorem dX9_two_166 : decode cX9_two 166 = .ok (.ireturn, 1) := by decide +kernel
theorem dX9_two_167 : decode cX9_two 167 = .ok (.iload_n 1, 1) := by decide +kernel
theorem dX9_two_168 : decode cX9_two 168 = .ok (.iload_n 2, 1) := by decide +kernel
theorem dX9_two_169 : decode cX9_two 169 = .ok (.if_icmp .le 7, 3) := by decide +kernel
theorem dX9_two_172 : decode cX9_two 172 = .ok (.iconst 1, 1) := by decide +kernel
theorem dX9_two_173 : decode cX9_two 173 = .ok (.goto 4, 3) := by decide +kernel
theorem dX9_two_176 : decode cX9_two 176 = .ok (.iconst 0, 1) := by decide +kernel
theorem dX9_two_177 : decode cX9_two 177 = .ok (.ireturn, 1) := by decide +kernel
theorem dX9_two_178 : decode cX9_two 178 = .ok (.iload_n 1, 1) := by decide +kernel
theorem dX9_two_179 : decode cX9_two 179 = .ok (.iload_n 2, 1) := by decide +kernel
theorem dX9_two_180 : decode cX9_two 180 = .ok (.if_icmp .ne 7, 3) := by decide +kernel
theorem dX9_two_183 : decode cX9_two 183 = .ok (.iconst 1, 1) := by decide +kernel
theorem dX9_two_184 : decode cX9_two 184 = .ok (.goto 4, 3) := by decide +kernel
theorem dX9_two_187 : decode cX9_two 187 = .ok (.iconst 0, 1) := by decide +kernel
theorem dX9_two_188 : decode cX9_two 188 = .ok (.ireturn, 1) := by decide +kernel
theorem dX9_two_189 : decode cX9_two 189 = .ok (.iload_n 1, 1) := by decide +kernel
theorem dX9_two_190 : decode cX9_two 190 = .ok (.ifCond .eq 11, 3) := by decide +kernel
theorem dX9_two_193 : decode cX9_two 193 = .ok (.iload_n 2, 1) := by decide +kernel
theorem dX9_two_194 : decode cX9_two 194 = .ok (.ifCond .eq 7, 3) := by decide +kernel
theorem dX9_two_197 : decode cX9_two 197 = .ok (.iconst 1, 1) := by decide +kernel
theorem dX9_two_198 : decode cX9_two 198 = .ok (.goto 4, 3) := by decide +kernel
theorem dX9_two_201 : decode cX9_two 201 = .ok (.iconst 0, 1) := by decide +kernel
theorem dX9_two_202 : decode cX9_two 202 = .ok (.ireturn, 1) := by decide +kernel
theorem dX9_two_203 : decode cX9_two 203 = .ok (.iload_n 1, 1) := by decide +kernel
theorem dX9_two_204 : decode cX9_two 204 = .ok (.ifCond .ne 7, 3) := by decide +kernel
theorem dX9_two_207 : decode cX9_two 207 = .ok (.iload_n 2, 1) := by decide +kernel
theorem dX9_two_208 : decode cX9_two 208 = .ok (.ifCond .eq 7, 3) := by decide +kernel
theorem dX9_two_211 : decode cX9_two 211 = .ok (.iconst 1, 1) := by decide +kernel
theorem dX9_two_212 : decode cX9_two 212 = .ok (.goto 4, 3) := by decide +kernel
theorem dX9_two_215 : decode cX9_two 215 = .ok (.iconst 0, 1) := by decide +kernel
theorem dX9_two_216 : decode cX9_two 216 = .ok (.ireturn, 1) := by decide +kernel
theorem ydX9_two : z_yd yX9_two 3 := ⟨by decide, by decide, by decide +kernel⟩
abbrev rmX9_two : Room := { frames := 0, cells := 0, slots := 0, locals := 0 }
noncomputable def xX9_two (l0 : Int32) (l1 : Int32) (l2 : Int32) (h : ZH) : Option (Int32 × ZH) := (if l0 = 37 then (if l2 = 0 then some ((0 : Int32), h) else (if l2 = 0 then none else some ((l1 - l1 / l2 * l2), h))) else (if l0 = 38 then (if l1 = 0 then some ((0 : Int32), h) else (if l2 = 0 then some ((0 : Int32), h) else some ((1 : Int32), h))) else (if l0 = 39 then (if l1 = 0 then (if l2 = 0 then some ((0 : Int32), h) else some ((1 : Int32), h)) else some ((1 : Int32), h)) else (if l0 = 40 then (if l1 = 0 then (if l2 = 0 then some ((0 : Int32), h) else some ((1 : Int32), h)) else some ((1 : Int32), h)) else (if l0 = 41 then (if l1 = 0 then (if l2 = 0 then some ((0 : Int32), h) else some ((1 : Int32), h)) else some ((1 : Int32), h)) else (if l0 = 42 then some ((l1 * l2), h) else (if l0 = 43 then some ((l1 + l2), h) else (if l0 = 44 then (if l1 = 0 then (if l2 = 0 then some ((0 : Int32), h) else some ((1 : Int32), h)) else some ((1 : Int32), h)) else (if l0 = 45 then some ((l1 - l2), h) else (if l0 = 46 then (if l1 = 0 then (if l2 = 0 then some ((0 : Int32), h) else some ((1 : Int32), h)) else some ((1 : Int32), h)) else (if l0 = 47 then (if l2 = 0 then some ((0 : Int32), h) else (if l2 = 0 then none else some ((l1 / l2), h))) else (if l0 = 48 then (if l1 = 0 then (if l2 = 0 then some ((0 : Int32), h) else some ((1 : Int32), h)) else some ((1 : Int32), h)) else (if l0 = 49 then (if l1 = 0 then (if l2 = 0 then some ((0 : Int32), h) else some ((1 : Int32), h)) else some ((1 : Int32), h)) else (if l0 = 50 then (if l1 = 0 then (if l2 = 0 then some ((0 : Int32), h) else some ((1 : Int32), h)) else some ((1 : Int32), h)) else (if l0 = 51 then (if l1 = 0 then (if l2 = 0 then some ((0 : Int32), h) else some ((1 : Int32), h)) else some ((1 : Int32), h)) else (if l0 = 52 then (if l1 = 0 then (if l2 = 0 then some ((0 : Int32), h) else some ((1 : Int32), h)) else some ((1 : Int32), h)) else (if l0 = 53 then (if l1 = 0 then (if l2 = 0 then some ((0 : Int32), h) else some ((1 : Int32), h)) else some ((1 : Int32), h)) else (if l0 = 54 then (if l1 = 0 then (if l2 = 0 then some ((0 : Int32), h) else some ((1 : Int32), h)) else some ((1 : Int32), h)) else (if l0 = 55 then (if l1 = 0 then (if l2 = 0 then some ((0 : Int32), h) else some ((1 : Int32), h)) else some ((1 : Int32), h)) else (if l0 = 56 then (if l1 = 0 then (if l2 = 0 then some ((0 : Int32), h) else some ((1 : Int32), h)) else some ((1 : Int32), h)) else (if l0 = 57 then (if l1 = 0 then (if l2 = 0 then some ((0 : Int32), h) else some ((1 : Int32), h)) else some ((1 : Int32), h)) else (if l0 = 58 then (if l1 = 0 then (if l2 = 0 then some ((0 : Int32), h) else some ((1 : Int32), h)) else some ((1 : Int32), h)) else (if l0 = 59 then (if l1 = 0 then (if l2 = 0 then some ((0 : Int32), h) else some ((1 : Int32), h)) else some ((1 : Int32), h)) else (if l0 = 60 then (if l2 ≤ l1 then some ((0 : Int32), h) else some ((1 : Int32), h)) else (if l0 = 61 then (if l1 = l2 then some ((1 : Int32), h) else some ((0 : Int32), h)) else (if l0 = 62 then (if l1 ≤ l2 then some ((0 : Int32), h) else some ((1 : Int32), h)) else (if l1 = 0 then (if l2 = 0 then some ((0 : Int32), h) else some ((1 : Int32), h)) else some ((1 : Int32), h))))))))))))))))))))))))))))
set_option maxHeartbeats 4000000 in
set_option maxRecDepth 100000 in
theorem lX9_two {Γ : ZG} {l : Launch} (hO : z_OK Γ) {l0 : Int32} {l1 : Int32} {l2 : Int32} {h : ZH} {r : (Int32 × ZH)} (hX : xX9_two l0 l1 l2 h = some r) : z_M Γ l yX9_two (z_ws1 yX9_two cX9_two 3 (some .int)) rmX9_two [.int l0, .int l1, .int l2] h (some (.int r.1)) r.2 := by
  refine z_start hO (plainFor_of_name (by decide)) (Nat.le_of_ble_eq_true rfl) ?_
  intro p e s m args below meth c G hr hnm
  refine z_lvc (lv2 := [(0, .int l0), (1, .int l1), (2, .int l2)]) rfl ?_
  refine z_iload_n (pc := 0) G 0 dX9_two_0 rfl rfl ?_
  by_cases hs1_0 : l0 = 37
  · have hX := z_it hs1_0 hX
    refine z_tableIn (pc := 1) (off := 143) (tgt := 144) G dX9_two_1 (by rw [hs1_0]; decide) (by rw [hs1_0]; decide) (by rw [hs1_0]; decide) (by decide) ?_
    refine z_iload_n (pc := 144) G 2 dX9_two_144 rfl rfl ?_
    refine z_if_ne (pc := 145) (tgt := 152) G dX9_two_145 (by decide) (fun hc145 => ?_) (fun hc145 => ?_)
    · have hX := z_if hc145 hX
      refine z_iload_n (pc := 152) G 1 dX9_two_152 rfl rfl ?_
      refine z_iload_n (pc := 153) G 2 dX9_two_153 rfl rfl ?_
      obtain ⟨hn154, hX⟩ := z_ng hX
      refine z_irem (pc := 154) G dX9_two_154 hn154 ?_
      exact z_iretX (pc := 155) hX G hr dX9_two_155 (by decide) (by decide)
    · have hX := z_it hc145 hX
      refine z_iconst (pc := 148) (v := 0) G dX9_two_148 (by decide) ?_
      refine z_goto (pc := 149) (tgt := 155) G dX9_two_149 (by decide) ?_
      exact z_iretX (pc := 155) hX G hr dX9_two_155 (by decide) (by decide)
  have hX := z_if hs1_0 hX
  by_cases hs1_1 : l0 = 38
  · have hX := z_it hs1_1 hX
    refine z_tableIn (pc := 1) (off := 188) (tgt := 189) G dX9_two_1 (by rw [hs1_1]; decide) (by rw [hs1_1]; decide) (by rw [hs1_1]; decide) (by decide) ?_
    refine z_iload_n (pc := 189) G 1 dX9_two_189 rfl rfl ?_
    refine z_if_eq (pc := 190) (tgt := 201) G dX9_two_190 (by decide) (fun hc190 => ?_) (fun hc190 => ?_)
    · have hX := z_it hc190 hX
      refine z_iconst (pc := 201) (v := 0) G dX9_two_201 (by decide) ?_
      exact z_iretX (pc := 202) hX G hr dX9_two_202 (by decide) (by decide)
    · have hX := z_if hc190 hX
      refine z_iload_n (pc := 193) G 2 dX9_two_193 rfl rfl ?_
      refine z_if_eq (pc := 194) (tgt := 201) G dX9_two_194 (by decide) (fun hc194 => ?_) (fun hc194 => ?_)
      · have hX := z_it hc194 hX
        refine z_iconst (pc := 201) (v := 0) G dX9_two_201 (by decide) ?_
        exact z_iretX (pc := 202) hX G hr dX9_two_202 (by decide) (by decide)
      · have hX := z_if hc194 hX
        refine z_iconst (pc := 197) (v := 1) G dX9_two_197 (by decide) ?_
        refine z_goto (pc := 198) (tgt := 202) G dX9_two_198 (by decide) ?_
        exact z_iretX (pc := 202) hX G hr dX9_two_202 (by decide) (by decide)
  have hX := z_if hs1_1 hX
  by_cases hs1_2 : l0 = 39
  · have hX := z_it hs1_2 hX
    refine z_tableIn (pc := 1) (off := 202) (tgt := 203) G dX9_two_1 (by rw [hs1_2]; decide) (by rw [hs1_2]; decide) (by rw [hs1_2]; decide) (by decide) ?_
    refine z_iload_n (pc := 203) G 1 dX9_two_203 rfl rfl ?_
    refine z_if_ne (pc := 204) (tgt := 211) G dX9_two_204 (by decide) (fun hc204 => ?_) (fun hc204 => ?_)
    · have hX := z_if hc204 hX
      refine z_iconst (pc := 211) (v := 1) G dX9_two_211 (by decide) ?_
      refine z_goto (pc := 212) (tgt := 216) G dX9_two_212 (by decide) ?_
      exact z_iretX (pc := 216) hX G hr dX9_two_216 (by decide) (by decide)
    · have hX := z_it hc204 hX
      refine z_iload_n (pc := 207) G 2 dX9_two_207 rfl rfl ?_
      refine z_if_eq (pc := 208) (tgt := 215) G dX9_two_208 (by decide) (fun hc208 => ?_) (fun hc208 => ?_)
      · have hX := z_it hc208 hX
        refine z_iconst (pc := 215) (v := 0) G dX9_two_215 (by decide) ?_
        exact z_iretX (pc := 216) hX G hr dX9_two_216 (by decide) (by decide)
      · have hX := z_if hc208 hX
        refine z_iconst (pc := 211) (v := 1) G dX9_two_211 (by decide) ?_
        refine z_goto (pc := 212) (tgt := 216) G dX9_two_212 (by decide) ?_
        exact z_iretX (pc := 216) hX G hr dX9_two_216 (by decide) (by decide)
  have hX := z_if hs1_2 hX
  by_cases hs1_3 : l0 = 40
  · have hX := z_it hs1_3 hX
    refine z_tableIn (pc := 1) (off := 202) (tgt := 203) G dX9_two_1 (by rw [hs1_3]; decide) (by rw [hs1_3]; decide) (by rw [hs1_3]; decide) (by decide) ?_
    refine z_iload_n (pc := 203) G 1 dX9_two_203 rfl rfl ?_
    refine z_if_ne (pc := 204) (tgt := 211) G dX9_two_204 (by decide) (fun hc204 => ?_) (fun hc204 => ?_)
    · have hX := z_if hc204 hX
      refine z_iconst (pc := 211) (v := 1) G dX9_two_211 (by decide) ?_
      refine z_goto (pc := 212) (tgt := 216) G dX9_two_212 (by decide) ?_
      exact z_iretX (pc := 216) hX G hr dX9_two_216 (by decide) (by decide)
    · have hX := z_it hc204 hX
      refine z_iload_n (pc := 207) G 2 dX9_two_207 rfl rfl ?_
      refine z_if_eq (pc := 208) (tgt := 215) G dX9_two_208 (by decide) (fun hc208 => ?_) (fun hc208 => ?_)
      · have hX := z_it hc208 hX
        refine z_iconst (pc := 215) (v := 0) G dX9_two_215 (by decide) ?_
        exact z_iretX (pc := 216) hX G hr dX9_two_216 (by decide) (by decide)
      · have hX := z_if hc208 hX
        refine z_iconst (pc := 211) (v := 1) G dX9_two_211 (by decide) ?_
        refine z_goto (pc := 212) (tgt := 216) G dX9_two_212 (by decide) ?_
        exact z_iretX (pc := 216) hX G hr dX9_two_216 (by decide) (by decide)
  have hX := z_if hs1_3 hX
  by_cases hs1_4 : l0 = 41
  · have hX := z_it hs1_4 hX
    refine z_tableIn (pc := 1) (off := 202) (tgt := 203) G dX9_two_1 (by rw [hs1_4]; decide) (by rw [hs1_4]; decide) (by rw [hs1_4]; decide) (by decide) ?_
    refine z_iload_n (pc := 203) G 1 dX9_two_203 rfl rfl ?_
    refine z_if_ne (pc := 204) (tgt := 211) G dX9_two_204 (by decide) (fun hc204 => ?_) (fun hc204 => ?_)
    · have hX := z_if hc204 hX
      refine z_iconst (pc := 211) (v := 1) G dX9_two_211 (by decide) ?_
      refine z_goto (pc := 212) (tgt := 216) G dX9_two_212 (by decide) ?_
      exact z_iretX (pc := 216) hX G hr dX9_two_216 (by decide) (by decide)
    · have hX := z_it hc204 hX
      refine z_iload_n (pc := 207) G 2 dX9_two_207 rfl rfl ?_
      refine z_if_eq (pc := 208) (tgt := 215) G dX9_two_208 (by decide) (fun hc208 => ?_) (fun hc208 => ?_)
      · have hX := z_it hc208 hX
        refine z_iconst (pc := 215) (v := 0) G dX9_two_215 (by decide) ?_
        exact z_iretX (pc := 216) hX G hr dX9_two_216 (by decide) (by decide)
      · have hX := z_if hc208 hX
        refine z_iconst (pc := 211) (v := 1) G dX9_two_211 (by decide) ?_
        refine z_goto (pc := 212) (tgt := 216) G dX9_two_212 (by decide) ?_
        exact z_iretX (pc := 216) hX G hr dX9_two_216 (by decide) (by decide)
  have hX := z_if hs1_4 hX
  by_cases hs1_5 : l0 = 42
  · have hX := z_it hs1_5 hX
    refine z_tableIn (pc := 1) (off := 127) (tgt := 128) G dX9_two_1 (by rw [hs1_5]; decide) (by rw [hs1_5]; decide) (by rw [hs1_5]; decide) (by decide) ?_
    refine z_iload_n (pc := 128) G 1 dX9_two_128 rfl rfl ?_
    refine z_iload_n (pc := 129) G 2 dX9_two_129 rfl rfl ?_
    refine z_imul (pc := 130) G dX9_two_130 ?_
    exact z_iretX (pc := 131) hX G hr dX9_two_131 (by decide) (by decide)
  have hX := z_if hs1_5 hX
  by_cases hs1_6 : l0 = 43
  · have hX := z_it hs1_6 hX
    refine z_tableIn (pc := 1) (off := 119) (tgt := 120) G dX9_two_1 (by rw [hs1_6]; decide) (by rw [hs1_6]; decide) (by rw [hs1_6]; decide) (by decide) ?_
    refine z_iload_n (pc := 120) G 1 dX9_two_120 rfl rfl ?_
    refine z_iload_n (pc := 121) G 2 dX9_two_121 rfl rfl ?_
    refine z_iadd (pc := 122) G dX9_two_122 ?_
    exact z_iretX (pc := 123) hX G hr dX9_two_123 (by decide) (by decide)
  have hX := z_if hs1_6 hX
  by_cases hs1_7 : l0 = 44
  · have hX := z_it hs1_7 hX
    refine z_tableIn (pc := 1) (off := 202) (tgt := 203) G dX9_two_1 (by rw [hs1_7]; decide) (by rw [hs1_7]; decide) (by rw [hs1_7]; decide) (by decide) ?_
    refine z_iload_n (pc := 203) G 1 dX9_two_203 rfl rfl ?_
    refine z_if_ne (pc := 204) (tgt := 211) G dX9_two_204 (by decide) (fun hc204 => ?_) (fun hc204 => ?_)
    · have hX := z_if hc204 hX
      refine z_iconst (pc := 211) (v := 1) G dX9_two_211 (by decide) ?_
      refine z_goto (pc := 212) (tgt := 216) G dX9_two_212 (by decide) ?_
      exact z_iretX (pc := 216) hX G hr dX9_two_216 (by decide) (by decide)
    · have hX := z_it hc204 hX
      refine z_iload_n (pc := 207) G 2 dX9_two_207 rfl rfl ?_
      refine z_if_eq (pc := 208) (tgt := 215) G dX9_two_208 (by decide) (fun hc208 => ?_) (fun hc208 => ?_)
      · have hX := z_it hc208 hX
        refine z_iconst (pc := 215) (v := 0) G dX9_two_215 (by decide) ?_
        exact z_iretX (pc := 216) hX G hr dX9_two_216 (by decide) (by decide)
      · have hX := z_if hc208 hX
        refine z_iconst (pc := 211) (v := 1) G dX9_two_211 (by decide) ?_
        refine z_goto (pc := 212) (tgt := 216) G dX9_two_212 (by decide) ?_
        exact z_iretX (pc := 216) hX G hr dX9_two_216 (by decide) (by decide)
  have hX := z_if hs1_7 hX
  by_cases hs1_8 : l0 = 45
  · have hX := z_it hs1_8 hX
    refine z_tableIn (pc := 1) (off := 123) (tgt := 124) G dX9_two_1 (by rw [hs1_8]; decide) (by rw [hs1_8]; decide) (by rw [hs1_8]; decide) (by decide) ?_
    refine z_iload_n (pc := 124) G 1 dX9_two_124 rfl rfl ?_
    refine z_iload_n (pc := 125) G 2 dX9_two_125 rfl rfl ?_
    refine z_isub (pc := 126) G dX9_two_126 ?_
    exact z_iretX (pc := 127) hX G hr dX9_two_127 (by decide) (by decide)
  have hX := z_if hs1_8 hX
  by_cases hs1_9 : l0 = 46
  · have hX := z_it hs1_9 hX
    refine z_tableIn (pc := 1) (off := 202) (tgt := 203) G dX9_two_1 (by rw [hs1_9]; decide) (by rw [hs1_9]; decide) (by rw [hs1_9]; decide) (by decide) ?_
    refine z_iload_n (pc := 203) G 1 dX9_two_203 rfl rfl ?_
    refine z_if_ne (pc := 204) (tgt := 211) G dX9_two_204 (by decide) (fun hc204 => ?_) (fun hc204 => ?_)
    · have hX := z_if hc204 hX
      refine z_iconst (pc := 211) (v := 1) G dX9_two_211 (by decide) ?_
      refine z_goto (pc := 212) (tgt := 216) G dX9_two_212 (by decide) ?_
      exact z_iretX (pc := 216) hX G hr dX9_two_216 (by decide) (by decide)
    · have hX := z_it hc204 hX
      refine z_iload_n (pc := 207) G 2 dX9_two_207 rfl rfl ?_
      refine z_if_eq (pc := 208) (tgt := 215) G dX9_two_208 (by decide) (fun hc208 => ?_) (fun hc208 => ?_)
      · have hX := z_it hc208 hX
        refine z_iconst (pc := 215) (v := 0) G dX9_two_215 (by decide) ?_
        exact z_iretX (pc := 216) hX G hr dX9_two_216 (by decide) (by decide)
      · have hX := z_if hc208 hX
        refine z_iconst (pc := 211) (v := 1) G dX9_two_211 (by decide) ?_
        refine z_goto (pc := 212) (tgt := 216) G dX9_two_212 (by decide) ?_
        exact z_iretX (pc := 216) hX G hr dX9_two_216 (by decide) (by decide)
  have hX := z_if hs1_9 hX
  by_cases hs1_10 : l0 = 47
  · have hX := z_it hs1_10 hX
    refine z_tableIn (pc := 1) (off := 131) (tgt := 132) G dX9_two_1 (by rw [hs1_10]; decide) (by rw [hs1_10]; decide) (by rw [hs1_10]; decide) (by decide) ?_
    refine z_iload_n (pc := 132) G 2 dX9_two_132 rfl rfl ?_
    refine z_if_ne (pc := 133) (tgt := 140) G dX9_two_133 (by decide) (fun hc133 => ?_) (fun hc133 => ?_)
    · have hX := z_if hc133 hX
      refine z_iload_n (pc := 140) G 1 dX9_two_140 rfl rfl ?_
      refine z_iload_n (pc := 141) G 2 dX9_two_141 rfl rfl ?_
      obtain ⟨hn142, hX⟩ := z_ng hX
      refine z_idiv (pc := 142) G dX9_two_142 hn142 ?_
      exact z_iretX (pc := 143) hX G hr dX9_two_143 (by decide) (by decide)
    · have hX := z_it hc133 hX
      refine z_iconst (pc := 136) (v := 0) G dX9_two_136 (by decide) ?_
      refine z_goto (pc := 137) (tgt := 143) G dX9_two_137 (by decide) ?_
      exact z_iretX (pc := 143) hX G hr dX9_two_143 (by decide) (by decide)
  have hX := z_if hs1_10 hX
  by_cases hs1_11 : l0 = 48
  · have hX := z_it hs1_11 hX
    refine z_tableIn (pc := 1) (off := 202) (tgt := 203) G dX9_two_1 (by rw [hs1_11]; decide) (by rw [hs1_11]; decide) (by rw [hs1_11]; decide) (by decide) ?_
    refine z_iload_n (pc := 203) G 1 dX9_two_203 rfl rfl ?_
    refine z_if_ne (pc := 204) (tgt := 211) G dX9_two_204 (by decide) (fun hc204 => ?_) (fun hc204 => ?_)
    · have hX := z_if hc204 hX
      refine z_iconst (pc := 211) (v := 1) G dX9_two_211 (by decide) ?_
      refine z_goto (pc := 212) (tgt := 216) G dX9_two_212 (by decide) ?_
      exact z_iretX (pc := 216) hX G hr dX9_two_216 (by decide) (by decide)
    · have hX := z_it hc204 hX
      refine z_iload_n (pc := 207) G 2 dX9_two_207 rfl rfl ?_
      refine z_if_eq (pc := 208) (tgt := 215) G dX9_two_208 (by decide) (fun hc208 => ?_) (fun hc208 => ?_)
      · have hX := z_it hc208 hX
        refine z_iconst (pc := 215) (v := 0) G dX9_two_215 (by decide) ?_
        exact z_iretX (pc := 216) hX G hr dX9_two_216 (by decide) (by decide)
      · have hX := z_if hc208 hX
        refine z_iconst (pc := 211) (v := 1) G dX9_two_211 (by decide) ?_
        refine z_goto (pc := 212) (tgt := 216) G dX9_two_212 (by decide) ?_
        exact z_iretX (pc := 216) hX G hr dX9_two_216 (by decide) (by decide)
  have hX := z_if hs1_11 hX
  by_cases hs1_12 : l0 = 49
  · have hX := z_it hs1_12 hX
    refine z_tableIn (pc := 1) (off := 202) (tgt := 203) G dX9_two_1 (by rw [hs1_12]; decide) (by rw [hs1_12]; decide) (by rw [hs1_12]; decide) (by decide) ?_
    refine z_iload_n (pc := 203) G 1 dX9_two_203 rfl rfl ?_
    refine z_if_ne (pc := 204) (tgt := 211) G dX9_two_204 (by decide) (fun hc204 => ?_) (fun hc204 => ?_)
    · have hX := z_if hc204 hX
      refine z_iconst (pc := 211) (v := 1) G dX9_two_211 (by decide) ?_
      refine z_goto (pc := 212) (tgt := 216) G dX9_two_212 (by decide) ?_
      exact z_iretX (pc := 216) hX G hr dX9_two_216 (by decide) (by decide)
    · have hX := z_it hc204 hX
      refine z_iload_n (pc := 207) G 2 dX9_two_207 rfl rfl ?_
      refine z_if_eq (pc := 208) (tgt := 215) G dX9_two_208 (by decide) (fun hc208 => ?_) (fun hc208 => ?_)
      · have hX := z_it hc208 hX
        refine z_iconst (pc := 215) (v := 0) G dX9_two_215 (by decide) ?_
        exact z_iretX (pc := 216) hX G hr dX9_two_216 (by decide) (by decide)
      · have hX := z_if hc208 hX
        refine z_iconst (pc := 211) (v := 1) G dX9_two_211 (by decide) ?_
        refine z_goto (pc := 212) (tgt := 216) G dX9_two_212 (by decide) ?_
        exact z_iretX (pc := 216) hX G hr dX9_two_216 (by decide) (by decide)
  have hX := z_if hs1_12 hX
  by_cases hs1_13 : l0 = 50
  · have hX := z_it hs1_13 hX
    refine z_tableIn (pc := 1) (off := 202) (tgt := 203) G dX9_two_1 (by rw [hs1_13]; decide) (by rw [hs1_13]; decide) (by rw [hs1_13]; decide) (by decide) ?_
    refine z_iload_n (pc := 203) G 1 dX9_two_203 rfl rfl ?_
    refine z_if_ne (pc := 204) (tgt := 211) G dX9_two_204 (by decide) (fun hc204 => ?_) (fun hc204 => ?_)
    · have hX := z_if hc204 hX
      refine z_iconst (pc := 211) (v := 1) G dX9_two_211 (by decide) ?_
      refine z_goto (pc := 212) (tgt := 216) G dX9_two_212 (by decide) ?_
      exact z_iretX (pc := 216) hX G hr dX9_two_216 (by decide) (by decide)
    · have hX := z_it hc204 hX
      refine z_iload_n (pc := 207) G 2 dX9_two_207 rfl rfl ?_
      refine z_if_eq (pc := 208) (tgt := 215) G dX9_two_208 (by decide) (fun hc208 => ?_) (fun hc208 => ?_)
      · have hX := z_it hc208 hX
        refine z_iconst (pc := 215) (v := 0) G dX9_two_215 (by decide) ?_
        exact z_iretX (pc := 216) hX G hr dX9_two_216 (by decide) (by decide)
      · have hX := z_if hc208 hX
        refine z_iconst (pc := 211) (v := 1) G dX9_two_211 (by decide) ?_
        refine z_goto (pc := 212) (tgt := 216) G dX9_two_212 (by decide) ?_
        exact z_iretX (pc := 216) hX G hr dX9_two_216 (by decide) (by decide)
  have hX := z_if hs1_13 hX
  by_cases hs1_14 : l0 = 51
  · have hX := z_it hs1_14 hX
    refine z_tableIn (pc := 1) (off := 202) (tgt := 203) G dX9_two_1 (by rw [hs1_14]; decide) (by rw [hs1_14]; decide) (by rw [hs1_14]; decide) (by decide) ?_
    refine z_iload_n (pc := 203) G 1 dX9_two_203 rfl rfl ?_
    refine z_if_ne (pc := 204) (tgt := 211) G dX9_two_204 (by decide) (fun hc204 => ?_) (fun hc204 => ?_)
    · have hX := z_if hc204 hX
      refine z_iconst (pc := 211) (v := 1) G dX9_two_211 (by decide) ?_
      refine z_goto (pc := 212) (tgt := 216) G dX9_two_212 (by decide) ?_
      exact z_iretX (pc := 216) hX G hr dX9_two_216 (by decide) (by decide)
    · have hX := z_it hc204 hX
      refine z_iload_n (pc := 207) G 2 dX9_two_207 rfl rfl ?_
      refine z_if_eq (pc := 208) (tgt := 215) G dX9_two_208 (by decide) (fun hc208 => ?_) (fun hc208 => ?_)
      · have hX := z_it hc208 hX
        refine z_iconst (pc := 215) (v := 0) G dX9_two_215 (by decide) ?_
        exact z_iretX (pc := 216) hX G hr dX9_two_216 (by decide) (by decide)
      · have hX := z_if hc208 hX
        refine z_iconst (pc := 211) (v := 1) G dX9_two_211 (by decide) ?_
        refine z_goto (pc := 212) (tgt := 216) G dX9_two_212 (by decide) ?_
        exact z_iretX (pc := 216) hX G hr dX9_two_216 (by decide) (by decide)
  have hX := z_if hs1_14 hX
  by_cases hs1_15 : l0 = 52
  · have hX := z_it hs1_15 hX
    refine z_tableIn (pc := 1) (off := 202) (tgt := 203) G dX9_two_1 (by rw [hs1_15]; decide) (by rw [hs1_15]; decide) (by rw [hs1_15]; decide) (by decide) ?_
    refine z_iload_n (pc := 203) G 1 dX9_two_203 rfl rfl ?_
    refine z_if_ne (pc := 204) (tgt := 211) G dX9_two_204 (by decide) (fun hc204 => ?_) (fun hc204 => ?_)
    · have hX := z_if hc204 hX
      refine z_iconst (pc := 211) (v := 1) G dX9_two_211 (by decide) ?_
      refine z_goto (pc := 212) (tgt := 216) G dX9_two_212 (by decide) ?_
      exact z_iretX (pc := 216) hX G hr dX9_two_216 (by decide) (by decide)
    · have hX := z_it hc204 hX
      refine z_iload_n (pc := 207) G 2 dX9_two_207 rfl rfl ?_
      refine z_if_eq (pc := 208) (tgt := 215) G dX9_two_208 (by decide) (fun hc208 => ?_) (fun hc208 => ?_)
      · have hX := z_it hc208 hX
        refine z_iconst (pc := 215) (v := 0) G dX9_two_215 (by decide) ?_
        exact z_iretX (pc := 216) hX G hr dX9_two_216 (by decide) (by decide)
      · have hX := z_if hc208 hX
        refine z_iconst (pc := 211) (v := 1) G dX9_two_211 (by decide) ?_
        refine z_goto (pc := 212) (tgt := 216) G dX9_two_212 (by decide) ?_
        exact z_iretX (pc := 216) hX G hr dX9_two_216 (by decide) (by decide)
  have hX := z_if hs1_15 hX
  by_cases hs1_16 : l0 = 53
  · have hX := z_it hs1_16 hX
    refine z_tableIn (pc := 1) (off := 202) (tgt := 203) G dX9_two_1 (by rw [hs1_16]; decide) (by rw [hs1_16]; decide) (by rw [hs1_16]; decide) (by decide) ?_
    refine z_iload_n (pc := 203) G 1 dX9_two_203 rfl rfl ?_
    refine z_if_ne (pc := 204) (tgt := 211) G dX9_two_204 (by decide) (fun hc204 => ?_) (fun hc204 => ?_)
    · have hX := z_if hc204 hX
      refine z_iconst (pc := 211) (v := 1) G dX9_two_211 (by decide) ?_
      refine z_goto (pc := 212) (tgt := 216) G dX9_two_212 (by decide) ?_
      exact z_iretX (pc := 216) hX G hr dX9_two_216 (by decide) (by decide)
    · have hX := z_it hc204 hX
      refine z_iload_n (pc := 207) G 2 dX9_two_207 rfl rfl ?_
      refine z_if_eq (pc := 208) (tgt := 215) G dX9_two_208 (by decide) (fun hc208 => ?_) (fun hc208 => ?_)
      · have hX := z_it hc208 hX
        refine z_iconst (pc := 215) (v := 0) G dX9_two_215 (by decide) ?_
        exact z_iretX (pc := 216) hX G hr dX9_two_216 (by decide) (by decide)
      · have hX := z_if hc208 hX
        refine z_iconst (pc := 211) (v := 1) G dX9_two_211 (by decide) ?_
        refine z_goto (pc := 212) (tgt := 216) G dX9_two_212 (by decide) ?_
        exact z_iretX (pc := 216) hX G hr dX9_two_216 (by decide) (by decide)
  have hX := z_if hs1_16 hX
  by_cases hs1_17 : l0 = 54
  · have hX := z_it hs1_17 hX
    refine z_tableIn (pc := 1) (off := 202) (tgt := 203) G dX9_two_1 (by rw [hs1_17]; decide) (by rw [hs1_17]; decide) (by rw [hs1_17]; decide) (by decide) ?_
    refine z_iload_n (pc := 203) G 1 dX9_two_203 rfl rfl ?_
    refine z_if_ne (pc := 204) (tgt := 211) G dX9_two_204 (by decide) (fun hc204 => ?_) (fun hc204 => ?_)
    · have hX := z_if hc204 hX
      refine z_iconst (pc := 211) (v := 1) G dX9_two_211 (by decide) ?_
      refine z_goto (pc := 212) (tgt := 216) G dX9_two_212 (by decide) ?_
      exact z_iretX (pc := 216) hX G hr dX9_two_216 (by decide) (by decide)
    · have hX := z_it hc204 hX
      refine z_iload_n (pc := 207) G 2 dX9_two_207 rfl rfl ?_
      refine z_if_eq (pc := 208) (tgt := 215) G dX9_two_208 (by decide) (fun hc208 => ?_) (fun hc208 => ?_)
      · have hX := z_it hc208 hX
        refine z_iconst (pc := 215) (v := 0) G dX9_two_215 (by decide) ?_
        exact z_iretX (pc := 216) hX G hr dX9_two_216 (by decide) (by decide)
      · have hX := z_if hc208 hX
        refine z_iconst (pc := 211) (v := 1) G dX9_two_211 (by decide) ?_
        refine z_goto (pc := 212) (tgt := 216) G dX9_two_212 (by decide) ?_
        exact z_iretX (pc := 216) hX G hr dX9_two_216 (by decide) (by decide)
  have hX := z_if hs1_17 hX
  by_cases hs1_18 : l0 = 55
  · have hX := z_it hs1_18 hX
    refine z_tableIn (pc := 1) (off := 202) (tgt := 203) G dX9_two_1 (by rw [hs1_18]; decide) (by rw [hs1_18]; decide) (by rw [hs1_18]; decide) (by decide) ?_
    refine z_iload_n (pc := 203) G 1 dX9_two_203 rfl rfl ?_
    refine z_if_ne (pc := 204) (tgt := 211) G dX9_two_204 (by decide) (fun hc204 => ?_) (fun hc204 => ?_)
    · have hX := z_if hc204 hX
      refine z_iconst (pc := 211) (v := 1) G dX9_two_211 (by decide) ?_
      refine z_goto (pc := 212) (tgt := 216) G dX9_two_212 (by decide) ?_
      exact z_iretX (pc := 216) hX G hr dX9_two_216 (by decide) (by decide)
    · have hX := z_it hc204 hX
      refine z_iload_n (pc := 207) G 2 dX9_two_207 rfl rfl ?_
      refine z_if_eq (pc := 208) (tgt := 215) G dX9_two_208 (by decide) (fun hc208 => ?_) (fun hc208 => ?_)
      · have hX := z_it hc208 hX
        refine z_iconst (pc := 215) (v := 0) G dX9_two_215 (by decide) ?_
        exact z_iretX (pc := 216) hX G hr dX9_two_216 (by decide) (by decide)
      · have hX := z_if hc208 hX
        refine z_iconst (pc := 211) (v := 1) G dX9_two_211 (by decide) ?_
        refine z_goto (pc := 212) (tgt := 216) G dX9_two_212 (by decide) ?_
        exact z_iretX (pc := 216) hX G hr dX9_two_216 (by decide) (by decide)
  have hX := z_if hs1_18 hX
  by_cases hs1_19 : l0 = 56
  · have hX := z_it hs1_19 hX
    refine z_tableIn (pc := 1) (off := 202) (tgt := 203) G dX9_two_1 (by rw [hs1_19]; decide) (by rw [hs1_19]; decide) (by rw [hs1_19]; decide) (by decide) ?_
    refine z_iload_n (pc := 203) G 1 dX9_two_203 rfl rfl ?_
    refine z_if_ne (pc := 204) (tgt := 211) G dX9_two_204 (by decide) (fun hc204 => ?_) (fun hc204 => ?_)
    · have hX := z_if hc204 hX
      refine z_iconst (pc := 211) (v := 1) G dX9_two_211 (by decide) ?_
      refine z_goto (pc := 212) (tgt := 216) G dX9_two_212 (by decide) ?_
      exact z_iretX (pc := 216) hX G hr dX9_two_216 (by decide) (by decide)
    · have hX := z_it hc204 hX
      refine z_iload_n (pc := 207) G 2 dX9_two_207 rfl rfl ?_
      refine z_if_eq (pc := 208) (tgt := 215) G dX9_two_208 (by decide) (fun hc208 => ?_) (fun hc208 => ?_)
      · have hX := z_it hc208 hX
        refine z_iconst (pc := 215) (v := 0) G dX9_two_215 (by decide) ?_
        exact z_iretX (pc := 216) hX G hr dX9_two_216 (by decide) (by decide)
      · have hX := z_if hc208 hX
        refine z_iconst (pc := 211) (v := 1) G dX9_two_211 (by decide) ?_
        refine z_goto (pc := 212) (tgt := 216) G dX9_two_212 (by decide) ?_
        exact z_iretX (pc := 216) hX G hr dX9_two_216 (by decide) (by decide)
  have hX := z_if hs1_19 hX
  by_cases hs1_20 : l0 = 57
  · have hX := z_it hs1_20 hX
    refine z_tableIn (pc := 1) (off := 202) (tgt := 203) G dX9_two_1 (by rw [hs1_20]; decide) (by rw [hs1_20]; decide) (by rw [hs1_20]; decide) (by decide) ?_
    refine z_iload_n (pc := 203) G 1 dX9_two_203 rfl rfl ?_
    refine z_if_ne (pc := 204) (tgt := 211) G dX9_two_204 (by decide) (fun hc204 => ?_) (fun hc204 => ?_)
    · have hX := z_if hc204 hX
      refine z_iconst (pc := 211) (v := 1) G dX9_two_211 (by decide) ?_
      refine z_goto (pc := 212) (tgt := 216) G dX9_two_212 (by decide) ?_
      exact z_iretX (pc := 216) hX G hr dX9_two_216 (by decide) (by decide)
    · have hX := z_it hc204 hX
      refine z_iload_n (pc := 207) G 2 dX9_two_207 rfl rfl ?_
      refine z_if_eq (pc := 208) (tgt := 215) G dX9_two_208 (by decide) (fun hc208 => ?_) (fun hc208 => ?_)
      · have hX := z_it hc208 hX
        refine z_iconst (pc := 215) (v := 0) G dX9_two_215 (by decide) ?_
        exact z_iretX (pc := 216) hX G hr dX9_two_216 (by decide) (by decide)
      · have hX := z_if hc208 hX
        refine z_iconst (pc := 211) (v := 1) G dX9_two_211 (by decide) ?_
        refine z_goto (pc := 212) (tgt := 216) G dX9_two_212 (by decide) ?_
        exact z_iretX (pc := 216) hX G hr dX9_two_216 (by decide) (by decide)
  have hX := z_if hs1_20 hX
  by_cases hs1_21 : l0 = 58
  · have hX := z_it hs1_21 hX
    refine z_tableIn (pc := 1) (off := 202) (tgt := 203) G dX9_two_1 (by rw [hs1_21]; decide) (by rw [hs1_21]; decide) (by rw [hs1_21]; decide) (by decide) ?_
    refine z_iload_n (pc := 203) G 1 dX9_two_203 rfl rfl ?_
    refine z_if_ne (pc := 204) (tgt := 211) G dX9_two_204 (by decide) (fun hc204 => ?_) (fun hc204 => ?_)
    · have hX := z_if hc204 hX
      refine z_iconst (pc := 211) (v := 1) G dX9_two_211 (by decide) ?_
      refine z_goto (pc := 212) (tgt := 216) G dX9_two_212 (by decide) ?_
      exact z_iretX (pc := 216) hX G hr dX9_two_216 (by decide) (by decide)
    · have hX := z_it hc204 hX
      refine z_iload_n (pc := 207) G 2 dX9_two_207 rfl rfl ?_
      refine z_if_eq (pc := 208) (tgt := 215) G dX9_two_208 (by decide) (fun hc208 => ?_) (fun hc208 => ?_)
      · have hX := z_it hc208 hX
        refine z_iconst (pc := 215) (v := 0) G dX9_two_215 (by decide) ?_
        exact z_iretX (pc := 216) hX G hr dX9_two_216 (by decide) (by decide)
      · have hX := z_if hc208 hX
        refine z_iconst (pc := 211) (v := 1) G dX9_two_211 (by decide) ?_
        refine z_goto (pc := 212) (tgt := 216) G dX9_two_212 (by decide) ?_
        exact z_iretX (pc := 216) hX G hr dX9_two_216 (by decide) (by decide)
  have hX := z_if hs1_21 hX
  by_cases hs1_22 : l0 = 59
  · have hX := z_it hs1_22 hX
    refine z_tableIn (pc := 1) (off := 202) (tgt := 203) G dX9_two_1 (by rw [hs1_22]; decide) (by rw [hs1_22]; decide) (by rw [hs1_22]; decide) (by decide) ?_
    refine z_iload_n (pc := 203) G 1 dX9_two_203 rfl rfl ?_
    refine z_if_ne (pc := 204) (tgt := 211) G dX9_two_204 (by decide) (fun hc204 => ?_) (fun hc204 => ?_)
    · have hX := z_if hc204 hX
      refine z_iconst (pc := 211) (v := 1) G dX9_two_211 (by decide) ?_
      refine z_goto (pc := 212) (tgt := 216) G dX9_two_212 (by decide) ?_
      exact z_iretX (pc := 216) hX G hr dX9_two_216 (by decide) (by decide)
    · have hX := z_it hc204 hX
      refine z_iload_n (pc := 207) G 2 dX9_two_207 rfl rfl ?_
      refine z_if_eq (pc := 208) (tgt := 215) G dX9_two_208 (by decide) (fun hc208 => ?_) (fun hc208 => ?_)
      · have hX := z_it hc208 hX
        refine z_iconst (pc := 215) (v := 0) G dX9_two_215 (by decide) ?_
        exact z_iretX (pc := 216) hX G hr dX9_two_216 (by decide) (by decide)
      · have hX := z_if hc208 hX
        refine z_iconst (pc := 211) (v := 1) G dX9_two_211 (by decide) ?_
        refine z_goto (pc := 212) (tgt := 216) G dX9_two_212 (by decide) ?_
        exact z_iretX (pc := 216) hX G hr dX9_two_216 (by decide) (by decide)
  have hX := z_if hs1_22 hX
  by_cases hs1_23 : l0 = 60
  · have hX := z_it hs1_23 hX
    refine z_tableIn (pc := 1) (off := 155) (tgt := 156) G dX9_two_1 (by rw [hs1_23]; decide) (by rw [hs1_23]; decide) (by rw [hs1_23]; decide) (by decide) ?_
    refine z_iload_n (pc := 156) G 1 dX9_two_156 rfl rfl ?_
    refine z_iload_n (pc := 157) G 2 dX9_two_157 rfl rfl ?_
    refine z_icmp_ge (pc := 158) (tgt := 165) G dX9_two_158 (by decide) (fun hc158 => ?_) (fun hc158 => ?_)
    · have hX := z_it hc158 hX
      refine z_iconst (pc := 165) (v := 0) G dX9_two_165 (by decide) ?_
      exact z_iretX (pc := 166) hX G hr dX9_two_166 (by decide) (by decide)
    · have hX := z_if hc158 hX
      refine z_iconst (pc := 161) (v := 1) G dX9_two_161 (by decide) ?_
      refine z_goto (pc := 162) (tgt := 166) G dX9_two_162 (by decide) ?_
      exact z_iretX (pc := 166) hX G hr dX9_two_166 (by decide) (by decide)
  have hX := z_if hs1_23 hX
  by_cases hs1_24 : l0 = 61
  · have hX := z_it hs1_24 hX
    refine z_tableIn (pc := 1) (off := 177) (tgt := 178) G dX9_two_1 (by rw [hs1_24]; decide) (by rw [hs1_24]; decide) (by rw [hs1_24]; decide) (by decide) ?_
    refine z_iload_n (pc := 178) G 1 dX9_two_178 rfl rfl ?_
    refine z_iload_n (pc := 179) G 2 dX9_two_179 rfl rfl ?_
    refine z_icmp_ne (pc := 180) (tgt := 187) G dX9_two_180 (by decide) (fun hc180 => ?_) (fun hc180 => ?_)
    · have hX := z_if hc180 hX
      refine z_iconst (pc := 187) (v := 0) G dX9_two_187 (by decide) ?_
      exact z_iretX (pc := 188) hX G hr dX9_two_188 (by decide) (by decide)
    · have hX := z_it hc180 hX
      refine z_iconst (pc := 183) (v := 1) G dX9_two_183 (by decide) ?_
      refine z_goto (pc := 184) (tgt := 188) G dX9_two_184 (by decide) ?_
      exact z_iretX (pc := 188) hX G hr dX9_two_188 (by decide) (by decide)
  have hX := z_if hs1_24 hX
  by_cases hs1_25 : l0 = 62
  · have hX := z_it hs1_25 hX
    refine z_tableIn (pc := 1) (off := 166) (tgt := 167) G dX9_two_1 (by rw [hs1_25]; decide) (by rw [hs1_25]; decide) (by rw [hs1_25]; decide) (by decide) ?_
    refine z_iload_n (pc := 167) G 1 dX9_two_167 rfl rfl ?_
    refine z_iload_n (pc := 168) G 2 dX9_two_168 rfl rfl ?_
    refine z_icmp_le (pc := 169) (tgt := 176) G dX9_two_169 (by decide) (fun hc169 => ?_) (fun hc169 => ?_)
    · have hX := z_it hc169 hX
      refine z_iconst (pc := 176) (v := 0) G dX9_two_176 (by decide) ?_
      exact z_iretX (pc := 177) hX G hr dX9_two_177 (by decide) (by decide)
    · have hX := z_if hc169 hX
      refine z_iconst (pc := 172) (v := 1) G dX9_two_172 (by decide) ?_
      refine z_goto (pc := 173) (tgt := 177) G dX9_two_173 (by decide) ?_
      exact z_iretX (pc := 177) hX G hr dX9_two_177 (by decide) (by decide)
  have hX := z_if hs1_25 hX
  refine z_tableOut (pc := 1) (tgt := 203) G dX9_two_1 (z_tout 26 (by decide) (fun j hj => by
    rcases (show j = 0 ∨ j = 1 ∨ j = 2 ∨ j = 3 ∨ j = 4 ∨ j = 5 ∨ j = 6 ∨ j = 7 ∨ j = 8 ∨ j = 9 ∨ j = 10 ∨ j = 11 ∨ j = 12 ∨ j = 13 ∨ j = 14 ∨ j = 15 ∨ j = 16 ∨ j = 17 ∨ j = 18 ∨ j = 19 ∨ j = 20 ∨ j = 21 ∨ j = 22 ∨ j = 23 ∨ j = 24 ∨ j = 25 by omega) with rfl | rfl | rfl | rfl | rfl | rfl | rfl | rfl | rfl | rfl | rfl | rfl | rfl | rfl | rfl | rfl | rfl | rfl | rfl | rfl | rfl | rfl | rfl | rfl | rfl | rfl
    · exact fun z => hs1_0 (z.trans (by decide))
    · exact fun z => hs1_1 (z.trans (by decide))
    · exact fun z => hs1_2 (z.trans (by decide))
    · exact fun z => hs1_3 (z.trans (by decide))
    · exact fun z => hs1_4 (z.trans (by decide))
    · exact fun z => hs1_5 (z.trans (by decide))
    · exact fun z => hs1_6 (z.trans (by decide))
    · exact fun z => hs1_7 (z.trans (by decide))
    · exact fun z => hs1_8 (z.trans (by decide))
    · exact fun z => hs1_9 (z.trans (by decide))
    · exact fun z => hs1_10 (z.trans (by decide))
    · exact fun z => hs1_11 (z.trans (by decide))
    · exact fun z => hs1_12 (z.trans (by decide))
    · exact fun z => hs1_13 (z.trans (by decide))
    · exact fun z => hs1_14 (z.trans (by decide))
    · exact fun z => hs1_15 (z.trans (by decide))
    · exact fun z => hs1_16 (z.trans (by decide))
    · exact fun z => hs1_17 (z.trans (by decide))
    · exact fun z => hs1_18 (z.trans (by decide))
    · exact fun z => hs1_19 (z.trans (by decide))
    · exact fun z => hs1_20 (z.trans (by decide))
    · exact fun z => hs1_21 (z.trans (by decide))
    · exact fun z => hs1_22 (z.trans (by decide))
    · exact fun z => hs1_23 (z.trans (by decide))
    · exact fun z => hs1_24 (z.trans (by decide))
    · exact fun z => hs1_25 (z.trans (by decide)))) (by decide) ?_
  refine z_iload_n (pc := 203) G 1 dX9_two_203 rfl rfl ?_
  refine z_if_ne (pc := 204) (tgt := 211) G dX9_two_204 (by decide) (fun hc204 => ?_) (fun hc204 => ?_)
  · have hX := z_if hc204 hX
    refine z_iconst (pc := 211) (v := 1) G dX9_two_211 (by decide) ?_
    refine z_goto (pc := 212) (tgt := 216) G dX9_two_212 (by decide) ?_
    exact z_iretX (pc := 216) hX G hr dX9_two_216 (by decide) (by decide)
  · have hX := z_it hc204 hX
    refine z_iload_n (pc := 207) G 2 dX9_two_207 rfl rfl ?_
    refine z_if_eq (pc := 208) (tgt := 215) G dX9_two_208 (by decide) (fun hc208 => ?_) (fun hc208 => ?_)
    · have hX := z_it hc208 hX
      refine z_iconst (pc := 215) (v := 0) G dX9_two_215 (by decide) ?_
      exact z_iretX (pc := 216) hX G hr dX9_two_216 (by decide) (by decide)
    · have hX := z_if hc208 hX
      refine z_iconst (pc := 211) (v := 1) G dX9_two_211 (by decide) ?_
      refine z_goto (pc := 212) (tgt := 216) G dX9_two_212 (by decide) ?_
      exact z_iretX (pc := 216) hX G hr dX9_two_216 (by decide) (by decide)
theorem dX9_bitsOf_0 : decode cX9_bitsOf 0 = .ok (.iconst 0, 1) := by decide +kernel
theorem dX9_bitsOf_1 : decode cX9_bitsOf 1 = .ok (.istore_n 1, 1) := by decide +kernel
theorem dX9_bitsOf_2 : decode cX9_bitsOf 2 = .ok (.iload_n 0, 1) := by decide +kernel
theorem dX9_bitsOf_3 : decode cX9_bitsOf 3 = .ok (.istore_n 2, 1) := by decide +kernel
theorem dX9_bitsOf_4 : decode cX9_bitsOf 4 = .ok (.iload_n 2, 1) := by decide +kernel
theorem dX9_bitsOf_5 : decode cX9_bitsOf 5 = .ok (.ifCond .eq 15, 3) := by decide +kernel
theorem dX9_bitsOf_8 : decode cX9_bitsOf 8 = .ok (.iinc 1 1, 3) := by decide +kernel
theorem dX9_bitsOf_11 : decode cX9_bitsOf 11 = .ok (.iload_n 2, 1) := by decide +kernel
theorem dX9_bitsOf_12 : decode cX9_bitsOf 12 = .ok (.iload_n 2, 1) := by decide +kernel
theorem dX9_bitsOf_13 : decode cX9_bitsOf 13 = .ok (.iconst 1, 1) := by decide +kernel
theorem dX9_bitsOf_14 : decode cX9_bitsOf 14 = .ok (.isub, 1) := by decide +kernel
theorem dX9_bitsOf_15 : decode cX9_bitsOf 15 = .ok (.iand, 1) := by decide +kernel
theorem dX9_bitsOf_16 : decode cX9_bitsOf 16 = .ok (.istore_n 2, 1) := by decide +kernel
theorem dX9_bitsOf_17 : decode cX9_bitsOf 17 = .ok (.goto (-13), 3) := by decide +kernel
theorem dX9_bitsOf_20 : decode cX9_bitsOf 20 = .ok (.iload_n 1, 1) := by decide +kernel
theorem dX9_bitsOf_21 : decode cX9_bitsOf 21 = .ok (.ireturn, 1) := by decide +kernel
theorem ydX9_bitsOf : z_yd yX9_bitsOf 1 := ⟨by decide, by decide, by decide +kernel⟩
abbrev rmX9_bitsOf : Room := { frames := 0, cells := 0, slots := 0, locals := 0 }
noncomputable def xX9_bitsOf_B4 (r4 : Int32 → Int32 → ZH → Option (Int32 × ZH)) (l1 : Int32) (l2 : Int32) (h : ZH) : Option (Int32 × ZH) := (if l2 = 0 then some (l1, h) else r4 (l1 + 1) (l2 &&& (l2 - (1 : Int32))) h)
noncomputable def xX9_bitsOf_L4 (n : Nat) : Int32 → Int32 → ZH → Option (Int32 × ZH) := Nat.rec (motive := fun _ => Int32 → Int32 → ZH → Option (Int32 × ZH)) (fun _ _ _ => none) (fun _ rec => xX9_bitsOf_B4  rec) n
set_option maxHeartbeats 4000000 in
set_option maxRecDepth 100000 in
theorem wX9_bitsOf_B4 {Γ : ZG} {p : Program} {l : Launch} {e : Env} {s : State} {m : MethodId} {args : Array Value} {below : List Frame} {meth : Method} {c : Code} (hO : z_OK Γ) (G : z_GG Γ p s m args meth c cX9_bitsOf 3 RX9) (hr : meth.sig.returnType = (some .int)) (hnm : meth.name = "bitsOf") {r : (Int32 × ZH)} {r4 : Int32 → Int32 → ZH → Option (Int32 × ZH)} (H4 : ∀ (l1 : Int32) (l2 : Int32) (h : ZH), r4 l1 l2 h = some r → z_W Γ p l e rmX9_bitsOf s m args below meth c 3 0 0 (MQ below (z_Qc Γ (some (.int r.1)) r.2) args s rmX9_bitsOf.cells rmX9_bitsOf.slots (z_A Γ)) 4 [(1, .int l1), (2, .int l2)] [] h) : ∀ (l1 : Int32) (l2 : Int32) (h : ZH), xX9_bitsOf_B4  r4 l1 l2 h = some r → z_W Γ p l e rmX9_bitsOf s m args below meth c 3 0 0 (MQ below (z_Qc Γ (some (.int r.1)) r.2) args s rmX9_bitsOf.cells rmX9_bitsOf.slots (z_A Γ)) 4 [(1, .int l1), (2, .int l2)] [] h := by
  intro l1 l2 h hX
  refine z_iload_n (pc := 4) G 1 dX9_bitsOf_4 rfl rfl ?_
  refine z_if_eq (pc := 5) (tgt := 20) G dX9_bitsOf_5 (by decide) (fun hc5 => ?_) (fun hc5 => ?_)
  · have hX := z_it hc5 hX
    refine z_iload_n (pc := 20) G 0 dX9_bitsOf_20 rfl rfl ?_
    exact z_iretX (pc := 21) hX G hr dX9_bitsOf_21 (by decide) (by decide)
  · have hX := z_if hc5 hX
    refine z_iincw (pc := 8) (w := 1) (lv2 := [(1, .int (l1 + 1)), (2, .int l2)]) G 0 dX9_bitsOf_8 rfl (by decide) (by decide) rfl rfl ?_
    refine z_iload_n (pc := 11) G 1 dX9_bitsOf_11 rfl rfl ?_
    refine z_iload_n (pc := 12) G 1 dX9_bitsOf_12 rfl rfl ?_
    refine z_iconst (pc := 13) (v := 1) G dX9_bitsOf_13 (by decide) ?_
    refine z_isub (pc := 14) G dX9_bitsOf_14 ?_
    refine z_iand (pc := 15) G dX9_bitsOf_15 ?_
    refine z_istore_n (pc := 16) (lv2 := [(1, .int (l1 + 1)), (2, .int (l2 &&& (l2 - (1 : Int32))))]) G dX9_bitsOf_16 rfl (by decide) rfl rfl ?_
    refine z_goto (pc := 17) (tgt := 4) G dX9_bitsOf_17 (by decide) ?_
    exact H4 _ _ _ hX
set_option maxHeartbeats 4000000 in
set_option maxRecDepth 100000 in
theorem wX9_bitsOf_L4 {Γ : ZG} {p : Program} {l : Launch} {e : Env} {s : State} {m : MethodId} {args : Array Value} {below : List Frame} {meth : Method} {c : Code} (hO : z_OK Γ) (G : z_GG Γ p s m args meth c cX9_bitsOf 3 RX9) (hr : meth.sig.returnType = (some .int)) (hnm : meth.name = "bitsOf") {r : (Int32 × ZH)} : ∀ (nn : Nat) (l1 : Int32) (l2 : Int32) (h : ZH), xX9_bitsOf_L4  nn l1 l2 h = some r → z_W Γ p l e rmX9_bitsOf s m args below meth c 3 0 0 (MQ below (z_Qc Γ (some (.int r.1)) r.2) args s rmX9_bitsOf.cells rmX9_bitsOf.slots (z_A Γ)) 4 [(1, .int l1), (2, .int l2)] [] h := by
  intro nn
  induction nn with
  | zero => intro l1 l2 h hX; cases hX
  | succ nn ih => intro l1 l2 h hX; exact wX9_bitsOf_B4 hO G hr hnm  ih l1 l2 h hX
noncomputable def xX9_bitsOf (l0 : Int32) (h : ZH) : Option (Int32 × ZH) := xX9_bitsOf_L4 zFU (0 : Int32) l0 h
set_option maxHeartbeats 4000000 in
set_option maxRecDepth 100000 in
theorem lX9_bitsOf {Γ : ZG} {l : Launch} (hO : z_OK Γ) {l0 : Int32} {h : ZH} {r : (Int32 × ZH)} (hX : xX9_bitsOf l0 h = some r) : z_M Γ l yX9_bitsOf (z_ws1 yX9_bitsOf cX9_bitsOf 3 (some .int)) rmX9_bitsOf [.int l0] h (some (.int r.1)) r.2 := by
  refine z_start hO (plainFor_of_name (by decide)) (Nat.le_of_ble_eq_true rfl) ?_
  intro p e s m args below meth c G hr hnm
  refine z_lvc (lv2 := [(0, .int l0)]) rfl ?_
  refine z_iconst (pc := 0) (v := 0) G dX9_bitsOf_0 (by decide) ?_
  refine z_istore_n (pc := 1) (lv2 := [(0, .int l0), (1, .int (0 : Int32))]) G dX9_bitsOf_1 rfl (by decide) rfl rfl ?_
  refine z_iload_n (pc := 2) G 0 dX9_bitsOf_2 rfl rfl ?_
  refine z_istore_n (pc := 3) (lv2 := [(0, .int l0), (1, .int (0 : Int32)), (2, .int l0)]) G dX9_bitsOf_3 rfl (by decide) rfl rfl ?_
  refine z_drop (lv2 := [(1, .int (0 : Int32)), (2, .int l0)]) [1, 2] rfl ?_
  exact wX9_bitsOf_L4 hO G hr hnm zFU _ _ _ hX
theorem dX9_holderIn_0 : decode cX9_holderIn 0 = .ok (.aload_n 0, 1) := by decide +kernel
theorem dX9_holderIn_1 : decode cX9_holderIn 1 = .ok (.getfield 91, 3) := by decide +kernel
theorem dX9_holderIn_4 : decode cX9_holderIn 4 = .ok (.bipush 84, 2) := by decide +kernel
theorem dX9_holderIn_6 : decode cX9_holderIn 6 = .ok (.bipush 30, 2) := by decide +kernel
theorem dX9_holderIn_8 : decode cX9_holderIn 8 = .ok (.iload_n 1, 1) := by decide +kernel
theorem dX9_holderIn_9 : decode cX9_holderIn 9 = .ok (.imul, 1) := by decide +kernel
theorem dX9_holderIn_10 : decode cX9_holderIn 10 = .ok (.iadd, 1) := by decide +kernel
theorem dX9_holderIn_11 : decode cX9_holderIn 11 = .ok (.iload_n 2, 1) := by decide +kernel
theorem dX9_holderIn_12 : decode cX9_holderIn 12 = .ok (.iadd, 1) := by decide +kernel
theorem dX9_holderIn_13 : decode cX9_holderIn 13 = .ok (.iaload, 1) := by decide +kernel
theorem dX9_holderIn_14 : decode cX9_holderIn 14 = .ok (.ireturn, 1) := by decide +kernel
theorem ydX9_holderIn : z_yd yX9_holderIn 2 := ⟨by decide, by decide, by decide +kernel⟩
abbrev rmX9_holderIn : Room := { frames := 0, cells := 0, slots := 0, locals := 0 }
noncomputable def xX9_holderIn (l0 : Nat) (l1 : Int32) (l2 : Int32) (h : ZH) : Option (Int32 × ZH) := ((z_gR h l0 9 41).bind fun x1 => ((z_aI h x1 (((84 : Int32) + ((30 : Int32) * l1)) + l2)).bind fun x13 => some (x13, h)))
set_option maxHeartbeats 4000000 in
set_option maxRecDepth 100000 in
theorem lX9_holderIn {Γ : ZG} {l : Launch} (hO : z_OK Γ) {l0 : Nat} {l1 : Int32} {l2 : Int32} {h : ZH} {r : (Int32 × ZH)} (hX : xX9_holderIn l0 l1 l2 h = some r) : z_M Γ l yX9_holderIn (z_ws1 yX9_holderIn cX9_holderIn 3 (some .int)) rmX9_holderIn [.ref l0, .int l1, .int l2] h (some (.int r.1)) r.2 := by
  refine z_start hO (plainFor_of_name (by decide)) (Nat.le_of_ble_eq_true rfl) ?_
  intro p e s m args below meth c G hr hnm
  refine z_lvc (lv2 := [(0, .ref l0), (1, .int l1), (2, .int l2)]) rfl ?_
  refine z_aload_n (pc := 0) G 0 dX9_holderIn_0 rfl rfl ?_
  obtain ⟨x1, hv1, hX⟩ := z_bd hX
  refine z_getR (pc := 1) G kK9 (k := 41) (by decide) kt_1267 dX9_holderIn_1 hv1 ?_
  refine z_bipush (pc := 4) (v := 84) G dX9_holderIn_4 (by decide) ?_
  refine z_bipush (pc := 6) (v := 30) G dX9_holderIn_6 (by decide) ?_
  refine z_iload_n (pc := 8) G 1 dX9_holderIn_8 rfl rfl ?_
  refine z_imul (pc := 9) G dX9_holderIn_9 ?_
  refine z_iadd (pc := 10) G dX9_holderIn_10 ?_
  refine z_iload_n (pc := 11) G 2 dX9_holderIn_11 rfl rfl ?_
  refine z_iadd (pc := 12) G dX9_holderIn_12 ?_
  obtain ⟨x13, hv13, hX⟩ := z_bd hX
  refine z_iald (pc := 13) G dX9_holderIn_13 hv13 ?_
  exact z_iretX (pc := 14) hX G hr dX9_holderIn_14 (by decide) (by decide)
theorem dX9_round_0 : decode cX9_round 0 = .ok (.aload_n 0, 1) := by decide +kernel
theorem dX9_round_1 : decode cX9_round 1 = .ok (.getfield 24, 3) := by decide +kernel
theorem dX9_round_4 : decode cX9_round 4 = .ok (.aload_n 0, 1) := by decide +kernel
theorem dX9_round_5 : decode cX9_round 5 = .ok (.getfield 255, 3) := by decide +kernel
theorem dX9_round_8 : decode cX9_round 8 = .ok (.iaload, 1) := by decide +kernel
theorem dX9_round_9 : decode cX9_round 9 = .ok (.ireturn, 1) := by decide +kernel
theorem ydX9_round : z_yd yX9_round 0 := ⟨by decide, by decide, by decide +kernel⟩
abbrev rmX9_round : Room := { frames := 0, cells := 0, slots := 0, locals := 0 }
noncomputable def xX9_round (l0 : Nat) (h : ZH) : Option (Int32 × ZH) := ((z_gR h l0 9 12).bind fun x1 => ((z_gI h l0 9 34).bind fun x5 => ((z_aI h x1 x5).bind fun x8 => some (x8, h))))
set_option maxHeartbeats 4000000 in
set_option maxRecDepth 100000 in
theorem lX9_round {Γ : ZG} {l : Launch} (hO : z_OK Γ) {l0 : Nat} {h : ZH} {r : (Int32 × ZH)} (hX : xX9_round l0 h = some r) : z_M Γ l yX9_round (z_ws1 yX9_round cX9_round 1 (some .int)) rmX9_round [.ref l0] h (some (.int r.1)) r.2 := by
  refine z_start hO (plainFor_of_name (by decide)) (Nat.le_of_ble_eq_true rfl) ?_
  intro p e s m args below meth c G hr hnm
  refine z_lvc (lv2 := [(0, .ref l0)]) rfl ?_
  refine z_aload_n (pc := 0) G 0 dX9_round_0 rfl rfl ?_
  obtain ⟨x1, hv1, hX⟩ := z_bd hX
  refine z_getR (pc := 1) G kK9 (k := 12) (by decide) kt_1238 dX9_round_1 hv1 ?_
  refine z_aload_n (pc := 4) G 0 dX9_round_4 rfl rfl ?_
  obtain ⟨x5, hv5, hX⟩ := z_bd hX
  refine z_getI (pc := 5) G kK9 (k := 34) (by decide) kt_1260 dX9_round_5 hv5 ?_
  obtain ⟨x8, hv8, hX⟩ := z_bd hX
  refine z_iald (pc := 8) G dX9_round_8 hv8 ?_
  exact z_iretX (pc := 9) hX G hr dX9_round_9 (by decide) (by decide)
theorem dX9_heardOf_0 : decode cX9_heardOf 0 = .ok (.iconst 0, 1) := by decide +kernel
theorem dX9_heardOf_1 : decode cX9_heardOf 1 = .ok (.istore_n 2, 1) := by decide +kernel
theorem dX9_heardOf_2 : decode cX9_heardOf 2 = .ok (.iconst 0, 1) := by decide +kernel
theorem dX9_heardOf_3 : decode cX9_heardOf 3 = .ok (.istore_n 3, 1) := by decide +kernel
theorem dX9_heardOf_4 : decode cX9_heardOf 4 = .ok (.iload_n 3, 1) := by decide +kernel
theorem dX9_heardOf_5 : decode cX9_heardOf 5 = .ok (.aload_n 0, 1) := by decide +kernel
theorem dX9_heardOf_6 : decode cX9_heardOf 6 = .ok (.invokevirtual 344, 3) := by decide +kernel
theorem dX9_heardOf_9 : decode cX9_heardOf 9 = .ok (.if_icmp .ge 39, 3) := by decide +kernel
theorem dX9_heardOf_12 : decode cX9_heardOf 12 = .ok (.aload_n 0, 1) := by decide +kernel
theorem dX9_heardOf_13 : decode cX9_heardOf 13 = .ok (.iload_n 1, 1) := by decide +kernel
theorem dX9_heardOf_14 : decode cX9_heardOf 14 = .ok (.iload_n 3, 1) := by decide +kernel
theorem dX9_heardOf_15 : decode cX9_heardOf 15 = .ok (.invokevirtual 356, 3) := by decide +kernel
theorem dX9_heardOf_18 : decode cX9_heardOf 18 = .ok (.ifCond .lt 24, 3) := by decide +kernel
theorem dX9_heardOf_21 : decode cX9_heardOf 21 = .ok (.aload_n 0, 1) := by decide +kernel
theorem dX9_heardOf_22 : decode cX9_heardOf 22 = .ok (.iload_n 1, 1) := by decide +kernel
theorem dX9_heardOf_23 : decode cX9_heardOf 23 = .ok (.iload_n 3, 1) := by decide +kernel
theorem dX9_heardOf_24 : decode cX9_heardOf 24 = .ok (.invokevirtual 356, 3) := by decide +kernel
theorem dX9_heardOf_27 : decode cX9_heardOf 27 = .ok (.iload_n 1, 1) := by decide +kernel
theorem dX9_heardOf_28 : decode cX9_heardOf 28 = .ok (.if_icmp .eq 14, 3) := by decide +kernel
theorem dX9_heardOf_31 : decode cX9_heardOf 31 = .ok (.iload_n 2, 1) := by decide +kernel
theorem dX9_heardOf_32 : decode cX9_heardOf 32 = .ok (.iconst 1, 1) := by decide +kernel
theorem dX9_heardOf_33 : decode cX9_heardOf 33 = .ok (.aload_n 0, 1) := by decide +kernel
theorem dX9_heardOf_34 : decode cX9_heardOf 34 = .ok (.iload_n 1, 1) := by decide +kernel
theorem dX9_heardOf_35 : decode cX9_heardOf 35 = .ok (.iload_n 3, 1) := by decide +kernel
theorem dX9_heardOf_36 : decode cX9_heardOf 36 = .ok (.invokevirtual 356, 3) := by decide +kernel
theorem dX9_heardOf_39 : decode cX9_heardOf 39 = .ok (.ishl, 1) := by decide +kernel
theorem dX9_heardOf_40 : decode cX9_heardOf 40 = .ok (.ior, 1) := by decide +kernel
theorem dX9_heardOf_41 : decode cX9_heardOf 41 = .ok (.istore_n 2, 1) := by decide +kernel
theorem dX9_heardOf_42 : decode cX9_heardOf 42 = .ok (.iinc 3 1, 3) := by decide +kernel
theorem dX9_heardOf_45 : decode cX9_heardOf 45 = .ok (.goto (-41), 3) := by decide +kernel
theorem dX9_heardOf_48 : decode cX9_heardOf 48 = .ok (.iload_n 2, 1) := by decide +kernel
theorem dX9_heardOf_49 : decode cX9_heardOf 49 = .ok (.invokestatic 359, 3) := by decide +kernel
theorem dX9_heardOf_52 : decode cX9_heardOf 52 = .ok (.ireturn, 1) := by decide +kernel
theorem ydX9_heardOf : z_yd yX9_heardOf 1 := ⟨by decide, by decide, by decide +kernel⟩
abbrev rmX9_heardOf : Room := { frames := 1, cells := 0, slots := 0, locals := 22 }
noncomputable def xX9_heardOf_B4 (r4 : Nat → Int32 → Int32 → Int32 → ZH → Option (Int32 × ZH)) (l0 : Nat) (l1 : Int32) (l2 : Int32) (l3 : Int32) (h : ZH) : Option (Int32 × ZH) := (z_gu (z_is h l0 9) ((xX9_round l0 h).bind fun r6 => (if r6.1 ≤ l3 then ((xX9_bitsOf l2 r6.2).bind fun r49 => some (r49.1, r49.2)) else (z_gu (z_is r6.2 l0 9) ((xX9_holderIn l0 l1 l3 r6.2).bind fun r15 => (if r15.1 < 0 then r4 l0 l1 l2 (l3 + 1) r15.2 else (z_gu (z_is r15.2 l0 9) ((xX9_holderIn l0 l1 l3 r15.2).bind fun r24 => (if r24.1 = l1 then r4 l0 l1 l2 (l3 + 1) r24.2 else (z_gu (z_is r24.2 l0 9) ((xX9_holderIn l0 l1 l3 r24.2).bind fun r36 => r4 l0 l1 (l2 ||| ((1 : Int32) <<< (r36.1 &&& 31))) (l3 + 1) r36.2)))))))))))
noncomputable def xX9_heardOf_L4 (n : Nat) : Nat → Int32 → Int32 → Int32 → ZH → Option (Int32 × ZH) := Nat.rec (motive := fun _ => Nat → Int32 → Int32 → Int32 → ZH → Option (Int32 × ZH)) (fun _ _ _ _ _ => none) (fun _ rec => xX9_heardOf_B4  rec) n
set_option maxHeartbeats 4000000 in
set_option maxRecDepth 100000 in
theorem wX9_heardOf_B4 {Γ : ZG} {p : Program} {l : Launch} {e : Env} {s : State} {m : MethodId} {args : Array Value} {below : List Frame} {meth : Method} {c : Code} (hO : z_OK Γ) (G : z_GG Γ p s m args meth c cX9_heardOf 4 RX9) (hr : meth.sig.returnType = (some .int)) (hnm : meth.name = "heardOf") {r : (Int32 × ZH)} {r4 : Nat → Int32 → Int32 → Int32 → ZH → Option (Int32 × ZH)} (H4 : ∀ (l0 : Nat) (l1 : Int32) (l2 : Int32) (l3 : Int32) (h : ZH), r4 l0 l1 l2 l3 h = some r → z_W Γ p l e rmX9_heardOf s m args below meth c 4 0 0 (MQ below (z_Qc Γ (some (.int r.1)) r.2) args s rmX9_heardOf.cells rmX9_heardOf.slots (z_A Γ)) 4 [(0, .ref l0), (1, .int l1), (2, .int l2), (3, .int l3)] [] h) : ∀ (l0 : Nat) (l1 : Int32) (l2 : Int32) (l3 : Int32) (h : ZH), xX9_heardOf_B4  r4 l0 l1 l2 l3 h = some r → z_W Γ p l e rmX9_heardOf s m args below meth c 4 0 0 (MQ below (z_Qc Γ (some (.int r.1)) r.2) args s rmX9_heardOf.cells rmX9_heardOf.slots (z_A Γ)) 4 [(0, .ref l0), (1, .int l1), (2, .int l2), (3, .int l3)] [] h := by
  intro l0 l1 l2 l3 h hX
  refine z_iload_n (pc := 4) G 3 dX9_heardOf_4 rfl rfl ?_
  refine z_aload_n (pc := 5) G 0 dX9_heardOf_5 rfl rfl ?_
  obtain ⟨hi6, hX⟩ := z_gu_s hX
  obtain ⟨r6, hv6, hX⟩ := z_bd hX
  refine z_cVI (pc := 6) (As := []) (c2 := 0) (s2 := 0) G kK9 (lX9_round hO hv6) hi6 kt_1575 kt_11 kt_1572 kt_1574 ks_66 ydX9_round ⟨by decide, by decide⟩ rfl (Nat.le_of_ble_eq_true rfl) ⟨rfl, rfl⟩ ⟨by decide, by decide⟩ rfl dX9_heardOf_6 ?_
  refine z_icmp_ge (pc := 9) (tgt := 48) G dX9_heardOf_9 (by decide) (fun hc9 => ?_) (fun hc9 => ?_)
  · have hX := z_it hc9 hX
    refine z_iload_n (pc := 48) G 2 dX9_heardOf_48 rfl rfl ?_
    obtain ⟨r49, hv49, hX⟩ := z_bd hX
    refine z_cSI (pc := 49) (As := [.int l2]) (c2 := 0) (s2 := 0) G (lX9_bitsOf hO hv49) kt_1582 kt_11 kt_1580 kt_1581 ydX9_bitsOf ⟨by decide, by decide⟩ rfl (Nat.le_of_ble_eq_true rfl) ⟨rfl, rfl⟩ ⟨by decide, by decide⟩ rfl dX9_heardOf_49 ?_
    exact z_iretX (pc := 52) hX G hr dX9_heardOf_52 (by decide) (by decide)
  · have hX := z_if hc9 hX
    refine z_aload_n (pc := 12) G 0 dX9_heardOf_12 rfl rfl ?_
    refine z_iload_n (pc := 13) G 1 dX9_heardOf_13 rfl rfl ?_
    refine z_iload_n (pc := 14) G 3 dX9_heardOf_14 rfl rfl ?_
    obtain ⟨hi15, hX⟩ := z_gu_s hX
    obtain ⟨r15, hv15, hX⟩ := z_bd hX
    refine z_cVI (pc := 15) (As := [.int l1, .int l3]) (c2 := 0) (s2 := 0) G kK9 (lX9_holderIn hO hv15) hi15 kt_1579 kt_11 kt_1576 kt_1578 ks_67 ydX9_holderIn ⟨by decide, by decide⟩ rfl (Nat.le_of_ble_eq_true rfl) ⟨rfl, rfl⟩ ⟨by decide, by decide⟩ rfl dX9_heardOf_15 ?_
    refine z_if_lt (pc := 18) (tgt := 42) G dX9_heardOf_18 (by decide) (fun hc18 => ?_) (fun hc18 => ?_)
    · have hX := z_it hc18 hX
      refine z_iincw (pc := 42) (w := 1) (lv2 := [(0, .ref l0), (1, .int l1), (2, .int l2), (3, .int (l3 + 1))]) G 3 dX9_heardOf_42 rfl (by decide) (by decide) rfl rfl ?_
      refine z_goto (pc := 45) (tgt := 4) G dX9_heardOf_45 (by decide) ?_
      exact H4 _ _ _ _ _ hX
    · have hX := z_if hc18 hX
      refine z_aload_n (pc := 21) G 0 dX9_heardOf_21 rfl rfl ?_
      refine z_iload_n (pc := 22) G 1 dX9_heardOf_22 rfl rfl ?_
      refine z_iload_n (pc := 23) G 3 dX9_heardOf_23 rfl rfl ?_
      obtain ⟨hi24, hX⟩ := z_gu_s hX
      obtain ⟨r24, hv24, hX⟩ := z_bd hX
      refine z_cVI (pc := 24) (As := [.int l1, .int l3]) (c2 := 0) (s2 := 0) G kK9 (lX9_holderIn hO hv24) hi24 kt_1579 kt_11 kt_1576 kt_1578 ks_67 ydX9_holderIn ⟨by decide, by decide⟩ rfl (Nat.le_of_ble_eq_true rfl) ⟨rfl, rfl⟩ ⟨by decide, by decide⟩ rfl dX9_heardOf_24 ?_
      refine z_iload_n (pc := 27) G 1 dX9_heardOf_27 rfl rfl ?_
      refine z_icmp_eq (pc := 28) (tgt := 42) G dX9_heardOf_28 (by decide) (fun hc28 => ?_) (fun hc28 => ?_)
      · have hX := z_it hc28 hX
        refine z_iincw (pc := 42) (w := 1) (lv2 := [(0, .ref l0), (1, .int l1), (2, .int l2), (3, .int (l3 + 1))]) G 3 dX9_heardOf_42 rfl (by decide) (by decide) rfl rfl ?_
        refine z_goto (pc := 45) (tgt := 4) G dX9_heardOf_45 (by decide) ?_
        exact H4 _ _ _ _ _ hX
      · have hX := z_if hc28 hX
        refine z_iload_n (pc := 31) G 2 dX9_heardOf_31 rfl rfl ?_
        refine z_iconst (pc := 32) (v := 1) G dX9_heardOf_32 (by decide) ?_
        refine z_aload_n (pc := 33) G 0 dX9_heardOf_33 rfl rfl ?_
        refine z_iload_n (pc := 34) G 1 dX9_heardOf_34 rfl rfl ?_
        refine z_iload_n (pc := 35) G 3 dX9_heardOf_35 rfl rfl ?_
        obtain ⟨hi36, hX⟩ := z_gu_s hX
        obtain ⟨r36, hv36, hX⟩ := z_bd hX
        refine z_cVI (pc := 36) (As := [.int l1, .int l3]) (c2 := 0) (s2 := 0) G kK9 (lX9_holderIn hO hv36) hi36 kt_1579 kt_11 kt_1576 kt_1578 ks_67 ydX9_holderIn ⟨by decide, by decide⟩ rfl (Nat.le_of_ble_eq_true rfl) ⟨rfl, rfl⟩ ⟨by decide, by decide⟩ rfl dX9_heardOf_36 ?_
        refine z_ishl (pc := 39) G dX9_heardOf_39 ?_
        refine z_ior (pc := 40) G dX9_heardOf_40 ?_
        refine z_istore_n (pc := 41) (lv2 := [(0, .ref l0), (1, .int l1), (2, .int (l2 ||| ((1 : Int32) <<< (r36.1 &&& 31)))), (3, .int l3)]) G dX9_heardOf_41 rfl (by decide) rfl rfl ?_
        refine z_iincw (pc := 42) (w := 1) (lv2 := [(0, .ref l0), (1, .int l1), (2, .int (l2 ||| ((1 : Int32) <<< (r36.1 &&& 31)))), (3, .int (l3 + 1))]) G 3 dX9_heardOf_42 rfl (by decide) (by decide) rfl rfl ?_
        refine z_goto (pc := 45) (tgt := 4) G dX9_heardOf_45 (by decide) ?_
        exact H4 _ _ _ _ _ hX
set_option maxHeartbeats 4000000 in
set_option maxRecDepth 100000 in
theorem wX9_heardOf_L4 {Γ : ZG} {p : Program} {l : Launch} {e : Env} {s : State} {m : MethodId} {args : Array Value} {below : List Frame} {meth : Method} {c : Code} (hO : z_OK Γ) (G : z_GG Γ p s m args meth c cX9_heardOf 4 RX9) (hr : meth.sig.returnType = (some .int)) (hnm : meth.name = "heardOf") {r : (Int32 × ZH)} : ∀ (nn : Nat) (l0 : Nat) (l1 : Int32) (l2 : Int32) (l3 : Int32) (h : ZH), xX9_heardOf_L4  nn l0 l1 l2 l3 h = some r → z_W Γ p l e rmX9_heardOf s m args below meth c 4 0 0 (MQ below (z_Qc Γ (some (.int r.1)) r.2) args s rmX9_heardOf.cells rmX9_heardOf.slots (z_A Γ)) 4 [(0, .ref l0), (1, .int l1), (2, .int l2), (3, .int l3)] [] h := by
  intro nn
  induction nn with
  | zero => intro l0 l1 l2 l3 h hX; cases hX
  | succ nn ih => intro l0 l1 l2 l3 h hX; exact wX9_heardOf_B4 hO G hr hnm  ih l0 l1 l2 l3 h hX
noncomputable def xX9_heardOf (l0 : Nat) (l1 : Int32) (h : ZH) : Option (Int32 × ZH) := xX9_heardOf_L4 zFU l0 l1 (0 : Int32) (0 : Int32) h
set_option maxHeartbeats 4000000 in
set_option maxRecDepth 100000 in
theorem lX9_heardOf {Γ : ZG} {l : Launch} (hO : z_OK Γ) {l0 : Nat} {l1 : Int32} {h : ZH} {r : (Int32 × ZH)} (hX : xX9_heardOf l0 l1 h = some r) : z_M Γ l yX9_heardOf (z_ws1 yX9_heardOf cX9_heardOf 4 (some .int)) rmX9_heardOf [.ref l0, .int l1] h (some (.int r.1)) r.2 := by
  refine z_start hO (plainFor_of_name (by decide)) (Nat.le_of_ble_eq_true rfl) ?_
  intro p e s m args below meth c G hr hnm
  refine z_lvc (lv2 := [(0, .ref l0), (1, .int l1)]) rfl ?_
  refine z_iconst (pc := 0) (v := 0) G dX9_heardOf_0 (by decide) ?_
  refine z_istore_n (pc := 1) (lv2 := [(0, .ref l0), (1, .int l1), (2, .int (0 : Int32))]) G dX9_heardOf_1 rfl (by decide) rfl rfl ?_
  refine z_iconst (pc := 2) (v := 0) G dX9_heardOf_2 (by decide) ?_
  refine z_istore_n (pc := 3) (lv2 := [(0, .ref l0), (1, .int l1), (2, .int (0 : Int32)), (3, .int (0 : Int32))]) G dX9_heardOf_3 rfl (by decide) rfl rfl ?_
  exact wX9_heardOf_L4 hO G hr hnm zFU _ _ _ _ _ hX
theorem dX9_speedOf_0 : decode cX9_speedOf 0 = .ok (.aload_n 0, 1) := by decide +kernel
theorem dX9_speedOf_1 : decode cX9_speedOf 1 = .ok (.getfield 91, 3) := by decide +kernel
theorem dX9_speedOf_4 : decode cX9_speedOf 4 = .ok (.bipush 12, 2) := by decide +kernel
theorem dX9_speedOf_6 : decode cX9_speedOf 6 = .ok (.iload_n 1, 1) := by decide +kernel
theorem dX9_speedOf_7 : decode cX9_speedOf 7 = .ok (.iadd, 1) := by decide +kernel
theorem dX9_speedOf_8 : decode cX9_speedOf 8 = .ok (.iaload, 1) := by decide +kernel
theorem dX9_speedOf_9 : decode cX9_speedOf 9 = .ok (.istore_n 2, 1) := by decide +kernel
theorem dX9_speedOf_10 : decode cX9_speedOf 10 = .ok (.aload_n 0, 1) := by decide +kernel
theorem dX9_speedOf_11 : decode cX9_speedOf 11 = .ok (.getfield 91, 3) := by decide +kernel
theorem dX9_speedOf_14 : decode cX9_speedOf 14 = .ok (.bipush 18, 2) := by decide +kernel
theorem dX9_speedOf_16 : decode cX9_speedOf 16 = .ok (.iload_n 1, 1) := by decide +kernel
theorem dX9_speedOf_17 : decode cX9_speedOf 17 = .ok (.iadd, 1) := by decide +kernel
theorem dX9_speedOf_18 : decode cX9_speedOf 18 = .ok (.iaload, 1) := by decide +kernel
theorem dX9_speedOf_19 : decode cX9_speedOf 19 = .ok (.istore_n 3, 1) := by decide +kernel
theorem dX9_speedOf_20 : decode cX9_speedOf 20 = .ok (.iload_n 2, 1) := by decide +kernel
theorem dX9_speedOf_21 : decode cX9_speedOf 21 = .ok (.bipush 100, 2) := by decide +kernel
theorem dX9_speedOf_23 : decode cX9_speedOf 23 = .ok (.iload_n 2, 1) := by decide +kernel
theorem dX9_speedOf_24 : decode cX9_speedOf 24 = .ok (.isub, 1) := by decide +kernel
theorem dX9_speedOf_25 : decode cX9_speedOf 25 = .ok (.if_icmp .ge 7, 3) := by decide +kernel
theorem dX9_speedOf_28 : decode cX9_speedOf 28 = .ok (.iload_n 2, 1) := by decide +kernel
theorem dX9_speedOf_29 : decode cX9_speedOf 29 = .ok (.goto 7, 3) := by decide +kernel
theorem dX9_speedOf_32 : decode cX9_speedOf 32 = .ok (.bipush 100, 2) := by decide +kernel
theorem dX9_speedOf_34 : decode cX9_speedOf 34 = .ok (.iload_n 2, 1) := by decide +kernel
theorem dX9_speedOf_35 : decode cX9_speedOf 35 = .ok (.isub, 1) := by decide +kernel
theorem dX9_speedOf_36 : decode cX9_speedOf 36 = .ok (.iload_n 3, 1) := by decide +kernel
theorem dX9_speedOf_37 : decode cX9_speedOf 37 = .ok (.bipush 100, 2) := by decide +kernel
theorem dX9_speedOf_39 : decode cX9_speedOf 39 = .ok (.iload_n 3, 1) := by decide +kernel
theorem dX9_speedOf_40 : decode cX9_speedOf 40 = .ok (.isub, 1) := by decide +kernel
theorem dX9_speedOf_41 : decode cX9_speedOf 41 = .ok (.if_icmp .ge 7, 3) := by decide +kernel
theorem dX9_speedOf_44 : decode cX9_speedOf 44 = .ok (.iload_n 3, 1) := by decide +kernel
theorem dX9_speedOf_45 : decode cX9_speedOf 45 = .ok (.goto 7, 3) := by decide +kernel
theorem dX9_speedOf_48 : decode cX9_speedOf 48 = .ok (.bipush 100, 2) := by decide +kernel
theorem dX9_speedOf_50 : decode cX9_speedOf 50 = .ok (.iload_n 3, 1) := by decide +kernel
theorem dX9_speedOf_51 : decode cX9_speedOf 51 = .ok (.isub, 1) := by decide +kernel
theorem dX9_speedOf_52 : decode cX9_speedOf 52 = .ok (.iadd, 1) := by decide +kernel
theorem dX9_speedOf_53 : decode cX9_speedOf 53 = .ok (.ireturn, 1) := by decide +kernel
theorem ydX9_speedOf : z_yd yX9_speedOf 1 := ⟨by decide, by decide, by decide +kernel⟩
abbrev rmX9_speedOf : Room := { frames := 0, cells := 0, slots := 0, locals := 0 }
noncomputable def xX9_speedOf_B36 (l3 : Int32) (s0 : Int32) (h : ZH) : Option (Int32 × ZH) := (if ((100 : Int32) - l3) ≤ l3 then some ((s0 + ((100 : Int32) - l3)), h) else some ((s0 + l3), h))
set_option maxHeartbeats 4000000 in
set_option maxRecDepth 100000 in
theorem wX9_speedOf_B36 {Γ : ZG} {p : Program} {l : Launch} {e : Env} {s : State} {m : MethodId} {args : Array Value} {below : List Frame} {meth : Method} {c : Code} (hO : z_OK Γ) (G : z_GG Γ p s m args meth c cX9_speedOf 4 RX9) (hr : meth.sig.returnType = (some .int)) (hnm : meth.name = "speedOf") {r : (Int32 × ZH)} : ∀ (l3 : Int32) (s0 : Int32) (h : ZH), xX9_speedOf_B36  l3 s0 h = some r → z_W Γ p l e rmX9_speedOf s m args below meth c 4 0 0 (MQ below (z_Qc Γ (some (.int r.1)) r.2) args s rmX9_speedOf.cells rmX9_speedOf.slots (z_A Γ)) 36 [(3, .int l3)] [.int s0] h := by
  intro l3 s0 h hX
  refine z_iload_n (pc := 36) G 0 dX9_speedOf_36 rfl rfl ?_
  refine z_bipush (pc := 37) (v := 100) G dX9_speedOf_37 (by decide) ?_
  refine z_iload_n (pc := 39) G 0 dX9_speedOf_39 rfl rfl ?_
  refine z_isub (pc := 40) G dX9_speedOf_40 ?_
  refine z_icmp_ge (pc := 41) (tgt := 48) G dX9_speedOf_41 (by decide) (fun hc41 => ?_) (fun hc41 => ?_)
  · have hX := z_it hc41 hX
    refine z_bipush (pc := 48) (v := 100) G dX9_speedOf_48 (by decide) ?_
    refine z_iload_n (pc := 50) G 0 dX9_speedOf_50 rfl rfl ?_
    refine z_isub (pc := 51) G dX9_speedOf_51 ?_
    refine z_iadd (pc := 52) G dX9_speedOf_52 ?_
    exact z_iretX (pc := 53) hX G hr dX9_speedOf_53 (by decide) (by decide)
  · have hX := z_if hc41 hX
    refine z_iload_n (pc := 44) G 0 dX9_speedOf_44 rfl rfl ?_
    refine z_goto (pc := 45) (tgt := 52) G dX9_speedOf_45 (by decide) ?_
    refine z_iadd (pc := 52) G dX9_speedOf_52 ?_
    exact z_iretX (pc := 53) hX G hr dX9_speedOf_53 (by decide) (by decide)
noncomputable def xX9_speedOf (l0 : Nat) (l1 : Int32) (h : ZH) : Option (Int32 × ZH) := ((z_gR h l0 9 41).bind fun x1 => ((z_aI h x1 ((12 : Int32) + l1)).bind fun x8 => ((z_gR h l0 9 41).bind fun x11 => ((z_aI h x11 ((18 : Int32) + l1)).bind fun x18 => (if ((100 : Int32) - x8) ≤ x8 then xX9_speedOf_B36 x18 ((100 : Int32) - x8) h else xX9_speedOf_B36 x18 x8 h)))))
set_option maxHeartbeats 4000000 in
set_option maxRecDepth 100000 in
theorem lX9_speedOf {Γ : ZG} {l : Launch} (hO : z_OK Γ) {l0 : Nat} {l1 : Int32} {h : ZH} {r : (Int32 × ZH)} (hX : xX9_speedOf l0 l1 h = some r) : z_M Γ l yX9_speedOf (z_ws1 yX9_speedOf cX9_speedOf 4 (some .int)) rmX9_speedOf [.ref l0, .int l1] h (some (.int r.1)) r.2 := by
  refine z_start hO (plainFor_of_name (by decide)) (Nat.le_of_ble_eq_true rfl) ?_
  intro p e s m args below meth c G hr hnm
  refine z_lvc (lv2 := [(0, .ref l0), (1, .int l1)]) rfl ?_
  refine z_aload_n (pc := 0) G 0 dX9_speedOf_0 rfl rfl ?_
  obtain ⟨x1, hv1, hX⟩ := z_bd hX
  refine z_getR (pc := 1) G kK9 (k := 41) (by decide) kt_1267 dX9_speedOf_1 hv1 ?_
  refine z_bipush (pc := 4) (v := 12) G dX9_speedOf_4 (by decide) ?_
  refine z_iload_n (pc := 6) G 1 dX9_speedOf_6 rfl rfl ?_
  refine z_iadd (pc := 7) G dX9_speedOf_7 ?_
  obtain ⟨x8, hv8, hX⟩ := z_bd hX
  refine z_iald (pc := 8) G dX9_speedOf_8 hv8 ?_
  refine z_istore_n (pc := 9) (lv2 := [(0, .ref l0), (1, .int l1), (2, .int x8)]) G dX9_speedOf_9 rfl (by decide) rfl rfl ?_
  refine z_aload_n (pc := 10) G 0 dX9_speedOf_10 rfl rfl ?_
  obtain ⟨x11, hv11, hX⟩ := z_bd hX
  refine z_getR (pc := 11) G kK9 (k := 41) (by decide) kt_1267 dX9_speedOf_11 hv11 ?_
  refine z_bipush (pc := 14) (v := 18) G dX9_speedOf_14 (by decide) ?_
  refine z_iload_n (pc := 16) G 1 dX9_speedOf_16 rfl rfl ?_
  refine z_iadd (pc := 17) G dX9_speedOf_17 ?_
  obtain ⟨x18, hv18, hX⟩ := z_bd hX
  refine z_iald (pc := 18) G dX9_speedOf_18 hv18 ?_
  refine z_istore_n (pc := 19) (lv2 := [(0, .ref l0), (1, .int l1), (2, .int x8), (3, .int x18)]) G dX9_speedOf_19 rfl (by decide) rfl rfl ?_
  refine z_iload_n (pc := 20) G 2 dX9_speedOf_20 rfl rfl ?_
  refine z_bipush (pc := 21) (v := 100) G dX9_speedOf_21 (by decide) ?_
  refine z_iload_n (pc := 23) G 2 dX9_speedOf_23 rfl rfl ?_
  refine z_isub (pc := 24) G dX9_speedOf_24 ?_
  refine z_icmp_ge (pc := 25) (tgt := 32) G dX9_speedOf_25 (by decide) (fun hc25 => ?_) (fun hc25 => ?_)
  · have hX := z_it hc25 hX
    refine z_bipush (pc := 32) (v := 100) G dX9_speedOf_32 (by decide) ?_
    refine z_iload_n (pc := 34) G 2 dX9_speedOf_34 rfl rfl ?_
    refine z_isub (pc := 35) G dX9_speedOf_35 ?_
    refine z_drop (lv2 := [(3, .int x18)]) [3] rfl ?_
    exact wX9_speedOf_B36 hO G hr hnm _ _ _ hX
  · have hX := z_if hc25 hX
    refine z_iload_n (pc := 28) G 2 dX9_speedOf_28 rfl rfl ?_
    refine z_goto (pc := 29) (tgt := 36) G dX9_speedOf_29 (by decide) ?_
    refine z_drop (lv2 := [(3, .int x18)]) [3] rfl ?_
    exact wX9_speedOf_B36 hO G hr hnm _ _ _ hX
theorem dX9_asked_0 : decode cX9_asked 0 = .ok (.iload_n 1, 1) := by decide +kernel
theorem dX9_asked_1 : decode cX9_asked 1 = .ok (.lookupswitch 75 #[(101, 52), (102, 66), (115, 43), (117, 61)], 43) := by decide +kernel
theorem dX9_asked_44 : decode cX9_asked 44 = .ok (.aload_n 0, 1) := by decide +kernel
theorem dX9_asked_45 : decode cX9_asked 45 = .ok (.aload_n 0, 1) := by decide +kernel
theorem dX9_asked_46 : decode cX9_asked 46 = .ok (.getfield 322, 3) := by decide +kernel
theorem dX9_asked_49 : decode cX9_asked 49 = .ok (.invokevirtual 325, 3) := by decide +kernel
theorem dX9_asked_52 : decode cX9_asked 52 = .ok (.ireturn, 1) := by decide +kernel
theorem dX9_asked_53 : decode cX9_asked 53 = .ok (.aload_n 0, 1) := by decide +kernel
theorem dX9_asked_54 : decode cX9_asked 54 = .ok (.aload_n 0, 1) := by decide +kernel
theorem dX9_asked_55 : decode cX9_asked 55 = .ok (.getfield 322, 3) := by decide +kernel
theorem dX9_asked_58 : decode cX9_asked 58 = .ok (.invokevirtual 328, 3) := by decide +kernel
theorem dX9_asked_61 : decode cX9_asked 61 = .ok (.ireturn, 1) := by decide +kernel
theorem dX9_asked_62 : decode cX9_asked 62 = .ok (.aload_n 0, 1) := by decide +kernel
theorem dX9_asked_63 : decode cX9_asked 63 = .ok (.getfield 322, 3) := by decide +kernel
theorem dX9_asked_66 : decode cX9_asked 66 = .ok (.ireturn, 1) := by decide +kernel
theorem dX9_asked_67 : decode cX9_asked 67 = .ok (.aload_n 0, 1) := by decide +kernel
theorem dX9_asked_68 : decode cX9_asked 68 = .ok (.getfield 91, 3) := by decide +kernel
theorem dX9_asked_71 : decode cX9_asked 71 = .ok (.sipush 517, 3) := by decide +kernel
theorem dX9_asked_74 : decode cX9_asked 74 = .ok (.iaload, 1) := by decide +kernel
theorem dX9_asked_75 : decode cX9_asked 75 = .ok (.ireturn, 1) := by decide +kernel
theorem dX9_asked_76 : decode cX9_asked 76 = .ok (.iload_n 2, 1) := by decide +kernel
theorem dX9_asked_77 : decode cX9_asked 77 = .ok (.ireturn, 1) := by decide +kernel
theorem ydX9_asked : z_yd yX9_asked 2 := ⟨by decide, by decide, by decide +kernel⟩
abbrev rmX9_asked : Room := { frames := 2, cells := 0, slots := 0, locals := 45 }
noncomputable def xX9_asked (l0 : Nat) (l1 : Int32) (l2 : Int32) (h : ZH) : Option (Int32 × ZH) := (if l1 = 101 then ((z_gI h l0 9 40).bind fun x55 => (z_gu (z_is h l0 9) ((xX9_heardOf l0 x55 h).bind fun r58 => some (r58.1, r58.2)))) else (if l1 = 102 then ((z_gR h l0 9 41).bind fun x68 => ((z_aI h x68 (517 : Int32)).bind fun x74 => some (x74, h))) else (if l1 = 115 then ((z_gI h l0 9 40).bind fun x46 => (z_gu (z_is h l0 9) ((xX9_speedOf l0 x46 h).bind fun r49 => some (r49.1, r49.2)))) else (if l1 = 117 then ((z_gI h l0 9 40).bind fun x63 => some (x63, h)) else some (l2, h)))))
set_option maxHeartbeats 4000000 in
set_option maxRecDepth 100000 in
theorem lX9_asked {Γ : ZG} {l : Launch} (hO : z_OK Γ) {l0 : Nat} {l1 : Int32} {l2 : Int32} {h : ZH} {r : (Int32 × ZH)} (hX : xX9_asked l0 l1 l2 h = some r) : z_M Γ l yX9_asked (z_ws1 yX9_asked cX9_asked 3 (some .int)) rmX9_asked [.ref l0, .int l1, .int l2] h (some (.int r.1)) r.2 := by
  refine z_start hO (plainFor_of_name (by decide)) (Nat.le_of_ble_eq_true rfl) ?_
  intro p e s m args below meth c G hr hnm
  refine z_lvc (lv2 := [(0, .ref l0), (1, .int l1), (2, .int l2)]) rfl ?_
  refine z_iload_n (pc := 0) G 1 dX9_asked_0 rfl rfl ?_
  by_cases hs1_0 : l1 = 101
  · have hX := z_it hs1_0 hX
    refine z_lookup (pc := 1) (off := 52) (tgt := 53) G dX9_asked_1 (by decide) (by rw [hs1_0]; decide) (by decide) ?_
    refine z_aload_n (pc := 53) G 0 dX9_asked_53 rfl rfl ?_
    refine z_aload_n (pc := 54) G 0 dX9_asked_54 rfl rfl ?_
    obtain ⟨x55, hv55, hX⟩ := z_bd hX
    refine z_getI (pc := 55) G kK9 (k := 40) (by decide) kt_1266 dX9_asked_55 hv55 ?_
    obtain ⟨hi58, hX⟩ := z_gu_s hX
    obtain ⟨r58, hv58, hX⟩ := z_bd hX
    refine z_cVI (pc := 58) (As := [.int x55]) (c2 := 0) (s2 := 0) G kK9 (lX9_heardOf hO hv58) hi58 kt_1571 kt_11 kt_1568 kt_1570 ks_65 ydX9_heardOf ⟨by decide, by decide⟩ rfl (Nat.le_of_ble_eq_true rfl) ⟨rfl, rfl⟩ ⟨by decide, by decide⟩ rfl dX9_asked_58 ?_
    exact z_iretX (pc := 61) hX G hr dX9_asked_61 (by decide) (by decide)
  have hX := z_if hs1_0 hX
  by_cases hs1_1 : l1 = 102
  · have hX := z_it hs1_1 hX
    refine z_lookup (pc := 1) (off := 66) (tgt := 67) G dX9_asked_1 (by decide) (by rw [hs1_1]; decide) (by decide) ?_
    refine z_aload_n (pc := 67) G 0 dX9_asked_67 rfl rfl ?_
    obtain ⟨x68, hv68, hX⟩ := z_bd hX
    refine z_getR (pc := 68) G kK9 (k := 41) (by decide) kt_1267 dX9_asked_68 hv68 ?_
    refine z_sipush (pc := 71) (v := 517) G dX9_asked_71 (by decide) ?_
    obtain ⟨x74, hv74, hX⟩ := z_bd hX
    refine z_iald (pc := 74) G dX9_asked_74 hv74 ?_
    exact z_iretX (pc := 75) hX G hr dX9_asked_75 (by decide) (by decide)
  have hX := z_if hs1_1 hX
  by_cases hs1_2 : l1 = 115
  · have hX := z_it hs1_2 hX
    refine z_lookup (pc := 1) (off := 43) (tgt := 44) G dX9_asked_1 (by decide) (by rw [hs1_2]; decide) (by decide) ?_
    refine z_aload_n (pc := 44) G 0 dX9_asked_44 rfl rfl ?_
    refine z_aload_n (pc := 45) G 0 dX9_asked_45 rfl rfl ?_
    obtain ⟨x46, hv46, hX⟩ := z_bd hX
    refine z_getI (pc := 46) G kK9 (k := 40) (by decide) kt_1266 dX9_asked_46 hv46 ?_
    obtain ⟨hi49, hX⟩ := z_gu_s hX
    obtain ⟨r49, hv49, hX⟩ := z_bd hX
    refine z_cVI (pc := 49) (As := [.int x46]) (c2 := 0) (s2 := 0) G kK9 (lX9_speedOf hO hv49) hi49 kt_1563 kt_11 kt_1560 kt_1562 ks_63 ydX9_speedOf ⟨by decide, by decide⟩ rfl (Nat.le_of_ble_eq_true rfl) ⟨rfl, rfl⟩ ⟨by decide, by decide⟩ rfl dX9_asked_49 ?_
    exact z_iretX (pc := 52) hX G hr dX9_asked_52 (by decide) (by decide)
  have hX := z_if hs1_2 hX
  by_cases hs1_3 : l1 = 117
  · have hX := z_it hs1_3 hX
    refine z_lookup (pc := 1) (off := 61) (tgt := 62) G dX9_asked_1 (by decide) (by rw [hs1_3]; decide) (by decide) ?_
    refine z_aload_n (pc := 62) G 0 dX9_asked_62 rfl rfl ?_
    obtain ⟨x63, hv63, hX⟩ := z_bd hX
    refine z_getI (pc := 63) G kK9 (k := 40) (by decide) kt_1266 dX9_asked_63 hv63 ?_
    exact z_iretX (pc := 66) hX G hr dX9_asked_66 (by decide) (by decide)
  have hX := z_if hs1_3 hX
  refine z_lookup (pc := 1) (off := 75) (tgt := 76) G dX9_asked_1 (by decide) ((lv_osw (k := 101) hs1_0 (by decide)).trans ((lv_osw (k := 102) hs1_1 (by decide)).trans ((lv_osw (k := 115) hs1_2 (by decide)).trans ((lv_osw (k := 117) hs1_3 (by decide)).trans (rfl))))) (by decide) ?_
  refine z_iload_n (pc := 76) G 2 dX9_asked_76 rfl rfl ?_
  exact z_iretX (pc := 77) hX G hr dX9_asked_77 (by decide) (by decide)
theorem dX9_comes_0 : decode cX9_comes 0 = .ok (.iconst 0, 1) := by decide +kernel
theorem dX9_comes_1 : decode cX9_comes 1 = .ok (.istore_n 1, 1) := by decide +kernel
theorem dX9_comes_2 : decode cX9_comes 2 = .ok (.aload_n 0, 1) := by decide +kernel
theorem dX9_comes_3 : decode cX9_comes 3 = .ok (.getfield 66, 3) := by decide +kernel
theorem dX9_comes_6 : decode cX9_comes 6 = .ok (.aload_n 0, 1) := by decide +kernel
theorem dX9_comes_7 : decode cX9_comes 7 = .ok (.getfield 255, 3) := by decide +kernel
theorem dX9_comes_10 : decode cX9_comes 10 = .ok (.iaload, 1) := by decide +kernel
theorem dX9_comes_11 : decode cX9_comes 11 = .ok (.istore_n 2, 1) := by decide +kernel
theorem dX9_comes_12 : decode cX9_comes 12 = .ok (.iload_n 2, 1) := by decide +kernel
theorem dX9_comes_13 : decode cX9_comes 13 = .ok (.aload_n 0, 1) := by decide +kernel
theorem dX9_comes_14 : decode cX9_comes 14 = .ok (.getfield 69, 3) := by decide +kernel
theorem dX9_comes_17 : decode cX9_comes 17 = .ok (.aload_n 0, 1) := by decide +kernel
theorem dX9_comes_18 : decode cX9_comes 18 = .ok (.getfield 255, 3) := by decide +kernel
theorem dX9_comes_21 : decode cX9_comes 21 = .ok (.iaload, 1) := by decide +kernel
theorem dX9_comes_22 : decode cX9_comes 22 = .ok (.if_icmp .ge 108, 3) := by decide +kernel
theorem dX9_comes_25 : decode cX9_comes 25 = .ok (.aload_n 0, 1) := by decide +kernel
theorem dX9_comes_26 : decode cX9_comes 26 = .ok (.getfield 76, 3) := by decide +kernel
theorem dX9_comes_29 : decode cX9_comes 29 = .ok (.iload_n 2, 1) := by decide +kernel
theorem dX9_comes_30 : decode cX9_comes 30 = .ok (.iaload, 1) := by decide +kernel
theorem dX9_comes_31 : decode cX9_comes 31 = .ok (.istore_n 3, 1) := by decide +kernel
theorem dX9_comes_32 : decode cX9_comes 32 = .ok (.iload_n 3, 1) := by decide +kernel
theorem dX9_comes_33 : decode cX9_comes 33 = .ok (.bipush 126, 2) := by decide +kernel
theorem dX9_comes_35 : decode cX9_comes 35 = .ok (.if_icmp .ne 30, 3) := by decide +kernel
theorem dX9_comes_38 : decode cX9_comes 38 = .ok (.aload_n 0, 1) := by decide +kernel
theorem dX9_comes_39 : decode cX9_comes 39 = .ok (.getfield 88, 3) := by decide +kernel
theorem dX9_comes_42 : decode cX9_comes 42 = .ok (.iload_n 1, 1) := by decide +kernel
theorem dX9_comes_43 : decode cX9_comes 43 = .ok (.iconst 1, 1) := by decide +kernel
theorem dX9_comes_44 : decode cX9_comes 44 = .ok (.isub, 1) := by decide +kernel
theorem dX9_comes_45 : decode cX9_comes 45 = .ok (.aload_n 0, 1) := by decide +kernel
theorem dX9_comes_46 : decode cX9_comes 46 = .ok (.getfield 88, 3) := by decide +kernel
theorem dX9_comes_49 : decode cX9_comes 49 = .ok (.iload_n 1, 1) := by decide +kernel
theorem dX9_comes_50 : decode cX9_comes 50 = .ok (.iconst 1, 1) := by decide +kernel
theorem dX9_comes_51 : decode cX9_comes 51 = .ok (.isub, 1) := by decide +kernel
theorem dX9_comes_52 : decode cX9_comes 52 = .ok (.iaload, 1) := by decide +kernel
theorem dX9_comes_53 : decode cX9_comes 53 = .ok (.ifCond .ne 7, 3) := by decide +kernel
theorem dX9_comes_56 : decode cX9_comes 56 = .ok (.iconst 1, 1) := by decide +kernel
theorem dX9_comes_57 : decode cX9_comes 57 = .ok (.goto 4, 3) := by decide +kernel
theorem dX9_comes_60 : decode cX9_comes 60 = .ok (.iconst 0, 1) := by decide +kernel
theorem dX9_comes_61 : decode cX9_comes 61 = .ok (.iastore, 1) := by decide +kernel
theorem dX9_comes_62 : decode cX9_comes 62 = .ok (.goto 62, 3) := by decide +kernel
theorem dX9_comes_65 : decode cX9_comes 65 = .ok (.iload_n 3, 1) := by decide +kernel
theorem dX9_comes_66 : decode cX9_comes 66 = .ok (.invokestatic 200, 3) := by decide +kernel
theorem dX9_comes_69 : decode cX9_comes 69 = .ok (.ifCond .eq 26, 3) := by decide +kernel
theorem dX9_comes_72 : decode cX9_comes 72 = .ok (.aload_n 0, 1) := by decide +kernel
theorem dX9_comes_73 : decode cX9_comes 73 = .ok (.getfield 88, 3) := by decide +kernel
theorem dX9_comes_76 : decode cX9_comes 76 = .ok (.iload_n 1, 1) := by decide +kernel
theorem dX9_comes_77 : decode cX9_comes 77 = .ok (.aload_n 0, 1) := by decide +kernel
theorem dX9_comes_78 : decode cX9_comes 78 = .ok (.iload_n 3, 1) := by decide +kernel
theorem dX9_comes_79 : decode cX9_comes 79 = .ok (.aload_n 0, 1) := by decide +kernel
theorem dX9_comes_80 : decode cX9_comes 80 = .ok (.getfield 79, 3) := by decide +kernel
theorem dX9_comes_83 : decode cX9_comes 83 = .ok (.iload_n 2, 1) := by decide +kernel
theorem dX9_comes_84 : decode cX9_comes 84 = .ok (.iaload, 1) := by decide +kernel
theorem dX9_comes_85 : decode cX9_comes 85 = .ok (.invokevirtual 331, 3) := by decide +kernel
theorem dX9_comes_88 : decode cX9_comes 88 = .ok (.iastore, 1) := by decide +kernel
theorem dX9_comes_89 : decode cX9_comes 89 = .ok (.iinc 1 1, 3) := by decide +kernel
theorem dX9_comes_92 : decode cX9_comes 92 = .ok (.goto 32, 3) := by decide +kernel
theorem dX9_comes_95 : decode cX9_comes 95 = .ok (.iinc 1 (-1), 3) := by decide +kernel
theorem dX9_comes_98 : decode cX9_comes 98 = .ok (.aload_n 0, 1) := by decide +kernel
theorem dX9_comes_99 : decode cX9_comes 99 = .ok (.getfield 88, 3) := by decide +kernel
theorem dX9_comes_102 : decode cX9_comes 102 = .ok (.iload_n 1, 1) := by decide +kernel
theorem dX9_comes_103 : decode cX9_comes 103 = .ok (.iconst 1, 1) := by decide +kernel
theorem dX9_comes_104 : decode cX9_comes 104 = .ok (.isub, 1) := by decide +kernel
theorem dX9_comes_105 : decode cX9_comes 105 = .ok (.iload_n 3, 1) := by decide +kernel
theorem dX9_comes_106 : decode cX9_comes 106 = .ok (.aload_n 0, 1) := by decide +kernel
theorem dX9_comes_107 : decode cX9_comes 107 = .ok (.getfield 88, 3) := by decide +kernel
theorem dX9_comes_110 : decode cX9_comes 110 = .ok (.iload_n 1, 1) := by decide +kernel
theorem dX9_comes_111 : decode cX9_comes 111 = .ok (.iconst 1, 1) := by decide +kernel
theorem dX9_comes_112 : decode cX9_comes 112 = .ok (.isub, 1) := by decide +kernel
theorem dX9_comes_113 : decode cX9_comes 113 = .ok (.iaload, 1) := by decide +kernel
theorem dX9_comes_114 : decode cX9_comes 114 = .ok (.aload_n 0, 1) := by decide +kernel
theorem dX9_comes_115 : decode cX9_comes 115 = .ok (.getfield 88, 3) := by decide +kernel
theorem dX9_comes_118 : decode cX9_comes 118 = .ok (.iload_n 1, 1) := by decide +kernel
theorem dX9_comes_119 : decode cX9_comes 119 = .ok (.iaload, 1) := by decide +kernel
theorem dX9_comes_120 : decode cX9_comes 120 = .ok (.invokestatic 334, 3) := by decide +kernel
theorem dX9_comes_123 : decode cX9_comes 123 = .ok (.iastore, 1) := by decide +kernel
theorem dX9_comes_124 : decode cX9_comes 124 = .ok (.iinc 2 1, 3) := by decide +kernel
theorem dX9_comes_127 : decode cX9_comes 127 = .ok (.goto (-115), 3) := by decide +kernel
theorem dX9_comes_130 : decode cX9_comes 130 = .ok (.aload_n 0, 1) := by decide +kernel
theorem dX9_comes_131 : decode cX9_comes 131 = .ok (.getfield 88, 3) := by decide +kernel
theorem dX9_comes_134 : decode cX9_comes 134 = .ok (.iconst 0, 1) := by decide +kernel
theorem dX9_comes_135 : decode cX9_comes 135 = .ok (.iaload, 1) := by decide +kernel
theorem dX9_comes_136 : decode cX9_comes 136 = .ok (.ireturn, 1) := by decide +kernel
theorem ydX9_comes : z_yd yX9_comes 0 := ⟨by decide, by decide, by decide +kernel⟩
abbrev rmX9_comes : Room := { frames := 3, cells := 0, slots := 0, locals := 67 }
noncomputable def xX9_comes_B12 (r12 : Nat → Int32 → Int32 → ZH → Option (Int32 × ZH)) (l0 : Nat) (l1 : Int32) (l2 : Int32) (h : ZH) : Option (Int32 × ZH) := ((z_gR h l0 9 27).bind fun x14 => ((z_gI h l0 9 34).bind fun x18 => ((z_aI h x14 x18).bind fun x21 => (if x21 ≤ l2 then ((z_gR h l0 9 33).bind fun x131 => ((z_aI h x131 (0 : Int32)).bind fun x135 => some (x135, h))) else ((z_gR h l0 9 29).bind fun x26 => ((z_aI h x26 l2).bind fun x30 => (if x30 = (126 : Int32) then ((z_gR h l0 9 33).bind fun x39 => ((z_gR h l0 9 33).bind fun x46 => ((z_aI h x46 (l1 - (1 : Int32))).bind fun x52 => (if x52 = 0 then ((z_uI h x39 (l1 - (1 : Int32)) (1 : Int32)).bind fun h61 => r12 l0 l1 (l2 + 1) h61) else ((z_uI h x39 (l1 - (1 : Int32)) (0 : Int32)).bind fun h61 => r12 l0 l1 (l2 + 1) h61))))) else ((xX9_isLetter x30 h).bind fun r66 => (if r66.1 = 0 then ((z_gR r66.2 l0 9 33).bind fun x99 => ((z_gR r66.2 l0 9 33).bind fun x107 => ((z_aI r66.2 x107 ((l1 + (-1)) - (1 : Int32))).bind fun x113 => ((z_gR r66.2 l0 9 33).bind fun x115 => ((z_aI r66.2 x115 (l1 + (-1))).bind fun x119 => ((xX9_two x30 x113 x119 r66.2).bind fun r120 => ((z_uI r120.2 x99 ((l1 + (-1)) - (1 : Int32)) r120.1).bind fun h123 => r12 l0 (l1 + (-1)) (l2 + 1) h123))))))) else ((z_gR r66.2 l0 9 33).bind fun x73 => ((z_gR r66.2 l0 9 30).bind fun x80 => ((z_aI r66.2 x80 l2).bind fun x84 => (z_gu (z_is r66.2 l0 9) ((xX9_asked l0 x30 x84 r66.2).bind fun r85 => ((z_uI r85.2 x73 l1 r85.1).bind fun h88 => r12 l0 (l1 + 1) (l2 + 1) h88)))))))))))))))
noncomputable def xX9_comes_L12 (n : Nat) : Nat → Int32 → Int32 → ZH → Option (Int32 × ZH) := Nat.rec (motive := fun _ => Nat → Int32 → Int32 → ZH → Option (Int32 × ZH)) (fun _ _ _ _ => none) (fun _ rec => xX9_comes_B12  rec) n
set_option maxHeartbeats 4000000 in
set_option maxRecDepth 100000 in
theorem wX9_comes_B12 {Γ : ZG} {p : Program} {l : Launch} {e : Env} {s : State} {m : MethodId} {args : Array Value} {below : List Frame} {meth : Method} {c : Code} (hO : z_OK Γ) (G : z_GG Γ p s m args meth c cX9_comes 4 RX9) (hr : meth.sig.returnType = (some .int)) (hnm : meth.name = "comes") {r : (Int32 × ZH)} {r12 : Nat → Int32 → Int32 → ZH → Option (Int32 × ZH)} (H12 : ∀ (l0 : Nat) (l1 : Int32) (l2 : Int32) (h : ZH), r12 l0 l1 l2 h = some r → z_W Γ p l e rmX9_comes s m args below meth c 4 0 0 (MQ below (z_Qc Γ (some (.int r.1)) r.2) args s rmX9_comes.cells rmX9_comes.slots (z_A Γ)) 12 [(0, .ref l0), (1, .int l1), (2, .int l2)] [] h) : ∀ (l0 : Nat) (l1 : Int32) (l2 : Int32) (h : ZH), xX9_comes_B12  r12 l0 l1 l2 h = some r → z_W Γ p l e rmX9_comes s m args below meth c 4 0 0 (MQ below (z_Qc Γ (some (.int r.1)) r.2) args s rmX9_comes.cells rmX9_comes.slots (z_A Γ)) 12 [(0, .ref l0), (1, .int l1), (2, .int l2)] [] h := by
  intro l0 l1 l2 h hX
  refine z_iload_n (pc := 12) G 2 dX9_comes_12 rfl rfl ?_
  refine z_aload_n (pc := 13) G 0 dX9_comes_13 rfl rfl ?_
  obtain ⟨x14, hv14, hX⟩ := z_bd hX
  refine z_getR (pc := 14) G kK9 (k := 27) (by decide) kt_1253 dX9_comes_14 hv14 ?_
  refine z_aload_n (pc := 17) G 0 dX9_comes_17 rfl rfl ?_
  obtain ⟨x18, hv18, hX⟩ := z_bd hX
  refine z_getI (pc := 18) G kK9 (k := 34) (by decide) kt_1260 dX9_comes_18 hv18 ?_
  obtain ⟨x21, hv21, hX⟩ := z_bd hX
  refine z_iald (pc := 21) G dX9_comes_21 hv21 ?_
  refine z_icmp_ge (pc := 22) (tgt := 130) G dX9_comes_22 (by decide) (fun hc22 => ?_) (fun hc22 => ?_)
  · have hX := z_it hc22 hX
    refine z_aload_n (pc := 130) G 0 dX9_comes_130 rfl rfl ?_
    obtain ⟨x131, hv131, hX⟩ := z_bd hX
    refine z_getR (pc := 131) G kK9 (k := 33) (by decide) kt_1259 dX9_comes_131 hv131 ?_
    refine z_iconst (pc := 134) (v := 0) G dX9_comes_134 (by decide) ?_
    obtain ⟨x135, hv135, hX⟩ := z_bd hX
    refine z_iald (pc := 135) G dX9_comes_135 hv135 ?_
    exact z_iretX (pc := 136) hX G hr dX9_comes_136 (by decide) (by decide)
  · have hX := z_if hc22 hX
    refine z_aload_n (pc := 25) G 0 dX9_comes_25 rfl rfl ?_
    obtain ⟨x26, hv26, hX⟩ := z_bd hX
    refine z_getR (pc := 26) G kK9 (k := 29) (by decide) kt_1255 dX9_comes_26 hv26 ?_
    refine z_iload_n (pc := 29) G 2 dX9_comes_29 rfl rfl ?_
    obtain ⟨x30, hv30, hX⟩ := z_bd hX
    refine z_iald (pc := 30) G dX9_comes_30 hv30 ?_
    refine z_istore_n (pc := 31) (lv2 := [(0, .ref l0), (1, .int l1), (2, .int l2), (3, .int x30)]) G dX9_comes_31 rfl (by decide) rfl rfl ?_
    refine z_iload_n (pc := 32) G 3 dX9_comes_32 rfl rfl ?_
    refine z_bipush (pc := 33) (v := 126) G dX9_comes_33 (by decide) ?_
    refine z_icmp_ne (pc := 35) (tgt := 65) G dX9_comes_35 (by decide) (fun hc35 => ?_) (fun hc35 => ?_)
    · have hX := z_if hc35 hX
      refine z_iload_n (pc := 65) G 3 dX9_comes_65 rfl rfl ?_
      obtain ⟨r66, hv66, hX⟩ := z_bd hX
      refine z_cSI (pc := 66) (As := [.int x30]) (c2 := 0) (s2 := 0) G (lX9_isLetter hO hv66) kt_1425 kt_11 kt_1423 kt_1424 ydX9_isLetter ⟨by decide, by decide⟩ rfl (Nat.le_of_ble_eq_true rfl) ⟨rfl, rfl⟩ ⟨by decide, by decide⟩ rfl dX9_comes_66 ?_
      refine z_if_eq (pc := 69) (tgt := 95) G dX9_comes_69 (by decide) (fun hc69 => ?_) (fun hc69 => ?_)
      · have hX := z_it hc69 hX
        refine z_iincw (pc := 95) (w := (-1)) (lv2 := [(0, .ref l0), (1, .int (l1 + (-1))), (2, .int l2), (3, .int x30)]) G 1 dX9_comes_95 rfl (by decide) (by decide) rfl rfl ?_
        refine z_aload_n (pc := 98) G 0 dX9_comes_98 rfl rfl ?_
        obtain ⟨x99, hv99, hX⟩ := z_bd hX
        refine z_getR (pc := 99) G kK9 (k := 33) (by decide) kt_1259 dX9_comes_99 hv99 ?_
        refine z_iload_n (pc := 102) G 1 dX9_comes_102 rfl rfl ?_
        refine z_iconst (pc := 103) (v := 1) G dX9_comes_103 (by decide) ?_
        refine z_isub (pc := 104) G dX9_comes_104 ?_
        refine z_iload_n (pc := 105) G 3 dX9_comes_105 rfl rfl ?_
        refine z_aload_n (pc := 106) G 0 dX9_comes_106 rfl rfl ?_
        obtain ⟨x107, hv107, hX⟩ := z_bd hX
        refine z_getR (pc := 107) G kK9 (k := 33) (by decide) kt_1259 dX9_comes_107 hv107 ?_
        refine z_iload_n (pc := 110) G 1 dX9_comes_110 rfl rfl ?_
        refine z_iconst (pc := 111) (v := 1) G dX9_comes_111 (by decide) ?_
        refine z_isub (pc := 112) G dX9_comes_112 ?_
        obtain ⟨x113, hv113, hX⟩ := z_bd hX
        refine z_iald (pc := 113) G dX9_comes_113 hv113 ?_
        refine z_aload_n (pc := 114) G 0 dX9_comes_114 rfl rfl ?_
        obtain ⟨x115, hv115, hX⟩ := z_bd hX
        refine z_getR (pc := 115) G kK9 (k := 33) (by decide) kt_1259 dX9_comes_115 hv115 ?_
        refine z_iload_n (pc := 118) G 1 dX9_comes_118 rfl rfl ?_
        obtain ⟨x119, hv119, hX⟩ := z_bd hX
        refine z_iald (pc := 119) G dX9_comes_119 hv119 ?_
        obtain ⟨r120, hv120, hX⟩ := z_bd hX
        refine z_cSI (pc := 120) (As := [.int x30, .int x113, .int x119]) (c2 := 0) (s2 := 0) G (lX9_two hO hv120) kt_1664 kt_11 kt_1662 kt_1663 ydX9_two ⟨by decide, by decide⟩ rfl (Nat.le_of_ble_eq_true rfl) ⟨rfl, rfl⟩ ⟨by decide, by decide⟩ rfl dX9_comes_120 ?_
        obtain ⟨h123, hv123, hX⟩ := z_bd hX
        refine z_iast (pc := 123) G dX9_comes_123 hv123 ?_
        refine z_iincw (pc := 124) (w := 1) (lv2 := [(0, .ref l0), (1, .int (l1 + (-1))), (2, .int (l2 + 1)), (3, .int x30)]) G 2 dX9_comes_124 rfl (by decide) (by decide) rfl rfl ?_
        refine z_goto (pc := 127) (tgt := 12) G dX9_comes_127 (by decide) ?_
        refine z_drop (lv2 := [(0, .ref l0), (1, .int (l1 + (-1))), (2, .int (l2 + 1))]) [0, 1, 2] rfl ?_
        exact H12 _ _ _ _ hX
      · have hX := z_if hc69 hX
        refine z_aload_n (pc := 72) G 0 dX9_comes_72 rfl rfl ?_
        obtain ⟨x73, hv73, hX⟩ := z_bd hX
        refine z_getR (pc := 73) G kK9 (k := 33) (by decide) kt_1259 dX9_comes_73 hv73 ?_
        refine z_iload_n (pc := 76) G 1 dX9_comes_76 rfl rfl ?_
        refine z_aload_n (pc := 77) G 0 dX9_comes_77 rfl rfl ?_
        refine z_iload_n (pc := 78) G 3 dX9_comes_78 rfl rfl ?_
        refine z_aload_n (pc := 79) G 0 dX9_comes_79 rfl rfl ?_
        obtain ⟨x80, hv80, hX⟩ := z_bd hX
        refine z_getR (pc := 80) G kK9 (k := 30) (by decide) kt_1256 dX9_comes_80 hv80 ?_
        refine z_iload_n (pc := 83) G 2 dX9_comes_83 rfl rfl ?_
        obtain ⟨x84, hv84, hX⟩ := z_bd hX
        refine z_iald (pc := 84) G dX9_comes_84 hv84 ?_
        obtain ⟨hi85, hX⟩ := z_gu_s hX
        obtain ⟨r85, hv85, hX⟩ := z_bd hX
        refine z_cVI (pc := 85) (As := [.int x30, .int x84]) (c2 := 0) (s2 := 0) G kK9 (lX9_asked hO hv85) hi85 kt_1661 kt_11 kt_1658 kt_1660 ks_78 ydX9_asked ⟨by decide, by decide⟩ rfl (Nat.le_of_ble_eq_true rfl) ⟨rfl, rfl⟩ ⟨by decide, by decide⟩ rfl dX9_comes_85 ?_
        obtain ⟨h88, hv88, hX⟩ := z_bd hX
        refine z_iast (pc := 88) G dX9_comes_88 hv88 ?_
        refine z_iincw (pc := 89) (w := 1) (lv2 := [(0, .ref l0), (1, .int (l1 + 1)), (2, .int l2), (3, .int x30)]) G 1 dX9_comes_89 rfl (by decide) (by decide) rfl rfl ?_
        refine z_goto (pc := 92) (tgt := 124) G dX9_comes_92 (by decide) ?_
        refine z_iincw (pc := 124) (w := 1) (lv2 := [(0, .ref l0), (1, .int (l1 + 1)), (2, .int (l2 + 1)), (3, .int x30)]) G 2 dX9_comes_124 rfl (by decide) (by decide) rfl rfl ?_
        refine z_goto (pc := 127) (tgt := 12) G dX9_comes_127 (by decide) ?_
        refine z_drop (lv2 := [(0, .ref l0), (1, .int (l1 + 1)), (2, .int (l2 + 1))]) [0, 1, 2] rfl ?_
        exact H12 _ _ _ _ hX
    · have hX := z_it hc35 hX
      refine z_aload_n (pc := 38) G 0 dX9_comes_38 rfl rfl ?_
      obtain ⟨x39, hv39, hX⟩ := z_bd hX
      refine z_getR (pc := 39) G kK9 (k := 33) (by decide) kt_1259 dX9_comes_39 hv39 ?_
      refine z_iload_n (pc := 42) G 1 dX9_comes_42 rfl rfl ?_
      refine z_iconst (pc := 43) (v := 1) G dX9_comes_43 (by decide) ?_
      refine z_isub (pc := 44) G dX9_comes_44 ?_
      refine z_aload_n (pc := 45) G 0 dX9_comes_45 rfl rfl ?_
      obtain ⟨x46, hv46, hX⟩ := z_bd hX
      refine z_getR (pc := 46) G kK9 (k := 33) (by decide) kt_1259 dX9_comes_46 hv46 ?_
      refine z_iload_n (pc := 49) G 1 dX9_comes_49 rfl rfl ?_
      refine z_iconst (pc := 50) (v := 1) G dX9_comes_50 (by decide) ?_
      refine z_isub (pc := 51) G dX9_comes_51 ?_
      obtain ⟨x52, hv52, hX⟩ := z_bd hX
      refine z_iald (pc := 52) G dX9_comes_52 hv52 ?_
      refine z_if_ne (pc := 53) (tgt := 60) G dX9_comes_53 (by decide) (fun hc53 => ?_) (fun hc53 => ?_)
      · have hX := z_if hc53 hX
        refine z_iconst (pc := 60) (v := 0) G dX9_comes_60 (by decide) ?_
        obtain ⟨h61, hv61, hX⟩ := z_bd hX
        refine z_iast (pc := 61) G dX9_comes_61 hv61 ?_
        refine z_goto (pc := 62) (tgt := 124) G dX9_comes_62 (by decide) ?_
        refine z_iincw (pc := 124) (w := 1) (lv2 := [(0, .ref l0), (1, .int l1), (2, .int (l2 + 1)), (3, .int x30)]) G 2 dX9_comes_124 rfl (by decide) (by decide) rfl rfl ?_
        refine z_goto (pc := 127) (tgt := 12) G dX9_comes_127 (by decide) ?_
        refine z_drop (lv2 := [(0, .ref l0), (1, .int l1), (2, .int (l2 + 1))]) [0, 1, 2] rfl ?_
        exact H12 _ _ _ _ hX
      · have hX := z_it hc53 hX
        refine z_iconst (pc := 56) (v := 1) G dX9_comes_56 (by decide) ?_
        refine z_goto (pc := 57) (tgt := 61) G dX9_comes_57 (by decide) ?_
        obtain ⟨h61, hv61, hX⟩ := z_bd hX
        refine z_iast (pc := 61) G dX9_comes_61 hv61 ?_
        refine z_goto (pc := 62) (tgt := 124) G dX9_comes_62 (by decide) ?_
        refine z_iincw (pc := 124) (w := 1) (lv2 := [(0, .ref l0), (1, .int l1), (2, .int (l2 + 1)), (3, .int x30)]) G 2 dX9_comes_124 rfl (by decide) (by decide) rfl rfl ?_
        refine z_goto (pc := 127) (tgt := 12) G dX9_comes_127 (by decide) ?_
        refine z_drop (lv2 := [(0, .ref l0), (1, .int l1), (2, .int (l2 + 1))]) [0, 1, 2] rfl ?_
        exact H12 _ _ _ _ hX
set_option maxHeartbeats 4000000 in
set_option maxRecDepth 100000 in
theorem wX9_comes_L12 {Γ : ZG} {p : Program} {l : Launch} {e : Env} {s : State} {m : MethodId} {args : Array Value} {below : List Frame} {meth : Method} {c : Code} (hO : z_OK Γ) (G : z_GG Γ p s m args meth c cX9_comes 4 RX9) (hr : meth.sig.returnType = (some .int)) (hnm : meth.name = "comes") {r : (Int32 × ZH)} : ∀ (nn : Nat) (l0 : Nat) (l1 : Int32) (l2 : Int32) (h : ZH), xX9_comes_L12  nn l0 l1 l2 h = some r → z_W Γ p l e rmX9_comes s m args below meth c 4 0 0 (MQ below (z_Qc Γ (some (.int r.1)) r.2) args s rmX9_comes.cells rmX9_comes.slots (z_A Γ)) 12 [(0, .ref l0), (1, .int l1), (2, .int l2)] [] h := by
  intro nn
  induction nn with
  | zero => intro l0 l1 l2 h hX; cases hX
  | succ nn ih => intro l0 l1 l2 h hX; exact wX9_comes_B12 hO G hr hnm  ih l0 l1 l2 h hX
noncomputable def xX9_comes (l0 : Nat) (h : ZH) : Option (Int32 × ZH) := ((z_gR h l0 9 26).bind fun x3 => ((z_gI h l0 9 34).bind fun x7 => ((z_aI h x3 x7).bind fun x10 => xX9_comes_L12 zFU l0 (0 : Int32) x10 h)))
set_option maxHeartbeats 4000000 in
set_option maxRecDepth 100000 in
theorem lX9_comes {Γ : ZG} {l : Launch} (hO : z_OK Γ) {l0 : Nat} {h : ZH} {r : (Int32 × ZH)} (hX : xX9_comes l0 h = some r) : z_M Γ l yX9_comes (z_ws1 yX9_comes cX9_comes 4 (some .int)) rmX9_comes [.ref l0] h (some (.int r.1)) r.2 := by
  refine z_start hO (plainFor_of_name (by decide)) (Nat.le_of_ble_eq_true rfl) ?_
  intro p e s m args below meth c G hr hnm
  refine z_lvc (lv2 := [(0, .ref l0)]) rfl ?_
  refine z_iconst (pc := 0) (v := 0) G dX9_comes_0 (by decide) ?_
  refine z_istore_n (pc := 1) (lv2 := [(0, .ref l0), (1, .int (0 : Int32))]) G dX9_comes_1 rfl (by decide) rfl rfl ?_
  refine z_aload_n (pc := 2) G 0 dX9_comes_2 rfl rfl ?_
  obtain ⟨x3, hv3, hX⟩ := z_bd hX
  refine z_getR (pc := 3) G kK9 (k := 26) (by decide) kt_1252 dX9_comes_3 hv3 ?_
  refine z_aload_n (pc := 6) G 0 dX9_comes_6 rfl rfl ?_
  obtain ⟨x7, hv7, hX⟩ := z_bd hX
  refine z_getI (pc := 7) G kK9 (k := 34) (by decide) kt_1260 dX9_comes_7 hv7 ?_
  obtain ⟨x10, hv10, hX⟩ := z_bd hX
  refine z_iald (pc := 10) G dX9_comes_10 hv10 ?_
  refine z_istore_n (pc := 11) (lv2 := [(0, .ref l0), (1, .int (0 : Int32)), (2, .int x10)]) G dX9_comes_11 rfl (by decide) rfl rfl ?_
  exact wX9_comes_L12 hO G hr hnm zFU _ _ _ _ hX
theorem dX9_fault_0 : decode cX9_fault 0 = .ok (.iload_n 1, 1) := by decide +kernel
theorem dX9_fault_1 : decode cX9_fault 1 = .ok (.ifCond .ne 10, 3) := by decide +kernel
theorem dX9_fault_4 : decode cX9_fault 4 = .ok (.aload_n 0, 1) := by decide +kernel
theorem dX9_fault_5 : decode cX9_fault 5 = .ok (.getfield 146, 3) := by decide +kernel
theorem dX9_fault_8 : decode cX9_fault 8 = .ok (.goto 16, 3) := by decide +kernel
theorem dX9_fault_11 : decode cX9_fault 11 = .ok (.iload_n 1, 1) := by decide +kernel
theorem dX9_fault_12 : decode cX9_fault 12 = .ok (.iconst 1, 1) := by decide +kernel
theorem dX9_fault_13 : decode cX9_fault 13 = .ok (.if_icmp .ne 10, 3) := by decide +kernel
theorem dX9_fault_16 : decode cX9_fault 16 = .ok (.aload_n 0, 1) := by decide +kernel
theorem dX9_fault_17 : decode cX9_fault 17 = .ok (.getfield 16, 3) := by decide +kernel
theorem dX9_fault_20 : decode cX9_fault 20 = .ok (.goto 4, 3) := by decide +kernel
theorem dX9_fault_23 : decode cX9_fault 23 = .ok (.iconst (-1), 1) := by decide +kernel
theorem dX9_fault_24 : decode cX9_fault 24 = .ok (.ireturn, 1) := by decide +kernel
theorem ydX9_fault : z_yd yX9_fault 1 := ⟨by decide, by decide, by decide +kernel⟩
abbrev rmX9_fault : Room := { frames := 0, cells := 0, slots := 0, locals := 0 }
noncomputable def xX9_fault (l0 : Nat) (l1 : Int32) (h : ZH) : Option (Int32 × ZH) := (if l1 = 0 then ((z_gI h l0 9 4).bind fun x5 => some (x5, h)) else (if l1 = (1 : Int32) then ((z_gI h l0 9 5).bind fun x17 => some (x17, h)) else some ((-1 : Int32), h)))
set_option maxHeartbeats 4000000 in
set_option maxRecDepth 100000 in
theorem lX9_fault {Γ : ZG} {l : Launch} (hO : z_OK Γ) {l0 : Nat} {l1 : Int32} {h : ZH} {r : (Int32 × ZH)} (hX : xX9_fault l0 l1 h = some r) : z_M Γ l yX9_fault (z_ws1 yX9_fault cX9_fault 2 (some .int)) rmX9_fault [.ref l0, .int l1] h (some (.int r.1)) r.2 := by
  refine z_start hO (plainFor_of_name (by decide)) (Nat.le_of_ble_eq_true rfl) ?_
  intro p e s m args below meth c G hr hnm
  refine z_lvc (lv2 := [(0, .ref l0), (1, .int l1)]) rfl ?_
  refine z_iload_n (pc := 0) G 1 dX9_fault_0 rfl rfl ?_
  refine z_if_ne (pc := 1) (tgt := 11) G dX9_fault_1 (by decide) (fun hc1 => ?_) (fun hc1 => ?_)
  · have hX := z_if hc1 hX
    refine z_iload_n (pc := 11) G 1 dX9_fault_11 rfl rfl ?_
    refine z_iconst (pc := 12) (v := 1) G dX9_fault_12 (by decide) ?_
    refine z_icmp_ne (pc := 13) (tgt := 23) G dX9_fault_13 (by decide) (fun hc13 => ?_) (fun hc13 => ?_)
    · have hX := z_if hc13 hX
      refine z_iconst (pc := 23) (v := (-1)) G dX9_fault_23 (by decide) ?_
      exact z_iretX (pc := 24) hX G hr dX9_fault_24 (by decide) (by decide)
    · have hX := z_it hc13 hX
      refine z_aload_n (pc := 16) G 0 dX9_fault_16 rfl rfl ?_
      obtain ⟨x17, hv17, hX⟩ := z_bd hX
      refine z_getI (pc := 17) G kK9 (k := 5) (by decide) kt_1231 dX9_fault_17 hv17 ?_
      refine z_goto (pc := 20) (tgt := 24) G dX9_fault_20 (by decide) ?_
      exact z_iretX (pc := 24) hX G hr dX9_fault_24 (by decide) (by decide)
  · have hX := z_it hc1 hX
    refine z_aload_n (pc := 4) G 0 dX9_fault_4 rfl rfl ?_
    obtain ⟨x5, hv5, hX⟩ := z_bd hX
    refine z_getI (pc := 5) G kK9 (k := 4) (by decide) kt_1230 dX9_fault_5 hv5 ?_
    refine z_goto (pc := 8) (tgt := 24) G dX9_fault_8 (by decide) ?_
    exact z_iretX (pc := 24) hX G hr dX9_fault_24 (by decide) (by decide)
theorem dX9_isIn_0 : decode cX9_isIn 0 = .ok (.iload_n 0, 1) := by decide +kernel
theorem dX9_isIn_1 : decode cX9_isIn 1 = .ok (.iload_n 1, 1) := by decide +kernel
theorem dX9_isIn_2 : decode cX9_isIn 2 = .ok (.if_icmp .lt 12, 3) := by decide +kernel
theorem dX9_isIn_5 : decode cX9_isIn 5 = .ok (.iload_n 0, 1) := by decide +kernel
theorem dX9_isIn_6 : decode cX9_isIn 6 = .ok (.iload_n 2, 1) := by decide +kernel
theorem dX9_isIn_7 : decode cX9_isIn 7 = .ok (.if_icmp .gt 7, 3) := by decide +kernel
theorem dX9_isIn_10 : decode cX9_isIn 10 = .ok (.iconst 1, 1) := by decide +kernel
theorem dX9_isIn_11 : decode cX9_isIn 11 = .ok (.goto 4, 3) := by decide +kernel
theorem dX9_isIn_14 : decode cX9_isIn 14 = .ok (.iconst 0, 1) := by decide +kernel
theorem dX9_isIn_15 : decode cX9_isIn 15 = .ok (.ireturn, 1) := by decide +kernel
theorem ydX9_isIn : z_yd yX9_isIn 3 := ⟨by decide, by decide, by decide +kernel⟩
abbrev rmX9_isIn : Room := { frames := 0, cells := 0, slots := 0, locals := 0 }
noncomputable def xX9_isIn (l0 : Int32) (l1 : Int32) (l2 : Int32) (h : ZH) : Option (Int32 × ZH) := (if l0 < l1 then some ((0 : Int32), h) else (if l2 < l0 then some ((0 : Int32), h) else some ((1 : Int32), h)))
set_option maxHeartbeats 4000000 in
set_option maxRecDepth 100000 in
theorem lX9_isIn {Γ : ZG} {l : Launch} (hO : z_OK Γ) {l0 : Int32} {l1 : Int32} {l2 : Int32} {h : ZH} {r : (Int32 × ZH)} (hX : xX9_isIn l0 l1 l2 h = some r) : z_M Γ l yX9_isIn (z_ws1 yX9_isIn cX9_isIn 3 (some .boolean)) rmX9_isIn [.int l0, .int l1, .int l2] h (some (.int r.1)) r.2 := by
  refine z_start hO (plainFor_of_name (by decide)) (Nat.le_of_ble_eq_true rfl) ?_
  intro p e s m args below meth c G hr hnm
  refine z_lvc (lv2 := [(0, .int l0), (1, .int l1), (2, .int l2)]) rfl ?_
  refine z_iload_n (pc := 0) G 0 dX9_isIn_0 rfl rfl ?_
  refine z_iload_n (pc := 1) G 1 dX9_isIn_1 rfl rfl ?_
  refine z_icmp_lt (pc := 2) (tgt := 14) G dX9_isIn_2 (by decide) (fun hc2 => ?_) (fun hc2 => ?_)
  · have hX := z_it hc2 hX
    refine z_iconst (pc := 14) (v := 0) G dX9_isIn_14 (by decide) ?_
    exact z_zretX (pc := 15) hX G hr rfl dX9_isIn_15 (by decide) (by decide)
  · have hX := z_if hc2 hX
    refine z_iload_n (pc := 5) G 0 dX9_isIn_5 rfl rfl ?_
    refine z_iload_n (pc := 6) G 2 dX9_isIn_6 rfl rfl ?_
    refine z_icmp_gt (pc := 7) (tgt := 14) G dX9_isIn_7 (by decide) (fun hc7 => ?_) (fun hc7 => ?_)
    · have hX := z_it hc7 hX
      refine z_iconst (pc := 14) (v := 0) G dX9_isIn_14 (by decide) ?_
      exact z_zretX (pc := 15) hX G hr rfl dX9_isIn_15 (by decide) (by decide)
    · have hX := z_if hc7 hX
      refine z_iconst (pc := 10) (v := 1) G dX9_isIn_10 (by decide) ?_
      refine z_goto (pc := 11) (tgt := 15) G dX9_isIn_11 (by decide) ?_
      exact z_zretX (pc := 15) hX G hr rfl dX9_isIn_15 (by decide) (by decide)
theorem dX9_held_0 : decode cX9_held 0 = .ok (.iload_n 0, 1) := by decide +kernel
theorem dX9_held_1 : decode cX9_held 1 = .ok (.iload_n 1, 1) := by decide +kernel
theorem dX9_held_2 : decode cX9_held 2 = .ok (.if_icmp .ge 7, 3) := by decide +kernel
theorem dX9_held_5 : decode cX9_held 5 = .ok (.iload_n 1, 1) := by decide +kernel
theorem dX9_held_6 : decode cX9_held 6 = .ok (.goto 13, 3) := by decide +kernel
theorem dX9_held_9 : decode cX9_held 9 = .ok (.iload_n 0, 1) := by decide +kernel
theorem dX9_held_10 : decode cX9_held 10 = .ok (.iload_n 2, 1) := by decide +kernel
theorem dX9_held_11 : decode cX9_held 11 = .ok (.if_icmp .le 7, 3) := by decide +kernel
theorem dX9_held_14 : decode cX9_held 14 = .ok (.iload_n 2, 1) := by decide +kernel
theorem dX9_held_15 : decode cX9_held 15 = .ok (.goto 4, 3) := by decide +kernel
theorem dX9_held_18 : decode cX9_held 18 = .ok (.iload_n 0, 1) := by decide +kernel
theorem dX9_held_19 : decode cX9_held 19 = .ok (.ireturn, 1) := by decide +kernel
theorem ydX9_held : z_yd yX9_held 3 := ⟨by decide, by decide, by decide +kernel⟩
abbrev rmX9_held : Room := { frames := 0, cells := 0, slots := 0, locals := 0 }
noncomputable def xX9_held (l0 : Int32) (l1 : Int32) (l2 : Int32) (h : ZH) : Option (Int32 × ZH) := (if l1 ≤ l0 then (if l0 ≤ l2 then some (l0, h) else some (l2, h)) else some (l1, h))
set_option maxHeartbeats 4000000 in
set_option maxRecDepth 100000 in
theorem lX9_held {Γ : ZG} {l : Launch} (hO : z_OK Γ) {l0 : Int32} {l1 : Int32} {l2 : Int32} {h : ZH} {r : (Int32 × ZH)} (hX : xX9_held l0 l1 l2 h = some r) : z_M Γ l yX9_held (z_ws1 yX9_held cX9_held 3 (some .int)) rmX9_held [.int l0, .int l1, .int l2] h (some (.int r.1)) r.2 := by
  refine z_start hO (plainFor_of_name (by decide)) (Nat.le_of_ble_eq_true rfl) ?_
  intro p e s m args below meth c G hr hnm
  refine z_lvc (lv2 := [(0, .int l0), (1, .int l1), (2, .int l2)]) rfl ?_
  refine z_iload_n (pc := 0) G 0 dX9_held_0 rfl rfl ?_
  refine z_iload_n (pc := 1) G 1 dX9_held_1 rfl rfl ?_
  refine z_icmp_ge (pc := 2) (tgt := 9) G dX9_held_2 (by decide) (fun hc2 => ?_) (fun hc2 => ?_)
  · have hX := z_it hc2 hX
    refine z_iload_n (pc := 9) G 0 dX9_held_9 rfl rfl ?_
    refine z_iload_n (pc := 10) G 2 dX9_held_10 rfl rfl ?_
    refine z_icmp_le (pc := 11) (tgt := 18) G dX9_held_11 (by decide) (fun hc11 => ?_) (fun hc11 => ?_)
    · have hX := z_it hc11 hX
      refine z_iload_n (pc := 18) G 0 dX9_held_18 rfl rfl ?_
      exact z_iretX (pc := 19) hX G hr dX9_held_19 (by decide) (by decide)
    · have hX := z_if hc11 hX
      refine z_iload_n (pc := 14) G 2 dX9_held_14 rfl rfl ?_
      refine z_goto (pc := 15) (tgt := 19) G dX9_held_15 (by decide) ?_
      exact z_iretX (pc := 19) hX G hr dX9_held_19 (by decide) (by decide)
  · have hX := z_if hc2 hX
    refine z_iload_n (pc := 5) G 1 dX9_held_5 rfl rfl ?_
    refine z_goto (pc := 6) (tgt := 19) G dX9_held_6 (by decide) ?_
    exact z_iretX (pc := 19) hX G hr dX9_held_19 (by decide) (by decide)
theorem dX9_absolute_0 : decode cX9_absolute 0 = .ok (.iload_n 0, 1) := by decide +kernel
theorem dX9_absolute_1 : decode cX9_absolute 1 = .ok (.ifCond .ge 8, 3) := by decide +kernel
theorem dX9_absolute_4 : decode cX9_absolute 4 = .ok (.iload_n 0, 1) := by decide +kernel
theorem dX9_absolute_5 : decode cX9_absolute 5 = .ok (.ineg, 1) := by decide +kernel
theorem dX9_absolute_6 : decode cX9_absolute 6 = .ok (.goto 4, 3) := by decide +kernel
theorem dX9_absolute_9 : decode cX9_absolute 9 = .ok (.iload_n 0, 1) := by decide +kernel
theorem dX9_absolute_10 : decode cX9_absolute 10 = .ok (.ireturn, 1) := by decide +kernel
theorem ydX9_absolute : z_yd yX9_absolute 1 := ⟨by decide, by decide, by decide +kernel⟩
abbrev rmX9_absolute : Room := { frames := 0, cells := 0, slots := 0, locals := 0 }
noncomputable def xX9_absolute (l0 : Int32) (h : ZH) : Option (Int32 × ZH) := (if 0 ≤ l0 then some (l0, h) else some ((-l0), h))
set_option maxHeartbeats 4000000 in
set_option maxRecDepth 100000 in
theorem lX9_absolute {Γ : ZG} {l : Launch} (hO : z_OK Γ) {l0 : Int32} {h : ZH} {r : (Int32 × ZH)} (hX : xX9_absolute l0 h = some r) : z_M Γ l yX9_absolute (z_ws1 yX9_absolute cX9_absolute 1 (some .int)) rmX9_absolute [.int l0] h (some (.int r.1)) r.2 := by
  refine z_start hO (plainFor_of_name (by decide)) (Nat.le_of_ble_eq_true rfl) ?_
  intro p e s m args below meth c G hr hnm
  refine z_lvc (lv2 := [(0, .int l0)]) rfl ?_
  refine z_iload_n (pc := 0) G 0 dX9_absolute_0 rfl rfl ?_
  refine z_if_ge (pc := 1) (tgt := 9) G dX9_absolute_1 (by decide) (fun hc1 => ?_) (fun hc1 => ?_)
  · have hX := z_it hc1 hX
    refine z_iload_n (pc := 9) G 0 dX9_absolute_9 rfl rfl ?_
    exact z_iretX (pc := 10) hX G hr dX9_absolute_10 (by decide) (by decide)
  · have hX := z_if hc1 hX
    refine z_iload_n (pc := 4) G 0 dX9_absolute_4 rfl rfl ?_
    refine z_ineg (pc := 5) G dX9_absolute_5 ?_
    refine z_goto (pc := 6) (tgt := 10) G dX9_absolute_6 (by decide) ?_
    exact z_iretX (pc := 10) hX G hr dX9_absolute_10 (by decide) (by decide)
theorem dX9_divisor_0 : decode cX9_divisor 0 = .ok (.iload_n 0, 1) := by decide +kernel
theorem dX9_divisor_1 : decode cX9_divisor 1 = .ok (.istore_n 2, 1) := by decide +kernel
theorem dX9_divisor_2 : decode cX9_divisor 2 = .ok (.iload_n 1, 1) := by decide +kernel
theorem dX9_divisor_3 : decode cX9_divisor 3 = .ok (.istore_n 3, 1) := by decide +kernel
theorem dX9_divisor_4 : decode cX9_divisor 4 = .ok (.iload_n 3, 1) := by decide +kernel
theorem dX9_divisor_5 : decode cX9_divisor 5 = .ok (.ifCond .le 16, 3) := by decide +kernel
theorem dX9_divisor_8 : decode cX9_divisor 8 = .ok (.iload_n 2, 1) := by decide +kernel
theorem dX9_divisor_9 : decode cX9_divisor 9 = .ok (.iload_n 3, 1) := by decide +kernel
theorem dX9_divisor_10 : decode cX9_divisor 10 = .ok (.irem, 1) := by decide +kernel
theorem dX9_divisor_11 : decode cX9_divisor 11 = .ok (.istore 4, 2) := by decide +kernel
theorem dX9_divisor_13 : decode cX9_divisor 13 = .ok (.iload_n 3, 1) := by decide +kernel
theorem dX9_divisor_14 : decode cX9_divisor 14 = .ok (.istore_n 2, 1) := by decide +kernel
theorem dX9_divisor_15 : decode cX9_divisor 15 = .ok (.iload 4, 2) := by decide +kernel
theorem dX9_divisor_17 : decode cX9_divisor 17 = .ok (.istore_n 3, 1) := by decide +kernel
theorem dX9_divisor_18 : decode cX9_divisor 18 = .ok (.goto (-14), 3) := by decide +kernel
theorem dX9_divisor_21 : decode cX9_divisor 21 = .ok (.iload_n 2, 1) := by decide +kernel
theorem dX9_divisor_22 : decode cX9_divisor 22 = .ok (.ireturn, 1) := by decide +kernel
theorem ydX9_divisor : z_yd yX9_divisor 2 := ⟨by decide, by decide, by decide +kernel⟩
abbrev rmX9_divisor : Room := { frames := 0, cells := 0, slots := 0, locals := 0 }
noncomputable def xX9_divisor_B4 (r4 : Int32 → Int32 → ZH → Option (Int32 × ZH)) (l2 : Int32) (l3 : Int32) (h : ZH) : Option (Int32 × ZH) := (if l3 ≤ 0 then some (l2, h) else (if l3 = 0 then none else r4 l3 (l2 - l2 / l3 * l3) h))
noncomputable def xX9_divisor_L4 (n : Nat) : Int32 → Int32 → ZH → Option (Int32 × ZH) := Nat.rec (motive := fun _ => Int32 → Int32 → ZH → Option (Int32 × ZH)) (fun _ _ _ => none) (fun _ rec => xX9_divisor_B4  rec) n
set_option maxHeartbeats 4000000 in
set_option maxRecDepth 100000 in
theorem wX9_divisor_B4 {Γ : ZG} {p : Program} {l : Launch} {e : Env} {s : State} {m : MethodId} {args : Array Value} {below : List Frame} {meth : Method} {c : Code} (hO : z_OK Γ) (G : z_GG Γ p s m args meth c cX9_divisor 5 RX9) (hr : meth.sig.returnType = (some .int)) (hnm : meth.name = "divisor") {r : (Int32 × ZH)} {r4 : Int32 → Int32 → ZH → Option (Int32 × ZH)} (H4 : ∀ (l2 : Int32) (l3 : Int32) (h : ZH), r4 l2 l3 h = some r → z_W Γ p l e rmX9_divisor s m args below meth c 5 0 0 (MQ below (z_Qc Γ (some (.int r.1)) r.2) args s rmX9_divisor.cells rmX9_divisor.slots (z_A Γ)) 4 [(2, .int l2), (3, .int l3)] [] h) : ∀ (l2 : Int32) (l3 : Int32) (h : ZH), xX9_divisor_B4  r4 l2 l3 h = some r → z_W Γ p l e rmX9_divisor s m args below meth c 5 0 0 (MQ below (z_Qc Γ (some (.int r.1)) r.2) args s rmX9_divisor.cells rmX9_divisor.slots (z_A Γ)) 4 [(2, .int l2), (3, .int l3)] [] h := by
  intro l2 l3 h hX
  refine z_iload_n (pc := 4) G 1 dX9_divisor_4 rfl rfl ?_
  refine z_if_le (pc := 5) (tgt := 21) G dX9_divisor_5 (by decide) (fun hc5 => ?_) (fun hc5 => ?_)
  · have hX := z_it hc5 hX
    refine z_iload_n (pc := 21) G 0 dX9_divisor_21 rfl rfl ?_
    exact z_iretX (pc := 22) hX G hr dX9_divisor_22 (by decide) (by decide)
  · have hX := z_if hc5 hX
    refine z_iload_n (pc := 8) G 0 dX9_divisor_8 rfl rfl ?_
    refine z_iload_n (pc := 9) G 1 dX9_divisor_9 rfl rfl ?_
    obtain ⟨hn10, hX⟩ := z_ng hX
    refine z_irem (pc := 10) G dX9_divisor_10 hn10 ?_
    refine z_istore (pc := 11) (lv2 := [(2, .int l2), (3, .int l3), (4, .int (l2 - l2 / l3 * l3))]) G dX9_divisor_11 (by decide) rfl rfl ?_
    refine z_iload_n (pc := 13) G 1 dX9_divisor_13 rfl rfl ?_
    refine z_istore_n (pc := 14) (lv2 := [(2, .int l3), (3, .int l3), (4, .int (l2 - l2 / l3 * l3))]) G dX9_divisor_14 rfl (by decide) rfl rfl ?_
    refine z_iload (pc := 15) G 2 dX9_divisor_15 rfl ?_
    refine z_istore_n (pc := 17) (lv2 := [(2, .int l3), (3, .int (l2 - l2 / l3 * l3)), (4, .int (l2 - l2 / l3 * l3))]) G dX9_divisor_17 rfl (by decide) rfl rfl ?_
    refine z_goto (pc := 18) (tgt := 4) G dX9_divisor_18 (by decide) ?_
    refine z_drop (lv2 := [(2, .int l3), (3, .int (l2 - l2 / l3 * l3))]) [0, 1] rfl ?_
    exact H4 _ _ _ hX
set_option maxHeartbeats 4000000 in
set_option maxRecDepth 100000 in
theorem wX9_divisor_L4 {Γ : ZG} {p : Program} {l : Launch} {e : Env} {s : State} {m : MethodId} {args : Array Value} {below : List Frame} {meth : Method} {c : Code} (hO : z_OK Γ) (G : z_GG Γ p s m args meth c cX9_divisor 5 RX9) (hr : meth.sig.returnType = (some .int)) (hnm : meth.name = "divisor") {r : (Int32 × ZH)} : ∀ (nn : Nat) (l2 : Int32) (l3 : Int32) (h : ZH), xX9_divisor_L4  nn l2 l3 h = some r → z_W Γ p l e rmX9_divisor s m args below meth c 5 0 0 (MQ below (z_Qc Γ (some (.int r.1)) r.2) args s rmX9_divisor.cells rmX9_divisor.slots (z_A Γ)) 4 [(2, .int l2), (3, .int l3)] [] h := by
  intro nn
  induction nn with
  | zero => intro l2 l3 h hX; cases hX
  | succ nn ih => intro l2 l3 h hX; exact wX9_divisor_B4 hO G hr hnm  ih l2 l3 h hX
noncomputable def xX9_divisor (l0 : Int32) (l1 : Int32) (h : ZH) : Option (Int32 × ZH) := xX9_divisor_L4 zFU l0 l1 h
set_option maxHeartbeats 4000000 in
set_option maxRecDepth 100000 in
theorem lX9_divisor {Γ : ZG} {l : Launch} (hO : z_OK Γ) {l0 : Int32} {l1 : Int32} {h : ZH} {r : (Int32 × ZH)} (hX : xX9_divisor l0 l1 h = some r) : z_M Γ l yX9_divisor (z_ws1 yX9_divisor cX9_divisor 5 (some .int)) rmX9_divisor [.int l0, .int l1] h (some (.int r.1)) r.2 := by
  refine z_start hO (plainFor_of_name (by decide)) (Nat.le_of_ble_eq_true rfl) ?_
  intro p e s m args below meth c G hr hnm
  refine z_lvc (lv2 := [(0, .int l0), (1, .int l1)]) rfl ?_
  refine z_iload_n (pc := 0) G 0 dX9_divisor_0 rfl rfl ?_
  refine z_istore_n (pc := 1) (lv2 := [(0, .int l0), (1, .int l1), (2, .int l0)]) G dX9_divisor_1 rfl (by decide) rfl rfl ?_
  refine z_iload_n (pc := 2) G 1 dX9_divisor_2 rfl rfl ?_
  refine z_istore_n (pc := 3) (lv2 := [(0, .int l0), (1, .int l1), (2, .int l0), (3, .int l1)]) G dX9_divisor_3 rfl (by decide) rfl rfl ?_
  refine z_drop (lv2 := [(2, .int l0), (3, .int l1)]) [2, 3] rfl ?_
  exact wX9_divisor_L4 hO G hr hnm zFU _ _ _ hX
theorem dX9_power_0 : decode cX9_power 0 = .ok (.iconst 1, 1) := by decide +kernel
theorem dX9_power_1 : decode cX9_power 1 = .ok (.istore_n 2, 1) := by decide +kernel
theorem dX9_power_2 : decode cX9_power 2 = .ok (.iconst 0, 1) := by decide +kernel
theorem dX9_power_3 : decode cX9_power 3 = .ok (.istore_n 3, 1) := by decide +kernel
theorem dX9_power_4 : decode cX9_power 4 = .ok (.iload_n 3, 1) := by decide +kernel
theorem dX9_power_5 : decode cX9_power 5 = .ok (.iload_n 1, 1) := by decide +kernel
theorem dX9_power_6 : decode cX9_power 6 = .ok (.if_icmp .ge 13, 3) := by decide +kernel
theorem dX9_power_9 : decode cX9_power 9 = .ok (.iload_n 2, 1) := by decide +kernel
theorem dX9_power_10 : decode cX9_power 10 = .ok (.iload_n 0, 1) := by decide +kernel
theorem dX9_power_11 : decode cX9_power 11 = .ok (.imul, 1) := by decide +kernel
theorem dX9_power_12 : decode cX9_power 12 = .ok (.istore_n 2, 1) := by decide +kernel
theorem dX9_power_13 : decode cX9_power 13 = .ok (.iinc 3 1, 3) := by decide +kernel
theorem dX9_power_16 : decode cX9_power 16 = .ok (.goto (-12), 3) := by decide +kernel
theorem dX9_power_19 : decode cX9_power 19 = .ok (.iload_n 2, 1) := by decide +kernel
theorem dX9_power_20 : decode cX9_power 20 = .ok (.ireturn, 1) := by decide +kernel
theorem ydX9_power : z_yd yX9_power 2 := ⟨by decide, by decide, by decide +kernel⟩
abbrev rmX9_power : Room := { frames := 0, cells := 0, slots := 0, locals := 0 }
noncomputable def xX9_power_B4 (r4 : Int32 → Int32 → Int32 → Int32 → ZH → Option (Int32 × ZH)) (l0 : Int32) (l1 : Int32) (l2 : Int32) (l3 : Int32) (h : ZH) : Option (Int32 × ZH) := (if l1 ≤ l3 then some (l2, h) else r4 l0 l1 (l2 * l0) (l3 + 1) h)
noncomputable def xX9_power_L4 (n : Nat) : Int32 → Int32 → Int32 → Int32 → ZH → Option (Int32 × ZH) := Nat.rec (motive := fun _ => Int32 → Int32 → Int32 → Int32 → ZH → Option (Int32 × ZH)) (fun _ _ _ _ _ => none) (fun _ rec => xX9_power_B4  rec) n
set_option maxHeartbeats 4000000 in
set_option maxRecDepth 100000 in
theorem wX9_power_B4 {Γ : ZG} {p : Program} {l : Launch} {e : Env} {s : State} {m : MethodId} {args : Array Value} {below : List Frame} {meth : Method} {c : Code} (hO : z_OK Γ) (G : z_GG Γ p s m args meth c cX9_power 4 RX9) (hr : meth.sig.returnType = (some .int)) (hnm : meth.name = "power") {r : (Int32 × ZH)} {r4 : Int32 → Int32 → Int32 → Int32 → ZH → Option (Int32 × ZH)} (H4 : ∀ (l0 : Int32) (l1 : Int32) (l2 : Int32) (l3 : Int32) (h : ZH), r4 l0 l1 l2 l3 h = some r → z_W Γ p l e rmX9_power s m args below meth c 4 0 0 (MQ below (z_Qc Γ (some (.int r.1)) r.2) args s rmX9_power.cells rmX9_power.slots (z_A Γ)) 4 [(0, .int l0), (1, .int l1), (2, .int l2), (3, .int l3)] [] h) : ∀ (l0 : Int32) (l1 : Int32) (l2 : Int32) (l3 : Int32) (h : ZH), xX9_power_B4  r4 l0 l1 l2 l3 h = some r → z_W Γ p l e rmX9_power s m args below meth c 4 0 0 (MQ below (z_Qc Γ (some (.int r.1)) r.2) args s rmX9_power.cells rmX9_power.slots (z_A Γ)) 4 [(0, .int l0), (1, .int l1), (2, .int l2), (3, .int l3)] [] h := by
  intro l0 l1 l2 l3 h hX
  refine z_iload_n (pc := 4) G 3 dX9_power_4 rfl rfl ?_
  refine z_iload_n (pc := 5) G 1 dX9_power_5 rfl rfl ?_
  refine z_icmp_ge (pc := 6) (tgt := 19) G dX9_power_6 (by decide) (fun hc6 => ?_) (fun hc6 => ?_)
  · have hX := z_it hc6 hX
    refine z_iload_n (pc := 19) G 2 dX9_power_19 rfl rfl ?_
    exact z_iretX (pc := 20) hX G hr dX9_power_20 (by decide) (by decide)
  · have hX := z_if hc6 hX
    refine z_iload_n (pc := 9) G 2 dX9_power_9 rfl rfl ?_
    refine z_iload_n (pc := 10) G 0 dX9_power_10 rfl rfl ?_
    refine z_imul (pc := 11) G dX9_power_11 ?_
    refine z_istore_n (pc := 12) (lv2 := [(0, .int l0), (1, .int l1), (2, .int (l2 * l0)), (3, .int l3)]) G dX9_power_12 rfl (by decide) rfl rfl ?_
    refine z_iincw (pc := 13) (w := 1) (lv2 := [(0, .int l0), (1, .int l1), (2, .int (l2 * l0)), (3, .int (l3 + 1))]) G 3 dX9_power_13 rfl (by decide) (by decide) rfl rfl ?_
    refine z_goto (pc := 16) (tgt := 4) G dX9_power_16 (by decide) ?_
    exact H4 _ _ _ _ _ hX
set_option maxHeartbeats 4000000 in
set_option maxRecDepth 100000 in
theorem wX9_power_L4 {Γ : ZG} {p : Program} {l : Launch} {e : Env} {s : State} {m : MethodId} {args : Array Value} {below : List Frame} {meth : Method} {c : Code} (hO : z_OK Γ) (G : z_GG Γ p s m args meth c cX9_power 4 RX9) (hr : meth.sig.returnType = (some .int)) (hnm : meth.name = "power") {r : (Int32 × ZH)} : ∀ (nn : Nat) (l0 : Int32) (l1 : Int32) (l2 : Int32) (l3 : Int32) (h : ZH), xX9_power_L4  nn l0 l1 l2 l3 h = some r → z_W Γ p l e rmX9_power s m args below meth c 4 0 0 (MQ below (z_Qc Γ (some (.int r.1)) r.2) args s rmX9_power.cells rmX9_power.slots (z_A Γ)) 4 [(0, .int l0), (1, .int l1), (2, .int l2), (3, .int l3)] [] h := by
  intro nn
  induction nn with
  | zero => intro l0 l1 l2 l3 h hX; cases hX
  | succ nn ih => intro l0 l1 l2 l3 h hX; exact wX9_power_B4 hO G hr hnm  ih l0 l1 l2 l3 h hX
noncomputable def xX9_power (l0 : Int32) (l1 : Int32) (h : ZH) : Option (Int32 × ZH) := xX9_power_L4 zFU l0 l1 (1 : Int32) (0 : Int32) h
set_option maxHeartbeats 4000000 in
set_option maxRecDepth 100000 in
theorem lX9_power {Γ : ZG} {l : Launch} (hO : z_OK Γ) {l0 : Int32} {l1 : Int32} {h : ZH} {r : (Int32 × ZH)} (hX : xX9_power l0 l1 h = some r) : z_M Γ l yX9_power (z_ws1 yX9_power cX9_power 4 (some .int)) rmX9_power [.int l0, .int l1] h (some (.int r.1)) r.2 := by
  refine z_start hO (plainFor_of_name (by decide)) (Nat.le_of_ble_eq_true rfl) ?_
  intro p e s m args below meth c G hr hnm
  refine z_lvc (lv2 := [(0, .int l0), (1, .int l1)]) rfl ?_
  refine z_iconst (pc := 0) (v := 1) G dX9_power_0 (by decide) ?_
  refine z_istore_n (pc := 1) (lv2 := [(0, .int l0), (1, .int l1), (2, .int (1 : Int32))]) G dX9_power_1 rfl (by decide) rfl rfl ?_
  refine z_iconst (pc := 2) (v := 0) G dX9_power_2 (by decide) ?_
  refine z_istore_n (pc := 3) (lv2 := [(0, .int l0), (1, .int l1), (2, .int (1 : Int32)), (3, .int (0 : Int32))]) G dX9_power_3 rfl (by decide) rfl rfl ?_
  exact wX9_power_L4 hO G hr hnm zFU _ _ _ _ _ hX
theorem dX9_isShip_0 : decode cX9_isShip 0 = .ok (.iload_n 1, 1) := by decide +kernel
theorem dX9_isShip_1 : decode cX9_isShip 1 = .ok (.iconst 0, 1) := by decide +kernel
theorem dX9_isShip_2 : decode cX9_isShip 2 = .ok (.aload_n 0, 1) := by decide +kernel
theorem dX9_isShip_3 : decode cX9_isShip 3 = .ok (.invokevirtual 337, 3) := by decide +kernel
theorem dX9_isShip_6 : decode cX9_isShip 6 = .ok (.iconst 1, 1) := by decide +kernel
theorem dX9_isShip_7 : decode cX9_isShip 7 = .ok (.isub, 1) := by decide +kernel
theorem dX9_isShip_8 : decode cX9_isShip 8 = .ok (.invokestatic 340, 3) := by decide +kernel
theorem dX9_isShip_11 : decode cX9_isShip 11 = .ok (.ireturn, 1) := by decide +kernel
theorem ydX9_isShip : z_yd yX9_isShip 1 := ⟨by decide, by decide, by decide +kernel⟩
abbrev rmX9_isShip : Room := { frames := 1, cells := 0, slots := 0, locals := 22 }
noncomputable def xX9_isShip (l0 : Nat) (l1 : Int32) (h : ZH) : Option (Int32 × ZH) := (z_gu (z_is h l0 9) ((xX9_lots l0 h).bind fun r3 => ((xX9_isIn l1 (0 : Int32) (r3.1 - (1 : Int32)) r3.2).bind fun r8 => z_zr r8.1 r8.2)))
set_option maxHeartbeats 4000000 in
set_option maxRecDepth 100000 in
theorem lX9_isShip {Γ : ZG} {l : Launch} (hO : z_OK Γ) {l0 : Nat} {l1 : Int32} {h : ZH} {r : (Int32 × ZH)} (hX : xX9_isShip l0 l1 h = some r) : z_M Γ l yX9_isShip (z_ws1 yX9_isShip cX9_isShip 2 (some .boolean)) rmX9_isShip [.ref l0, .int l1] h (some (.int r.1)) r.2 := by
  refine z_start hO (plainFor_of_name (by decide)) (Nat.le_of_ble_eq_true rfl) ?_
  intro p e s m args below meth c G hr hnm
  refine z_lvc (lv2 := [(0, .ref l0), (1, .int l1)]) rfl ?_
  refine z_iload_n (pc := 0) G 1 dX9_isShip_0 rfl rfl ?_
  refine z_iconst (pc := 1) (v := 0) G dX9_isShip_1 (by decide) ?_
  refine z_aload_n (pc := 2) G 0 dX9_isShip_2 rfl rfl ?_
  obtain ⟨hi3, hX⟩ := z_gu_s hX
  obtain ⟨r3, hv3, hX⟩ := z_bd hX
  refine z_cVI (pc := 3) (As := []) (c2 := 0) (s2 := 0) G kK9 (lX9_lots hO hv3) hi3 kt_1221 kt_11 kt_1218 kt_1220 ks_36 ydX9_lots ⟨by decide, by decide⟩ rfl (Nat.le_of_ble_eq_true rfl) ⟨rfl, rfl⟩ ⟨by decide, by decide⟩ rfl dX9_isShip_3 ?_
  refine z_iconst (pc := 6) (v := 1) G dX9_isShip_6 (by decide) ?_
  refine z_isub (pc := 7) G dX9_isShip_7 ?_
  obtain ⟨r8, hv8, hX⟩ := z_bd hX
  refine z_cSI (pc := 8) (As := [.int l1, .int (0 : Int32), .int (r3.1 - (1 : Int32))]) (c2 := 0) (s2 := 0) G (lX9_isIn hO hv8) kt_1559 kt_11 kt_1557 kt_1558 ydX9_isIn ⟨by decide, by decide⟩ rfl (Nat.le_of_ble_eq_true rfl) ⟨rfl, rfl⟩ ⟨by decide, by decide⟩ rfl dX9_isShip_8 ?_
  exact z_zretY (pc := 11) hX G hr dX9_isShip_11 (by decide) (by decide)
theorem dX9_isSlot_0 : decode cX9_isSlot 0 = .ok (.iload_n 1, 1) := by decide +kernel
theorem dX9_isSlot_1 : decode cX9_isSlot 1 = .ok (.iconst 0, 1) := by decide +kernel
theorem dX9_isSlot_2 : decode cX9_isSlot 2 = .ok (.aload_n 0, 1) := by decide +kernel
theorem dX9_isSlot_3 : decode cX9_isSlot 3 = .ok (.invokevirtual 344, 3) := by decide +kernel
theorem dX9_isSlot_6 : decode cX9_isSlot 6 = .ok (.iconst 1, 1) := by decide +kernel
theorem dX9_isSlot_7 : decode cX9_isSlot 7 = .ok (.isub, 1) := by decide +kernel
theorem dX9_isSlot_8 : decode cX9_isSlot 8 = .ok (.invokestatic 340, 3) := by decide +kernel
theorem dX9_isSlot_11 : decode cX9_isSlot 11 = .ok (.ireturn, 1) := by decide +kernel
theorem ydX9_isSlot : z_yd yX9_isSlot 1 := ⟨by decide, by decide, by decide +kernel⟩
abbrev rmX9_isSlot : Room := { frames := 1, cells := 0, slots := 0, locals := 22 }
noncomputable def xX9_isSlot (l0 : Nat) (l1 : Int32) (h : ZH) : Option (Int32 × ZH) := (z_gu (z_is h l0 9) ((xX9_round l0 h).bind fun r3 => ((xX9_isIn l1 (0 : Int32) (r3.1 - (1 : Int32)) r3.2).bind fun r8 => z_zr r8.1 r8.2)))
set_option maxHeartbeats 4000000 in
set_option maxRecDepth 100000 in
theorem lX9_isSlot {Γ : ZG} {l : Launch} (hO : z_OK Γ) {l0 : Nat} {l1 : Int32} {h : ZH} {r : (Int32 × ZH)} (hX : xX9_isSlot l0 l1 h = some r) : z_M Γ l yX9_isSlot (z_ws1 yX9_isSlot cX9_isSlot 2 (some .boolean)) rmX9_isSlot [.ref l0, .int l1] h (some (.int r.1)) r.2 := by
  refine z_start hO (plainFor_of_name (by decide)) (Nat.le_of_ble_eq_true rfl) ?_
  intro p e s m args below meth c G hr hnm
  refine z_lvc (lv2 := [(0, .ref l0), (1, .int l1)]) rfl ?_
  refine z_iload_n (pc := 0) G 1 dX9_isSlot_0 rfl rfl ?_
  refine z_iconst (pc := 1) (v := 0) G dX9_isSlot_1 (by decide) ?_
  refine z_aload_n (pc := 2) G 0 dX9_isSlot_2 rfl rfl ?_
  obtain ⟨hi3, hX⟩ := z_gu_s hX
  obtain ⟨r3, hv3, hX⟩ := z_bd hX
  refine z_cVI (pc := 3) (As := []) (c2 := 0) (s2 := 0) G kK9 (lX9_round hO hv3) hi3 kt_1575 kt_11 kt_1572 kt_1574 ks_66 ydX9_round ⟨by decide, by decide⟩ rfl (Nat.le_of_ble_eq_true rfl) ⟨rfl, rfl⟩ ⟨by decide, by decide⟩ rfl dX9_isSlot_3 ?_
  refine z_iconst (pc := 6) (v := 1) G dX9_isSlot_6 (by decide) ?_
  refine z_isub (pc := 7) G dX9_isSlot_7 ?_
  obtain ⟨r8, hv8, hX⟩ := z_bd hX
  refine z_cSI (pc := 8) (As := [.int l1, .int (0 : Int32), .int (r3.1 - (1 : Int32))]) (c2 := 0) (s2 := 0) G (lX9_isIn hO hv8) kt_1559 kt_11 kt_1557 kt_1558 ydX9_isIn ⟨by decide, by decide⟩ rfl (Nat.le_of_ble_eq_true rfl) ⟨rfl, rfl⟩ ⟨by decide, by decide⟩ rfl dX9_isSlot_8 ?_
  exact z_zretY (pc := 11) hX G hr dX9_isSlot_11 (by decide) (by decide)
theorem dX9_isOn_0 : decode cX9_isOn 0 = .ok (.aload_n 0, 1) := by decide +kernel
theorem dX9_isOn_1 : decode cX9_isOn 1 = .ok (.getfield 91, 3) := by decide +kernel
theorem dX9_isOn_4 : decode cX9_isOn 4 = .ok (.sipush 517, 3) := by decide +kernel
theorem dX9_isOn_7 : decode cX9_isOn 7 = .ok (.iaload, 1) := by decide +kernel
theorem dX9_isOn_8 : decode cX9_isOn 8 = .ok (.aload_n 0, 1) := by decide +kernel
theorem dX9_isOn_9 : decode cX9_isOn 9 = .ok (.getfield 63, 3) := by decide +kernel
theorem dX9_isOn_12 : decode cX9_isOn 12 = .ok (.bipush 6, 2) := by decide +kernel
theorem dX9_isOn_14 : decode cX9_isOn 14 = .ok (.aload_n 0, 1) := by decide +kernel
theorem dX9_isOn_15 : decode cX9_isOn 15 = .ok (.getfield 255, 3) := by decide +kernel
theorem dX9_isOn_18 : decode cX9_isOn 18 = .ok (.imul, 1) := by decide +kernel
theorem dX9_isOn_19 : decode cX9_isOn 19 = .ok (.iload_n 1, 1) := by decide +kernel
theorem dX9_isOn_20 : decode cX9_isOn 20 = .ok (.iadd, 1) := by decide +kernel
theorem dX9_isOn_21 : decode cX9_isOn 21 = .ok (.iaload, 1) := by decide +kernel
theorem dX9_isOn_22 : decode cX9_isOn 22 = .ok (.if_icmp .lt 22, 3) := by decide +kernel
theorem dX9_isOn_25 : decode cX9_isOn 25 = .ok (.aload_n 0, 1) := by decide +kernel
theorem dX9_isOn_26 : decode cX9_isOn 26 = .ok (.getfield 91, 3) := by decide +kernel
theorem dX9_isOn_29 : decode cX9_isOn 29 = .ok (.sipush 516, 3) := by decide +kernel
theorem dX9_isOn_32 : decode cX9_isOn 32 = .ok (.iaload, 1) := by decide +kernel
theorem dX9_isOn_33 : decode cX9_isOn 33 = .ok (.iload_n 1, 1) := by decide +kernel
theorem dX9_isOn_34 : decode cX9_isOn 34 = .ok (.invokestatic 265, 3) := by decide +kernel
theorem dX9_isOn_37 : decode cX9_isOn 37 = .ok (.ifCond .ne 7, 3) := by decide +kernel
theorem dX9_isOn_40 : decode cX9_isOn 40 = .ok (.iconst 1, 1) := by decide +kernel
theorem dX9_isOn_41 : decode cX9_isOn 41 = .ok (.goto 4, 3) := by decide +kernel
theorem dX9_isOn_44 : decode cX9_isOn 44 = .ok (.iconst 0, 1) := by decide +kernel
theorem dX9_isOn_45 : decode cX9_isOn 45 = .ok (.ireturn, 1) := by decide +kernel
theorem ydX9_isOn : z_yd yX9_isOn 1 := ⟨by decide, by decide, by decide +kernel⟩
abbrev rmX9_isOn : Room := { frames := 1, cells := 0, slots := 0, locals := 21 }
noncomputable def xX9_isOn (l0 : Nat) (l1 : Int32) (h : ZH) : Option (Int32 × ZH) := ((z_gR h l0 9 41).bind fun x1 => ((z_aI h x1 (517 : Int32)).bind fun x7 => ((z_gR h l0 9 25).bind fun x9 => ((z_gI h l0 9 34).bind fun x15 => ((z_aI h x9 (((6 : Int32) * x15) + l1)).bind fun x21 => (if x7 < x21 then some ((0 : Int32), h) else ((z_gR h l0 9 41).bind fun x26 => ((z_aI h x26 (516 : Int32)).bind fun x32 => ((xX9_bit x32 l1 h).bind fun r34 => (if r34.1 = 0 then some ((1 : Int32), r34.2) else some ((0 : Int32), r34.2)))))))))))
set_option maxHeartbeats 4000000 in
set_option maxRecDepth 100000 in
theorem lX9_isOn {Γ : ZG} {l : Launch} (hO : z_OK Γ) {l0 : Nat} {l1 : Int32} {h : ZH} {r : (Int32 × ZH)} (hX : xX9_isOn l0 l1 h = some r) : z_M Γ l yX9_isOn (z_ws1 yX9_isOn cX9_isOn 2 (some .boolean)) rmX9_isOn [.ref l0, .int l1] h (some (.int r.1)) r.2 := by
  refine z_start hO (plainFor_of_name (by decide)) (Nat.le_of_ble_eq_true rfl) ?_
  intro p e s m args below meth c G hr hnm
  refine z_lvc (lv2 := [(0, .ref l0), (1, .int l1)]) rfl ?_
  refine z_aload_n (pc := 0) G 0 dX9_isOn_0 rfl rfl ?_
  obtain ⟨x1, hv1, hX⟩ := z_bd hX
  refine z_getR (pc := 1) G kK9 (k := 41) (by decide) kt_1267 dX9_isOn_1 hv1 ?_
  refine z_sipush (pc := 4) (v := 517) G dX9_isOn_4 (by decide) ?_
  obtain ⟨x7, hv7, hX⟩ := z_bd hX
  refine z_iald (pc := 7) G dX9_isOn_7 hv7 ?_
  refine z_aload_n (pc := 8) G 0 dX9_isOn_8 rfl rfl ?_
  obtain ⟨x9, hv9, hX⟩ := z_bd hX
  refine z_getR (pc := 9) G kK9 (k := 25) (by decide) kt_1251 dX9_isOn_9 hv9 ?_
  refine z_bipush (pc := 12) (v := 6) G dX9_isOn_12 (by decide) ?_
  refine z_aload_n (pc := 14) G 0 dX9_isOn_14 rfl rfl ?_
  obtain ⟨x15, hv15, hX⟩ := z_bd hX
  refine z_getI (pc := 15) G kK9 (k := 34) (by decide) kt_1260 dX9_isOn_15 hv15 ?_
  refine z_imul (pc := 18) G dX9_isOn_18 ?_
  refine z_iload_n (pc := 19) G 1 dX9_isOn_19 rfl rfl ?_
  refine z_iadd (pc := 20) G dX9_isOn_20 ?_
  obtain ⟨x21, hv21, hX⟩ := z_bd hX
  refine z_iald (pc := 21) G dX9_isOn_21 hv21 ?_
  refine z_icmp_lt (pc := 22) (tgt := 44) G dX9_isOn_22 (by decide) (fun hc22 => ?_) (fun hc22 => ?_)
  · have hX := z_it hc22 hX
    refine z_iconst (pc := 44) (v := 0) G dX9_isOn_44 (by decide) ?_
    exact z_zretX (pc := 45) hX G hr rfl dX9_isOn_45 (by decide) (by decide)
  · have hX := z_if hc22 hX
    refine z_aload_n (pc := 25) G 0 dX9_isOn_25 rfl rfl ?_
    obtain ⟨x26, hv26, hX⟩ := z_bd hX
    refine z_getR (pc := 26) G kK9 (k := 41) (by decide) kt_1267 dX9_isOn_26 hv26 ?_
    refine z_sipush (pc := 29) (v := 516) G dX9_isOn_29 (by decide) ?_
    obtain ⟨x32, hv32, hX⟩ := z_bd hX
    refine z_iald (pc := 32) G dX9_isOn_32 hv32 ?_
    refine z_iload_n (pc := 33) G 1 dX9_isOn_33 rfl rfl ?_
    obtain ⟨r34, hv34, hX⟩ := z_bd hX
    refine z_cSI (pc := 34) (As := [.int x32, .int l1]) (c2 := 0) (s2 := 0) G (lX9_bit hO hv34) kt_1476 kt_11 kt_1474 kt_1475 ydX9_bit ⟨by decide, by decide⟩ rfl (Nat.le_of_ble_eq_true rfl) ⟨rfl, rfl⟩ ⟨by decide, by decide⟩ rfl dX9_isOn_34 ?_
    refine z_if_ne (pc := 37) (tgt := 44) G dX9_isOn_37 (by decide) (fun hc37 => ?_) (fun hc37 => ?_)
    · have hX := z_if hc37 hX
      refine z_iconst (pc := 44) (v := 0) G dX9_isOn_44 (by decide) ?_
      exact z_zretX (pc := 45) hX G hr rfl dX9_isOn_45 (by decide) (by decide)
    · have hX := z_it hc37 hX
      refine z_iconst (pc := 40) (v := 1) G dX9_isOn_40 (by decide) ?_
      refine z_goto (pc := 41) (tgt := 45) G dX9_isOn_41 (by decide) ?_
      exact z_zretX (pc := 45) hX G hr rfl dX9_isOn_45 (by decide) (by decide)
theorem dX9_litNow_0 : decode cX9_litNow 0 = .ok (.iconst 0, 1) := by decide +kernel
theorem dX9_litNow_1 : decode cX9_litNow 1 = .ok (.istore_n 1, 1) := by decide +kernel
theorem dX9_litNow_2 : decode cX9_litNow 2 = .ok (.iconst 0, 1) := by decide +kernel
theorem dX9_litNow_3 : decode cX9_litNow 3 = .ok (.istore_n 2, 1) := by decide +kernel
theorem dX9_litNow_4 : decode cX9_litNow 4 = .ok (.iload_n 2, 1) := by decide +kernel
theorem dX9_litNow_5 : decode cX9_litNow 5 = .ok (.aload_n 0, 1) := by decide +kernel
theorem dX9_litNow_6 : decode cX9_litNow 6 = .ok (.invokevirtual 337, 3) := by decide +kernel
theorem dX9_litNow_9 : decode cX9_litNow 9 = .ok (.if_icmp .ge 23, 3) := by decide +kernel
theorem dX9_litNow_12 : decode cX9_litNow 12 = .ok (.aload_n 0, 1) := by decide +kernel
theorem dX9_litNow_13 : decode cX9_litNow 13 = .ok (.iload_n 2, 1) := by decide +kernel
theorem dX9_litNow_14 : decode cX9_litNow 14 = .ok (.invokevirtual 347, 3) := by decide +kernel
theorem dX9_litNow_17 : decode cX9_litNow 17 = .ok (.ifCond .eq 9, 3) := by decide +kernel
theorem dX9_litNow_20 : decode cX9_litNow 20 = .ok (.iload_n 1, 1) := by decide +kernel
theorem dX9_litNow_21 : decode cX9_litNow 21 = .ok (.iconst 1, 1) := by decide +kernel
theorem dX9_litNow_22 : decode cX9_litNow 22 = .ok (.iload_n 2, 1) := by decide +kernel
theorem dX9_litNow_23 : decode cX9_litNow 23 = .ok (.ishl, 1) := by decide +kernel
theorem dX9_litNow_24 : decode cX9_litNow 24 = .ok (.ior, 1) := by decide +kernel
theorem dX9_litNow_25 : decode cX9_litNow 25 = .ok (.istore_n 1, 1) := by decide +kernel
theorem dX9_litNow_26 : decode cX9_litNow 26 = .ok (.iinc 2 1, 3) := by decide +kernel
theorem dX9_litNow_29 : decode cX9_litNow 29 = .ok (.goto (-25), 3) := by decide +kernel
theorem dX9_litNow_32 : decode cX9_litNow 32 = .ok (.iload_n 1, 1) := by decide +kernel
theorem dX9_litNow_33 : decode cX9_litNow 33 = .ok (.ireturn, 1) := by decide +kernel
theorem ydX9_litNow : z_yd yX9_litNow 0 := ⟨by decide, by decide, by decide +kernel⟩
abbrev rmX9_litNow : Room := { frames := 2, cells := 0, slots := 0, locals := 42 }
noncomputable def xX9_litNow_B4 (r4 : Nat → Int32 → Int32 → ZH → Option (Int32 × ZH)) (l0 : Nat) (l1 : Int32) (l2 : Int32) (h : ZH) : Option (Int32 × ZH) := (z_gu (z_is h l0 9) ((xX9_lots l0 h).bind fun r6 => (if r6.1 ≤ l2 then some (l1, r6.2) else (z_gu (z_is r6.2 l0 9) ((xX9_isOn l0 l2 r6.2).bind fun r14 => (if r14.1 = 0 then r4 l0 l1 (l2 + 1) r14.2 else r4 l0 (l1 ||| ((1 : Int32) <<< (l2 &&& 31))) (l2 + 1) r14.2))))))
noncomputable def xX9_litNow_L4 (n : Nat) : Nat → Int32 → Int32 → ZH → Option (Int32 × ZH) := Nat.rec (motive := fun _ => Nat → Int32 → Int32 → ZH → Option (Int32 × ZH)) (fun _ _ _ _ => none) (fun _ rec => xX9_litNow_B4  rec) n
set_option maxHeartbeats 4000000 in
set_option maxRecDepth 100000 in
theorem wX9_litNow_B4 {Γ : ZG} {p : Program} {l : Launch} {e : Env} {s : State} {m : MethodId} {args : Array Value} {below : List Frame} {meth : Method} {c : Code} (hO : z_OK Γ) (G : z_GG Γ p s m args meth c cX9_litNow 3 RX9) (hr : meth.sig.returnType = (some .int)) (hnm : meth.name = "litNow") {r : (Int32 × ZH)} {r4 : Nat → Int32 → Int32 → ZH → Option (Int32 × ZH)} (H4 : ∀ (l0 : Nat) (l1 : Int32) (l2 : Int32) (h : ZH), r4 l0 l1 l2 h = some r → z_W Γ p l e rmX9_litNow s m args below meth c 3 0 0 (MQ below (z_Qc Γ (some (.int r.1)) r.2) args s rmX9_litNow.cells rmX9_litNow.slots (z_A Γ)) 4 [(0, .ref l0), (1, .int l1), (2, .int l2)] [] h) : ∀ (l0 : Nat) (l1 : Int32) (l2 : Int32) (h : ZH), xX9_litNow_B4  r4 l0 l1 l2 h = some r → z_W Γ p l e rmX9_litNow s m args below meth c 3 0 0 (MQ below (z_Qc Γ (some (.int r.1)) r.2) args s rmX9_litNow.cells rmX9_litNow.slots (z_A Γ)) 4 [(0, .ref l0), (1, .int l1), (2, .int l2)] [] h := by
  intro l0 l1 l2 h hX
  refine z_iload_n (pc := 4) G 2 dX9_litNow_4 rfl rfl ?_
  refine z_aload_n (pc := 5) G 0 dX9_litNow_5 rfl rfl ?_
  obtain ⟨hi6, hX⟩ := z_gu_s hX
  obtain ⟨r6, hv6, hX⟩ := z_bd hX
  refine z_cVI (pc := 6) (As := []) (c2 := 0) (s2 := 0) G kK9 (lX9_lots hO hv6) hi6 kt_1221 kt_11 kt_1218 kt_1220 ks_36 ydX9_lots ⟨by decide, by decide⟩ rfl (Nat.le_of_ble_eq_true rfl) ⟨rfl, rfl⟩ ⟨by decide, by decide⟩ rfl dX9_litNow_6 ?_
  refine z_icmp_ge (pc := 9) (tgt := 32) G dX9_litNow_9 (by decide) (fun hc9 => ?_) (fun hc9 => ?_)
  · have hX := z_it hc9 hX
    refine z_iload_n (pc := 32) G 1 dX9_litNow_32 rfl rfl ?_
    exact z_iretX (pc := 33) hX G hr dX9_litNow_33 (by decide) (by decide)
  · have hX := z_if hc9 hX
    refine z_aload_n (pc := 12) G 0 dX9_litNow_12 rfl rfl ?_
    refine z_iload_n (pc := 13) G 2 dX9_litNow_13 rfl rfl ?_
    obtain ⟨hi14, hX⟩ := z_gu_s hX
    obtain ⟨r14, hv14, hX⟩ := z_bd hX
    refine z_cVI (pc := 14) (As := [.int l2]) (c2 := 0) (s2 := 0) G kK9 (lX9_isOn hO hv14) hi14 kt_1567 kt_11 kt_1564 kt_1566 ks_64 ydX9_isOn ⟨by decide, by decide⟩ rfl (Nat.le_of_ble_eq_true rfl) ⟨rfl, rfl⟩ ⟨by decide, by decide⟩ rfl dX9_litNow_14 ?_
    refine z_if_eq (pc := 17) (tgt := 26) G dX9_litNow_17 (by decide) (fun hc17 => ?_) (fun hc17 => ?_)
    · have hX := z_it hc17 hX
      refine z_iincw (pc := 26) (w := 1) (lv2 := [(0, .ref l0), (1, .int l1), (2, .int (l2 + 1))]) G 2 dX9_litNow_26 rfl (by decide) (by decide) rfl rfl ?_
      refine z_goto (pc := 29) (tgt := 4) G dX9_litNow_29 (by decide) ?_
      exact H4 _ _ _ _ hX
    · have hX := z_if hc17 hX
      refine z_iload_n (pc := 20) G 1 dX9_litNow_20 rfl rfl ?_
      refine z_iconst (pc := 21) (v := 1) G dX9_litNow_21 (by decide) ?_
      refine z_iload_n (pc := 22) G 2 dX9_litNow_22 rfl rfl ?_
      refine z_ishl (pc := 23) G dX9_litNow_23 ?_
      refine z_ior (pc := 24) G dX9_litNow_24 ?_
      refine z_istore_n (pc := 25) (lv2 := [(0, .ref l0), (1, .int (l1 ||| ((1 : Int32) <<< (l2 &&& 31)))), (2, .int l2)]) G dX9_litNow_25 rfl (by decide) rfl rfl ?_
      refine z_iincw (pc := 26) (w := 1) (lv2 := [(0, .ref l0), (1, .int (l1 ||| ((1 : Int32) <<< (l2 &&& 31)))), (2, .int (l2 + 1))]) G 2 dX9_litNow_26 rfl (by decide) (by decide) rfl rfl ?_
      refine z_goto (pc := 29) (tgt := 4) G dX9_litNow_29 (by decide) ?_
      exact H4 _ _ _ _ hX
set_option maxHeartbeats 4000000 in
set_option maxRecDepth 100000 in
theorem wX9_litNow_L4 {Γ : ZG} {p : Program} {l : Launch} {e : Env} {s : State} {m : MethodId} {args : Array Value} {below : List Frame} {meth : Method} {c : Code} (hO : z_OK Γ) (G : z_GG Γ p s m args meth c cX9_litNow 3 RX9) (hr : meth.sig.returnType = (some .int)) (hnm : meth.name = "litNow") {r : (Int32 × ZH)} : ∀ (nn : Nat) (l0 : Nat) (l1 : Int32) (l2 : Int32) (h : ZH), xX9_litNow_L4  nn l0 l1 l2 h = some r → z_W Γ p l e rmX9_litNow s m args below meth c 3 0 0 (MQ below (z_Qc Γ (some (.int r.1)) r.2) args s rmX9_litNow.cells rmX9_litNow.slots (z_A Γ)) 4 [(0, .ref l0), (1, .int l1), (2, .int l2)] [] h := by
  intro nn
  induction nn with
  | zero => intro l0 l1 l2 h hX; cases hX
  | succ nn ih => intro l0 l1 l2 h hX; exact wX9_litNow_B4 hO G hr hnm  ih l0 l1 l2 h hX
noncomputable def xX9_litNow (l0 : Nat) (h : ZH) : Option (Int32 × ZH) := xX9_litNow_L4 zFU l0 (0 : Int32) (0 : Int32) h
set_option maxHeartbeats 4000000 in
set_option maxRecDepth 100000 in
theorem lX9_litNow {Γ : ZG} {l : Launch} (hO : z_OK Γ) {l0 : Nat} {h : ZH} {r : (Int32 × ZH)} (hX : xX9_litNow l0 h = some r) : z_M Γ l yX9_litNow (z_ws1 yX9_litNow cX9_litNow 3 (some .int)) rmX9_litNow [.ref l0] h (some (.int r.1)) r.2 := by
  refine z_start hO (plainFor_of_name (by decide)) (Nat.le_of_ble_eq_true rfl) ?_
  intro p e s m args below meth c G hr hnm
  refine z_lvc (lv2 := [(0, .ref l0)]) rfl ?_
  refine z_iconst (pc := 0) (v := 0) G dX9_litNow_0 (by decide) ?_
  refine z_istore_n (pc := 1) (lv2 := [(0, .ref l0), (1, .int (0 : Int32))]) G dX9_litNow_1 rfl (by decide) rfl rfl ?_
  refine z_iconst (pc := 2) (v := 0) G dX9_litNow_2 (by decide) ?_
  refine z_istore_n (pc := 3) (lv2 := [(0, .ref l0), (1, .int (0 : Int32)), (2, .int (0 : Int32))]) G dX9_litNow_3 rfl (by decide) rfl rfl ?_
  exact wX9_litNow_L4 hO G hr hnm zFU _ _ _ _ hX
theorem dX9_apart_0 : decode cX9_apart 0 = .ok (.aload_n 0, 1) := by decide +kernel
theorem dX9_apart_1 : decode cX9_apart 1 = .ok (.getfield 91, 3) := by decide +kernel
theorem dX9_apart_4 : decode cX9_apart 4 = .ok (.iconst 0, 1) := by decide +kernel
theorem dX9_apart_5 : decode cX9_apart 5 = .ok (.iload_n 1, 1) := by decide +kernel
theorem dX9_apart_6 : decode cX9_apart 6 = .ok (.iadd, 1) := by decide +kernel
theorem dX9_apart_7 : decode cX9_apart 7 = .ok (.iaload, 1) := by decide +kernel
theorem dX9_apart_8 : decode cX9_apart 8 = .ok (.aload_n 0, 1) := by decide +kernel
theorem dX9_apart_9 : decode cX9_apart 9 = .ok (.getfield 91, 3) := by decide +kernel
theorem dX9_apart_12 : decode cX9_apart 12 = .ok (.iconst 0, 1) := by decide +kernel
theorem dX9_apart_13 : decode cX9_apart 13 = .ok (.iload_n 2, 1) := by decide +kernel
theorem dX9_apart_14 : decode cX9_apart 14 = .ok (.iadd, 1) := by decide +kernel
theorem dX9_apart_15 : decode cX9_apart 15 = .ok (.iaload, 1) := by decide +kernel
theorem dX9_apart_16 : decode cX9_apart 16 = .ok (.isub, 1) := by decide +kernel
theorem dX9_apart_17 : decode cX9_apart 17 = .ok (.invokestatic 350, 3) := by decide +kernel
theorem dX9_apart_20 : decode cX9_apart 20 = .ok (.aload_n 0, 1) := by decide +kernel
theorem dX9_apart_21 : decode cX9_apart 21 = .ok (.getfield 91, 3) := by decide +kernel
theorem dX9_apart_24 : decode cX9_apart 24 = .ok (.bipush 6, 2) := by decide +kernel
theorem dX9_apart_26 : decode cX9_apart 26 = .ok (.iload_n 1, 1) := by decide +kernel
theorem dX9_apart_27 : decode cX9_apart 27 = .ok (.iadd, 1) := by decide +kernel
theorem dX9_apart_28 : decode cX9_apart 28 = .ok (.iaload, 1) := by decide +kernel
theorem dX9_apart_29 : decode cX9_apart 29 = .ok (.aload_n 0, 1) := by decide +kernel
theorem dX9_apart_30 : decode cX9_apart 30 = .ok (.getfield 91, 3) := by decide +kernel
theorem dX9_apart_33 : decode cX9_apart 33 = .ok (.bipush 6, 2) := by decide +kernel
theorem dX9_apart_35 : decode cX9_apart 35 = .ok (.iload_n 2, 1) := by decide +kernel
theorem dX9_apart_36 : decode cX9_apart 36 = .ok (.iadd, 1) := by decide +kernel
theorem dX9_apart_37 : decode cX9_apart 37 = .ok (.iaload, 1) := by decide +kernel
theorem dX9_apart_38 : decode cX9_apart 38 = .ok (.isub, 1) := by decide +kernel
theorem dX9_apart_39 : decode cX9_apart 39 = .ok (.invokestatic 350, 3) := by decide +kernel
theorem dX9_apart_42 : decode cX9_apart 42 = .ok (.iadd, 1) := by decide +kernel
theorem dX9_apart_43 : decode cX9_apart 43 = .ok (.ireturn, 1) := by decide +kernel
theorem ydX9_apart : z_yd yX9_apart 2 := ⟨by decide, by decide, by decide +kernel⟩
abbrev rmX9_apart : Room := { frames := 1, cells := 0, slots := 0, locals := 20 }
noncomputable def xX9_apart (l0 : Nat) (l1 : Int32) (l2 : Int32) (h : ZH) : Option (Int32 × ZH) := ((z_gR h l0 9 41).bind fun x1 => ((z_aI h x1 ((0 : Int32) + l1)).bind fun x7 => ((z_gR h l0 9 41).bind fun x9 => ((z_aI h x9 ((0 : Int32) + l2)).bind fun x15 => ((xX9_absolute (x7 - x15) h).bind fun r17 => ((z_gR r17.2 l0 9 41).bind fun x21 => ((z_aI r17.2 x21 ((6 : Int32) + l1)).bind fun x28 => ((z_gR r17.2 l0 9 41).bind fun x30 => ((z_aI r17.2 x30 ((6 : Int32) + l2)).bind fun x37 => ((xX9_absolute (x28 - x37) r17.2).bind fun r39 => some ((r17.1 + r39.1), r39.2)))))))))))
set_option maxHeartbeats 4000000 in
set_option maxRecDepth 100000 in
theorem lX9_apart {Γ : ZG} {l : Launch} (hO : z_OK Γ) {l0 : Nat} {l1 : Int32} {l2 : Int32} {h : ZH} {r : (Int32 × ZH)} (hX : xX9_apart l0 l1 l2 h = some r) : z_M Γ l yX9_apart (z_ws1 yX9_apart cX9_apart 3 (some .int)) rmX9_apart [.ref l0, .int l1, .int l2] h (some (.int r.1)) r.2 := by
  refine z_start hO (plainFor_of_name (by decide)) (Nat.le_of_ble_eq_true rfl) ?_
  intro p e s m args below meth c G hr hnm
  refine z_lvc (lv2 := [(0, .ref l0), (1, .int l1), (2, .int l2)]) rfl ?_
  refine z_aload_n (pc := 0) G 0 dX9_apart_0 rfl rfl ?_
  obtain ⟨x1, hv1, hX⟩ := z_bd hX
  refine z_getR (pc := 1) G kK9 (k := 41) (by decide) kt_1267 dX9_apart_1 hv1 ?_
  refine z_iconst (pc := 4) (v := 0) G dX9_apart_4 (by decide) ?_
  refine z_iload_n (pc := 5) G 1 dX9_apart_5 rfl rfl ?_
  refine z_iadd (pc := 6) G dX9_apart_6 ?_
  obtain ⟨x7, hv7, hX⟩ := z_bd hX
  refine z_iald (pc := 7) G dX9_apart_7 hv7 ?_
  refine z_aload_n (pc := 8) G 0 dX9_apart_8 rfl rfl ?_
  obtain ⟨x9, hv9, hX⟩ := z_bd hX
  refine z_getR (pc := 9) G kK9 (k := 41) (by decide) kt_1267 dX9_apart_9 hv9 ?_
  refine z_iconst (pc := 12) (v := 0) G dX9_apart_12 (by decide) ?_
  refine z_iload_n (pc := 13) G 2 dX9_apart_13 rfl rfl ?_
  refine z_iadd (pc := 14) G dX9_apart_14 ?_
  obtain ⟨x15, hv15, hX⟩ := z_bd hX
  refine z_iald (pc := 15) G dX9_apart_15 hv15 ?_
  refine z_isub (pc := 16) G dX9_apart_16 ?_
  obtain ⟨r17, hv17, hX⟩ := z_bd hX
  refine z_cSI (pc := 17) (As := [.int (x7 - x15)]) (c2 := 0) (s2 := 0) G (lX9_absolute hO hv17) kt_1609 kt_11 kt_1607 kt_1608 ydX9_absolute ⟨by decide, by decide⟩ rfl (Nat.le_of_ble_eq_true rfl) ⟨rfl, rfl⟩ ⟨by decide, by decide⟩ rfl dX9_apart_17 ?_
  refine z_aload_n (pc := 20) G 0 dX9_apart_20 rfl rfl ?_
  obtain ⟨x21, hv21, hX⟩ := z_bd hX
  refine z_getR (pc := 21) G kK9 (k := 41) (by decide) kt_1267 dX9_apart_21 hv21 ?_
  refine z_bipush (pc := 24) (v := 6) G dX9_apart_24 (by decide) ?_
  refine z_iload_n (pc := 26) G 1 dX9_apart_26 rfl rfl ?_
  refine z_iadd (pc := 27) G dX9_apart_27 ?_
  obtain ⟨x28, hv28, hX⟩ := z_bd hX
  refine z_iald (pc := 28) G dX9_apart_28 hv28 ?_
  refine z_aload_n (pc := 29) G 0 dX9_apart_29 rfl rfl ?_
  obtain ⟨x30, hv30, hX⟩ := z_bd hX
  refine z_getR (pc := 30) G kK9 (k := 41) (by decide) kt_1267 dX9_apart_30 hv30 ?_
  refine z_bipush (pc := 33) (v := 6) G dX9_apart_33 (by decide) ?_
  refine z_iload_n (pc := 35) G 2 dX9_apart_35 rfl rfl ?_
  refine z_iadd (pc := 36) G dX9_apart_36 ?_
  obtain ⟨x37, hv37, hX⟩ := z_bd hX
  refine z_iald (pc := 37) G dX9_apart_37 hv37 ?_
  refine z_isub (pc := 38) G dX9_apart_38 ?_
  obtain ⟨r39, hv39, hX⟩ := z_bd hX
  refine z_cSI (pc := 39) (As := [.int (x28 - x37)]) (c2 := 0) (s2 := 0) G (lX9_absolute hO hv39) kt_1609 kt_11 kt_1607 kt_1608 ydX9_absolute ⟨by decide, by decide⟩ rfl (Nat.le_of_ble_eq_true rfl) ⟨rfl, rfl⟩ ⟨by decide, by decide⟩ rfl dX9_apart_39 ?_
  refine z_iadd (pc := 42) G dX9_apart_42 ?_
  exact z_iretX (pc := 43) hX G hr dX9_apart_43 (by decide) (by decide)
theorem dX9_doHear_0 : decode cX9_doHear 0 = .ok (.aload_n 0, 1) := by decide +kernel
theorem dX9_doHear_1 : decode cX9_doHear 1 = .ok (.iload_n 1, 1) := by decide +kernel
theorem dX9_doHear_2 : decode cX9_doHear 2 = .ok (.iload_n 2, 1) := by decide +kernel
theorem dX9_doHear_3 : decode cX9_doHear 3 = .ok (.invokevirtual 353, 3) := by decide +kernel
theorem dX9_doHear_6 : decode cX9_doHear 6 = .ok (.aload_n 0, 1) := by decide +kernel
theorem dX9_doHear_7 : decode cX9_doHear 7 = .ok (.getfield 27, 3) := by decide +kernel
theorem dX9_doHear_10 : decode cX9_doHear 10 = .ok (.aload_n 0, 1) := by decide +kernel
theorem dX9_doHear_11 : decode cX9_doHear 11 = .ok (.getfield 255, 3) := by decide +kernel
theorem dX9_doHear_14 : decode cX9_doHear 14 = .ok (.iaload, 1) := by decide +kernel
theorem dX9_doHear_15 : decode cX9_doHear 15 = .ok (.if_icmp .gt 7, 3) := by decide +kernel
theorem dX9_doHear_18 : decode cX9_doHear 18 = .ok (.iconst 1, 1) := by decide +kernel
theorem dX9_doHear_19 : decode cX9_doHear 19 = .ok (.goto 4, 3) := by decide +kernel
theorem dX9_doHear_22 : decode cX9_doHear 22 = .ok (.iconst 0, 1) := by decide +kernel
theorem dX9_doHear_23 : decode cX9_doHear 23 = .ok (.ireturn, 1) := by decide +kernel
theorem ydX9_doHear : z_yd yX9_doHear 2 := ⟨by decide, by decide, by decide +kernel⟩
abbrev rmX9_doHear : Room := { frames := 2, cells := 0, slots := 0, locals := 42 }
noncomputable def xX9_doHear (l0 : Nat) (l1 : Int32) (l2 : Int32) (h : ZH) : Option (Int32 × ZH) := (z_gu (z_is h l0 9) ((xX9_apart l0 l1 l2 h).bind fun r3 => ((z_gR r3.2 l0 9 13).bind fun x7 => ((z_gI r3.2 l0 9 34).bind fun x11 => ((z_aI r3.2 x7 x11).bind fun x14 => (if x14 < r3.1 then some ((0 : Int32), r3.2) else some ((1 : Int32), r3.2)))))))
set_option maxHeartbeats 4000000 in
set_option maxRecDepth 100000 in
theorem lX9_doHear {Γ : ZG} {l : Launch} (hO : z_OK Γ) {l0 : Nat} {l1 : Int32} {l2 : Int32} {h : ZH} {r : (Int32 × ZH)} (hX : xX9_doHear l0 l1 l2 h = some r) : z_M Γ l yX9_doHear (z_ws1 yX9_doHear cX9_doHear 3 (some .boolean)) rmX9_doHear [.ref l0, .int l1, .int l2] h (some (.int r.1)) r.2 := by
  refine z_start hO (plainFor_of_name (by decide)) (Nat.le_of_ble_eq_true rfl) ?_
  intro p e s m args below meth c G hr hnm
  refine z_lvc (lv2 := [(0, .ref l0), (1, .int l1), (2, .int l2)]) rfl ?_
  refine z_aload_n (pc := 0) G 0 dX9_doHear_0 rfl rfl ?_
  refine z_iload_n (pc := 1) G 1 dX9_doHear_1 rfl rfl ?_
  refine z_iload_n (pc := 2) G 2 dX9_doHear_2 rfl rfl ?_
  obtain ⟨hi3, hX⟩ := z_gu_s hX
  obtain ⟨r3, hv3, hX⟩ := z_bd hX
  refine z_cVI (pc := 3) (As := [.int l1, .int l2]) (c2 := 0) (s2 := 0) G kK9 (lX9_apart hO hv3) hi3 kt_1606 kt_11 kt_1603 kt_1605 ks_69 ydX9_apart ⟨by decide, by decide⟩ rfl (Nat.le_of_ble_eq_true rfl) ⟨rfl, rfl⟩ ⟨by decide, by decide⟩ rfl dX9_doHear_3 ?_
  refine z_aload_n (pc := 6) G 0 dX9_doHear_6 rfl rfl ?_
  obtain ⟨x7, hv7, hX⟩ := z_bd hX
  refine z_getR (pc := 7) G kK9 (k := 13) (by decide) kt_1239 dX9_doHear_7 hv7 ?_
  refine z_aload_n (pc := 10) G 0 dX9_doHear_10 rfl rfl ?_
  obtain ⟨x11, hv11, hX⟩ := z_bd hX
  refine z_getI (pc := 11) G kK9 (k := 34) (by decide) kt_1260 dX9_doHear_11 hv11 ?_
  obtain ⟨x14, hv14, hX⟩ := z_bd hX
  refine z_iald (pc := 14) G dX9_doHear_14 hv14 ?_
  refine z_icmp_gt (pc := 15) (tgt := 22) G dX9_doHear_15 (by decide) (fun hc15 => ?_) (fun hc15 => ?_)
  · have hX := z_it hc15 hX
    refine z_iconst (pc := 22) (v := 0) G dX9_doHear_22 (by decide) ?_
    exact z_zretX (pc := 23) hX G hr rfl dX9_doHear_23 (by decide) (by decide)
  · have hX := z_if hc15 hX
    refine z_iconst (pc := 18) (v := 1) G dX9_doHear_18 (by decide) ?_
    refine z_goto (pc := 19) (tgt := 23) G dX9_doHear_19 (by decide) ?_
    exact z_zretX (pc := 23) hX G hr rfl dX9_doHear_23 (by decide) (by decide)
theorem dX9_ownedBy_0 : decode cX9_ownedBy 0 = .ok (.iconst 0, 1) := by decide +kernel
theorem dX9_ownedBy_1 : decode cX9_ownedBy 1 = .ok (.istore_n 2, 1) := by decide +kernel
theorem dX9_ownedBy_2 : decode cX9_ownedBy 2 = .ok (.iconst 0, 1) := by decide +kernel
theorem dX9_ownedBy_3 : decode cX9_ownedBy 3 = .ok (.istore_n 3, 1) := by decide +kernel
theorem dX9_ownedBy_4 : decode cX9_ownedBy 4 = .ok (.iload_n 3, 1) := by decide +kernel
theorem dX9_ownedBy_5 : decode cX9_ownedBy 5 = .ok (.aload_n 0, 1) := by decide +kernel
theorem dX9_ownedBy_6 : decode cX9_ownedBy 6 = .ok (.getfield 91, 3) := by decide +kernel
theorem dX9_ownedBy_9 : decode cX9_ownedBy 9 = .ok (.bipush 24, 2) := by decide +kernel
theorem dX9_ownedBy_11 : decode cX9_ownedBy 11 = .ok (.iload_n 1, 1) := by decide +kernel
theorem dX9_ownedBy_12 : decode cX9_ownedBy 12 = .ok (.iadd, 1) := by decide +kernel
theorem dX9_ownedBy_13 : decode cX9_ownedBy 13 = .ok (.iaload, 1) := by decide +kernel
theorem dX9_ownedBy_14 : decode cX9_ownedBy 14 = .ok (.if_icmp .ge 27, 3) := by decide +kernel
theorem dX9_ownedBy_17 : decode cX9_ownedBy 17 = .ok (.iload_n 2, 1) := by decide +kernel
theorem dX9_ownedBy_18 : decode cX9_ownedBy 18 = .ok (.iconst 1, 1) := by decide +kernel
theorem dX9_ownedBy_19 : decode cX9_ownedBy 19 = .ok (.aload_n 0, 1) := by decide +kernel
theorem dX9_ownedBy_20 : decode cX9_ownedBy 20 = .ok (.getfield 91, 3) := by decide +kernel
theorem dX9_ownedBy_23 : decode cX9_ownedBy 23 = .ok (.bipush 30, 2) := by decide +kernel
theorem dX9_ownedBy_25 : decode cX9_ownedBy 25 = .ok (.iconst 3, 1) := by decide +kernel
theorem dX9_ownedBy_26 : decode cX9_ownedBy 26 = .ok (.iload_n 1, 1) := by decide +kernel
theorem dX9_ownedBy_27 : decode cX9_ownedBy 27 = .ok (.imul, 1) := by decide +kernel
theorem dX9_ownedBy_28 : decode cX9_ownedBy 28 = .ok (.iadd, 1) := by decide +kernel
theorem dX9_ownedBy_29 : decode cX9_ownedBy 29 = .ok (.iload_n 3, 1) := by decide +kernel
theorem dX9_ownedBy_30 : decode cX9_ownedBy 30 = .ok (.iadd, 1) := by decide +kernel
theorem dX9_ownedBy_31 : decode cX9_ownedBy 31 = .ok (.iaload, 1) := by decide +kernel
theorem dX9_ownedBy_32 : decode cX9_ownedBy 32 = .ok (.ishl, 1) := by decide +kernel
theorem dX9_ownedBy_33 : decode cX9_ownedBy 33 = .ok (.ior, 1) := by decide +kernel
theorem dX9_ownedBy_34 : decode cX9_ownedBy 34 = .ok (.istore_n 2, 1) := by decide +kernel
theorem dX9_ownedBy_35 : decode cX9_ownedBy 35 = .ok (.iinc 3 1, 3) := by decide +kernel
theorem dX9_ownedBy_38 : decode cX9_ownedBy 38 = .ok (.goto (-34), 3) := by decide +kernel
theorem dX9_ownedBy_41 : decode cX9_ownedBy 41 = .ok (.iload_n 2, 1) := by decide +kernel
theorem dX9_ownedBy_42 : decode cX9_ownedBy 42 = .ok (.ireturn, 1) := by decide +kernel
theorem ydX9_ownedBy : z_yd yX9_ownedBy 1 := ⟨by decide, by decide, by decide +kernel⟩
abbrev rmX9_ownedBy : Room := { frames := 0, cells := 0, slots := 0, locals := 0 }
noncomputable def xX9_ownedBy_B4 (r4 : Nat → Int32 → Int32 → Int32 → ZH → Option (Int32 × ZH)) (l0 : Nat) (l1 : Int32) (l2 : Int32) (l3 : Int32) (h : ZH) : Option (Int32 × ZH) := ((z_gR h l0 9 41).bind fun x6 => ((z_aI h x6 ((24 : Int32) + l1)).bind fun x13 => (if x13 ≤ l3 then some (l2, h) else ((z_gR h l0 9 41).bind fun x20 => ((z_aI h x20 (((30 : Int32) + ((3 : Int32) * l1)) + l3)).bind fun x31 => r4 l0 l1 (l2 ||| ((1 : Int32) <<< (x31 &&& 31))) (l3 + 1) h)))))
noncomputable def xX9_ownedBy_L4 (n : Nat) : Nat → Int32 → Int32 → Int32 → ZH → Option (Int32 × ZH) := Nat.rec (motive := fun _ => Nat → Int32 → Int32 → Int32 → ZH → Option (Int32 × ZH)) (fun _ _ _ _ _ => none) (fun _ rec => xX9_ownedBy_B4  rec) n
set_option maxHeartbeats 4000000 in
set_option maxRecDepth 100000 in
theorem wX9_ownedBy_B4 {Γ : ZG} {p : Program} {l : Launch} {e : Env} {s : State} {m : MethodId} {args : Array Value} {below : List Frame} {meth : Method} {c : Code} (hO : z_OK Γ) (G : z_GG Γ p s m args meth c cX9_ownedBy 4 RX9) (hr : meth.sig.returnType = (some .int)) (hnm : meth.name = "ownedBy") {r : (Int32 × ZH)} {r4 : Nat → Int32 → Int32 → Int32 → ZH → Option (Int32 × ZH)} (H4 : ∀ (l0 : Nat) (l1 : Int32) (l2 : Int32) (l3 : Int32) (h : ZH), r4 l0 l1 l2 l3 h = some r → z_W Γ p l e rmX9_ownedBy s m args below meth c 4 0 0 (MQ below (z_Qc Γ (some (.int r.1)) r.2) args s rmX9_ownedBy.cells rmX9_ownedBy.slots (z_A Γ)) 4 [(0, .ref l0), (1, .int l1), (2, .int l2), (3, .int l3)] [] h) : ∀ (l0 : Nat) (l1 : Int32) (l2 : Int32) (l3 : Int32) (h : ZH), xX9_ownedBy_B4  r4 l0 l1 l2 l3 h = some r → z_W Γ p l e rmX9_ownedBy s m args below meth c 4 0 0 (MQ below (z_Qc Γ (some (.int r.1)) r.2) args s rmX9_ownedBy.cells rmX9_ownedBy.slots (z_A Γ)) 4 [(0, .ref l0), (1, .int l1), (2, .int l2), (3, .int l3)] [] h := by
  intro l0 l1 l2 l3 h hX
  refine z_iload_n (pc := 4) G 3 dX9_ownedBy_4 rfl rfl ?_
  refine z_aload_n (pc := 5) G 0 dX9_ownedBy_5 rfl rfl ?_
  obtain ⟨x6, hv6, hX⟩ := z_bd hX
  refine z_getR (pc := 6) G kK9 (k := 41) (by decide) kt_1267 dX9_ownedBy_6 hv6 ?_
  refine z_bipush (pc := 9) (v := 24) G dX9_ownedBy_9 (by decide) ?_
  refine z_iload_n (pc := 11) G 1 dX9_ownedBy_11 rfl rfl ?_
  refine z_iadd (pc := 12) G dX9_ownedBy_12 ?_
  obtain ⟨x13, hv13, hX⟩ := z_bd hX
  refine z_iald (pc := 13) G dX9_ownedBy_13 hv13 ?_
  refine z_icmp_ge (pc := 14) (tgt := 41) G dX9_ownedBy_14 (by decide) (fun hc14 => ?_) (fun hc14 => ?_)
  · have hX := z_it hc14 hX
    refine z_iload_n (pc := 41) G 2 dX9_ownedBy_41 rfl rfl ?_
    exact z_iretX (pc := 42) hX G hr dX9_ownedBy_42 (by decide) (by decide)
  · have hX := z_if hc14 hX
    refine z_iload_n (pc := 17) G 2 dX9_ownedBy_17 rfl rfl ?_
    refine z_iconst (pc := 18) (v := 1) G dX9_ownedBy_18 (by decide) ?_
    refine z_aload_n (pc := 19) G 0 dX9_ownedBy_19 rfl rfl ?_
    obtain ⟨x20, hv20, hX⟩ := z_bd hX
    refine z_getR (pc := 20) G kK9 (k := 41) (by decide) kt_1267 dX9_ownedBy_20 hv20 ?_
    refine z_bipush (pc := 23) (v := 30) G dX9_ownedBy_23 (by decide) ?_
    refine z_iconst (pc := 25) (v := 3) G dX9_ownedBy_25 (by decide) ?_
    refine z_iload_n (pc := 26) G 1 dX9_ownedBy_26 rfl rfl ?_
    refine z_imul (pc := 27) G dX9_ownedBy_27 ?_
    refine z_iadd (pc := 28) G dX9_ownedBy_28 ?_
    refine z_iload_n (pc := 29) G 3 dX9_ownedBy_29 rfl rfl ?_
    refine z_iadd (pc := 30) G dX9_ownedBy_30 ?_
    obtain ⟨x31, hv31, hX⟩ := z_bd hX
    refine z_iald (pc := 31) G dX9_ownedBy_31 hv31 ?_
    refine z_ishl (pc := 32) G dX9_ownedBy_32 ?_
    refine z_ior (pc := 33) G dX9_ownedBy_33 ?_
    refine z_istore_n (pc := 34) (lv2 := [(0, .ref l0), (1, .int l1), (2, .int (l2 ||| ((1 : Int32) <<< (x31 &&& 31)))), (3, .int l3)]) G dX9_ownedBy_34 rfl (by decide) rfl rfl ?_
    refine z_iincw (pc := 35) (w := 1) (lv2 := [(0, .ref l0), (1, .int l1), (2, .int (l2 ||| ((1 : Int32) <<< (x31 &&& 31)))), (3, .int (l3 + 1))]) G 3 dX9_ownedBy_35 rfl (by decide) (by decide) rfl rfl ?_
    refine z_goto (pc := 38) (tgt := 4) G dX9_ownedBy_38 (by decide) ?_
    exact H4 _ _ _ _ _ hX
set_option maxHeartbeats 4000000 in
set_option maxRecDepth 100000 in
theorem wX9_ownedBy_L4 {Γ : ZG} {p : Program} {l : Launch} {e : Env} {s : State} {m : MethodId} {args : Array Value} {below : List Frame} {meth : Method} {c : Code} (hO : z_OK Γ) (G : z_GG Γ p s m args meth c cX9_ownedBy 4 RX9) (hr : meth.sig.returnType = (some .int)) (hnm : meth.name = "ownedBy") {r : (Int32 × ZH)} : ∀ (nn : Nat) (l0 : Nat) (l1 : Int32) (l2 : Int32) (l3 : Int32) (h : ZH), xX9_ownedBy_L4  nn l0 l1 l2 l3 h = some r → z_W Γ p l e rmX9_ownedBy s m args below meth c 4 0 0 (MQ below (z_Qc Γ (some (.int r.1)) r.2) args s rmX9_ownedBy.cells rmX9_ownedBy.slots (z_A Γ)) 4 [(0, .ref l0), (1, .int l1), (2, .int l2), (3, .int l3)] [] h := by
  intro nn
  induction nn with
  | zero => intro l0 l1 l2 l3 h hX; cases hX
  | succ nn ih => intro l0 l1 l2 l3 h hX; exact wX9_ownedBy_B4 hO G hr hnm  ih l0 l1 l2 l3 h hX
noncomputable def xX9_ownedBy (l0 : Nat) (l1 : Int32) (h : ZH) : Option (Int32 × ZH) := xX9_ownedBy_L4 zFU l0 l1 (0 : Int32) (0 : Int32) h
set_option maxHeartbeats 4000000 in
set_option maxRecDepth 100000 in
theorem lX9_ownedBy {Γ : ZG} {l : Launch} (hO : z_OK Γ) {l0 : Nat} {l1 : Int32} {h : ZH} {r : (Int32 × ZH)} (hX : xX9_ownedBy l0 l1 h = some r) : z_M Γ l yX9_ownedBy (z_ws1 yX9_ownedBy cX9_ownedBy 4 (some .int)) rmX9_ownedBy [.ref l0, .int l1] h (some (.int r.1)) r.2 := by
  refine z_start hO (plainFor_of_name (by decide)) (Nat.le_of_ble_eq_true rfl) ?_
  intro p e s m args below meth c G hr hnm
  refine z_lvc (lv2 := [(0, .ref l0), (1, .int l1)]) rfl ?_
  refine z_iconst (pc := 0) (v := 0) G dX9_ownedBy_0 (by decide) ?_
  refine z_istore_n (pc := 1) (lv2 := [(0, .ref l0), (1, .int l1), (2, .int (0 : Int32))]) G dX9_ownedBy_1 rfl (by decide) rfl rfl ?_
  refine z_iconst (pc := 2) (v := 0) G dX9_ownedBy_2 (by decide) ?_
  refine z_istore_n (pc := 3) (lv2 := [(0, .ref l0), (1, .int l1), (2, .int (0 : Int32)), (3, .int (0 : Int32))]) G dX9_ownedBy_3 rfl (by decide) rfl rfl ?_
  exact wX9_ownedBy_L4 hO G hr hnm zFU _ _ _ _ _ hX
theorem dX9_rateOf_0 : decode cX9_rateOf 0 = .ok (.aload_n 0, 1) := by decide +kernel
theorem dX9_rateOf_1 : decode cX9_rateOf 1 = .ok (.iload_n 1, 1) := by decide +kernel
theorem dX9_rateOf_2 : decode cX9_rateOf 2 = .ok (.putfield 322, 3) := by decide +kernel
theorem dX9_rateOf_5 : decode cX9_rateOf 5 = .ok (.aload_n 0, 1) := by decide +kernel
theorem dX9_rateOf_6 : decode cX9_rateOf 6 = .ok (.getfield 48, 3) := by decide +kernel
theorem dX9_rateOf_9 : decode cX9_rateOf 9 = .ok (.aload_n 0, 1) := by decide +kernel
theorem dX9_rateOf_10 : decode cX9_rateOf 10 = .ok (.getfield 255, 3) := by decide +kernel
theorem dX9_rateOf_13 : decode cX9_rateOf 13 = .ok (.iaload, 1) := by decide +kernel
theorem dX9_rateOf_14 : decode cX9_rateOf 14 = .ok (.iconst 5, 1) := by decide +kernel
theorem dX9_rateOf_15 : decode cX9_rateOf 15 = .ok (.invokestatic 265, 3) := by decide +kernel
theorem dX9_rateOf_18 : decode cX9_rateOf 18 = .ok (.ifCond .eq 10, 3) := by decide +kernel
theorem dX9_rateOf_21 : decode cX9_rateOf 21 = .ok (.aload_n 0, 1) := by decide +kernel
theorem dX9_rateOf_22 : decode cX9_rateOf 22 = .ok (.invokevirtual 362, 3) := by decide +kernel
theorem dX9_rateOf_25 : decode cX9_rateOf 25 = .ok (.goto 13, 3) := by decide +kernel
theorem dX9_rateOf_28 : decode cX9_rateOf 28 = .ok (.iconst 1, 1) := by decide +kernel
theorem dX9_rateOf_29 : decode cX9_rateOf 29 = .ok (.aload_n 0, 1) := by decide +kernel
theorem dX9_rateOf_30 : decode cX9_rateOf 30 = .ok (.iload_n 1, 1) := by decide +kernel
theorem dX9_rateOf_31 : decode cX9_rateOf 31 = .ok (.invokevirtual 325, 3) := by decide +kernel
theorem dX9_rateOf_34 : decode cX9_rateOf 34 = .ok (.bipush 8, 2) := by decide +kernel
theorem dX9_rateOf_36 : decode cX9_rateOf 36 = .ok (.idiv, 1) := by decide +kernel
theorem dX9_rateOf_37 : decode cX9_rateOf 37 = .ok (.iadd, 1) := by decide +kernel
theorem dX9_rateOf_38 : decode cX9_rateOf 38 = .ok (.iconst 1, 1) := by decide +kernel
theorem dX9_rateOf_39 : decode cX9_rateOf 39 = .ok (.iconst 3, 1) := by decide +kernel
theorem dX9_rateOf_40 : decode cX9_rateOf 40 = .ok (.invokestatic 365, 3) := by decide +kernel
theorem dX9_rateOf_43 : decode cX9_rateOf 43 = .ok (.ireturn, 1) := by decide +kernel
theorem ydX9_rateOf : z_yd yX9_rateOf 1 := ⟨by decide, by decide, by decide +kernel⟩
abbrev rmX9_rateOf : Room := { frames := 4, cells := 0, slots := 0, locals := 90 }
noncomputable def xX9_rateOf (l0 : Nat) (l1 : Int32) (h : ZH) : Option (Int32 × ZH) := ((z_sF h l0 9 40 (.int l1)).bind fun h2 => ((z_gR h2 l0 9 20).bind fun x6 => ((z_gI h2 l0 9 34).bind fun x10 => ((z_aI h2 x6 x10).bind fun x13 => ((xX9_bit x13 (5 : Int32) h2).bind fun r15 => (if r15.1 = 0 then (z_gu (z_is r15.2 l0 9) ((xX9_speedOf l0 l1 r15.2).bind fun r31 => ((xX9_held ((1 : Int32) + (r31.1 / (8 : Int32))) (1 : Int32) (3 : Int32) r31.2).bind fun r40 => some (r40.1, r40.2)))) else (z_gu (z_is r15.2 l0 9) ((xX9_comes l0 r15.2).bind fun r22 => ((xX9_held r22.1 (1 : Int32) (3 : Int32) r22.2).bind fun r40 => some (r40.1, r40.2))))))))))
set_option maxHeartbeats 4000000 in
set_option maxRecDepth 100000 in
theorem lX9_rateOf {Γ : ZG} {l : Launch} (hO : z_OK Γ) {l0 : Nat} {l1 : Int32} {h : ZH} {r : (Int32 × ZH)} (hX : xX9_rateOf l0 l1 h = some r) : z_M Γ l yX9_rateOf (z_ws1 yX9_rateOf cX9_rateOf 2 (some .int)) rmX9_rateOf [.ref l0, .int l1] h (some (.int r.1)) r.2 := by
  refine z_start hO (plainFor_of_name (by decide)) (Nat.le_of_ble_eq_true rfl) ?_
  intro p e s m args below meth c G hr hnm
  refine z_lvc (lv2 := [(0, .ref l0), (1, .int l1)]) rfl ?_
  refine z_aload_n (pc := 0) G 0 dX9_rateOf_0 rfl rfl ?_
  refine z_iload_n (pc := 1) G 1 dX9_rateOf_1 rfl rfl ?_
  obtain ⟨h2, hv2, hX⟩ := z_bd hX
  refine z_putF (pc := 2) G kK9 (k := 40) (by decide) kt_1266 (Or.inl rfl) rfl rfl dX9_rateOf_2 hv2 ?_
  refine z_aload_n (pc := 5) G 0 dX9_rateOf_5 rfl rfl ?_
  obtain ⟨x6, hv6, hX⟩ := z_bd hX
  refine z_getR (pc := 6) G kK9 (k := 20) (by decide) kt_1246 dX9_rateOf_6 hv6 ?_
  refine z_aload_n (pc := 9) G 0 dX9_rateOf_9 rfl rfl ?_
  obtain ⟨x10, hv10, hX⟩ := z_bd hX
  refine z_getI (pc := 10) G kK9 (k := 34) (by decide) kt_1260 dX9_rateOf_10 hv10 ?_
  obtain ⟨x13, hv13, hX⟩ := z_bd hX
  refine z_iald (pc := 13) G dX9_rateOf_13 hv13 ?_
  refine z_iconst (pc := 14) (v := 5) G dX9_rateOf_14 (by decide) ?_
  obtain ⟨r15, hv15, hX⟩ := z_bd hX
  refine z_cSI (pc := 15) (As := [.int x13, .int (5 : Int32)]) (c2 := 0) (s2 := 0) G (lX9_bit hO hv15) kt_1476 kt_11 kt_1474 kt_1475 ydX9_bit ⟨by decide, by decide⟩ rfl (Nat.le_of_ble_eq_true rfl) ⟨rfl, rfl⟩ ⟨by decide, by decide⟩ rfl dX9_rateOf_15 ?_
  refine z_if_eq (pc := 18) (tgt := 28) G dX9_rateOf_18 (by decide) (fun hc18 => ?_) (fun hc18 => ?_)
  · have hX := z_it hc18 hX
    refine z_iconst (pc := 28) (v := 1) G dX9_rateOf_28 (by decide) ?_
    refine z_aload_n (pc := 29) G 0 dX9_rateOf_29 rfl rfl ?_
    refine z_iload_n (pc := 30) G 1 dX9_rateOf_30 rfl rfl ?_
    obtain ⟨hi31, hX⟩ := z_gu_s hX
    obtain ⟨r31, hv31, hX⟩ := z_bd hX
    refine z_cVI (pc := 31) (As := [.int l1]) (c2 := 0) (s2 := 0) G kK9 (lX9_speedOf hO hv31) hi31 kt_1563 kt_11 kt_1560 kt_1562 ks_63 ydX9_speedOf ⟨by decide, by decide⟩ rfl (Nat.le_of_ble_eq_true rfl) ⟨rfl, rfl⟩ ⟨by decide, by decide⟩ rfl dX9_rateOf_31 ?_
    refine z_bipush (pc := 34) (v := 8) G dX9_rateOf_34 (by decide) ?_
    refine z_idiv (pc := 36) G dX9_rateOf_36 (by decide) ?_
    refine z_iadd (pc := 37) G dX9_rateOf_37 ?_
    refine z_iconst (pc := 38) (v := 1) G dX9_rateOf_38 (by decide) ?_
    refine z_iconst (pc := 39) (v := 3) G dX9_rateOf_39 (by decide) ?_
    obtain ⟨r40, hv40, hX⟩ := z_bd hX
    refine z_cSI (pc := 40) (As := [.int ((1 : Int32) + (r31.1 / (8 : Int32))), .int (1 : Int32), .int (3 : Int32)]) (c2 := 0) (s2 := 0) G (lX9_held hO hv40) kt_1667 kt_11 kt_1665 kt_1666 ydX9_held ⟨by decide, by decide⟩ rfl (Nat.le_of_ble_eq_true rfl) ⟨rfl, rfl⟩ ⟨by decide, by decide⟩ rfl dX9_rateOf_40 ?_
    exact z_iretX (pc := 43) hX G hr dX9_rateOf_43 (by decide) (by decide)
  · have hX := z_if hc18 hX
    refine z_aload_n (pc := 21) G 0 dX9_rateOf_21 rfl rfl ?_
    obtain ⟨hi22, hX⟩ := z_gu_s hX
    obtain ⟨r22, hv22, hX⟩ := z_bd hX
    refine z_cVI (pc := 22) (As := []) (c2 := 0) (s2 := 0) G kK9 (lX9_comes hO hv22) hi22 kt_1657 kt_11 kt_1654 kt_1656 ks_77 ydX9_comes ⟨by decide, by decide⟩ rfl (Nat.le_of_ble_eq_true rfl) ⟨rfl, rfl⟩ ⟨by decide, by decide⟩ rfl dX9_rateOf_22 ?_
    refine z_goto (pc := 25) (tgt := 38) G dX9_rateOf_25 (by decide) ?_
    refine z_iconst (pc := 38) (v := 1) G dX9_rateOf_38 (by decide) ?_
    refine z_iconst (pc := 39) (v := 3) G dX9_rateOf_39 (by decide) ?_
    obtain ⟨r40, hv40, hX⟩ := z_bd hX
    refine z_cSI (pc := 40) (As := [.int r22.1, .int (1 : Int32), .int (3 : Int32)]) (c2 := 0) (s2 := 0) G (lX9_held hO hv40) kt_1667 kt_11 kt_1665 kt_1666 ydX9_held ⟨by decide, by decide⟩ rfl (Nat.le_of_ble_eq_true rfl) ⟨rfl, rfl⟩ ⟨by decide, by decide⟩ rfl dX9_rateOf_40 ?_
    exact z_iretX (pc := 43) hX G hr dX9_rateOf_43 (by decide) (by decide)
theorem dX9_keepNow_0 : decode cX9_keepNow 0 = .ok (.iconst 0, 1) := by decide +kernel
theorem dX9_keepNow_1 : decode cX9_keepNow 1 = .ok (.istore_n 1, 1) := by decide +kernel
theorem dX9_keepNow_2 : decode cX9_keepNow 2 = .ok (.iload_n 1, 1) := by decide +kernel
theorem dX9_keepNow_3 : decode cX9_keepNow 3 = .ok (.sipush 521, 3) := by decide +kernel
theorem dX9_keepNow_6 : decode cX9_keepNow 6 = .ok (.if_icmp .ge 21, 3) := by decide +kernel
theorem dX9_keepNow_9 : decode cX9_keepNow 9 = .ok (.aload_n 0, 1) := by decide +kernel
theorem dX9_keepNow_10 : decode cX9_keepNow 10 = .ok (.getfield 94, 3) := by decide +kernel
theorem dX9_keepNow_13 : decode cX9_keepNow 13 = .ok (.iload_n 1, 1) := by decide +kernel
theorem dX9_keepNow_14 : decode cX9_keepNow 14 = .ok (.aload_n 0, 1) := by decide +kernel
theorem dX9_keepNow_15 : decode cX9_keepNow 15 = .ok (.getfield 91, 3) := by decide +kernel
theorem dX9_keepNow_18 : decode cX9_keepNow 18 = .ok (.iload_n 1, 1) := by decide +kernel
theorem dX9_keepNow_19 : decode cX9_keepNow 19 = .ok (.iaload, 1) := by decide +kernel
theorem dX9_keepNow_20 : decode cX9_keepNow 20 = .ok (.iastore, 1) := by decide +kernel
theorem dX9_keepNow_21 : decode cX9_keepNow 21 = .ok (.iinc 1 1, 3) := by decide +kernel
theorem dX9_keepNow_24 : decode cX9_keepNow 24 = .ok (.goto (-22), 3) := by decide +kernel
theorem dX9_keepNow_27 : decode cX9_keepNow 27 = .ok (.return_, 1) := by decide +kernel
theorem ydX9_keepNow : z_yd yX9_keepNow 0 := ⟨by decide, by decide, by decide +kernel⟩
abbrev rmX9_keepNow : Room := { frames := 0, cells := 0, slots := 0, locals := 0 }
noncomputable def xX9_keepNow_B2 (r2 : Nat → Int32 → ZH → Option ZH) (l0 : Nat) (l1 : Int32) (h : ZH) : Option ZH := (if (521 : Int32) ≤ l1 then some h else ((z_gR h l0 9 42).bind fun x10 => ((z_gR h l0 9 41).bind fun x15 => ((z_aI h x15 l1).bind fun x19 => ((z_uI h x10 l1 x19).bind fun h20 => r2 l0 (l1 + 1) h20)))))
noncomputable def xX9_keepNow_L2 (n : Nat) : Nat → Int32 → ZH → Option ZH := Nat.rec (motive := fun _ => Nat → Int32 → ZH → Option ZH) (fun _ _ _ => none) (fun _ rec => xX9_keepNow_B2  rec) n
set_option maxHeartbeats 4000000 in
set_option maxRecDepth 100000 in
theorem wX9_keepNow_B2 {Γ : ZG} {p : Program} {l : Launch} {e : Env} {s : State} {m : MethodId} {args : Array Value} {below : List Frame} {meth : Method} {c : Code} (hO : z_OK Γ) (G : z_GG Γ p s m args meth c cX9_keepNow 2 RX9) (hr : meth.sig.returnType = none) (hnm : meth.name = "keepNow") {r : ZH} {r2 : Nat → Int32 → ZH → Option ZH} (H2 : ∀ (l0 : Nat) (l1 : Int32) (h : ZH), r2 l0 l1 h = some r → z_W Γ p l e rmX9_keepNow s m args below meth c 2 0 0 (MQ below (z_Qc Γ none r) args s rmX9_keepNow.cells rmX9_keepNow.slots (z_A Γ)) 2 [(0, .ref l0), (1, .int l1)] [] h) : ∀ (l0 : Nat) (l1 : Int32) (h : ZH), xX9_keepNow_B2  r2 l0 l1 h = some r → z_W Γ p l e rmX9_keepNow s m args below meth c 2 0 0 (MQ below (z_Qc Γ none r) args s rmX9_keepNow.cells rmX9_keepNow.slots (z_A Γ)) 2 [(0, .ref l0), (1, .int l1)] [] h := by
  intro l0 l1 h hX
  refine z_iload_n (pc := 2) G 1 dX9_keepNow_2 rfl rfl ?_
  refine z_sipush (pc := 3) (v := 521) G dX9_keepNow_3 (by decide) ?_
  refine z_icmp_ge (pc := 6) (tgt := 27) G dX9_keepNow_6 (by decide) (fun hc6 => ?_) (fun hc6 => ?_)
  · have hX := z_it hc6 hX
    exact z_vretX (pc := 27) hX G hr dX9_keepNow_27 (by decide) (by decide)
  · have hX := z_if hc6 hX
    refine z_aload_n (pc := 9) G 0 dX9_keepNow_9 rfl rfl ?_
    obtain ⟨x10, hv10, hX⟩ := z_bd hX
    refine z_getR (pc := 10) G kK9 (k := 42) (by decide) kt_1268 dX9_keepNow_10 hv10 ?_
    refine z_iload_n (pc := 13) G 1 dX9_keepNow_13 rfl rfl ?_
    refine z_aload_n (pc := 14) G 0 dX9_keepNow_14 rfl rfl ?_
    obtain ⟨x15, hv15, hX⟩ := z_bd hX
    refine z_getR (pc := 15) G kK9 (k := 41) (by decide) kt_1267 dX9_keepNow_15 hv15 ?_
    refine z_iload_n (pc := 18) G 1 dX9_keepNow_18 rfl rfl ?_
    obtain ⟨x19, hv19, hX⟩ := z_bd hX
    refine z_iald (pc := 19) G dX9_keepNow_19 hv19 ?_
    obtain ⟨h20, hv20, hX⟩ := z_bd hX
    refine z_iast (pc := 20) G dX9_keepNow_20 hv20 ?_
    refine z_iincw (pc := 21) (w := 1) (lv2 := [(0, .ref l0), (1, .int (l1 + 1))]) G 1 dX9_keepNow_21 rfl (by decide) (by decide) rfl rfl ?_
    refine z_goto (pc := 24) (tgt := 2) G dX9_keepNow_24 (by decide) ?_
    exact H2 _ _ _ hX
set_option maxHeartbeats 4000000 in
set_option maxRecDepth 100000 in
theorem wX9_keepNow_L2 {Γ : ZG} {p : Program} {l : Launch} {e : Env} {s : State} {m : MethodId} {args : Array Value} {below : List Frame} {meth : Method} {c : Code} (hO : z_OK Γ) (G : z_GG Γ p s m args meth c cX9_keepNow 2 RX9) (hr : meth.sig.returnType = none) (hnm : meth.name = "keepNow") {r : ZH} : ∀ (nn : Nat) (l0 : Nat) (l1 : Int32) (h : ZH), xX9_keepNow_L2  nn l0 l1 h = some r → z_W Γ p l e rmX9_keepNow s m args below meth c 2 0 0 (MQ below (z_Qc Γ none r) args s rmX9_keepNow.cells rmX9_keepNow.slots (z_A Γ)) 2 [(0, .ref l0), (1, .int l1)] [] h := by
  intro nn
  induction nn with
  | zero => intro l0 l1 h hX; cases hX
  | succ nn ih => intro l0 l1 h hX; exact wX9_keepNow_B2 hO G hr hnm  ih l0 l1 h hX
noncomputable def xX9_keepNow (l0 : Nat) (h : ZH) : Option ZH := xX9_keepNow_L2 zFU l0 (0 : Int32) h
set_option maxHeartbeats 4000000 in
set_option maxRecDepth 100000 in
theorem lX9_keepNow {Γ : ZG} {l : Launch} (hO : z_OK Γ) {l0 : Nat} {h : ZH} {r : ZH} (hX : xX9_keepNow l0 h = some r) : z_M Γ l yX9_keepNow (z_ws1 yX9_keepNow cX9_keepNow 2 none) rmX9_keepNow [.ref l0] h none r := by
  refine z_start hO (plainFor_of_name (by decide)) (Nat.le_of_ble_eq_true rfl) ?_
  intro p e s m args below meth c G hr hnm
  refine z_lvc (lv2 := [(0, .ref l0)]) rfl ?_
  refine z_iconst (pc := 0) (v := 0) G dX9_keepNow_0 (by decide) ?_
  refine z_istore_n (pc := 1) (lv2 := [(0, .ref l0), (1, .int (0 : Int32))]) G dX9_keepNow_1 rfl (by decide) rfl rfl ?_
  exact wX9_keepNow_L2 hO G hr hnm zFU _ _ _ hX
theorem dX9_bringBack_0 : decode cX9_bringBack 0 = .ok (.iconst 0, 1) := by decide +kernel
theorem dX9_bringBack_1 : decode cX9_bringBack 1 = .ok (.istore_n 1, 1) := by decide +kernel
theorem dX9_bringBack_2 : decode cX9_bringBack 2 = .ok (.iload_n 1, 1) := by decide +kernel
theorem dX9_bringBack_3 : decode cX9_bringBack 3 = .ok (.sipush 521, 3) := by decide +kernel
theorem dX9_bringBack_6 : decode cX9_bringBack 6 = .ok (.if_icmp .ge 21, 3) := by decide +kernel
theorem dX9_bringBack_9 : decode cX9_bringBack 9 = .ok (.aload_n 0, 1) := by decide +kernel
theorem dX9_bringBack_10 : decode cX9_bringBack 10 = .ok (.getfield 91, 3) := by decide +kernel
theorem dX9_bringBack_13 : decode cX9_bringBack 13 = .ok (.iload_n 1, 1) := by decide +kernel
theorem dX9_bringBack_14 : decode cX9_bringBack 14 = .ok (.aload_n 0, 1) := by decide +kernel
theorem dX9_bringBack_15 : decode cX9_bringBack 15 = .ok (.getfield 94, 3) := by decide +kernel
theorem dX9_bringBack_18 : decode cX9_bringBack 18 = .ok (.iload_n 1, 1) := by decide +kernel
theorem dX9_bringBack_19 : decode cX9_bringBack 19 = .ok (.iaload, 1) := by decide +kernel
theorem dX9_bringBack_20 : decode cX9_bringBack 20 = .ok (.iastore, 1) := by decide +kernel
theorem dX9_bringBack_21 : decode cX9_bringBack 21 = .ok (.iinc 1 1, 3) := by decide +kernel
theorem dX9_bringBack_24 : decode cX9_bringBack 24 = .ok (.goto (-22), 3) := by decide +kernel
theorem dX9_bringBack_27 : decode cX9_bringBack 27 = .ok (.return_, 1) := by decide +kernel
theorem ydX9_bringBack : z_yd yX9_bringBack 0 := ⟨by decide, by decide, by decide +kernel⟩
abbrev rmX9_bringBack : Room := { frames := 0, cells := 0, slots := 0, locals := 0 }
noncomputable def xX9_bringBack_B2 (r2 : Nat → Int32 → ZH → Option ZH) (l0 : Nat) (l1 : Int32) (h : ZH) : Option ZH := (if (521 : Int32) ≤ l1 then some h else ((z_gR h l0 9 41).bind fun x10 => ((z_gR h l0 9 42).bind fun x15 => ((z_aI h x15 l1).bind fun x19 => ((z_uI h x10 l1 x19).bind fun h20 => r2 l0 (l1 + 1) h20)))))
noncomputable def xX9_bringBack_L2 (n : Nat) : Nat → Int32 → ZH → Option ZH := Nat.rec (motive := fun _ => Nat → Int32 → ZH → Option ZH) (fun _ _ _ => none) (fun _ rec => xX9_bringBack_B2  rec) n
set_option maxHeartbeats 4000000 in
set_option maxRecDepth 100000 in
theorem wX9_bringBack_B2 {Γ : ZG} {p : Program} {l : Launch} {e : Env} {s : State} {m : MethodId} {args : Array Value} {below : List Frame} {meth : Method} {c : Code} (hO : z_OK Γ) (G : z_GG Γ p s m args meth c cX9_bringBack 2 RX9) (hr : meth.sig.returnType = none) (hnm : meth.name = "bringBack") {r : ZH} {r2 : Nat → Int32 → ZH → Option ZH} (H2 : ∀ (l0 : Nat) (l1 : Int32) (h : ZH), r2 l0 l1 h = some r → z_W Γ p l e rmX9_bringBack s m args below meth c 2 0 0 (MQ below (z_Qc Γ none r) args s rmX9_bringBack.cells rmX9_bringBack.slots (z_A Γ)) 2 [(0, .ref l0), (1, .int l1)] [] h) : ∀ (l0 : Nat) (l1 : Int32) (h : ZH), xX9_bringBack_B2  r2 l0 l1 h = some r → z_W Γ p l e rmX9_bringBack s m args below meth c 2 0 0 (MQ below (z_Qc Γ none r) args s rmX9_bringBack.cells rmX9_bringBack.slots (z_A Γ)) 2 [(0, .ref l0), (1, .int l1)] [] h := by
  intro l0 l1 h hX
  refine z_iload_n (pc := 2) G 1 dX9_bringBack_2 rfl rfl ?_
  refine z_sipush (pc := 3) (v := 521) G dX9_bringBack_3 (by decide) ?_
  refine z_icmp_ge (pc := 6) (tgt := 27) G dX9_bringBack_6 (by decide) (fun hc6 => ?_) (fun hc6 => ?_)
  · have hX := z_it hc6 hX
    exact z_vretX (pc := 27) hX G hr dX9_bringBack_27 (by decide) (by decide)
  · have hX := z_if hc6 hX
    refine z_aload_n (pc := 9) G 0 dX9_bringBack_9 rfl rfl ?_
    obtain ⟨x10, hv10, hX⟩ := z_bd hX
    refine z_getR (pc := 10) G kK9 (k := 41) (by decide) kt_1267 dX9_bringBack_10 hv10 ?_
    refine z_iload_n (pc := 13) G 1 dX9_bringBack_13 rfl rfl ?_
    refine z_aload_n (pc := 14) G 0 dX9_bringBack_14 rfl rfl ?_
    obtain ⟨x15, hv15, hX⟩ := z_bd hX
    refine z_getR (pc := 15) G kK9 (k := 42) (by decide) kt_1268 dX9_bringBack_15 hv15 ?_
    refine z_iload_n (pc := 18) G 1 dX9_bringBack_18 rfl rfl ?_
    obtain ⟨x19, hv19, hX⟩ := z_bd hX
    refine z_iald (pc := 19) G dX9_bringBack_19 hv19 ?_
    obtain ⟨h20, hv20, hX⟩ := z_bd hX
    refine z_iast (pc := 20) G dX9_bringBack_20 hv20 ?_
    refine z_iincw (pc := 21) (w := 1) (lv2 := [(0, .ref l0), (1, .int (l1 + 1))]) G 1 dX9_bringBack_21 rfl (by decide) (by decide) rfl rfl ?_
    refine z_goto (pc := 24) (tgt := 2) G dX9_bringBack_24 (by decide) ?_
    exact H2 _ _ _ hX
set_option maxHeartbeats 4000000 in
set_option maxRecDepth 100000 in
theorem wX9_bringBack_L2 {Γ : ZG} {p : Program} {l : Launch} {e : Env} {s : State} {m : MethodId} {args : Array Value} {below : List Frame} {meth : Method} {c : Code} (hO : z_OK Γ) (G : z_GG Γ p s m args meth c cX9_bringBack 2 RX9) (hr : meth.sig.returnType = none) (hnm : meth.name = "bringBack") {r : ZH} : ∀ (nn : Nat) (l0 : Nat) (l1 : Int32) (h : ZH), xX9_bringBack_L2  nn l0 l1 h = some r → z_W Γ p l e rmX9_bringBack s m args below meth c 2 0 0 (MQ below (z_Qc Γ none r) args s rmX9_bringBack.cells rmX9_bringBack.slots (z_A Γ)) 2 [(0, .ref l0), (1, .int l1)] [] h := by
  intro nn
  induction nn with
  | zero => intro l0 l1 h hX; cases hX
  | succ nn ih => intro l0 l1 h hX; exact wX9_bringBack_B2 hO G hr hnm  ih l0 l1 h hX
noncomputable def xX9_bringBack (l0 : Nat) (h : ZH) : Option ZH := xX9_bringBack_L2 zFU l0 (0 : Int32) h
set_option maxHeartbeats 4000000 in
set_option maxRecDepth 100000 in
theorem lX9_bringBack {Γ : ZG} {l : Launch} (hO : z_OK Γ) {l0 : Nat} {h : ZH} {r : ZH} (hX : xX9_bringBack l0 h = some r) : z_M Γ l yX9_bringBack (z_ws1 yX9_bringBack cX9_bringBack 2 none) rmX9_bringBack [.ref l0] h none r := by
  refine z_start hO (plainFor_of_name (by decide)) (Nat.le_of_ble_eq_true rfl) ?_
  intro p e s m args below meth c G hr hnm
  refine z_lvc (lv2 := [(0, .ref l0)]) rfl ?_
  refine z_iconst (pc := 0) (v := 0) G dX9_bringBack_0 (by decide) ?_
  refine z_istore_n (pc := 1) (lv2 := [(0, .ref l0), (1, .int (0 : Int32))]) G dX9_bringBack_1 rfl (by decide) rfl rfl ?_
  exact wX9_bringBack_L2 hO G hr hnm zFU _ _ _ hX
theorem dX9_drawOn_0 : decode cX9_drawOn 0 = .ok (.aload_n 0, 1) := by decide +kernel
theorem dX9_drawOn_1 : decode cX9_drawOn 1 = .ok (.getfield 91, 3) := by decide +kernel
theorem dX9_drawOn_4 : decode cX9_drawOn 4 = .ok (.sipush 519, 3) := by decide +kernel
theorem dX9_drawOn_7 : decode cX9_drawOn 7 = .ok (.sipush 137, 3) := by decide +kernel
theorem dX9_drawOn_10 : decode cX9_drawOn 10 = .ok (.aload_n 0, 1) := by decide +kernel
theorem dX9_drawOn_11 : decode cX9_drawOn 11 = .ok (.getfield 91, 3) := by decide +kernel
theorem dX9_drawOn_14 : decode cX9_drawOn 14 = .ok (.sipush 519, 3) := by decide +kernel
theorem dX9_drawOn_17 : decode cX9_drawOn 17 = .ok (.iaload, 1) := by decide +kernel
theorem dX9_drawOn_18 : decode cX9_drawOn 18 = .ok (.imul, 1) := by decide +kernel
theorem dX9_drawOn_19 : decode cX9_drawOn 19 = .ok (.bipush 71, 2) := by decide +kernel
theorem dX9_drawOn_21 : decode cX9_drawOn 21 = .ok (.iadd, 1) := by decide +kernel
theorem dX9_drawOn_22 : decode cX9_drawOn 22 = .ok (.sipush 1000, 3) := by decide +kernel
theorem dX9_drawOn_25 : decode cX9_drawOn 25 = .ok (.irem, 1) := by decide +kernel
theorem dX9_drawOn_26 : decode cX9_drawOn 26 = .ok (.iastore, 1) := by decide +kernel
theorem dX9_drawOn_27 : decode cX9_drawOn 27 = .ok (.aload_n 0, 1) := by decide +kernel
theorem dX9_drawOn_28 : decode cX9_drawOn 28 = .ok (.getfield 91, 3) := by decide +kernel
theorem dX9_drawOn_31 : decode cX9_drawOn 31 = .ok (.sipush 519, 3) := by decide +kernel
theorem dX9_drawOn_34 : decode cX9_drawOn 34 = .ok (.iaload, 1) := by decide +kernel
theorem dX9_drawOn_35 : decode cX9_drawOn 35 = .ok (.ireturn, 1) := by decide +kernel
theorem ydX9_drawOn : z_yd yX9_drawOn 0 := ⟨by decide, by decide, by decide +kernel⟩
abbrev rmX9_drawOn : Room := { frames := 0, cells := 0, slots := 0, locals := 0 }
noncomputable def xX9_drawOn (l0 : Nat) (h : ZH) : Option (Int32 × ZH) := ((z_gR h l0 9 41).bind fun x1 => ((z_gR h l0 9 41).bind fun x11 => ((z_aI h x11 (519 : Int32)).bind fun x17 => ((z_uI h x1 (519 : Int32) ((((137 : Int32) * x17) + (71 : Int32)) - (((137 : Int32) * x17) + (71 : Int32)) / (1000 : Int32) * (1000 : Int32))).bind fun h26 => ((z_gR h26 l0 9 41).bind fun x28 => ((z_aI h26 x28 (519 : Int32)).bind fun x34 => some (x34, h26)))))))
set_option maxHeartbeats 4000000 in
set_option maxRecDepth 100000 in
theorem lX9_drawOn {Γ : ZG} {l : Launch} (hO : z_OK Γ) {l0 : Nat} {h : ZH} {r : (Int32 × ZH)} (hX : xX9_drawOn l0 h = some r) : z_M Γ l yX9_drawOn (z_ws1 yX9_drawOn cX9_drawOn 1 (some .int)) rmX9_drawOn [.ref l0] h (some (.int r.1)) r.2 := by
  refine z_start hO (plainFor_of_name (by decide)) (Nat.le_of_ble_eq_true rfl) ?_
  intro p e s m args below meth c G hr hnm
  refine z_lvc (lv2 := [(0, .ref l0)]) rfl ?_
  refine z_aload_n (pc := 0) G 0 dX9_drawOn_0 rfl rfl ?_
  obtain ⟨x1, hv1, hX⟩ := z_bd hX
  refine z_getR (pc := 1) G kK9 (k := 41) (by decide) kt_1267 dX9_drawOn_1 hv1 ?_
  refine z_sipush (pc := 4) (v := 519) G dX9_drawOn_4 (by decide) ?_
  refine z_sipush (pc := 7) (v := 137) G dX9_drawOn_7 (by decide) ?_
  refine z_aload_n (pc := 10) G 0 dX9_drawOn_10 rfl rfl ?_
  obtain ⟨x11, hv11, hX⟩ := z_bd hX
  refine z_getR (pc := 11) G kK9 (k := 41) (by decide) kt_1267 dX9_drawOn_11 hv11 ?_
  refine z_sipush (pc := 14) (v := 519) G dX9_drawOn_14 (by decide) ?_
  obtain ⟨x17, hv17, hX⟩ := z_bd hX
  refine z_iald (pc := 17) G dX9_drawOn_17 hv17 ?_
  refine z_imul (pc := 18) G dX9_drawOn_18 ?_
  refine z_bipush (pc := 19) (v := 71) G dX9_drawOn_19 (by decide) ?_
  refine z_iadd (pc := 21) G dX9_drawOn_21 ?_
  refine z_sipush (pc := 22) (v := 1000) G dX9_drawOn_22 (by decide) ?_
  refine z_irem (pc := 25) G dX9_drawOn_25 (by decide) ?_
  obtain ⟨h26, hv26, hX⟩ := z_bd hX
  refine z_iast (pc := 26) G dX9_drawOn_26 hv26 ?_
  refine z_aload_n (pc := 27) G 0 dX9_drawOn_27 rfl rfl ?_
  obtain ⟨x28, hv28, hX⟩ := z_bd hX
  refine z_getR (pc := 28) G kK9 (k := 41) (by decide) kt_1267 dX9_drawOn_28 hv28 ?_
  refine z_sipush (pc := 31) (v := 519) G dX9_drawOn_31 (by decide) ?_
  obtain ⟨x34, hv34, hX⟩ := z_bd hX
  refine z_iald (pc := 34) G dX9_drawOn_34 hv34 ?_
  exact z_iretX (pc := 35) hX G hr dX9_drawOn_35 (by decide) (by decide)
theorem dX9_layWindow_0 : decode cX9_layWindow 0 = .ok (.aload_n 0, 1) := by decide +kernel
theorem dX9_layWindow_1 : decode cX9_layWindow 1 = .ok (.getfield 97, 3) := by decide +kernel
theorem dX9_layWindow_4 : decode cX9_layWindow 4 = .ok (.ifCond .lt 10, 3) := by decide +kernel
theorem dX9_layWindow_7 : decode cX9_layWindow 7 = .ok (.aload_n 0, 1) := by decide +kernel
theorem dX9_layWindow_8 : decode cX9_layWindow 8 = .ok (.getfield 97, 3) := by decide +kernel
theorem dX9_layWindow_11 : decode cX9_layWindow 11 = .ok (.goto 12, 3) := by decide +kernel
theorem dX9_layWindow_14 : decode cX9_layWindow 14 = .ok (.aload_n 0, 1) := by decide +kernel
theorem dX9_layWindow_15 : decode cX9_layWindow 15 = .ok (.getfield 30, 3) := by decide +kernel
theorem dX9_layWindow_18 : decode cX9_layWindow 18 = .ok (.aload_n 0, 1) := by decide +kernel
theorem dX9_layWindow_19 : decode cX9_layWindow 19 = .ok (.getfield 255, 3) := by decide +kernel
theorem dX9_layWindow_22 : decode cX9_layWindow 22 = .ok (.iaload, 1) := by decide +kernel
theorem dX9_layWindow_23 : decode cX9_layWindow 23 = .ok (.istore_n 2, 1) := by decide +kernel
theorem dX9_layWindow_24 : decode cX9_layWindow 24 = .ok (.iconst 0, 1) := by decide +kernel
theorem dX9_layWindow_25 : decode cX9_layWindow 25 = .ok (.istore_n 3, 1) := by decide +kernel
theorem dX9_layWindow_26 : decode cX9_layWindow 26 = .ok (.iload_n 2, 1) := by decide +kernel
theorem dX9_layWindow_27 : decode cX9_layWindow 27 = .ok (.ineg, 1) := by decide +kernel
theorem dX9_layWindow_28 : decode cX9_layWindow 28 = .ok (.istore 4, 2) := by decide +kernel
theorem dX9_layWindow_30 : decode cX9_layWindow 30 = .ok (.iload 4, 2) := by decide +kernel
theorem dX9_layWindow_32 : decode cX9_layWindow 32 = .ok (.iload_n 2, 1) := by decide +kernel
theorem dX9_layWindow_33 : decode cX9_layWindow 33 = .ok (.if_icmp .gt 43, 3) := by decide +kernel
theorem dX9_layWindow_36 : decode cX9_layWindow 36 = .ok (.iload_n 3, 1) := by decide +kernel
theorem dX9_layWindow_37 : decode cX9_layWindow 37 = .ok (.aload_n 0, 1) := by decide +kernel
theorem dX9_layWindow_38 : decode cX9_layWindow 38 = .ok (.invokevirtual 344, 3) := by decide +kernel
theorem dX9_layWindow_41 : decode cX9_layWindow 41 = .ok (.if_icmp .ge 35, 3) := by decide +kernel
theorem dX9_layWindow_44 : decode cX9_layWindow 44 = .ok (.aload_n 0, 1) := by decide +kernel
theorem dX9_layWindow_45 : decode cX9_layWindow 45 = .ok (.getfield 100, 3) := by decide +kernel
theorem dX9_layWindow_48 : decode cX9_layWindow 48 = .ok (.iload_n 3, 1) := by decide +kernel
theorem dX9_layWindow_49 : decode cX9_layWindow 49 = .ok (.iload_n 1, 1) := by decide +kernel
theorem dX9_layWindow_50 : decode cX9_layWindow 50 = .ok (.iload 4, 2) := by decide +kernel
theorem dX9_layWindow_52 : decode cX9_layWindow 52 = .ok (.iadd, 1) := by decide +kernel
theorem dX9_layWindow_53 : decode cX9_layWindow 53 = .ok (.bipush 10, 2) := by decide +kernel
theorem dX9_layWindow_55 : decode cX9_layWindow 55 = .ok (.aload_n 0, 1) := by decide +kernel
theorem dX9_layWindow_56 : decode cX9_layWindow 56 = .ok (.invokevirtual 344, 3) := by decide +kernel
theorem dX9_layWindow_59 : decode cX9_layWindow 59 = .ok (.imul, 1) := by decide +kernel
theorem dX9_layWindow_60 : decode cX9_layWindow 60 = .ok (.iadd, 1) := by decide +kernel
theorem dX9_layWindow_61 : decode cX9_layWindow 61 = .ok (.aload_n 0, 1) := by decide +kernel
theorem dX9_layWindow_62 : decode cX9_layWindow 62 = .ok (.invokevirtual 344, 3) := by decide +kernel
theorem dX9_layWindow_65 : decode cX9_layWindow 65 = .ok (.irem, 1) := by decide +kernel
theorem dX9_layWindow_66 : decode cX9_layWindow 66 = .ok (.iastore, 1) := by decide +kernel
theorem dX9_layWindow_67 : decode cX9_layWindow 67 = .ok (.iinc 3 1, 3) := by decide +kernel
theorem dX9_layWindow_70 : decode cX9_layWindow 70 = .ok (.iinc 4 1, 3) := by decide +kernel
theorem dX9_layWindow_73 : decode cX9_layWindow 73 = .ok (.goto (-43), 3) := by decide +kernel
theorem dX9_layWindow_76 : decode cX9_layWindow 76 = .ok (.iload_n 3, 1) := by decide +kernel
theorem dX9_layWindow_77 : decode cX9_layWindow 77 = .ok (.ireturn, 1) := by decide +kernel
theorem ydX9_layWindow : z_yd yX9_layWindow 1 := ⟨by decide, by decide, by decide +kernel⟩
abbrev rmX9_layWindow : Room := { frames := 1, cells := 0, slots := 0, locals := 20 }
noncomputable def xX9_layWindow_B30 (r30 : Nat → Int32 → Int32 → Int32 → Int32 → ZH → Option (Int32 × ZH)) (l0 : Nat) (l1 : Int32) (l2 : Int32) (l3 : Int32) (l4 : Int32) (h : ZH) : Option (Int32 × ZH) := (if l2 < l4 then some (l3, h) else (z_gu (z_is h l0 9) ((xX9_round l0 h).bind fun r38 => (if r38.1 ≤ l3 then some (l3, r38.2) else ((z_gR r38.2 l0 9 44).bind fun x45 => (z_gu (z_is r38.2 l0 9) ((xX9_round l0 r38.2).bind fun r56 => (z_gu (z_is r56.2 l0 9) ((xX9_round l0 r56.2).bind fun r62 => (if r62.1 = 0 then none else ((z_uI r62.2 x45 l3 (((l1 + l4) + ((10 : Int32) * r56.1)) - ((l1 + l4) + ((10 : Int32) * r56.1)) / r62.1 * r62.1)).bind fun h66 => r30 l0 l1 l2 (l3 + 1) (l4 + 1) h66)))))))))))
noncomputable def xX9_layWindow_L30 (n : Nat) : Nat → Int32 → Int32 → Int32 → Int32 → ZH → Option (Int32 × ZH) := Nat.rec (motive := fun _ => Nat → Int32 → Int32 → Int32 → Int32 → ZH → Option (Int32 × ZH)) (fun _ _ _ _ _ _ => none) (fun _ rec => xX9_layWindow_B30  rec) n
set_option maxHeartbeats 4000000 in
set_option maxRecDepth 100000 in
theorem wX9_layWindow_B30 {Γ : ZG} {p : Program} {l : Launch} {e : Env} {s : State} {m : MethodId} {args : Array Value} {below : List Frame} {meth : Method} {c : Code} (hO : z_OK Γ) (G : z_GG Γ p s m args meth c cX9_layWindow 5 RX9) (hr : meth.sig.returnType = (some .int)) (hnm : meth.name = "layWindow") {r : (Int32 × ZH)} {r30 : Nat → Int32 → Int32 → Int32 → Int32 → ZH → Option (Int32 × ZH)} (H30 : ∀ (l0 : Nat) (l1 : Int32) (l2 : Int32) (l3 : Int32) (l4 : Int32) (h : ZH), r30 l0 l1 l2 l3 l4 h = some r → z_W Γ p l e rmX9_layWindow s m args below meth c 5 0 0 (MQ below (z_Qc Γ (some (.int r.1)) r.2) args s rmX9_layWindow.cells rmX9_layWindow.slots (z_A Γ)) 30 [(0, .ref l0), (1, .int l1), (2, .int l2), (3, .int l3), (4, .int l4)] [] h) : ∀ (l0 : Nat) (l1 : Int32) (l2 : Int32) (l3 : Int32) (l4 : Int32) (h : ZH), xX9_layWindow_B30  r30 l0 l1 l2 l3 l4 h = some r → z_W Γ p l e rmX9_layWindow s m args below meth c 5 0 0 (MQ below (z_Qc Γ (some (.int r.1)) r.2) args s rmX9_layWindow.cells rmX9_layWindow.slots (z_A Γ)) 30 [(0, .ref l0), (1, .int l1), (2, .int l2), (3, .int l3), (4, .int l4)] [] h := by
  intro l0 l1 l2 l3 l4 h hX
  refine z_iload (pc := 30) G 4 dX9_layWindow_30 rfl ?_
  refine z_iload_n (pc := 32) G 2 dX9_layWindow_32 rfl rfl ?_
  refine z_icmp_gt (pc := 33) (tgt := 76) G dX9_layWindow_33 (by decide) (fun hc33 => ?_) (fun hc33 => ?_)
  · have hX := z_it hc33 hX
    refine z_iload_n (pc := 76) G 3 dX9_layWindow_76 rfl rfl ?_
    exact z_iretX (pc := 77) hX G hr dX9_layWindow_77 (by decide) (by decide)
  · have hX := z_if hc33 hX
    refine z_iload_n (pc := 36) G 3 dX9_layWindow_36 rfl rfl ?_
    refine z_aload_n (pc := 37) G 0 dX9_layWindow_37 rfl rfl ?_
    obtain ⟨hi38, hX⟩ := z_gu_s hX
    obtain ⟨r38, hv38, hX⟩ := z_bd hX
    refine z_cVI (pc := 38) (As := []) (c2 := 0) (s2 := 0) G kK9 (lX9_round hO hv38) hi38 kt_1575 kt_11 kt_1572 kt_1574 ks_66 ydX9_round ⟨by decide, by decide⟩ rfl (Nat.le_of_ble_eq_true rfl) ⟨rfl, rfl⟩ ⟨by decide, by decide⟩ rfl dX9_layWindow_38 ?_
    refine z_icmp_ge (pc := 41) (tgt := 76) G dX9_layWindow_41 (by decide) (fun hc41 => ?_) (fun hc41 => ?_)
    · have hX := z_it hc41 hX
      refine z_iload_n (pc := 76) G 3 dX9_layWindow_76 rfl rfl ?_
      exact z_iretX (pc := 77) hX G hr dX9_layWindow_77 (by decide) (by decide)
    · have hX := z_if hc41 hX
      refine z_aload_n (pc := 44) G 0 dX9_layWindow_44 rfl rfl ?_
      obtain ⟨x45, hv45, hX⟩ := z_bd hX
      refine z_getR (pc := 45) G kK9 (k := 44) (by decide) kt_1270 dX9_layWindow_45 hv45 ?_
      refine z_iload_n (pc := 48) G 3 dX9_layWindow_48 rfl rfl ?_
      refine z_iload_n (pc := 49) G 1 dX9_layWindow_49 rfl rfl ?_
      refine z_iload (pc := 50) G 4 dX9_layWindow_50 rfl ?_
      refine z_iadd (pc := 52) G dX9_layWindow_52 ?_
      refine z_bipush (pc := 53) (v := 10) G dX9_layWindow_53 (by decide) ?_
      refine z_aload_n (pc := 55) G 0 dX9_layWindow_55 rfl rfl ?_
      obtain ⟨hi56, hX⟩ := z_gu_s hX
      obtain ⟨r56, hv56, hX⟩ := z_bd hX
      refine z_cVI (pc := 56) (As := []) (c2 := 0) (s2 := 0) G kK9 (lX9_round hO hv56) hi56 kt_1575 kt_11 kt_1572 kt_1574 ks_66 ydX9_round ⟨by decide, by decide⟩ rfl (Nat.le_of_ble_eq_true rfl) ⟨rfl, rfl⟩ ⟨by decide, by decide⟩ rfl dX9_layWindow_56 ?_
      refine z_imul (pc := 59) G dX9_layWindow_59 ?_
      refine z_iadd (pc := 60) G dX9_layWindow_60 ?_
      refine z_aload_n (pc := 61) G 0 dX9_layWindow_61 rfl rfl ?_
      obtain ⟨hi62, hX⟩ := z_gu_s hX
      obtain ⟨r62, hv62, hX⟩ := z_bd hX
      refine z_cVI (pc := 62) (As := []) (c2 := 0) (s2 := 0) G kK9 (lX9_round hO hv62) hi62 kt_1575 kt_11 kt_1572 kt_1574 ks_66 ydX9_round ⟨by decide, by decide⟩ rfl (Nat.le_of_ble_eq_true rfl) ⟨rfl, rfl⟩ ⟨by decide, by decide⟩ rfl dX9_layWindow_62 ?_
      obtain ⟨hn65, hX⟩ := z_ng hX
      refine z_irem (pc := 65) G dX9_layWindow_65 hn65 ?_
      obtain ⟨h66, hv66, hX⟩ := z_bd hX
      refine z_iast (pc := 66) G dX9_layWindow_66 hv66 ?_
      refine z_iincw (pc := 67) (w := 1) (lv2 := [(0, .ref l0), (1, .int l1), (2, .int l2), (3, .int (l3 + 1)), (4, .int l4)]) G 3 dX9_layWindow_67 rfl (by decide) (by decide) rfl rfl ?_
      refine z_iincw (pc := 70) (w := 1) (lv2 := [(0, .ref l0), (1, .int l1), (2, .int l2), (3, .int (l3 + 1)), (4, .int (l4 + 1))]) G 4 dX9_layWindow_70 rfl (by decide) (by decide) rfl rfl ?_
      refine z_goto (pc := 73) (tgt := 30) G dX9_layWindow_73 (by decide) ?_
      exact H30 _ _ _ _ _ _ hX
set_option maxHeartbeats 4000000 in
set_option maxRecDepth 100000 in
theorem wX9_layWindow_L30 {Γ : ZG} {p : Program} {l : Launch} {e : Env} {s : State} {m : MethodId} {args : Array Value} {below : List Frame} {meth : Method} {c : Code} (hO : z_OK Γ) (G : z_GG Γ p s m args meth c cX9_layWindow 5 RX9) (hr : meth.sig.returnType = (some .int)) (hnm : meth.name = "layWindow") {r : (Int32 × ZH)} : ∀ (nn : Nat) (l0 : Nat) (l1 : Int32) (l2 : Int32) (l3 : Int32) (l4 : Int32) (h : ZH), xX9_layWindow_L30  nn l0 l1 l2 l3 l4 h = some r → z_W Γ p l e rmX9_layWindow s m args below meth c 5 0 0 (MQ below (z_Qc Γ (some (.int r.1)) r.2) args s rmX9_layWindow.cells rmX9_layWindow.slots (z_A Γ)) 30 [(0, .ref l0), (1, .int l1), (2, .int l2), (3, .int l3), (4, .int l4)] [] h := by
  intro nn
  induction nn with
  | zero => intro l0 l1 l2 l3 l4 h hX; cases hX
  | succ nn ih => intro l0 l1 l2 l3 l4 h hX; exact wX9_layWindow_B30 hO G hr hnm  ih l0 l1 l2 l3 l4 h hX
noncomputable def xX9_layWindow (l0 : Nat) (l1 : Int32) (h : ZH) : Option (Int32 × ZH) := ((z_gI h l0 9 43).bind fun x1 => (if x1 < 0 then ((z_gR h l0 9 14).bind fun x15 => ((z_gI h l0 9 34).bind fun x19 => ((z_aI h x15 x19).bind fun x22 => xX9_layWindow_L30 zFU l0 l1 x22 (0 : Int32) (-x22) h))) else ((z_gI h l0 9 43).bind fun x8 => xX9_layWindow_L30 zFU l0 l1 x8 (0 : Int32) (-x8) h)))
set_option maxHeartbeats 4000000 in
set_option maxRecDepth 100000 in
theorem lX9_layWindow {Γ : ZG} {l : Launch} (hO : z_OK Γ) {l0 : Nat} {l1 : Int32} {h : ZH} {r : (Int32 × ZH)} (hX : xX9_layWindow l0 l1 h = some r) : z_M Γ l yX9_layWindow (z_ws1 yX9_layWindow cX9_layWindow 5 (some .int)) rmX9_layWindow [.ref l0, .int l1] h (some (.int r.1)) r.2 := by
  refine z_start hO (plainFor_of_name (by decide)) (Nat.le_of_ble_eq_true rfl) ?_
  intro p e s m args below meth c G hr hnm
  refine z_lvc (lv2 := [(0, .ref l0), (1, .int l1)]) rfl ?_
  refine z_aload_n (pc := 0) G 0 dX9_layWindow_0 rfl rfl ?_
  obtain ⟨x1, hv1, hX⟩ := z_bd hX
  refine z_getI (pc := 1) G kK9 (k := 43) (by decide) kt_1269 dX9_layWindow_1 hv1 ?_
  refine z_if_lt (pc := 4) (tgt := 14) G dX9_layWindow_4 (by decide) (fun hc4 => ?_) (fun hc4 => ?_)
  · have hX := z_it hc4 hX
    refine z_aload_n (pc := 14) G 0 dX9_layWindow_14 rfl rfl ?_
    obtain ⟨x15, hv15, hX⟩ := z_bd hX
    refine z_getR (pc := 15) G kK9 (k := 14) (by decide) kt_1240 dX9_layWindow_15 hv15 ?_
    refine z_aload_n (pc := 18) G 0 dX9_layWindow_18 rfl rfl ?_
    obtain ⟨x19, hv19, hX⟩ := z_bd hX
    refine z_getI (pc := 19) G kK9 (k := 34) (by decide) kt_1260 dX9_layWindow_19 hv19 ?_
    obtain ⟨x22, hv22, hX⟩ := z_bd hX
    refine z_iald (pc := 22) G dX9_layWindow_22 hv22 ?_
    refine z_istore_n (pc := 23) (lv2 := [(0, .ref l0), (1, .int l1), (2, .int x22)]) G dX9_layWindow_23 rfl (by decide) rfl rfl ?_
    refine z_iconst (pc := 24) (v := 0) G dX9_layWindow_24 (by decide) ?_
    refine z_istore_n (pc := 25) (lv2 := [(0, .ref l0), (1, .int l1), (2, .int x22), (3, .int (0 : Int32))]) G dX9_layWindow_25 rfl (by decide) rfl rfl ?_
    refine z_iload_n (pc := 26) G 2 dX9_layWindow_26 rfl rfl ?_
    refine z_ineg (pc := 27) G dX9_layWindow_27 ?_
    refine z_istore (pc := 28) (lv2 := [(0, .ref l0), (1, .int l1), (2, .int x22), (3, .int (0 : Int32)), (4, .int (-x22))]) G dX9_layWindow_28 (by decide) rfl rfl ?_
    exact wX9_layWindow_L30 hO G hr hnm zFU _ _ _ _ _ _ hX
  · have hX := z_if hc4 hX
    refine z_aload_n (pc := 7) G 0 dX9_layWindow_7 rfl rfl ?_
    obtain ⟨x8, hv8, hX⟩ := z_bd hX
    refine z_getI (pc := 8) G kK9 (k := 43) (by decide) kt_1269 dX9_layWindow_8 hv8 ?_
    refine z_goto (pc := 11) (tgt := 23) G dX9_layWindow_11 (by decide) ?_
    refine z_istore_n (pc := 23) (lv2 := [(0, .ref l0), (1, .int l1), (2, .int x8)]) G dX9_layWindow_23 rfl (by decide) rfl rfl ?_
    refine z_iconst (pc := 24) (v := 0) G dX9_layWindow_24 (by decide) ?_
    refine z_istore_n (pc := 25) (lv2 := [(0, .ref l0), (1, .int l1), (2, .int x8), (3, .int (0 : Int32))]) G dX9_layWindow_25 rfl (by decide) rfl rfl ?_
    refine z_iload_n (pc := 26) G 2 dX9_layWindow_26 rfl rfl ?_
    refine z_ineg (pc := 27) G dX9_layWindow_27 ?_
    refine z_istore (pc := 28) (lv2 := [(0, .ref l0), (1, .int l1), (2, .int x8), (3, .int (0 : Int32)), (4, .int (-x8))]) G dX9_layWindow_28 (by decide) rfl rfl ?_
    exact wX9_layWindow_L30 hO G hr hnm zFU _ _ _ _ _ _ hX
theorem dX9_awayFrom_0 : decode cX9_awayFrom 0 = .ok (.aload_n 0, 1) := by decide +kernel
theorem dX9_awayFrom_1 : decode cX9_awayFrom 1 = .ok (.getfield 91, 3) := by decide +kernel
theorem dX9_awayFrom_4 : decode cX9_awayFrom 4 = .ok (.sipush 444, 3) := by decide +kernel
theorem dX9_awayFrom_7 : decode cX9_awayFrom 7 = .ok (.bipush 6, 2) := by decide +kernel
theorem dX9_awayFrom_9 : decode cX9_awayFrom 9 = .ok (.iload_n 1, 1) := by decide +kernel
theorem dX9_awayFrom_10 : decode cX9_awayFrom 10 = .ok (.imul, 1) := by decide +kernel
theorem dX9_awayFrom_11 : decode cX9_awayFrom 11 = .ok (.iadd, 1) := by decide +kernel
theorem dX9_awayFrom_12 : decode cX9_awayFrom 12 = .ok (.iload_n 2, 1) := by decide +kernel
theorem dX9_awayFrom_13 : decode cX9_awayFrom 13 = .ok (.iadd, 1) := by decide +kernel
theorem dX9_awayFrom_14 : decode cX9_awayFrom 14 = .ok (.iaload, 1) := by decide +kernel
theorem dX9_awayFrom_15 : decode cX9_awayFrom 15 = .ok (.aload_n 0, 1) := by decide +kernel
theorem dX9_awayFrom_16 : decode cX9_awayFrom 16 = .ok (.getfield 91, 3) := by decide +kernel
theorem dX9_awayFrom_19 : decode cX9_awayFrom 19 = .ok (.iconst 0, 1) := by decide +kernel
theorem dX9_awayFrom_20 : decode cX9_awayFrom 20 = .ok (.iload_n 1, 1) := by decide +kernel
theorem dX9_awayFrom_21 : decode cX9_awayFrom 21 = .ok (.iadd, 1) := by decide +kernel
theorem dX9_awayFrom_22 : decode cX9_awayFrom 22 = .ok (.iaload, 1) := by decide +kernel
theorem dX9_awayFrom_23 : decode cX9_awayFrom 23 = .ok (.isub, 1) := by decide +kernel
theorem dX9_awayFrom_24 : decode cX9_awayFrom 24 = .ok (.invokestatic 350, 3) := by decide +kernel
theorem dX9_awayFrom_27 : decode cX9_awayFrom 27 = .ok (.aload_n 0, 1) := by decide +kernel
theorem dX9_awayFrom_28 : decode cX9_awayFrom 28 = .ok (.getfield 91, 3) := by decide +kernel
theorem dX9_awayFrom_31 : decode cX9_awayFrom 31 = .ok (.sipush 480, 3) := by decide +kernel
theorem dX9_awayFrom_34 : decode cX9_awayFrom 34 = .ok (.bipush 6, 2) := by decide +kernel
theorem dX9_awayFrom_36 : decode cX9_awayFrom 36 = .ok (.iload_n 1, 1) := by decide +kernel
theorem dX9_awayFrom_37 : decode cX9_awayFrom 37 = .ok (.imul, 1) := by decide +kernel
theorem dX9_awayFrom_38 : decode cX9_awayFrom 38 = .ok (.iadd, 1) := by decide +kernel
theorem dX9_awayFrom_39 : decode cX9_awayFrom 39 = .ok (.iload_n 2, 1) := by decide +kernel
theorem dX9_awayFrom_40 : decode cX9_awayFrom 40 = .ok (.iadd, 1) := by decide +kernel
theorem dX9_awayFrom_41 : decode cX9_awayFrom 41 = .ok (.iaload, 1) := by decide +kernel
theorem dX9_awayFrom_42 : decode cX9_awayFrom 42 = .ok (.aload_n 0, 1) := by decide +kernel
theorem dX9_awayFrom_43 : decode cX9_awayFrom 43 = .ok (.getfield 91, 3) := by decide +kernel
theorem dX9_awayFrom_46 : decode cX9_awayFrom 46 = .ok (.bipush 6, 2) := by decide +kernel
theorem dX9_awayFrom_48 : decode cX9_awayFrom 48 = .ok (.iload_n 1, 1) := by decide +kernel
theorem dX9_awayFrom_49 : decode cX9_awayFrom 49 = .ok (.iadd, 1) := by decide +kernel
theorem dX9_awayFrom_50 : decode cX9_awayFrom 50 = .ok (.iaload, 1) := by decide +kernel
theorem dX9_awayFrom_51 : decode cX9_awayFrom 51 = .ok (.isub, 1) := by decide +kernel
theorem dX9_awayFrom_52 : decode cX9_awayFrom 52 = .ok (.invokestatic 350, 3) := by decide +kernel
theorem dX9_awayFrom_55 : decode cX9_awayFrom 55 = .ok (.iadd, 1) := by decide +kernel
theorem dX9_awayFrom_56 : decode cX9_awayFrom 56 = .ok (.ireturn, 1) := by decide +kernel
theorem ydX9_awayFrom : z_yd yX9_awayFrom 2 := ⟨by decide, by decide, by decide +kernel⟩
abbrev rmX9_awayFrom : Room := { frames := 1, cells := 0, slots := 0, locals := 20 }
noncomputable def xX9_awayFrom (l0 : Nat) (l1 : Int32) (l2 : Int32) (h : ZH) : Option (Int32 × ZH) := ((z_gR h l0 9 41).bind fun x1 => ((z_aI h x1 (((444 : Int32) + ((6 : Int32) * l1)) + l2)).bind fun x14 => ((z_gR h l0 9 41).bind fun x16 => ((z_aI h x16 ((0 : Int32) + l1)).bind fun x22 => ((xX9_absolute (x14 - x22) h).bind fun r24 => ((z_gR r24.2 l0 9 41).bind fun x28 => ((z_aI r24.2 x28 (((480 : Int32) + ((6 : Int32) * l1)) + l2)).bind fun x41 => ((z_gR r24.2 l0 9 41).bind fun x43 => ((z_aI r24.2 x43 ((6 : Int32) + l1)).bind fun x50 => ((xX9_absolute (x41 - x50) r24.2).bind fun r52 => some ((r24.1 + r52.1), r52.2)))))))))))
set_option maxHeartbeats 4000000 in
set_option maxRecDepth 100000 in
theorem lX9_awayFrom {Γ : ZG} {l : Launch} (hO : z_OK Γ) {l0 : Nat} {l1 : Int32} {l2 : Int32} {h : ZH} {r : (Int32 × ZH)} (hX : xX9_awayFrom l0 l1 l2 h = some r) : z_M Γ l yX9_awayFrom (z_ws1 yX9_awayFrom cX9_awayFrom 3 (some .int)) rmX9_awayFrom [.ref l0, .int l1, .int l2] h (some (.int r.1)) r.2 := by
  refine z_start hO (plainFor_of_name (by decide)) (Nat.le_of_ble_eq_true rfl) ?_
  intro p e s m args below meth c G hr hnm
  refine z_lvc (lv2 := [(0, .ref l0), (1, .int l1), (2, .int l2)]) rfl ?_
  refine z_aload_n (pc := 0) G 0 dX9_awayFrom_0 rfl rfl ?_
  obtain ⟨x1, hv1, hX⟩ := z_bd hX
  refine z_getR (pc := 1) G kK9 (k := 41) (by decide) kt_1267 dX9_awayFrom_1 hv1 ?_
  refine z_sipush (pc := 4) (v := 444) G dX9_awayFrom_4 (by decide) ?_
  refine z_bipush (pc := 7) (v := 6) G dX9_awayFrom_7 (by decide) ?_
  refine z_iload_n (pc := 9) G 1 dX9_awayFrom_9 rfl rfl ?_
  refine z_imul (pc := 10) G dX9_awayFrom_10 ?_
  refine z_iadd (pc := 11) G dX9_awayFrom_11 ?_
  refine z_iload_n (pc := 12) G 2 dX9_awayFrom_12 rfl rfl ?_
  refine z_iadd (pc := 13) G dX9_awayFrom_13 ?_
  obtain ⟨x14, hv14, hX⟩ := z_bd hX
  refine z_iald (pc := 14) G dX9_awayFrom_14 hv14 ?_
  refine z_aload_n (pc := 15) G 0 dX9_awayFrom_15 rfl rfl ?_
  obtain ⟨x16, hv16, hX⟩ := z_bd hX
  refine z_getR (pc := 16) G kK9 (k := 41) (by decide) kt_1267 dX9_awayFrom_16 hv16 ?_
  refine z_iconst (pc := 19) (v := 0) G dX9_awayFrom_19 (by decide) ?_
  refine z_iload_n (pc := 20) G 1 dX9_awayFrom_20 rfl rfl ?_
  refine z_iadd (pc := 21) G dX9_awayFrom_21 ?_
  obtain ⟨x22, hv22, hX⟩ := z_bd hX
  refine z_iald (pc := 22) G dX9_awayFrom_22 hv22 ?_
  refine z_isub (pc := 23) G dX9_awayFrom_23 ?_
  obtain ⟨r24, hv24, hX⟩ := z_bd hX
  refine z_cSI (pc := 24) (As := [.int (x14 - x22)]) (c2 := 0) (s2 := 0) G (lX9_absolute hO hv24) kt_1609 kt_11 kt_1607 kt_1608 ydX9_absolute ⟨by decide, by decide⟩ rfl (Nat.le_of_ble_eq_true rfl) ⟨rfl, rfl⟩ ⟨by decide, by decide⟩ rfl dX9_awayFrom_24 ?_
  refine z_aload_n (pc := 27) G 0 dX9_awayFrom_27 rfl rfl ?_
  obtain ⟨x28, hv28, hX⟩ := z_bd hX
  refine z_getR (pc := 28) G kK9 (k := 41) (by decide) kt_1267 dX9_awayFrom_28 hv28 ?_
  refine z_sipush (pc := 31) (v := 480) G dX9_awayFrom_31 (by decide) ?_
  refine z_bipush (pc := 34) (v := 6) G dX9_awayFrom_34 (by decide) ?_
  refine z_iload_n (pc := 36) G 1 dX9_awayFrom_36 rfl rfl ?_
  refine z_imul (pc := 37) G dX9_awayFrom_37 ?_
  refine z_iadd (pc := 38) G dX9_awayFrom_38 ?_
  refine z_iload_n (pc := 39) G 2 dX9_awayFrom_39 rfl rfl ?_
  refine z_iadd (pc := 40) G dX9_awayFrom_40 ?_
  obtain ⟨x41, hv41, hX⟩ := z_bd hX
  refine z_iald (pc := 41) G dX9_awayFrom_41 hv41 ?_
  refine z_aload_n (pc := 42) G 0 dX9_awayFrom_42 rfl rfl ?_
  obtain ⟨x43, hv43, hX⟩ := z_bd hX
  refine z_getR (pc := 43) G kK9 (k := 41) (by decide) kt_1267 dX9_awayFrom_43 hv43 ?_
  refine z_bipush (pc := 46) (v := 6) G dX9_awayFrom_46 (by decide) ?_
  refine z_iload_n (pc := 48) G 1 dX9_awayFrom_48 rfl rfl ?_
  refine z_iadd (pc := 49) G dX9_awayFrom_49 ?_
  obtain ⟨x50, hv50, hX⟩ := z_bd hX
  refine z_iald (pc := 50) G dX9_awayFrom_50 hv50 ?_
  refine z_isub (pc := 51) G dX9_awayFrom_51 ?_
  obtain ⟨r52, hv52, hX⟩ := z_bd hX
  refine z_cSI (pc := 52) (As := [.int (x41 - x50)]) (c2 := 0) (s2 := 0) G (lX9_absolute hO hv52) kt_1609 kt_11 kt_1607 kt_1608 ydX9_absolute ⟨by decide, by decide⟩ rfl (Nat.le_of_ble_eq_true rfl) ⟨rfl, rfl⟩ ⟨by decide, by decide⟩ rfl dX9_awayFrom_52 ?_
  refine z_iadd (pc := 55) G dX9_awayFrom_55 ?_
  exact z_iretX (pc := 56) hX G hr dX9_awayFrom_56 (by decide) (by decide)
theorem dX9_farthestOf_0 : decode cX9_farthestOf 0 = .ok (.iconst (-1), 1) := by decide +kernel
theorem dX9_farthestOf_1 : decode cX9_farthestOf 1 = .ok (.istore 4, 2) := by decide +kernel
theorem dX9_farthestOf_3 : decode cX9_farthestOf 3 = .ok (.iconst (-1), 1) := by decide +kernel
theorem dX9_farthestOf_4 : decode cX9_farthestOf 4 = .ok (.istore 5, 2) := by decide +kernel
theorem dX9_farthestOf_6 : decode cX9_farthestOf 6 = .ok (.iconst 0, 1) := by decide +kernel
theorem dX9_farthestOf_7 : decode cX9_farthestOf 7 = .ok (.istore 6, 2) := by decide +kernel
theorem dX9_farthestOf_9 : decode cX9_farthestOf 9 = .ok (.iload 6, 2) := by decide +kernel
theorem dX9_farthestOf_11 : decode cX9_farthestOf 11 = .ok (.iload_n 2, 1) := by decide +kernel
theorem dX9_farthestOf_12 : decode cX9_farthestOf 12 = .ok (.if_icmp .ge 93, 3) := by decide +kernel
theorem dX9_farthestOf_15 : decode cX9_farthestOf 15 = .ok (.aload_n 0, 1) := by decide +kernel
theorem dX9_farthestOf_16 : decode cX9_farthestOf 16 = .ok (.iload_n 1, 1) := by decide +kernel
theorem dX9_farthestOf_17 : decode cX9_farthestOf 17 = .ok (.aload_n 0, 1) := by decide +kernel
theorem dX9_farthestOf_18 : decode cX9_farthestOf 18 = .ok (.getfield 100, 3) := by decide +kernel
theorem dX9_farthestOf_21 : decode cX9_farthestOf 21 = .ok (.iload 6, 2) := by decide +kernel
theorem dX9_farthestOf_23 : decode cX9_farthestOf 23 = .ok (.iaload, 1) := by decide +kernel
theorem dX9_farthestOf_24 : decode cX9_farthestOf 24 = .ok (.invokevirtual 356, 3) := by decide +kernel
theorem dX9_farthestOf_27 : decode cX9_farthestOf 27 = .ok (.istore 7, 2) := by decide +kernel
theorem dX9_farthestOf_29 : decode cX9_farthestOf 29 = .ok (.iload 7, 2) := by decide +kernel
theorem dX9_farthestOf_31 : decode cX9_farthestOf 31 = .ok (.ifCond .lt 68, 3) := by decide +kernel
theorem dX9_farthestOf_34 : decode cX9_farthestOf 34 = .ok (.aload_n 0, 1) := by decide +kernel
theorem dX9_farthestOf_35 : decode cX9_farthestOf 35 = .ok (.iload_n 1, 1) := by decide +kernel
theorem dX9_farthestOf_36 : decode cX9_farthestOf 36 = .ok (.invokevirtual 387, 3) := by decide +kernel
theorem dX9_farthestOf_39 : decode cX9_farthestOf 39 = .ok (.aload_n 0, 1) := by decide +kernel
theorem dX9_farthestOf_40 : decode cX9_farthestOf 40 = .ok (.getfield 100, 3) := by decide +kernel
theorem dX9_farthestOf_43 : decode cX9_farthestOf 43 = .ok (.iload 6, 2) := by decide +kernel
theorem dX9_farthestOf_45 : decode cX9_farthestOf 45 = .ok (.iaload, 1) := by decide +kernel
theorem dX9_farthestOf_46 : decode cX9_farthestOf 46 = .ok (.invokestatic 265, 3) := by decide +kernel
theorem dX9_farthestOf_49 : decode cX9_farthestOf 49 = .ok (.ifCond .ne 50, 3) := by decide +kernel
theorem dX9_farthestOf_52 : decode cX9_farthestOf 52 = .ok (.iload_n 3, 1) := by decide +kernel
theorem dX9_farthestOf_53 : decode cX9_farthestOf 53 = .ok (.aload_n 0, 1) := by decide +kernel
theorem dX9_farthestOf_54 : decode cX9_farthestOf 54 = .ok (.getfield 100, 3) := by decide +kernel
theorem dX9_farthestOf_57 : decode cX9_farthestOf 57 = .ok (.iload 6, 2) := by decide +kernel
theorem dX9_farthestOf_59 : decode cX9_farthestOf 59 = .ok (.iaload, 1) := by decide +kernel
theorem dX9_farthestOf_60 : decode cX9_farthestOf 60 = .ok (.invokestatic 265, 3) := by decide +kernel
theorem dX9_farthestOf_63 : decode cX9_farthestOf 63 = .ok (.ifCond .ne 36, 3) := by decide +kernel
theorem dX9_farthestOf_66 : decode cX9_farthestOf 66 = .ok (.aload_n 0, 1) := by decide +kernel
theorem dX9_farthestOf_67 : decode cX9_farthestOf 67 = .ok (.iload_n 1, 1) := by decide +kernel
theorem dX9_farthestOf_68 : decode cX9_farthestOf 68 = .ok (.iload 7, 2) := by decide +kernel
theorem dX9_farthestOf_70 : decode cX9_farthestOf 70 = .ok (.invokevirtual 390, 3) := by decide +kernel
theorem dX9_farthestOf_73 : decode cX9_farthestOf 73 = .ok (.iload 5, 2) := by decide +kernel
theorem dX9_farthestOf_75 : decode cX9_farthestOf 75 = .ok (.if_icmp .gt 6, 3) := by decide +kernel
theorem dX9_farthestOf_78 : decode cX9_farthestOf 78 = .ok (.goto 21, 3) := by decide +kernel
theorem dX9_farthestOf_81 : decode cX9_farthestOf 81 = .ok (.aload_n 0, 1) := by decide +kernel
theorem dX9_farthestOf_82 : decode cX9_farthestOf 82 = .ok (.getfield 100, 3) := by decide +kernel
theorem dX9_farthestOf_85 : decode cX9_farthestOf 85 = .ok (.iload 6, 2) := by decide +kernel
theorem dX9_farthestOf_87 : decode cX9_farthestOf 87 = .ok (.iaload, 1) := by decide +kernel
theorem dX9_farthestOf_88 : decode cX9_farthestOf 88 = .ok (.istore 4, 2) := by decide +kernel
theorem dX9_farthestOf_90 : decode cX9_farthestOf 90 = .ok (.aload_n 0, 1) := by decide +kernel
theorem dX9_farthestOf_91 : decode cX9_farthestOf 91 = .ok (.iload_n 1, 1) := by decide +kernel
theorem dX9_farthestOf_92 : decode cX9_farthestOf 92 = .ok (.iload 7, 2) := by decide +kernel
theorem dX9_farthestOf_94 : decode cX9_farthestOf 94 = .ok (.invokevirtual 390, 3) := by decide +kernel
theorem dX9_farthestOf_97 : decode cX9_farthestOf 97 = .ok (.istore 5, 2) := by decide +kernel
theorem dX9_farthestOf_99 : decode cX9_farthestOf 99 = .ok (.iinc 6 1, 3) := by decide +kernel
theorem dX9_farthestOf_102 : decode cX9_farthestOf 102 = .ok (.goto (-93), 3) := by decide +kernel
theorem dX9_farthestOf_105 : decode cX9_farthestOf 105 = .ok (.iload 4, 2) := by decide +kernel
theorem dX9_farthestOf_107 : decode cX9_farthestOf 107 = .ok (.ireturn, 1) := by decide +kernel
theorem ydX9_farthestOf : z_yd yX9_farthestOf 3 := ⟨by decide, by decide, by decide +kernel⟩
abbrev rmX9_farthestOf : Room := { frames := 2, cells := 0, slots := 0, locals := 42 }
noncomputable def xX9_farthestOf_B9 (r9 : Nat → Int32 → Int32 → Int32 → Int32 → Int32 → Int32 → ZH → Option (Int32 × ZH)) (l0 : Nat) (l1 : Int32) (l2 : Int32) (l3 : Int32) (l4 : Int32) (l5 : Int32) (l6 : Int32) (h : ZH) : Option (Int32 × ZH) := (if l2 ≤ l6 then some (l4, h) else ((z_gR h l0 9 44).bind fun x18 => ((z_aI h x18 l6).bind fun x23 => (z_gu (z_is h l0 9) ((xX9_holderIn l0 l1 x23 h).bind fun r24 => (if r24.1 < 0 then r9 l0 l1 l2 l3 l4 l5 (l6 + 1) r24.2 else (z_gu (z_is r24.2 l0 9) ((xX9_ownedBy l0 l1 r24.2).bind fun r36 => ((z_gR r36.2 l0 9 44).bind fun x40 => ((z_aI r36.2 x40 l6).bind fun x45 => ((xX9_bit r36.1 x45 r36.2).bind fun r46 => (if r46.1 = 0 then ((z_gR r46.2 l0 9 44).bind fun x54 => ((z_aI r46.2 x54 l6).bind fun x59 => ((xX9_bit l3 x59 r46.2).bind fun r60 => (if r60.1 = 0 then (z_gu (z_is r60.2 l0 9) ((xX9_awayFrom l0 l1 r24.1 r60.2).bind fun r70 => (if l5 < r70.1 then ((z_gR r70.2 l0 9 44).bind fun x82 => ((z_aI r70.2 x82 l6).bind fun x87 => (z_gu (z_is r70.2 l0 9) ((xX9_awayFrom l0 l1 r24.1 r70.2).bind fun r94 => r9 l0 l1 l2 l3 x87 r94.1 (l6 + 1) r94.2)))) else r9 l0 l1 l2 l3 l4 l5 (l6 + 1) r70.2))) else r9 l0 l1 l2 l3 l4 l5 (l6 + 1) r60.2)))) else r9 l0 l1 l2 l3 l4 l5 (l6 + 1) r46.2))))))))))))
noncomputable def xX9_farthestOf_L9 (n : Nat) : Nat → Int32 → Int32 → Int32 → Int32 → Int32 → Int32 → ZH → Option (Int32 × ZH) := Nat.rec (motive := fun _ => Nat → Int32 → Int32 → Int32 → Int32 → Int32 → Int32 → ZH → Option (Int32 × ZH)) (fun _ _ _ _ _ _ _ _ => none) (fun _ rec => xX9_farthestOf_B9  rec) n
set_option maxHeartbeats 4000000 in
set_option maxRecDepth 100000 in
theorem wX9_farthestOf_B9 {Γ : ZG} {p : Program} {l : Launch} {e : Env} {s : State} {m : MethodId} {args : Array Value} {below : List Frame} {meth : Method} {c : Code} (hO : z_OK Γ) (G : z_GG Γ p s m args meth c cX9_farthestOf 8 RX9) (hr : meth.sig.returnType = (some .int)) (hnm : meth.name = "farthestOf") {r : (Int32 × ZH)} {r9 : Nat → Int32 → Int32 → Int32 → Int32 → Int32 → Int32 → ZH → Option (Int32 × ZH)} (H9 : ∀ (l0 : Nat) (l1 : Int32) (l2 : Int32) (l3 : Int32) (l4 : Int32) (l5 : Int32) (l6 : Int32) (h : ZH), r9 l0 l1 l2 l3 l4 l5 l6 h = some r → z_W Γ p l e rmX9_farthestOf s m args below meth c 8 0 0 (MQ below (z_Qc Γ (some (.int r.1)) r.2) args s rmX9_farthestOf.cells rmX9_farthestOf.slots (z_A Γ)) 9 [(0, .ref l0), (1, .int l1), (2, .int l2), (3, .int l3), (4, .int l4), (5, .int l5), (6, .int l6)] [] h) : ∀ (l0 : Nat) (l1 : Int32) (l2 : Int32) (l3 : Int32) (l4 : Int32) (l5 : Int32) (l6 : Int32) (h : ZH), xX9_farthestOf_B9  r9 l0 l1 l2 l3 l4 l5 l6 h = some r → z_W Γ p l e rmX9_farthestOf s m args below meth c 8 0 0 (MQ below (z_Qc Γ (some (.int r.1)) r.2) args s rmX9_farthestOf.cells rmX9_farthestOf.slots (z_A Γ)) 9 [(0, .ref l0), (1, .int l1), (2, .int l2), (3, .int l3), (4, .int l4), (5, .int l5), (6, .int l6)] [] h := by
  intro l0 l1 l2 l3 l4 l5 l6 h hX
  refine z_iload (pc := 9) G 6 dX9_farthestOf_9 rfl ?_
  refine z_iload_n (pc := 11) G 2 dX9_farthestOf_11 rfl rfl ?_
  refine z_icmp_ge (pc := 12) (tgt := 105) G dX9_farthestOf_12 (by decide) (fun hc12 => ?_) (fun hc12 => ?_)
  · have hX := z_it hc12 hX
    refine z_iload (pc := 105) G 4 dX9_farthestOf_105 rfl ?_
    exact z_iretX (pc := 107) hX G hr dX9_farthestOf_107 (by decide) (by decide)
  · have hX := z_if hc12 hX
    refine z_aload_n (pc := 15) G 0 dX9_farthestOf_15 rfl rfl ?_
    refine z_iload_n (pc := 16) G 1 dX9_farthestOf_16 rfl rfl ?_
    refine z_aload_n (pc := 17) G 0 dX9_farthestOf_17 rfl rfl ?_
    obtain ⟨x18, hv18, hX⟩ := z_bd hX
    refine z_getR (pc := 18) G kK9 (k := 44) (by decide) kt_1270 dX9_farthestOf_18 hv18 ?_
    refine z_iload (pc := 21) G 6 dX9_farthestOf_21 rfl ?_
    obtain ⟨x23, hv23, hX⟩ := z_bd hX
    refine z_iald (pc := 23) G dX9_farthestOf_23 hv23 ?_
    obtain ⟨hi24, hX⟩ := z_gu_s hX
    obtain ⟨r24, hv24, hX⟩ := z_bd hX
    refine z_cVI (pc := 24) (As := [.int l1, .int x23]) (c2 := 0) (s2 := 0) G kK9 (lX9_holderIn hO hv24) hi24 kt_1579 kt_11 kt_1576 kt_1578 ks_67 ydX9_holderIn ⟨by decide, by decide⟩ rfl (Nat.le_of_ble_eq_true rfl) ⟨rfl, rfl⟩ ⟨by decide, by decide⟩ rfl dX9_farthestOf_24 ?_
    refine z_istore (pc := 27) (lv2 := [(0, .ref l0), (1, .int l1), (2, .int l2), (3, .int l3), (4, .int l4), (5, .int l5), (6, .int l6), (7, .int r24.1)]) G dX9_farthestOf_27 (by decide) rfl rfl ?_
    refine z_iload (pc := 29) G 7 dX9_farthestOf_29 rfl ?_
    refine z_if_lt (pc := 31) (tgt := 99) G dX9_farthestOf_31 (by decide) (fun hc31 => ?_) (fun hc31 => ?_)
    · have hX := z_it hc31 hX
      refine z_iincw (pc := 99) (w := 1) (lv2 := [(0, .ref l0), (1, .int l1), (2, .int l2), (3, .int l3), (4, .int l4), (5, .int l5), (6, .int (l6 + 1)), (7, .int r24.1)]) G 6 dX9_farthestOf_99 rfl (by decide) (by decide) rfl rfl ?_
      refine z_goto (pc := 102) (tgt := 9) G dX9_farthestOf_102 (by decide) ?_
      refine z_drop (lv2 := [(0, .ref l0), (1, .int l1), (2, .int l2), (3, .int l3), (4, .int l4), (5, .int l5), (6, .int (l6 + 1))]) [0, 1, 2, 3, 4, 5, 6] rfl ?_
      exact H9 _ _ _ _ _ _ _ _ hX
    · have hX := z_if hc31 hX
      refine z_aload_n (pc := 34) G 0 dX9_farthestOf_34 rfl rfl ?_
      refine z_iload_n (pc := 35) G 1 dX9_farthestOf_35 rfl rfl ?_
      obtain ⟨hi36, hX⟩ := z_gu_s hX
      obtain ⟨r36, hv36, hX⟩ := z_bd hX
      refine z_cVI (pc := 36) (As := [.int l1]) (c2 := 0) (s2 := 0) G kK9 (lX9_ownedBy hO hv36) hi36 kt_1629 kt_11 kt_1626 kt_1628 ks_73 ydX9_ownedBy ⟨by decide, by decide⟩ rfl (Nat.le_of_ble_eq_true rfl) ⟨rfl, rfl⟩ ⟨by decide, by decide⟩ rfl dX9_farthestOf_36 ?_
      refine z_aload_n (pc := 39) G 0 dX9_farthestOf_39 rfl rfl ?_
      obtain ⟨x40, hv40, hX⟩ := z_bd hX
      refine z_getR (pc := 40) G kK9 (k := 44) (by decide) kt_1270 dX9_farthestOf_40 hv40 ?_
      refine z_iload (pc := 43) G 6 dX9_farthestOf_43 rfl ?_
      obtain ⟨x45, hv45, hX⟩ := z_bd hX
      refine z_iald (pc := 45) G dX9_farthestOf_45 hv45 ?_
      obtain ⟨r46, hv46, hX⟩ := z_bd hX
      refine z_cSI (pc := 46) (As := [.int r36.1, .int x45]) (c2 := 0) (s2 := 0) G (lX9_bit hO hv46) kt_1476 kt_11 kt_1474 kt_1475 ydX9_bit ⟨by decide, by decide⟩ rfl (Nat.le_of_ble_eq_true rfl) ⟨rfl, rfl⟩ ⟨by decide, by decide⟩ rfl dX9_farthestOf_46 ?_
      refine z_if_ne (pc := 49) (tgt := 99) G dX9_farthestOf_49 (by decide) (fun hc49 => ?_) (fun hc49 => ?_)
      · have hX := z_if hc49 hX
        refine z_iincw (pc := 99) (w := 1) (lv2 := [(0, .ref l0), (1, .int l1), (2, .int l2), (3, .int l3), (4, .int l4), (5, .int l5), (6, .int (l6 + 1)), (7, .int r24.1)]) G 6 dX9_farthestOf_99 rfl (by decide) (by decide) rfl rfl ?_
        refine z_goto (pc := 102) (tgt := 9) G dX9_farthestOf_102 (by decide) ?_
        refine z_drop (lv2 := [(0, .ref l0), (1, .int l1), (2, .int l2), (3, .int l3), (4, .int l4), (5, .int l5), (6, .int (l6 + 1))]) [0, 1, 2, 3, 4, 5, 6] rfl ?_
        exact H9 _ _ _ _ _ _ _ _ hX
      · have hX := z_it hc49 hX
        refine z_iload_n (pc := 52) G 3 dX9_farthestOf_52 rfl rfl ?_
        refine z_aload_n (pc := 53) G 0 dX9_farthestOf_53 rfl rfl ?_
        obtain ⟨x54, hv54, hX⟩ := z_bd hX
        refine z_getR (pc := 54) G kK9 (k := 44) (by decide) kt_1270 dX9_farthestOf_54 hv54 ?_
        refine z_iload (pc := 57) G 6 dX9_farthestOf_57 rfl ?_
        obtain ⟨x59, hv59, hX⟩ := z_bd hX
        refine z_iald (pc := 59) G dX9_farthestOf_59 hv59 ?_
        obtain ⟨r60, hv60, hX⟩ := z_bd hX
        refine z_cSI (pc := 60) (As := [.int l3, .int x59]) (c2 := 0) (s2 := 0) G (lX9_bit hO hv60) kt_1476 kt_11 kt_1474 kt_1475 ydX9_bit ⟨by decide, by decide⟩ rfl (Nat.le_of_ble_eq_true rfl) ⟨rfl, rfl⟩ ⟨by decide, by decide⟩ rfl dX9_farthestOf_60 ?_
        refine z_if_ne (pc := 63) (tgt := 99) G dX9_farthestOf_63 (by decide) (fun hc63 => ?_) (fun hc63 => ?_)
        · have hX := z_if hc63 hX
          refine z_iincw (pc := 99) (w := 1) (lv2 := [(0, .ref l0), (1, .int l1), (2, .int l2), (3, .int l3), (4, .int l4), (5, .int l5), (6, .int (l6 + 1)), (7, .int r24.1)]) G 6 dX9_farthestOf_99 rfl (by decide) (by decide) rfl rfl ?_
          refine z_goto (pc := 102) (tgt := 9) G dX9_farthestOf_102 (by decide) ?_
          refine z_drop (lv2 := [(0, .ref l0), (1, .int l1), (2, .int l2), (3, .int l3), (4, .int l4), (5, .int l5), (6, .int (l6 + 1))]) [0, 1, 2, 3, 4, 5, 6] rfl ?_
          exact H9 _ _ _ _ _ _ _ _ hX
        · have hX := z_it hc63 hX
          refine z_aload_n (pc := 66) G 0 dX9_farthestOf_66 rfl rfl ?_
          refine z_iload_n (pc := 67) G 1 dX9_farthestOf_67 rfl rfl ?_
          refine z_iload (pc := 68) G 7 dX9_farthestOf_68 rfl ?_
          obtain ⟨hi70, hX⟩ := z_gu_s hX
          obtain ⟨r70, hv70, hX⟩ := z_bd hX
          refine z_cVI (pc := 70) (As := [.int l1, .int r24.1]) (c2 := 0) (s2 := 0) G kK9 (lX9_awayFrom hO hv70) hi70 kt_1637 kt_11 kt_1634 kt_1636 ks_75 ydX9_awayFrom ⟨by decide, by decide⟩ rfl (Nat.le_of_ble_eq_true rfl) ⟨rfl, rfl⟩ ⟨by decide, by decide⟩ rfl dX9_farthestOf_70 ?_
          refine z_iload (pc := 73) G 5 dX9_farthestOf_73 rfl ?_
          refine z_icmp_gt (pc := 75) (tgt := 81) G dX9_farthestOf_75 (by decide) (fun hc75 => ?_) (fun hc75 => ?_)
          · have hX := z_it hc75 hX
            refine z_aload_n (pc := 81) G 0 dX9_farthestOf_81 rfl rfl ?_
            obtain ⟨x82, hv82, hX⟩ := z_bd hX
            refine z_getR (pc := 82) G kK9 (k := 44) (by decide) kt_1270 dX9_farthestOf_82 hv82 ?_
            refine z_iload (pc := 85) G 6 dX9_farthestOf_85 rfl ?_
            obtain ⟨x87, hv87, hX⟩ := z_bd hX
            refine z_iald (pc := 87) G dX9_farthestOf_87 hv87 ?_
            refine z_istore (pc := 88) (lv2 := [(0, .ref l0), (1, .int l1), (2, .int l2), (3, .int l3), (4, .int x87), (5, .int l5), (6, .int l6), (7, .int r24.1)]) G dX9_farthestOf_88 (by decide) rfl rfl ?_
            refine z_aload_n (pc := 90) G 0 dX9_farthestOf_90 rfl rfl ?_
            refine z_iload_n (pc := 91) G 1 dX9_farthestOf_91 rfl rfl ?_
            refine z_iload (pc := 92) G 7 dX9_farthestOf_92 rfl ?_
            obtain ⟨hi94, hX⟩ := z_gu_s hX
            obtain ⟨r94, hv94, hX⟩ := z_bd hX
            refine z_cVI (pc := 94) (As := [.int l1, .int r24.1]) (c2 := 0) (s2 := 0) G kK9 (lX9_awayFrom hO hv94) hi94 kt_1637 kt_11 kt_1634 kt_1636 ks_75 ydX9_awayFrom ⟨by decide, by decide⟩ rfl (Nat.le_of_ble_eq_true rfl) ⟨rfl, rfl⟩ ⟨by decide, by decide⟩ rfl dX9_farthestOf_94 ?_
            refine z_istore (pc := 97) (lv2 := [(0, .ref l0), (1, .int l1), (2, .int l2), (3, .int l3), (4, .int x87), (5, .int r94.1), (6, .int l6), (7, .int r24.1)]) G dX9_farthestOf_97 (by decide) rfl rfl ?_
            refine z_iincw (pc := 99) (w := 1) (lv2 := [(0, .ref l0), (1, .int l1), (2, .int l2), (3, .int l3), (4, .int x87), (5, .int r94.1), (6, .int (l6 + 1)), (7, .int r24.1)]) G 6 dX9_farthestOf_99 rfl (by decide) (by decide) rfl rfl ?_
            refine z_goto (pc := 102) (tgt := 9) G dX9_farthestOf_102 (by decide) ?_
            refine z_drop (lv2 := [(0, .ref l0), (1, .int l1), (2, .int l2), (3, .int l3), (4, .int x87), (5, .int r94.1), (6, .int (l6 + 1))]) [0, 1, 2, 3, 4, 5, 6] rfl ?_
            exact H9 _ _ _ _ _ _ _ _ hX
          · have hX := z_if hc75 hX
            refine z_goto (pc := 78) (tgt := 99) G dX9_farthestOf_78 (by decide) ?_
            refine z_iincw (pc := 99) (w := 1) (lv2 := [(0, .ref l0), (1, .int l1), (2, .int l2), (3, .int l3), (4, .int l4), (5, .int l5), (6, .int (l6 + 1)), (7, .int r24.1)]) G 6 dX9_farthestOf_99 rfl (by decide) (by decide) rfl rfl ?_
            refine z_goto (pc := 102) (tgt := 9) G dX9_farthestOf_102 (by decide) ?_
            refine z_drop (lv2 := [(0, .ref l0), (1, .int l1), (2, .int l2), (3, .int l3), (4, .int l4), (5, .int l5), (6, .int (l6 + 1))]) [0, 1, 2, 3, 4, 5, 6] rfl ?_
            exact H9 _ _ _ _ _ _ _ _ hX
set_option maxHeartbeats 4000000 in
set_option maxRecDepth 100000 in
theorem wX9_farthestOf_L9 {Γ : ZG} {p : Program} {l : Launch} {e : Env} {s : State} {m : MethodId} {args : Array Value} {below : List Frame} {meth : Method} {c : Code} (hO : z_OK Γ) (G : z_GG Γ p s m args meth c cX9_farthestOf 8 RX9) (hr : meth.sig.returnType = (some .int)) (hnm : meth.name = "farthestOf") {r : (Int32 × ZH)} : ∀ (nn : Nat) (l0 : Nat) (l1 : Int32) (l2 : Int32) (l3 : Int32) (l4 : Int32) (l5 : Int32) (l6 : Int32) (h : ZH), xX9_farthestOf_L9  nn l0 l1 l2 l3 l4 l5 l6 h = some r → z_W Γ p l e rmX9_farthestOf s m args below meth c 8 0 0 (MQ below (z_Qc Γ (some (.int r.1)) r.2) args s rmX9_farthestOf.cells rmX9_farthestOf.slots (z_A Γ)) 9 [(0, .ref l0), (1, .int l1), (2, .int l2), (3, .int l3), (4, .int l4), (5, .int l5), (6, .int l6)] [] h := by
  intro nn
  induction nn with
  | zero => intro l0 l1 l2 l3 l4 l5 l6 h hX; cases hX
  | succ nn ih => intro l0 l1 l2 l3 l4 l5 l6 h hX; exact wX9_farthestOf_B9 hO G hr hnm  ih l0 l1 l2 l3 l4 l5 l6 h hX
noncomputable def xX9_farthestOf (l0 : Nat) (l1 : Int32) (l2 : Int32) (l3 : Int32) (h : ZH) : Option (Int32 × ZH) := xX9_farthestOf_L9 zFU l0 l1 l2 l3 (-1 : Int32) (-1 : Int32) (0 : Int32) h
set_option maxHeartbeats 4000000 in
set_option maxRecDepth 100000 in
theorem lX9_farthestOf {Γ : ZG} {l : Launch} (hO : z_OK Γ) {l0 : Nat} {l1 : Int32} {l2 : Int32} {l3 : Int32} {h : ZH} {r : (Int32 × ZH)} (hX : xX9_farthestOf l0 l1 l2 l3 h = some r) : z_M Γ l yX9_farthestOf (z_ws1 yX9_farthestOf cX9_farthestOf 8 (some .int)) rmX9_farthestOf [.ref l0, .int l1, .int l2, .int l3] h (some (.int r.1)) r.2 := by
  refine z_start hO (plainFor_of_name (by decide)) (Nat.le_of_ble_eq_true rfl) ?_
  intro p e s m args below meth c G hr hnm
  refine z_lvc (lv2 := [(0, .ref l0), (1, .int l1), (2, .int l2), (3, .int l3)]) rfl ?_
  refine z_iconst (pc := 0) (v := (-1)) G dX9_farthestOf_0 (by decide) ?_
  refine z_istore (pc := 1) (lv2 := [(0, .ref l0), (1, .int l1), (2, .int l2), (3, .int l3), (4, .int (-1 : Int32))]) G dX9_farthestOf_1 (by decide) rfl rfl ?_
  refine z_iconst (pc := 3) (v := (-1)) G dX9_farthestOf_3 (by decide) ?_
  refine z_istore (pc := 4) (lv2 := [(0, .ref l0), (1, .int l1), (2, .int l2), (3, .int l3), (4, .int (-1 : Int32)), (5, .int (-1 : Int32))]) G dX9_farthestOf_4 (by decide) rfl rfl ?_
  refine z_iconst (pc := 6) (v := 0) G dX9_farthestOf_6 (by decide) ?_
  refine z_istore (pc := 7) (lv2 := [(0, .ref l0), (1, .int l1), (2, .int l2), (3, .int l3), (4, .int (-1 : Int32)), (5, .int (-1 : Int32)), (6, .int (0 : Int32))]) G dX9_farthestOf_7 (by decide) rfl rfl ?_
  exact wX9_farthestOf_L9 hO G hr hnm zFU _ _ _ _ _ _ _ _ hX
