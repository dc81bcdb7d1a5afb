/-! ===== PlainLearner$Node.reckonCell(II)J ===== -/
abbrev kd_No_reckonCell : mv_Kd := (cd_No_reckonCell, 8, "PlainLearner$Node", "reckonCell", (some .long), 3, 90)
theorem de_No_reckonCell_0 : decode cd_No_reckonCell 0 = .ok (.aload_n 0, 1) := by decide +kernel
theorem de_No_reckonCell_1 : decode cd_No_reckonCell 1 = .ok (.getfield 25, 3) := by decide +kernel
theorem de_No_reckonCell_4 : decode cd_No_reckonCell 4 = .ok (.getfield 47, 3) := by decide +kernel
theorem de_No_reckonCell_7 : decode cd_No_reckonCell 7 = .ok (.iload_n 1, 1) := by decide +kernel
theorem de_No_reckonCell_8 : decode cd_No_reckonCell 8 = .ok (.laload, 1) := by decide +kernel
theorem de_No_reckonCell_9 : decode cd_No_reckonCell 9 = .ok (.lstore_n 3, 1) := by decide +kernel
theorem de_No_reckonCell_10 : decode cd_No_reckonCell 10 = .ok (.aload_n 0, 1) := by decide +kernel
theorem de_No_reckonCell_11 : decode cd_No_reckonCell 11 = .ok (.getfield 29, 3) := by decide +kernel
theorem de_No_reckonCell_14 : decode cd_No_reckonCell 14 = .ok (.ifnonnull 7, 3) := by decide +kernel
theorem de_No_reckonCell_17 : decode cd_No_reckonCell 17 = .ok (.lconst 0, 1) := by decide +kernel
theorem de_No_reckonCell_18 : decode cd_No_reckonCell 18 = .ok (.goto 12, 3) := by decide +kernel
theorem de_No_reckonCell_21 : decode cd_No_reckonCell 21 = .ok (.aload_n 0, 1) := by decide +kernel
theorem de_No_reckonCell_22 : decode cd_No_reckonCell 22 = .ok (.getfield 29, 3) := by decide +kernel
theorem de_No_reckonCell_25 : decode cd_No_reckonCell 25 = .ok (.getfield 47, 3) := by decide +kernel
theorem de_No_reckonCell_28 : decode cd_No_reckonCell 28 = .ok (.iload_n 2, 1) := by decide +kernel
theorem de_No_reckonCell_29 : decode cd_No_reckonCell 29 = .ok (.laload, 1) := by decide +kernel
theorem de_No_reckonCell_30 : decode cd_No_reckonCell 30 = .ok (.lstore 5, 2) := by decide +kernel
theorem de_No_reckonCell_32 : decode cd_No_reckonCell 32 = .ok (.aload_n 0, 1) := by decide +kernel
theorem de_No_reckonCell_33 : decode cd_No_reckonCell 33 = .ok (.getfield 15, 3) := by decide +kernel
theorem de_No_reckonCell_36 : decode cd_No_reckonCell 36 = .ok (.tableswitch 213 0 15 #[80, 87, 97, 104, 114, 121, 127, 146, 213, 213, 173, 178, 191, 207, 213, 121], 80) := by decide +kernel
theorem de_No_reckonCell_116 : decode cd_No_reckonCell 116 = .ok (.lload_n 3, 1) := by decide +kernel
theorem de_No_reckonCell_117 : decode cd_No_reckonCell 117 = .ok (.lload 5, 2) := by decide +kernel
theorem de_No_reckonCell_119 : decode cd_No_reckonCell 119 = .ok (.invokestatic 107, 3) := by decide +kernel
theorem de_No_reckonCell_122 : decode cd_No_reckonCell 122 = .ok (.lreturn, 1) := by decide +kernel
theorem de_No_reckonCell_123 : decode cd_No_reckonCell 123 = .ok (.lload_n 3, 1) := by decide +kernel
theorem de_No_reckonCell_124 : decode cd_No_reckonCell 124 = .ok (.lload 5, 2) := by decide +kernel
theorem de_No_reckonCell_126 : decode cd_No_reckonCell 126 = .ok (.invokestatic 111, 3) := by decide +kernel
theorem de_No_reckonCell_129 : decode cd_No_reckonCell 129 = .ok (.invokestatic 107, 3) := by decide +kernel
theorem de_No_reckonCell_132 : decode cd_No_reckonCell 132 = .ok (.lreturn, 1) := by decide +kernel
theorem de_No_reckonCell_133 : decode cd_No_reckonCell 133 = .ok (.lload_n 3, 1) := by decide +kernel
theorem de_No_reckonCell_134 : decode cd_No_reckonCell 134 = .ok (.lload 5, 2) := by decide +kernel
theorem de_No_reckonCell_136 : decode cd_No_reckonCell 136 = .ok (.invokestatic 115, 3) := by decide +kernel
theorem de_No_reckonCell_139 : decode cd_No_reckonCell 139 = .ok (.lreturn, 1) := by decide +kernel
theorem de_No_reckonCell_140 : decode cd_No_reckonCell 140 = .ok (.lload_n 3, 1) := by decide +kernel
theorem de_No_reckonCell_141 : decode cd_No_reckonCell 141 = .ok (.lload 5, 2) := by decide +kernel
theorem de_No_reckonCell_143 : decode cd_No_reckonCell 143 = .ok (.invokestatic 118, 3) := by decide +kernel
theorem de_No_reckonCell_146 : decode cd_No_reckonCell 146 = .ok (.invokestatic 115, 3) := by decide +kernel
theorem de_No_reckonCell_149 : decode cd_No_reckonCell 149 = .ok (.lreturn, 1) := by decide +kernel
theorem de_No_reckonCell_150 : decode cd_No_reckonCell 150 = .ok (.aload_n 0, 1) := by decide +kernel
theorem de_No_reckonCell_151 : decode cd_No_reckonCell 151 = .ok (.iload_n 1, 1) := by decide +kernel
theorem de_No_reckonCell_152 : decode cd_No_reckonCell 152 = .ok (.iload_n 2, 1) := by decide +kernel
theorem de_No_reckonCell_153 : decode cd_No_reckonCell 153 = .ok (.invokevirtual 121, 3) := by decide +kernel
theorem de_No_reckonCell_156 : decode cd_No_reckonCell 156 = .ok (.lreturn, 1) := by decide +kernel
theorem de_No_reckonCell_157 : decode cd_No_reckonCell 157 = .ok (.aload_n 0, 1) := by decide +kernel
theorem de_No_reckonCell_158 : decode cd_No_reckonCell 158 = .ok (.iload_n 1, 1) := by decide +kernel
theorem de_No_reckonCell_159 : decode cd_No_reckonCell 159 = .ok (.invokevirtual 124, 3) := by decide +kernel
theorem de_No_reckonCell_162 : decode cd_No_reckonCell 162 = .ok (.lreturn, 1) := by decide +kernel
theorem de_No_reckonCell_163 : decode cd_No_reckonCell 163 = .ok (.aload_n 0, 1) := by decide +kernel
theorem de_No_reckonCell_164 : decode cd_No_reckonCell 164 = .ok (.iload_n 1, 1) := by decide +kernel
theorem de_No_reckonCell_165 : decode cd_No_reckonCell 165 = .ok (.invokevirtual 124, 3) := by decide +kernel
theorem de_No_reckonCell_168 : decode cd_No_reckonCell 168 = .ok (.aload_n 0, 1) := by decide +kernel
theorem de_No_reckonCell_169 : decode cd_No_reckonCell 169 = .ok (.getfield 39, 3) := by decide +kernel
theorem de_No_reckonCell_172 : decode cd_No_reckonCell 172 = .ok (.invokestatic 128, 3) := by decide +kernel
theorem de_No_reckonCell_175 : decode cd_No_reckonCell 175 = .ok (.invokestatic 118, 3) := by decide +kernel
theorem de_No_reckonCell_178 : decode cd_No_reckonCell 178 = .ok (.invokestatic 115, 3) := by decide +kernel
theorem de_No_reckonCell_181 : decode cd_No_reckonCell 181 = .ok (.lreturn, 1) := by decide +kernel
theorem de_No_reckonCell_182 : decode cd_No_reckonCell 182 = .ok (.aload_n 0, 1) := by decide +kernel
theorem de_No_reckonCell_183 : decode cd_No_reckonCell 183 = .ok (.iload_n 1, 1) := by decide +kernel
theorem de_No_reckonCell_184 : decode cd_No_reckonCell 184 = .ok (.invokevirtual 131, 3) := by decide +kernel
theorem de_No_reckonCell_187 : decode cd_No_reckonCell 187 = .ok (.istore 7, 2) := by decide +kernel
theorem de_No_reckonCell_189 : decode cd_No_reckonCell 189 = .ok (.iload 7, 2) := by decide +kernel
theorem de_No_reckonCell_191 : decode cd_No_reckonCell 191 = .ok (.ifCond .ge 7, 3) := by decide +kernel
theorem de_No_reckonCell_194 : decode cd_No_reckonCell 194 = .ok (.lconst 0, 1) := by decide +kernel
theorem de_No_reckonCell_195 : decode cd_No_reckonCell 195 = .ok (.goto 13, 3) := by decide +kernel
theorem de_No_reckonCell_198 : decode cd_No_reckonCell 198 = .ok (.aload_n 0, 1) := by decide +kernel
theorem de_No_reckonCell_199 : decode cd_No_reckonCell 199 = .ok (.getfield 25, 3) := by decide +kernel
theorem de_No_reckonCell_202 : decode cd_No_reckonCell 202 = .ok (.getfield 47, 3) := by decide +kernel
theorem de_No_reckonCell_205 : decode cd_No_reckonCell 205 = .ok (.iload 7, 2) := by decide +kernel
theorem de_No_reckonCell_207 : decode cd_No_reckonCell 207 = .ok (.laload, 1) := by decide +kernel
theorem de_No_reckonCell_208 : decode cd_No_reckonCell 208 = .ok (.lreturn, 1) := by decide +kernel
theorem de_No_reckonCell_209 : decode cd_No_reckonCell 209 = .ok (.lload_n 3, 1) := by decide +kernel
theorem de_No_reckonCell_210 : decode cd_No_reckonCell 210 = .ok (.invokestatic 111, 3) := by decide +kernel
theorem de_No_reckonCell_213 : decode cd_No_reckonCell 213 = .ok (.lreturn, 1) := by decide +kernel
theorem de_No_reckonCell_214 : decode cd_No_reckonCell 214 = .ok (.lload_n 3, 1) := by decide +kernel
theorem de_No_reckonCell_215 : decode cd_No_reckonCell 215 = .ok (.invokestatic 134, 3) := by decide +kernel
theorem de_No_reckonCell_218 : decode cd_No_reckonCell 218 = .ok (.ifCond .ge 7, 3) := by decide +kernel
theorem de_No_reckonCell_221 : decode cd_No_reckonCell 221 = .ok (.lconst 1, 1) := by decide +kernel
theorem de_No_reckonCell_222 : decode cd_No_reckonCell 222 = .ok (.goto 4, 3) := by decide +kernel
theorem de_No_reckonCell_225 : decode cd_No_reckonCell 225 = .ok (.lload_n 3, 1) := by decide +kernel
theorem de_No_reckonCell_226 : decode cd_No_reckonCell 226 = .ok (.lreturn, 1) := by decide +kernel
theorem de_No_reckonCell_227 : decode cd_No_reckonCell 227 = .ok (.lload_n 3, 1) := by decide +kernel
theorem de_No_reckonCell_228 : decode cd_No_reckonCell 228 = .ok (.invokestatic 134, 3) := by decide +kernel
theorem de_No_reckonCell_231 : decode cd_No_reckonCell 231 = .ok (.ifCond .ge 10, 3) := by decide +kernel
theorem de_No_reckonCell_234 : decode cd_No_reckonCell 234 = .ok (.lload_n 3, 1) := by decide +kernel
theorem de_No_reckonCell_235 : decode cd_No_reckonCell 235 = .ok (.invokestatic 111, 3) := by decide +kernel
theorem de_No_reckonCell_238 : decode cd_No_reckonCell 238 = .ok (.goto 4, 3) := by decide +kernel
theorem de_No_reckonCell_241 : decode cd_No_reckonCell 241 = .ok (.lload_n 3, 1) := by decide +kernel
theorem de_No_reckonCell_242 : decode cd_No_reckonCell 242 = .ok (.lreturn, 1) := by decide +kernel
theorem de_No_reckonCell_243 : decode cd_No_reckonCell 243 = .ok (.lload_n 3, 1) := by decide +kernel
theorem de_No_reckonCell_244 : decode cd_No_reckonCell 244 = .ok (.lload_n 3, 1) := by decide +kernel
theorem de_No_reckonCell_245 : decode cd_No_reckonCell 245 = .ok (.invokestatic 115, 3) := by decide +kernel
theorem de_No_reckonCell_248 : decode cd_No_reckonCell 248 = .ok (.lreturn, 1) := by decide +kernel
theorem de_No_reckonCell_249 : decode cd_No_reckonCell 249 = .ok (.lload_n 3, 1) := by decide +kernel
theorem de_No_reckonCell_250 : decode cd_No_reckonCell 250 = .ok (.lreturn, 1) := by decide +kernel
def jb_No_reckonCell_242 (N : Nat) (M : mv_M) (s0 : Int64) : Option (Int64 × mv_M) :=
  some (s0, M)
def jb_No_reckonCell_226 (N : Nat) (M : mv_M) (s0 : Int64) : Option (Int64 × mv_M) :=
  some (s0, M)
def jb_No_reckonCell_208 (N : Nat) (M : mv_M) (s0 : Int64) : Option (Int64 × mv_M) :=
  some (s0, M)
def jb_No_reckonCell_30 (N : Nat) (M : mv_M) (v0 : Nat) (v1 : Int32) (v2 : Int32) (v3 : Int64) (s0 : Int64) : Option (Int64 × mv_M) :=
  Option.bind (mj_getI M v0 2 1) fun x33 =>
  if x33 = 0 then (mj_call (jf_Fr_add N M v3 s0) fun r119 Mm119 =>
  some (r119, Mm119)) else
  if x33 = 1 then (mj_call (jf_Fr_minus N M s0) fun r126 Mm126 =>
  mj_call (jf_Fr_add N Mm126 v3 r126) fun r129 Mm129 =>
  some (r129, Mm129)) else
  if x33 = 2 then (mj_call (jf_Fr_times N M v3 s0) fun r136 Mm136 =>
  some (r136, Mm136)) else
  if x33 = 3 then (mj_call (jf_Fr_inverse N M s0) fun r143 Mm143 =>
  mj_call (jf_Fr_times N Mm143 v3 r143) fun r146 Mm146 =>
  some (r146, Mm146)) else
  if x33 = 4 then (mj_ob M v0 2 <|
  mj_call (jf_No_sumOfProducts N M v0 v1 v2) fun r153 Mm153 =>
  some (r153, Mm153)) else
  if x33 = 5 then (mj_ob M v0 2 <|
  mj_call (jf_No_sumOfRow N M v0 v1) fun r159 Mm159 =>
  some (r159, Mm159)) else
  if x33 = 6 then (mj_ob M v0 2 <|
  mj_call (jf_No_sumOfRow N M v0 v1) fun r165 Mm165 =>
  Option.bind (mj_getI Mm165 v0 2 8) fun x169 =>
  mj_call (jf_Fr_whole N Mm165 x169) fun r172 Mm172 =>
  mj_call (jf_Fr_inverse N Mm172 r172) fun r175 Mm175 =>
  mj_call (jf_Fr_times N Mm175 r165 r175) fun r178 Mm178 =>
  some (r178, Mm178)) else
  if x33 = 7 then (mj_ob M v0 2 <|
  mj_call (jf_No_greatestOfRow N M v0 v1) fun r184 Mm184 =>
  if 0 ≤ r184 then (Option.bind (mj_getR Mm184 v0 2 4) fun x199 =>
  Option.bind x199 fun a202 =>
  Option.bind (mj_getR Mm184 a202 2 9) fun x202 =>
  Option.bind x202 fun a207 =>
  Option.bind (mj_lld Mm184 a207 1 r184) fun x207 =>
  jb_No_reckonCell_208 N Mm184 x207) else
  jb_No_reckonCell_208 N Mm184 0) else
  if x33 = 8 then (some (v3, M)) else
  if x33 = 9 then (some (v3, M)) else
  if x33 = 10 then (mj_call (jf_Fr_minus N M v3) fun r210 Mm210 =>
  some (r210, Mm210)) else
  if x33 = 11 then (mj_call (jf_Fr_sign N M v3) fun r215 Mm215 =>
  if 0 ≤ r215 then (jb_No_reckonCell_226 N Mm215 v3) else
  jb_No_reckonCell_226 N Mm215 1) else
  if x33 = 12 then (mj_call (jf_Fr_sign N M v3) fun r228 Mm228 =>
  if 0 ≤ r228 then (jb_No_reckonCell_242 N Mm228 v3) else
  mj_call (jf_Fr_minus N Mm228 v3) fun r235 Mm235 =>
  jb_No_reckonCell_242 N Mm235 r235) else
  if x33 = 13 then (mj_call (jf_Fr_times N M v3 v3) fun r245 Mm245 =>
  some (r245, Mm245)) else
  if x33 = 14 then (some (v3, M)) else
  if x33 = 15 then (mj_ob M v0 2 <|
  mj_call (jf_No_sumOfRow N M v0 v1) fun r159 Mm159 =>
  some (r159, Mm159)) else
  some (v3, M)
def jb_No_reckonCell_0 (N : Nat) (M : mv_M) (v0 : Nat) (v1 : Int32) (v2 : Int32) : Option (Int64 × mv_M) :=
  Option.bind (mj_getR M v0 2 4) fun x1 =>
  Option.bind x1 fun a4 =>
  Option.bind (mj_getR M a4 2 9) fun x4 =>
  Option.bind x4 fun a8 =>
  Option.bind (mj_lld M a8 1 v1) fun x8 =>
  Option.bind (mj_getR M v0 2 5) fun x11 =>
  mj_opt x11 (jb_No_reckonCell_30 N M v0 v1 v2 x8 0) fun a14 =>
  Option.bind (mj_getR M v0 2 5) fun x22 =>
  Option.bind x22 fun a25 =>
  Option.bind (mj_getR M a25 2 9) fun x25 =>
  Option.bind x25 fun a29 =>
  Option.bind (mj_lld M a29 1 v2) fun x29 =>
  jb_No_reckonCell_30 N M v0 v1 v2 x8 x29
def jf_No_reckonCell (N : Nat) (M : mv_M) (v0 : Nat) (v1 : Int32) (v2 : Int32) : Option (Int64 × mv_M) := jb_No_reckonCell_0 N M v0 v1 v2
set_option maxHeartbeats 4000000 in
set_option maxRecDepth 100000 in
theorem tb_No_reckonCell_242 (l : Launch) (D : va_G) (E : Nat → ClassId) (B : Nat) (sa : (Nat → Nat) × Nat × (Nat → Int32)) (M0 M1 : mv_M) (r : Int64) (N : Nat) (M : mv_M) (s0 : Int64) (hJ : jb_No_reckonCell_242 N M s0 = some (r, M1)) : mv_G (xg l D E B sa) kd_No_reckonCell M0 M1 (some (.long r)) M 242 [] [.long s0] := by
  unfold jb_No_reckonCell_242 at hJ
  exact mv_lret (pc := 242) rfl de_No_reckonCell_242 hJ
set_option maxHeartbeats 4000000 in
set_option maxRecDepth 100000 in
theorem tb_No_reckonCell_226 (l : Launch) (D : va_G) (E : Nat → ClassId) (B : Nat) (sa : (Nat → Nat) × Nat × (Nat → Int32)) (M0 M1 : mv_M) (r : Int64) (N : Nat) (M : mv_M) (s0 : Int64) (hJ : jb_No_reckonCell_226 N M s0 = some (r, M1)) : mv_G (xg l D E B sa) kd_No_reckonCell M0 M1 (some (.long r)) M 226 [] [.long s0] := by
  unfold jb_No_reckonCell_226 at hJ
  exact mv_lret (pc := 226) rfl de_No_reckonCell_226 hJ
set_option maxHeartbeats 4000000 in
set_option maxRecDepth 100000 in
theorem tb_No_reckonCell_208 (l : Launch) (D : va_G) (E : Nat → ClassId) (B : Nat) (sa : (Nat → Nat) × Nat × (Nat → Int32)) (M0 M1 : mv_M) (r : Int64) (N : Nat) (M : mv_M) (s0 : Int64) (hJ : jb_No_reckonCell_208 N M s0 = some (r, M1)) : mv_G (xg l D E B sa) kd_No_reckonCell M0 M1 (some (.long r)) M 208 [] [.long s0] := by
  unfold jb_No_reckonCell_208 at hJ
  exact mv_lret (pc := 208) rfl de_No_reckonCell_208 hJ
set_option maxHeartbeats 4000000 in
set_option maxRecDepth 100000 in
theorem tb_No_reckonCell_30 (l : Launch) (D : va_G) (E : Nat → ClassId) (B : Nat) (sa : (Nat → Nat) × Nat × (Nat → Int32)) (M0 M1 : mv_M) (r : Int64) (N : Nat) (M : mv_M) (v0 : Nat) (v1 : Int32) (v2 : Int32) (v3 : Int64) (s0 : Int64) (hJ : jb_No_reckonCell_30 N M v0 v1 v2 v3 s0 = some (r, M1)) : mv_G (xg l D E B sa) kd_No_reckonCell M0 M1 (some (.long r)) M 30 [(0, va_rf (some v0)), (1, .int v1), (2, .int v2), (3, .long v3)] [.long s0] := by
  unfold jb_No_reckonCell_30 at hJ
  refine mv_lstore (pc := 30) (lv' := [(5, .long s0), (0, va_rf (some v0)), (1, .int v1), (2, .int v2), (3, .long v3)]) de_No_reckonCell_30 (Nat.le_of_ble_eq_true rfl) rfl ?_
  refine mv_aload_n (pc := 32) (i := 0) de_No_reckonCell_32 rfl 1 rfl ?_
  refine mv_getI (pc := 33) (f := 1) (kc_2 l D E B sa) (Nat.le_of_ble_eq_true rfl) wt_1_222 de_No_reckonCell_33 hJ (fun x33 e33 h33 => ?_)
  by_cases hs36_0 : x33 = 0
  · rw [if_pos hs36_0] at h33
    refine mv_tin (pc := 36) (tgt := 116) (off := 80) 0 de_No_reckonCell_36 hs36_0 (by decide) (by decide) ?_
    refine mv_lload_n (pc := 116) (i := 3) de_No_reckonCell_116 rfl 4 rfl ?_
    refine mv_lload (pc := 117) de_No_reckonCell_117 0 rfl ?_
    obtain ⟨r119, Mm119, hz119, h119⟩ := mj_callE h33
    refine mv_callS (pc := 119) (n := 2) (av := [.long v3, .long s0]) (rest := []) de_No_reckonCell_119 (cm_Fr_add l D E B sa N M v3 s0 _ _ hz119) wt_2_217 wt_2_218 wt_1_3 wt_2_219 ⟨by decide, by decide, by decide +kernel⟩ rfl ⟨Nat.le_of_ble_eq_true rfl, Nat.le_of_ble_eq_true rfl⟩ (Nat.le_of_ble_eq_true rfl) rfl ?_
    exact mv_lret (pc := 122) rfl de_No_reckonCell_122 h119
  rw [if_neg hs36_0] at h33
  by_cases hs36_1 : x33 = 1
  · rw [if_pos hs36_1] at h33
    refine mv_tin (pc := 36) (tgt := 123) (off := 87) 1 de_No_reckonCell_36 hs36_1 (by decide) (by decide) ?_
    refine mv_lload_n (pc := 123) (i := 3) de_No_reckonCell_123 rfl 4 rfl ?_
    refine mv_lload (pc := 124) de_No_reckonCell_124 0 rfl ?_
    obtain ⟨r126, Mm126, hz126, h126⟩ := mj_callE h33
    refine mv_callS (pc := 126) (n := 1) (av := [.long s0]) (rest := [.long v3]) de_No_reckonCell_126 (cm_Fr_minus l D E B sa N M s0 _ _ hz126) wt_2_228 wt_2_229 wt_1_3 wt_2_230 ⟨by decide, by decide, by decide +kernel⟩ rfl ⟨Nat.le_of_ble_eq_true rfl, Nat.le_of_ble_eq_true rfl⟩ (Nat.le_of_ble_eq_true rfl) rfl ?_
    obtain ⟨r129, Mm129, hz129, h129⟩ := mj_callE h126
    refine mv_callS (pc := 129) (n := 2) (av := [.long v3, .long r126]) (rest := []) de_No_reckonCell_129 (cm_Fr_add l D E B sa N Mm126 v3 r126 _ _ hz129) wt_2_217 wt_2_218 wt_1_3 wt_2_219 ⟨by decide, by decide, by decide +kernel⟩ rfl ⟨Nat.le_of_ble_eq_true rfl, Nat.le_of_ble_eq_true rfl⟩ (Nat.le_of_ble_eq_true rfl) rfl ?_
    exact mv_lret (pc := 132) rfl de_No_reckonCell_132 h129
  rw [if_neg hs36_1] at h33
  by_cases hs36_2 : x33 = 2
  · rw [if_pos hs36_2] at h33
    refine mv_tin (pc := 36) (tgt := 133) (off := 97) 2 de_No_reckonCell_36 hs36_2 (by decide) (by decide) ?_
    refine mv_lload_n (pc := 133) (i := 3) de_No_reckonCell_133 rfl 4 rfl ?_
    refine mv_lload (pc := 134) de_No_reckonCell_134 0 rfl ?_
    obtain ⟨r136, Mm136, hz136, h136⟩ := mj_callE h33
    refine mv_callS (pc := 136) (n := 2) (av := [.long v3, .long s0]) (rest := []) de_No_reckonCell_136 (cm_Fr_times l D E B sa N M v3 s0 _ _ hz136) wt_2_220 wt_2_221 wt_1_3 wt_2_222 ⟨by decide, by decide, by decide +kernel⟩ rfl ⟨Nat.le_of_ble_eq_true rfl, Nat.le_of_ble_eq_true rfl⟩ (Nat.le_of_ble_eq_true rfl) rfl ?_
    exact mv_lret (pc := 139) rfl de_No_reckonCell_139 h136
  rw [if_neg hs36_2] at h33
  by_cases hs36_3 : x33 = 3
  · rw [if_pos hs36_3] at h33
    refine mv_tin (pc := 36) (tgt := 140) (off := 104) 3 de_No_reckonCell_36 hs36_3 (by decide) (by decide) ?_
    refine mv_lload_n (pc := 140) (i := 3) de_No_reckonCell_140 rfl 4 rfl ?_
    refine mv_lload (pc := 141) de_No_reckonCell_141 0 rfl ?_
    obtain ⟨r143, Mm143, hz143, h143⟩ := mj_callE h33
    refine mv_callS (pc := 143) (n := 1) (av := [.long s0]) (rest := [.long v3]) de_No_reckonCell_143 (cm_Fr_inverse l D E B sa N M s0 _ _ hz143) wt_2_205 wt_2_206 wt_1_3 wt_2_207 ⟨by decide, by decide, by decide +kernel⟩ rfl ⟨Nat.le_of_ble_eq_true rfl, Nat.le_of_ble_eq_true rfl⟩ (Nat.le_of_ble_eq_true rfl) rfl ?_
    obtain ⟨r146, Mm146, hz146, h146⟩ := mj_callE h143
    refine mv_callS (pc := 146) (n := 2) (av := [.long v3, .long r143]) (rest := []) de_No_reckonCell_146 (cm_Fr_times l D E B sa N Mm143 v3 r143 _ _ hz146) wt_2_220 wt_2_221 wt_1_3 wt_2_222 ⟨by decide, by decide, by decide +kernel⟩ rfl ⟨Nat.le_of_ble_eq_true rfl, Nat.le_of_ble_eq_true rfl⟩ (Nat.le_of_ble_eq_true rfl) rfl ?_
    exact mv_lret (pc := 149) rfl de_No_reckonCell_149 h146
  rw [if_neg hs36_3] at h33
  by_cases hs36_4 : x33 = 4
  · rw [if_pos hs36_4] at h33
    refine mv_tin (pc := 36) (tgt := 150) (off := 114) 4 de_No_reckonCell_36 hs36_4 (by decide) (by decide) ?_
    refine mv_aload_n (pc := 150) (i := 0) de_No_reckonCell_150 rfl 1 rfl ?_
    refine mv_iload_n (pc := 151) (i := 1) de_No_reckonCell_151 rfl 2 rfl ?_
    refine mv_iload_n (pc := 152) (i := 2) de_No_reckonCell_152 rfl 3 rfl ?_
    obtain ⟨hi153, h153o⟩ := mj_obE h33
    obtain ⟨r153, Mm153, hz153, h153⟩ := mj_callE h153o
    refine mv_callV (pc := 153) (n := 2) (av := [.int v1, .int v2]) (rest := []) de_No_reckonCell_153 (kc_2 l D E B sa) hi153 (cm_No_sumOfProducts l D E B sa N M v0 v1 v2 _ _ hz153) wt_2_235 wt_2_237 wp_9 wt_1_10 wt_2_238 ⟨by decide, by decide, by decide +kernel⟩ rfl ⟨Nat.le_of_ble_eq_true rfl, Nat.le_of_ble_eq_true rfl⟩ (Nat.le_of_ble_eq_true rfl) rfl ?_
    exact mv_lret (pc := 156) rfl de_No_reckonCell_156 h153
  rw [if_neg hs36_4] at h33
  by_cases hs36_5 : x33 = 5
  · rw [if_pos hs36_5] at h33
    refine mv_tin (pc := 36) (tgt := 157) (off := 121) 5 de_No_reckonCell_36 hs36_5 (by decide) (by decide) ?_
    refine mv_aload_n (pc := 157) (i := 0) de_No_reckonCell_157 rfl 1 rfl ?_
    refine mv_iload_n (pc := 158) (i := 1) de_No_reckonCell_158 rfl 2 rfl ?_
    obtain ⟨hi159, h159o⟩ := mj_obE h33
    obtain ⟨r159, Mm159, hz159, h159⟩ := mj_callE h159o
    refine mv_callV (pc := 159) (n := 1) (av := [.int v1]) (rest := []) de_No_reckonCell_159 (kc_2 l D E B sa) hi159 (cm_No_sumOfRow l D E B sa N M v0 v1 _ _ hz159) wt_2_239 wt_3_1 wp_10 wt_1_10 wt_3_2 ⟨by decide, by decide, by decide +kernel⟩ rfl ⟨Nat.le_of_ble_eq_true rfl, Nat.le_of_ble_eq_true rfl⟩ (Nat.le_of_ble_eq_true rfl) rfl ?_
    exact mv_lret (pc := 162) rfl de_No_reckonCell_162 h159
  rw [if_neg hs36_5] at h33
  by_cases hs36_6 : x33 = 6
  · rw [if_pos hs36_6] at h33
    refine mv_tin (pc := 36) (tgt := 163) (off := 127) 6 de_No_reckonCell_36 hs36_6 (by decide) (by decide) ?_
    refine mv_aload_n (pc := 163) (i := 0) de_No_reckonCell_163 rfl 1 rfl ?_
    refine mv_iload_n (pc := 164) (i := 1) de_No_reckonCell_164 rfl 2 rfl ?_
    obtain ⟨hi165, h165o⟩ := mj_obE h33
    obtain ⟨r165, Mm165, hz165, h165⟩ := mj_callE h165o
    refine mv_callV (pc := 165) (n := 1) (av := [.int v1]) (rest := []) de_No_reckonCell_165 (kc_2 l D E B sa) hi165 (cm_No_sumOfRow l D E B sa N M v0 v1 _ _ hz165) wt_2_239 wt_3_1 wp_10 wt_1_10 wt_3_2 ⟨by decide, by decide, by decide +kernel⟩ rfl ⟨Nat.le_of_ble_eq_true rfl, Nat.le_of_ble_eq_true rfl⟩ (Nat.le_of_ble_eq_true rfl) rfl ?_
    refine mv_aload_n (pc := 168) (i := 0) de_No_reckonCell_168 rfl 1 rfl ?_
    refine mv_getI (pc := 169) (f := 8) (kc_2 l D E B sa) (Nat.le_of_ble_eq_true rfl) wt_1_231 de_No_reckonCell_169 h165 (fun x169 e169 h169 => ?_)
    obtain ⟨r172, Mm172, hz172, h172⟩ := mj_callE h169
    refine mv_callS (pc := 172) (n := 1) (av := [.int x169]) (rest := [.long r165]) de_No_reckonCell_172 (cm_Fr_whole l D E B sa N Mm165 x169 _ _ hz172) wt_2_208 wt_2_209 wt_1_3 wt_2_210 ⟨by decide, by decide, by decide +kernel⟩ rfl ⟨Nat.le_of_ble_eq_true rfl, Nat.le_of_ble_eq_true rfl⟩ (Nat.le_of_ble_eq_true rfl) rfl ?_
    obtain ⟨r175, Mm175, hz175, h175⟩ := mj_callE h172
    refine mv_callS (pc := 175) (n := 1) (av := [.long r172]) (rest := [.long r165]) de_No_reckonCell_175 (cm_Fr_inverse l D E B sa N Mm172 r172 _ _ hz175) wt_2_205 wt_2_206 wt_1_3 wt_2_207 ⟨by decide, by decide, by decide +kernel⟩ rfl ⟨Nat.le_of_ble_eq_true rfl, Nat.le_of_ble_eq_true rfl⟩ (Nat.le_of_ble_eq_true rfl) rfl ?_
    obtain ⟨r178, Mm178, hz178, h178⟩ := mj_callE h175
    refine mv_callS (pc := 178) (n := 2) (av := [.long r165, .long r175]) (rest := []) de_No_reckonCell_178 (cm_Fr_times l D E B sa N Mm175 r165 r175 _ _ hz178) wt_2_220 wt_2_221 wt_1_3 wt_2_222 ⟨by decide, by decide, by decide +kernel⟩ rfl ⟨Nat.le_of_ble_eq_true rfl, Nat.le_of_ble_eq_true rfl⟩ (Nat.le_of_ble_eq_true rfl) rfl ?_
    exact mv_lret (pc := 181) rfl de_No_reckonCell_181 h178
  rw [if_neg hs36_6] at h33
  by_cases hs36_7 : x33 = 7
  · rw [if_pos hs36_7] at h33
    refine mv_tin (pc := 36) (tgt := 182) (off := 146) 7 de_No_reckonCell_36 hs36_7 (by decide) (by decide) ?_
    refine mv_aload_n (pc := 182) (i := 0) de_No_reckonCell_182 rfl 1 rfl ?_
    refine mv_iload_n (pc := 183) (i := 1) de_No_reckonCell_183 rfl 2 rfl ?_
    obtain ⟨hi184, h184o⟩ := mj_obE h33
    obtain ⟨r184, Mm184, hz184, h184⟩ := mj_callE h184o
    refine mv_callV (pc := 184) (n := 1) (av := [.int v1]) (rest := []) de_No_reckonCell_184 (kc_2 l D E B sa) hi184 (cm_No_greatestOfRow l D E B sa N M v0 v1 _ _ hz184) wt_2_185 wt_2_187 wp_5 wt_1_10 wt_2_188 ⟨by decide, by decide, by decide +kernel⟩ rfl ⟨Nat.le_of_ble_eq_true rfl, Nat.le_of_ble_eq_true rfl⟩ (Nat.le_of_ble_eq_true rfl) rfl ?_
    refine mv_istore (pc := 187) (lv' := [(7, .int r184), (5, .long s0), (0, va_rf (some v0)), (1, .int v1), (2, .int v2), (3, .long v3)]) de_No_reckonCell_187 (Nat.le_of_ble_eq_true rfl) rfl ?_
    refine mv_iload (pc := 189) de_No_reckonCell_189 0 rfl ?_
    refine mv_if_ge (pc := 191) (tgt := 198) de_No_reckonCell_191 (by decide) h184 (fun hc191 h191 => ?_) (fun hc191 h191 => ?_)
    · refine mv_aload_n (pc := 198) (i := 0) de_No_reckonCell_198 rfl 2 rfl ?_
      refine mv_getR (pc := 199) (f := 4) (kc_2 l D E B sa) (Nat.le_of_ble_eq_true rfl) wt_1_225 de_No_reckonCell_199 h191 (fun x199 e199 h199 => ?_)
      obtain ⟨a202, ha, h202a⟩ := mj_bindE h199
      subst ha
      refine mv_getR (pc := 202) (f := 9) (kc_2 l D E B sa) (Nat.le_of_ble_eq_true rfl) wt_1_232 de_No_reckonCell_202 h202a (fun x202 e202 h202 => ?_)
      refine mv_iload (pc := 205) de_No_reckonCell_205 0 rfl ?_
      obtain ⟨a207, ha, h207a⟩ := mj_bindE h202
      subst ha
      refine mv_lald (pc := 207) (t := 1) rfl de_No_reckonCell_207 h207a (fun x207 e207 h207 => ?_)
      exact mv_sub [] rfl (tb_No_reckonCell_208 l D E B sa M0 M1 r N Mm184 x207 h207)
    · refine mv_lconst (pc := 194) (v := 0) de_No_reckonCell_194 (by decide) ?_
      refine mv_goto (pc := 195) (tgt := 208) de_No_reckonCell_195 (by decide) ?_
      exact mv_sub [] rfl (tb_No_reckonCell_208 l D E B sa M0 M1 r N Mm184 0 h191)
  rw [if_neg hs36_7] at h33
  by_cases hs36_8 : x33 = 8
  · rw [if_pos hs36_8] at h33
    refine mv_tin (pc := 36) (tgt := 249) (off := 213) 8 de_No_reckonCell_36 hs36_8 (by decide) (by decide) ?_
    refine mv_lload_n (pc := 249) (i := 3) de_No_reckonCell_249 rfl 4 rfl ?_
    exact mv_lret (pc := 250) rfl de_No_reckonCell_250 h33
  rw [if_neg hs36_8] at h33
  by_cases hs36_9 : x33 = 9
  · rw [if_pos hs36_9] at h33
    refine mv_tin (pc := 36) (tgt := 249) (off := 213) 9 de_No_reckonCell_36 hs36_9 (by decide) (by decide) ?_
    refine mv_lload_n (pc := 249) (i := 3) de_No_reckonCell_249 rfl 4 rfl ?_
    exact mv_lret (pc := 250) rfl de_No_reckonCell_250 h33
  rw [if_neg hs36_9] at h33
  by_cases hs36_10 : x33 = 10
  · rw [if_pos hs36_10] at h33
    refine mv_tin (pc := 36) (tgt := 209) (off := 173) 10 de_No_reckonCell_36 hs36_10 (by decide) (by decide) ?_
    refine mv_lload_n (pc := 209) (i := 3) de_No_reckonCell_209 rfl 4 rfl ?_
    obtain ⟨r210, Mm210, hz210, h210⟩ := mj_callE h33
    refine mv_callS (pc := 210) (n := 1) (av := [.long v3]) (rest := []) de_No_reckonCell_210 (cm_Fr_minus l D E B sa N M v3 _ _ hz210) wt_2_228 wt_2_229 wt_1_3 wt_2_230 ⟨by decide, by decide, by decide +kernel⟩ rfl ⟨Nat.le_of_ble_eq_true rfl, Nat.le_of_ble_eq_true rfl⟩ (Nat.le_of_ble_eq_true rfl) rfl ?_
    exact mv_lret (pc := 213) rfl de_No_reckonCell_213 h210
  rw [if_neg hs36_10] at h33
  by_cases hs36_11 : x33 = 11
  · rw [if_pos hs36_11] at h33
    refine mv_tin (pc := 36) (tgt := 214) (off := 178) 11 de_No_reckonCell_36 hs36_11 (by decide) (by decide) ?_
    refine mv_lload_n (pc := 214) (i := 3) de_No_reckonCell_214 rfl 4 rfl ?_
    obtain ⟨r215, Mm215, hz215, h215⟩ := mj_callE h33
    refine mv_callS (pc := 215) (n := 1) (av := [.long v3]) (rest := []) de_No_reckonCell_215 (cm_Fr_sign l D E B sa N M v3 _ _ hz215) wt_2_213 wt_2_214 wt_1_3 wt_2_215 ⟨by decide, by decide, by decide +kernel⟩ rfl ⟨Nat.le_of_ble_eq_true rfl, Nat.le_of_ble_eq_true rfl⟩ (Nat.le_of_ble_eq_true rfl) rfl ?_
    refine mv_if_ge (pc := 218) (tgt := 225) de_No_reckonCell_218 (by decide) h215 (fun hc218 h218 => ?_) (fun hc218 h218 => ?_)
    · refine mv_lload_n (pc := 225) (i := 3) de_No_reckonCell_225 rfl 4 rfl ?_
      exact mv_sub [] rfl (tb_No_reckonCell_226 l D E B sa M0 M1 r N Mm215 v3 h218)
    · refine mv_lconst (pc := 221) (v := 1) de_No_reckonCell_221 (by decide) ?_
      refine mv_goto (pc := 222) (tgt := 226) de_No_reckonCell_222 (by decide) ?_
      exact mv_sub [] rfl (tb_No_reckonCell_226 l D E B sa M0 M1 r N Mm215 1 h218)
  rw [if_neg hs36_11] at h33
  by_cases hs36_12 : x33 = 12
  · rw [if_pos hs36_12] at h33
    refine mv_tin (pc := 36) (tgt := 227) (off := 191) 12 de_No_reckonCell_36 hs36_12 (by decide) (by decide) ?_
    refine mv_lload_n (pc := 227) (i := 3) de_No_reckonCell_227 rfl 4 rfl ?_
    obtain ⟨r228, Mm228, hz228, h228⟩ := mj_callE h33
    refine mv_callS (pc := 228) (n := 1) (av := [.long v3]) (rest := []) de_No_reckonCell_228 (cm_Fr_sign l D E B sa N M v3 _ _ hz228) wt_2_213 wt_2_214 wt_1_3 wt_2_215 ⟨by decide, by decide, by decide +kernel⟩ rfl ⟨Nat.le_of_ble_eq_true rfl, Nat.le_of_ble_eq_true rfl⟩ (Nat.le_of_ble_eq_true rfl) rfl ?_
    refine mv_if_ge (pc := 231) (tgt := 241) de_No_reckonCell_231 (by decide) h228 (fun hc231 h231 => ?_) (fun hc231 h231 => ?_)
    · refine mv_lload_n (pc := 241) (i := 3) de_No_reckonCell_241 rfl 4 rfl ?_
      exact mv_sub [] rfl (tb_No_reckonCell_242 l D E B sa M0 M1 r N Mm228 v3 h231)
    · refine mv_lload_n (pc := 234) (i := 3) de_No_reckonCell_234 rfl 4 rfl ?_
      obtain ⟨r235, Mm235, hz235, h235⟩ := mj_callE h231
      refine mv_callS (pc := 235) (n := 1) (av := [.long v3]) (rest := []) de_No_reckonCell_235 (cm_Fr_minus l D E B sa N Mm228 v3 _ _ hz235) wt_2_228 wt_2_229 wt_1_3 wt_2_230 ⟨by decide, by decide, by decide +kernel⟩ rfl ⟨Nat.le_of_ble_eq_true rfl, Nat.le_of_ble_eq_true rfl⟩ (Nat.le_of_ble_eq_true rfl) rfl ?_
      refine mv_goto (pc := 238) (tgt := 242) de_No_reckonCell_238 (by decide) ?_
      exact mv_sub [] rfl (tb_No_reckonCell_242 l D E B sa M0 M1 r N Mm235 r235 h235)
  rw [if_neg hs36_12] at h33
  by_cases hs36_13 : x33 = 13
  · rw [if_pos hs36_13] at h33
    refine mv_tin (pc := 36) (tgt := 243) (off := 207) 13 de_No_reckonCell_36 hs36_13 (by decide) (by decide) ?_
    refine mv_lload_n (pc := 243) (i := 3) de_No_reckonCell_243 rfl 4 rfl ?_
    refine mv_lload_n (pc := 244) (i := 3) de_No_reckonCell_244 rfl 4 rfl ?_
    obtain ⟨r245, Mm245, hz245, h245⟩ := mj_callE h33
    refine mv_callS (pc := 245) (n := 2) (av := [.long v3, .long v3]) (rest := []) de_No_reckonCell_245 (cm_Fr_times l D E B sa N M v3 v3 _ _ hz245) wt_2_220 wt_2_221 wt_1_3 wt_2_222 ⟨by decide, by decide, by decide +kernel⟩ rfl ⟨Nat.le_of_ble_eq_true rfl, Nat.le_of_ble_eq_true rfl⟩ (Nat.le_of_ble_eq_true rfl) rfl ?_
    exact mv_lret (pc := 248) rfl de_No_reckonCell_248 h245
  rw [if_neg hs36_13] at h33
  by_cases hs36_14 : x33 = 14
  · rw [if_pos hs36_14] at h33
    refine mv_tin (pc := 36) (tgt := 249) (off := 213) 14 de_No_reckonCell_36 hs36_14 (by decide) (by decide) ?_
    refine mv_lload_n (pc := 249) (i := 3) de_No_reckonCell_249 rfl 4 rfl ?_
    exact mv_lret (pc := 250) rfl de_No_reckonCell_250 h33
  rw [if_neg hs36_14] at h33
  by_cases hs36_15 : x33 = 15
  · rw [if_pos hs36_15] at h33
    refine mv_tin (pc := 36) (tgt := 157) (off := 121) 15 de_No_reckonCell_36 hs36_15 (by decide) (by decide) ?_
    refine mv_aload_n (pc := 157) (i := 0) de_No_reckonCell_157 rfl 1 rfl ?_
    refine mv_iload_n (pc := 158) (i := 1) de_No_reckonCell_158 rfl 2 rfl ?_
    obtain ⟨hi159, h159o⟩ := mj_obE h33
    obtain ⟨r159, Mm159, hz159, h159⟩ := mj_callE h159o
    refine mv_callV (pc := 159) (n := 1) (av := [.int v1]) (rest := []) de_No_reckonCell_159 (kc_2 l D E B sa) hi159 (cm_No_sumOfRow l D E B sa N M v0 v1 _ _ hz159) wt_2_239 wt_3_1 wp_10 wt_1_10 wt_3_2 ⟨by decide, by decide, by decide +kernel⟩ rfl ⟨Nat.le_of_ble_eq_true rfl, Nat.le_of_ble_eq_true rfl⟩ (Nat.le_of_ble_eq_true rfl) rfl ?_
    exact mv_lret (pc := 162) rfl de_No_reckonCell_162 h159
  rw [if_neg hs36_15] at h33
  have qhs36_0 := lv_neT (a := 0) hs36_0 (by decide)
  have qhs36_1 := lv_neT (a := 1) hs36_1 (by decide)
  have qhs36_2 := lv_neT (a := 2) hs36_2 (by decide)
  have qhs36_3 := lv_neT (a := 3) hs36_3 (by decide)
  have qhs36_4 := lv_neT (a := 4) hs36_4 (by decide)
  have qhs36_5 := lv_neT (a := 5) hs36_5 (by decide)
  have qhs36_6 := lv_neT (a := 6) hs36_6 (by decide)
  have qhs36_7 := lv_neT (a := 7) hs36_7 (by decide)
  have qhs36_8 := lv_neT (a := 8) hs36_8 (by decide)
  have qhs36_9 := lv_neT (a := 9) hs36_9 (by decide)
  have qhs36_10 := lv_neT (a := 10) hs36_10 (by decide)
  have qhs36_11 := lv_neT (a := 11) hs36_11 (by decide)
  have qhs36_12 := lv_neT (a := 12) hs36_12 (by decide)
  have qhs36_13 := lv_neT (a := 13) hs36_13 (by decide)
  have qhs36_14 := lv_neT (a := 14) hs36_14 (by decide)
  have qhs36_15 := lv_neT (a := 15) hs36_15 (by decide)
  refine mv_tout (pc := 36) (tgt := 249) de_No_reckonCell_36 (by omega) (by decide) ?_
  refine mv_lload_n (pc := 249) (i := 3) de_No_reckonCell_249 rfl 4 rfl ?_
  exact mv_lret (pc := 250) rfl de_No_reckonCell_250 h33
set_option maxHeartbeats 4000000 in
set_option maxRecDepth 100000 in
theorem tb_No_reckonCell_0 (l : Launch) (D : va_G) (E : Nat → ClassId) (B : Nat) (sa : (Nat → Nat) × Nat × (Nat → Int32)) (M0 M1 : mv_M) (r : Int64) (N : Nat) (M : mv_M) (v0 : Nat) (v1 : Int32) (v2 : Int32) (hJ : jb_No_reckonCell_0 N M v0 v1 v2 = some (r, M1)) : mv_G (xg l D E B sa) kd_No_reckonCell M0 M1 (some (.long r)) M 0 [(0, va_rf (some v0)), (1, .int v1), (2, .int v2)] [] := by
  unfold jb_No_reckonCell_0 at hJ
  refine mv_aload_n (pc := 0) (i := 0) de_No_reckonCell_0 rfl 0 rfl ?_
  refine mv_getR (pc := 1) (f := 4) (kc_2 l D E B sa) (Nat.le_of_ble_eq_true rfl) wt_1_225 de_No_reckonCell_1 hJ (fun x1 e1 h1 => ?_)
  obtain ⟨a4, ha, h4a⟩ := mj_bindE h1
  subst ha
  refine mv_getR (pc := 4) (f := 9) (kc_2 l D E B sa) (Nat.le_of_ble_eq_true rfl) wt_1_232 de_No_reckonCell_4 h4a (fun x4 e4 h4 => ?_)
  refine mv_iload_n (pc := 7) (i := 1) de_No_reckonCell_7 rfl 1 rfl ?_
  obtain ⟨a8, ha, h8a⟩ := mj_bindE h4
  subst ha
  refine mv_lald (pc := 8) (t := 1) rfl de_No_reckonCell_8 h8a (fun x8 e8 h8 => ?_)
  refine mv_lstore_n (pc := 9) (i := 3) (lv' := [(3, .long x8), (0, va_rf (some v0)), (1, .int v1), (2, .int v2)]) de_No_reckonCell_9 rfl (Nat.le_of_ble_eq_true rfl) rfl ?_
  refine mv_aload_n (pc := 10) (i := 0) de_No_reckonCell_10 rfl 1 rfl ?_
  refine mv_getR (pc := 11) (f := 5) (kc_2 l D E B sa) (Nat.le_of_ble_eq_true rfl) wt_1_227 de_No_reckonCell_11 h8 (fun x11 e11 h11 => ?_)
  refine mv_ifnonnull (pc := 14) (tgt := 21) de_No_reckonCell_14 (by decide) h11 (fun ha h14 => ?_) (fun a14 ha h14 => ?_)
  · subst ha
    refine mv_lconst (pc := 17) (v := 0) de_No_reckonCell_17 (by decide) ?_
    refine mv_goto (pc := 18) (tgt := 30) de_No_reckonCell_18 (by decide) ?_
    exact mv_sub [1, 2, 3, 0] rfl (tb_No_reckonCell_30 l D E B sa M0 M1 r N M v0 v1 v2 x8 0 h14)
  · subst ha
    refine mv_aload_n (pc := 21) (i := 0) de_No_reckonCell_21 rfl 1 rfl ?_
    refine mv_getR (pc := 22) (f := 5) (kc_2 l D E B sa) (Nat.le_of_ble_eq_true rfl) wt_1_227 de_No_reckonCell_22 h14 (fun x22 e22 h22 => ?_)
    obtain ⟨a25, ha, h25a⟩ := mj_bindE h22
    subst ha
    refine mv_getR (pc := 25) (f := 9) (kc_2 l D E B sa) (Nat.le_of_ble_eq_true rfl) wt_1_232 de_No_reckonCell_25 h25a (fun x25 e25 h25 => ?_)
    refine mv_iload_n (pc := 28) (i := 2) de_No_reckonCell_28 rfl 3 rfl ?_
    obtain ⟨a29, ha, h29a⟩ := mj_bindE h25
    subst ha
    refine mv_lald (pc := 29) (t := 1) rfl de_No_reckonCell_29 h29a (fun x29 e29 h29 => ?_)
    exact mv_sub [1, 2, 3, 0] rfl (tb_No_reckonCell_30 l D E B sa M0 M1 r N M v0 v1 v2 x8 x29 h29)
theorem cm_No_reckonCell (l : Launch) (D : va_G) (E : Nat → ClassId) (B : Nat) (sa : (Nat → Nat) × Nat × (Nat → Int32)) (N : Nat) (M : mv_M) (v0 : Nat) (v1 : Int32) (v2 : Int32) (r : Int64) (M1 : mv_M) (hJ : jf_No_reckonCell N M v0 v1 v2 = some (r, M1)) : mv_Met (xg l D E B sa) yn_No_reckonCell cd_No_reckonCell 8 (some .long) 3 90 [va_rf (some v0), .int v1, .int v2] M (some (.long r)) M1 :=
  mv_enter (by decide) (Nat.le_of_ble_eq_true rfl) (mv_sub (lv := [(0, va_rf (some v0)), (1, .int v1), (2, .int v2)]) [0, 1, 2] rfl (tb_No_reckonCell_0 l D E B sa M M1 r N M v0 v1 v2 hJ))
/-! ===== PlainLearner$Node.walk(Z)V ===== -/
abbrev kd_No_walk : mv_Kd := (cd_No_walk, 8, "PlainLearner$Node", "walk", none, 4, 117)
theorem de_No_walk_0 : decode cd_No_walk 0 = .ok (.aload_n 0, 1) := by decide +kernel
theorem de_No_walk_1 : decode cd_No_walk 1 = .ok (.getfield 25, 3) := by decide +kernel
theorem de_No_walk_4 : decode cd_No_walk 4 = .ok (.ifnull 10, 3) := by decide +kernel
theorem de_No_walk_7 : decode cd_No_walk 7 = .ok (.aload_n 0, 1) := by decide +kernel
theorem de_No_walk_8 : decode cd_No_walk 8 = .ok (.getfield 32, 3) := by decide +kernel
theorem de_No_walk_11 : decode cd_No_walk 11 = .ok (.ifnonnull 4, 3) := by decide +kernel
theorem de_No_walk_14 : decode cd_No_walk 14 = .ok (.return_, 1) := by decide +kernel
theorem de_No_walk_15 : decode cd_No_walk 15 = .ok (.iconst 0, 1) := by decide +kernel
theorem de_No_walk_16 : decode cd_No_walk 16 = .ok (.istore_n 2, 1) := by decide +kernel
theorem de_No_walk_17 : decode cd_No_walk 17 = .ok (.iconst 0, 1) := by decide +kernel
theorem de_No_walk_18 : decode cd_No_walk 18 = .ok (.istore_n 3, 1) := by decide +kernel
theorem de_No_walk_19 : decode cd_No_walk 19 = .ok (.iload_n 3, 1) := by decide +kernel
theorem de_No_walk_20 : decode cd_No_walk 20 = .ok (.aload_n 0, 1) := by decide +kernel
theorem de_No_walk_21 : decode cd_No_walk 21 = .ok (.getfield 9, 3) := by decide +kernel
theorem de_No_walk_24 : decode cd_No_walk 24 = .ok (.getfield 89, 3) := by decide +kernel
theorem de_No_walk_27 : decode cd_No_walk 27 = .ok (.if_icmp .ge 123, 3) := by decide +kernel
theorem de_No_walk_30 : decode cd_No_walk 30 = .ok (.iconst 0, 1) := by decide +kernel
theorem de_No_walk_31 : decode cd_No_walk 31 = .ok (.istore 4, 2) := by decide +kernel
theorem de_No_walk_33 : decode cd_No_walk 33 = .ok (.iload 4, 2) := by decide +kernel
theorem de_No_walk_35 : decode cd_No_walk 35 = .ok (.aload_n 0, 1) := by decide +kernel
theorem de_No_walk_36 : decode cd_No_walk 36 = .ok (.getfield 9, 3) := by decide +kernel
theorem de_No_walk_39 : decode cd_No_walk 39 = .ok (.getfield 92, 3) := by decide +kernel
theorem de_No_walk_42 : decode cd_No_walk 42 = .ok (.if_icmp .ge 102, 3) := by decide +kernel
theorem de_No_walk_45 : decode cd_No_walk 45 = .ok (.iconst 0, 1) := by decide +kernel
theorem de_No_walk_46 : decode cd_No_walk 46 = .ok (.istore 5, 2) := by decide +kernel
theorem de_No_walk_48 : decode cd_No_walk 48 = .ok (.iload 5, 2) := by decide +kernel
theorem de_No_walk_50 : decode cd_No_walk 50 = .ok (.aload_n 0, 1) := by decide +kernel
theorem de_No_walk_51 : decode cd_No_walk 51 = .ok (.getfield 9, 3) := by decide +kernel
theorem de_No_walk_54 : decode cd_No_walk 54 = .ok (.getfield 76, 3) := by decide +kernel
theorem de_No_walk_57 : decode cd_No_walk 57 = .ok (.if_icmp .ge 81, 3) := by decide +kernel
theorem de_No_walk_60 : decode cd_No_walk 60 = .ok (.aload_n 0, 1) := by decide +kernel
theorem de_No_walk_61 : decode cd_No_walk 61 = .ok (.getfield 32, 3) := by decide +kernel
theorem de_No_walk_64 : decode cd_No_walk 64 = .ok (.iload_n 3, 1) := by decide +kernel
theorem de_No_walk_65 : decode cd_No_walk 65 = .ok (.iload 4, 2) := by decide +kernel
theorem de_No_walk_67 : decode cd_No_walk 67 = .ok (.iload 5, 2) := by decide +kernel
theorem de_No_walk_69 : decode cd_No_walk 69 = .ok (.invokevirtual 95, 3) := by decide +kernel
theorem de_No_walk_72 : decode cd_No_walk 72 = .ok (.istore 6, 2) := by decide +kernel
theorem de_No_walk_74 : decode cd_No_walk 74 = .ok (.aload_n 0, 1) := by decide +kernel
theorem de_No_walk_75 : decode cd_No_walk 75 = .ok (.getfield 36, 3) := by decide +kernel
theorem de_No_walk_78 : decode cd_No_walk 78 = .ok (.ifnonnull 7, 3) := by decide +kernel
theorem de_No_walk_81 : decode cd_No_walk 81 = .ok (.iconst 0, 1) := by decide +kernel
theorem de_No_walk_82 : decode cd_No_walk 82 = .ok (.goto 15, 3) := by decide +kernel
theorem de_No_walk_85 : decode cd_No_walk 85 = .ok (.aload_n 0, 1) := by decide +kernel
theorem de_No_walk_86 : decode cd_No_walk 86 = .ok (.getfield 36, 3) := by decide +kernel
theorem de_No_walk_89 : decode cd_No_walk 89 = .ok (.iload_n 3, 1) := by decide +kernel
theorem de_No_walk_90 : decode cd_No_walk 90 = .ok (.iload 4, 2) := by decide +kernel
theorem de_No_walk_92 : decode cd_No_walk 92 = .ok (.iload 5, 2) := by decide +kernel
theorem de_No_walk_94 : decode cd_No_walk 94 = .ok (.invokevirtual 95, 3) := by decide +kernel
theorem de_No_walk_97 : decode cd_No_walk 97 = .ok (.istore 7, 2) := by decide +kernel
theorem de_No_walk_99 : decode cd_No_walk 99 = .ok (.iload_n 1, 1) := by decide +kernel
theorem de_No_walk_100 : decode cd_No_walk 100 = .ok (.ifCond .eq 15, 3) := by decide +kernel
theorem de_No_walk_103 : decode cd_No_walk 103 = .ok (.aload_n 0, 1) := by decide +kernel
theorem de_No_walk_104 : decode cd_No_walk 104 = .ok (.iload_n 2, 1) := by decide +kernel
theorem de_No_walk_105 : decode cd_No_walk 105 = .ok (.iload 6, 2) := by decide +kernel
theorem de_No_walk_107 : decode cd_No_walk 107 = .ok (.iload 7, 2) := by decide +kernel
theorem de_No_walk_109 : decode cd_No_walk 109 = .ok (.invokevirtual 99, 3) := by decide +kernel
theorem de_No_walk_112 : decode cd_No_walk 112 = .ok (.goto 17, 3) := by decide +kernel
theorem de_No_walk_115 : decode cd_No_walk 115 = .ok (.aload_n 0, 1) := by decide +kernel
theorem de_No_walk_116 : decode cd_No_walk 116 = .ok (.getfield 47, 3) := by decide +kernel
theorem de_No_walk_119 : decode cd_No_walk 119 = .ok (.iload_n 2, 1) := by decide +kernel
theorem de_No_walk_120 : decode cd_No_walk 120 = .ok (.aload_n 0, 1) := by decide +kernel
theorem de_No_walk_121 : decode cd_No_walk 121 = .ok (.iload 6, 2) := by decide +kernel
theorem de_No_walk_123 : decode cd_No_walk 123 = .ok (.iload 7, 2) := by decide +kernel
theorem de_No_walk_125 : decode cd_No_walk 125 = .ok (.invokevirtual 103, 3) := by decide +kernel
theorem de_No_walk_128 : decode cd_No_walk 128 = .ok (.lastore, 1) := by decide +kernel
theorem de_No_walk_129 : decode cd_No_walk 129 = .ok (.iinc 2 1, 3) := by decide +kernel
theorem de_No_walk_132 : decode cd_No_walk 132 = .ok (.iinc 5 1, 3) := by decide +kernel
theorem de_No_walk_135 : decode cd_No_walk 135 = .ok (.goto (-87), 3) := by decide +kernel
theorem de_No_walk_138 : decode cd_No_walk 138 = .ok (.iinc 4 1, 3) := by decide +kernel
theorem de_No_walk_141 : decode cd_No_walk 141 = .ok (.goto (-108), 3) := by decide +kernel
theorem de_No_walk_144 : decode cd_No_walk 144 = .ok (.iinc 3 1, 3) := by decide +kernel
theorem de_No_walk_147 : decode cd_No_walk 147 = .ok (.goto (-128), 3) := by decide +kernel
theorem de_No_walk_150 : decode cd_No_walk 150 = .ok (.return_, 1) := by decide +kernel
def jb_No_walk_14 (N : Nat) (M : mv_M) : Option (Unit × mv_M) :=
  some ((), M)
def jb_No_walk_129 (N : Nat) (k19 : mv_M → Nat → Int32 → Int32 → Int32 → Option (Unit × mv_M)) (k33 : mv_M → Nat → Int32 → Int32 → Int32 → Int32 → Option (Unit × mv_M)) (k48 : mv_M → Nat → Int32 → Int32 → Int32 → Int32 → Int32 → Option (Unit × mv_M)) (M : mv_M) (v0 : Nat) (v1 : Int32) (v2 : Int32) (v3 : Int32) (v4 : Int32) (v5 : Int32) : Option (Unit × mv_M) :=
  k48 M v0 v1 (v2 + 1) v3 v4 (v5 + 1)
def jb_No_walk_97 (N : Nat) (k19 : mv_M → Nat → Int32 → Int32 → Int32 → Option (Unit × mv_M)) (k33 : mv_M → Nat → Int32 → Int32 → Int32 → Int32 → Option (Unit × mv_M)) (k48 : mv_M → Nat → Int32 → Int32 → Int32 → Int32 → Int32 → Option (Unit × mv_M)) (M : mv_M) (v0 : Nat) (v1 : Int32) (v2 : Int32) (v3 : Int32) (v4 : Int32) (v5 : Int32) (v6 : Int32) (s0 : Int32) : Option (Unit × mv_M) :=
  if v1 = 0 then (Option.bind (mj_getR M v0 2 9) fun x116 =>
  mj_ob M v0 2 <|
  mj_call (jf_No_reckonCell N M v0 v6 s0) fun r125 Mm125 =>
  Option.bind x116 fun a128 =>
  Option.bind (mj_lst Mm125 a128 1 v2 r125) fun Mm128 =>
  jb_No_walk_129 N k19 k33 k48 Mm128 v0 v1 v2 v3 v4 v5) else
  mj_ob M v0 2 <|
  mj_call (jf_No_giveCell N M v0 v2 v6 s0) fun r109 Mm109 =>
  jb_No_walk_129 N k19 k33 k48 Mm109 v0 v1 v2 v3 v4 v5
def jb_No_walk_48 (N : Nat) (k19 : mv_M → Nat → Int32 → Int32 → Int32 → Option (Unit × mv_M)) (k33 : mv_M → Nat → Int32 → Int32 → Int32 → Int32 → Option (Unit × mv_M)) : Nat → mv_M → Nat → Int32 → Int32 → Int32 → Int32 → Int32 → Option (Unit × mv_M)
  | 0, _, _, _, _, _, _, _ => none
  | n + 1, M, v0, v1, v2, v3, v4, v5 =>
    Option.bind (mj_getR M v0 2 0) fun x51 =>
    Option.bind x51 fun a54 =>
    Option.bind (mj_getI M a54 5 3) fun x54 =>
    if x54 ≤ v5 then (k33 M v0 v1 v2 v3 (v4 + 1)) else
    Option.bind (mj_getR M v0 2 6) fun x61 =>
    Option.bind x61 fun a69 =>
    mj_ob M a69 9 <|
    mj_call (jf_Vw_at N M a69 v3 v4 v5) fun r69 Mm69 =>
    Option.bind (mj_getR Mm69 v0 2 7) fun x75 =>
    mj_opt x75 (jb_No_walk_97 N k19 k33 (jb_No_walk_48 N k19 k33 n) Mm69 v0 v1 v2 v3 v4 v5 r69 0) fun a78 =>
    Option.bind (mj_getR Mm69 v0 2 7) fun x86 =>
    Option.bind x86 fun a94 =>
    mj_ob Mm69 a94 9 <|
    mj_call (jf_Vw_at N Mm69 a94 v3 v4 v5) fun r94 Mm94 =>
    jb_No_walk_97 N k19 k33 (jb_No_walk_48 N k19 k33 n) Mm94 v0 v1 v2 v3 v4 v5 r69 r94
def jb_No_walk_33 (N : Nat) (k19 : mv_M → Nat → Int32 → Int32 → Int32 → Option (Unit × mv_M)) : Nat → mv_M → Nat → Int32 → Int32 → Int32 → Int32 → Option (Unit × mv_M)
  | 0, _, _, _, _, _, _ => none
  | n + 1, M, v0, v1, v2, v3, v4 =>
    Option.bind (mj_getR M v0 2 0) fun x36 =>
    Option.bind x36 fun a39 =>
    Option.bind (mj_getI M a39 5 2) fun x39 =>
    if x39 ≤ v4 then (k19 M v0 v1 v2 (v3 + 1)) else
    jb_No_walk_48 N k19 (jb_No_walk_33 N k19 n) N M v0 v1 v2 v3 v4 0
def jb_No_walk_19 (N : Nat) : Nat → mv_M → Nat → Int32 → Int32 → Int32 → Option (Unit × mv_M)
  | 0, _, _, _, _, _ => none
  | n + 1, M, v0, v1, v2, v3 =>
    Option.bind (mj_getR M v0 2 0) fun x21 =>
    Option.bind x21 fun a24 =>
    Option.bind (mj_getI M a24 5 1) fun x24 =>
    if x24 ≤ v3 then (some ((), M)) else
    jb_No_walk_33 N (jb_No_walk_19 N n) N M v0 v1 v2 v3 0
def jb_No_walk_0 (N : Nat) (M : mv_M) (v0 : Nat) (v1 : Int32) : Option (Unit × mv_M) :=
  Option.bind (mj_getR M v0 2 4) fun x1 =>
  mj_opt x1 (jb_No_walk_14 N M) fun a4 =>
  Option.bind (mj_getR M v0 2 6) fun x8 =>
  mj_opt x8 (jb_No_walk_14 N M) fun a11 =>
  jb_No_walk_19 N N M v0 v1 0 0
def jf_No_walk (N : Nat) (M : mv_M) (v0 : Nat) (v1 : Int32) : Option (Unit × mv_M) := jb_No_walk_0 N M v0 v1
set_option maxHeartbeats 4000000 in
set_option maxRecDepth 100000 in
theorem tb_No_walk_14 (l : Launch) (D : va_G) (E : Nat → ClassId) (B : Nat) (sa : (Nat → Nat) × Nat × (Nat → Int32)) (M0 M1 : mv_M) (r : Unit) (N : Nat) (M : mv_M) (hJ : jb_No_walk_14 N M = some (r, M1)) : mv_G (xg l D E B sa) kd_No_walk M0 M1 none M 14 [] [] := by
  unfold jb_No_walk_14 at hJ
  exact mv_vret (pc := 14) rfl de_No_walk_14 hJ
set_option maxHeartbeats 4000000 in
set_option maxRecDepth 100000 in
theorem tb_No_walk_129 (l : Launch) (D : va_G) (E : Nat → ClassId) (B : Nat) (sa : (Nat → Nat) × Nat × (Nat → Int32)) (M0 M1 : mv_M) (r : Unit) (N : Nat) (k19 : mv_M → Nat → Int32 → Int32 → Int32 → Option (Unit × mv_M)) (k33 : mv_M → Nat → Int32 → Int32 → Int32 → Int32 → Option (Unit × mv_M)) (k48 : mv_M → Nat → Int32 → Int32 → Int32 → Int32 → Int32 → Option (Unit × mv_M)) (hk19 : ∀ (M : mv_M) (v0 : Nat) (v1 : Int32) (v2 : Int32) (v3 : Int32), k19 M v0 v1 v2 v3 = some (r, M1) → mv_G (xg l D E B sa) kd_No_walk M0 M1 none M 19 [(0, va_rf (some v0)), (1, .int v1), (2, .int v2), (3, .int v3)] []) (hk33 : ∀ (M : mv_M) (v0 : Nat) (v1 : Int32) (v2 : Int32) (v3 : Int32) (v4 : Int32), k33 M v0 v1 v2 v3 v4 = some (r, M1) → mv_G (xg l D E B sa) kd_No_walk M0 M1 none M 33 [(0, va_rf (some v0)), (1, .int v1), (2, .int v2), (3, .int v3), (4, .int v4)] []) (hk48 : ∀ (M : mv_M) (v0 : Nat) (v1 : Int32) (v2 : Int32) (v3 : Int32) (v4 : Int32) (v5 : Int32), k48 M v0 v1 v2 v3 v4 v5 = some (r, M1) → mv_G (xg l D E B sa) kd_No_walk M0 M1 none M 48 [(0, va_rf (some v0)), (1, .int v1), (2, .int v2), (3, .int v3), (4, .int v4), (5, .int v5)] []) (M : mv_M) (v0 : Nat) (v1 : Int32) (v2 : Int32) (v3 : Int32) (v4 : Int32) (v5 : Int32) (hJ : jb_No_walk_129 N k19 k33 k48 M v0 v1 v2 v3 v4 v5 = some (r, M1)) : mv_G (xg l D E B sa) kd_No_walk M0 M1 none M 129 [(0, va_rf (some v0)), (1, .int v1), (2, .int v2), (3, .int v3), (4, .int v4), (5, .int v5)] [] := by
  unfold jb_No_walk_129 at hJ
  refine mv_iinc (pc := 129) (v := (v2 + 1)) (lv' := [(2, .int (v2 + 1)), (0, va_rf (some v0)), (1, .int v1), (3, .int v3), (4, .int v4), (5, .int v5)]) de_No_walk_129 2 rfl rfl (Nat.le_of_ble_eq_true rfl) rfl ?_
  refine mv_iinc (pc := 132) (v := (v5 + 1)) (lv' := [(5, .int (v5 + 1)), (2, .int (v2 + 1)), (0, va_rf (some v0)), (1, .int v1), (3, .int v3), (4, .int v4)]) de_No_walk_132 5 rfl rfl (Nat.le_of_ble_eq_true rfl) rfl ?_
  refine mv_goto (pc := 135) (tgt := 48) de_No_walk_135 (by decide) ?_
  exact mv_sub [2, 3, 1, 4, 5, 0] rfl (hk48 M v0 v1 (v2 + 1) v3 v4 (v5 + 1) hJ)
set_option maxHeartbeats 4000000 in
set_option maxRecDepth 100000 in
theorem tb_No_walk_97 (l : Launch) (D : va_G) (E : Nat → ClassId) (B : Nat) (sa : (Nat → Nat) × Nat × (Nat → Int32)) (M0 M1 : mv_M) (r : Unit) (N : Nat) (k19 : mv_M → Nat → Int32 → Int32 → Int32 → Option (Unit × mv_M)) (k33 : mv_M → Nat → Int32 → Int32 → Int32 → Int32 → Option (Unit × mv_M)) (k48 : mv_M → Nat → Int32 → Int32 → Int32 → Int32 → Int32 → Option (Unit × mv_M)) (hk19 : ∀ (M : mv_M) (v0 : Nat) (v1 : Int32) (v2 : Int32) (v3 : Int32), k19 M v0 v1 v2 v3 = some (r, M1) → mv_G (xg l D E B sa) kd_No_walk M0 M1 none M 19 [(0, va_rf (some v0)), (1, .int v1), (2, .int v2), (3, .int v3)] []) (hk33 : ∀ (M : mv_M) (v0 : Nat) (v1 : Int32) (v2 : Int32) (v3 : Int32) (v4 : Int32), k33 M v0 v1 v2 v3 v4 = some (r, M1) → mv_G (xg l D E B sa) kd_No_walk M0 M1 none M 33 [(0, va_rf (some v0)), (1, .int v1), (2, .int v2), (3, .int v3), (4, .int v4)] []) (hk48 : ∀ (M : mv_M) (v0 : Nat) (v1 : Int32) (v2 : Int32) (v3 : Int32) (v4 : Int32) (v5 : Int32), k48 M v0 v1 v2 v3 v4 v5 = some (r, M1) → mv_G (xg l D E B sa) kd_No_walk M0 M1 none M 48 [(0, va_rf (some v0)), (1, .int v1), (2, .int v2), (3, .int v3), (4, .int v4), (5, .int v5)] []) (M : mv_M) (v0 : Nat) (v1 : Int32) (v2 : Int32) (v3 : Int32) (v4 : Int32) (v5 : Int32) (v6 : Int32) (s0 : Int32) (hJ : jb_No_walk_97 N k19 k33 k48 M v0 v1 v2 v3 v4 v5 v6 s0 = some (r, M1)) : mv_G (xg l D E B sa) kd_No_walk M0 M1 none M 97 [(0, va_rf (some v0)), (1, .int v1), (2, .int v2), (3, .int v3), (4, .int v4), (5, .int v5), (6, .int v6)] [.int s0] := by
  unfold jb_No_walk_97 at hJ
  refine mv_istore (pc := 97) (lv' := [(7, .int s0), (0, va_rf (some v0)), (1, .int v1), (2, .int v2), (3, .int v3), (4, .int v4), (5, .int v5), (6, .int v6)]) de_No_walk_97 (Nat.le_of_ble_eq_true rfl) rfl ?_
  refine mv_iload_n (pc := 99) (i := 1) de_No_walk_99 rfl 2 rfl ?_
  refine mv_if_eq (pc := 100) (tgt := 115) de_No_walk_100 (by decide) hJ (fun hc100 h100 => ?_) (fun hc100 h100 => ?_)
  · refine mv_aload_n (pc := 115) (i := 0) de_No_walk_115 rfl 1 rfl ?_
    refine mv_getR (pc := 116) (f := 9) (kc_2 l D E B sa) (Nat.le_of_ble_eq_true rfl) wt_1_232 de_No_walk_116 h100 (fun x116 e116 h116 => ?_)
    refine mv_iload_n (pc := 119) (i := 2) de_No_walk_119 rfl 3 rfl ?_
    refine mv_aload_n (pc := 120) (i := 0) de_No_walk_120 rfl 1 rfl ?_
    refine mv_iload (pc := 121) de_No_walk_121 7 rfl ?_
    refine mv_iload (pc := 123) de_No_walk_123 0 rfl ?_
    obtain ⟨hi125, h125o⟩ := mj_obE h116
    obtain ⟨r125, Mm125, hz125, h125⟩ := mj_callE h125o
    refine mv_callV (pc := 125) (n := 2) (av := [.int v6, .int s0]) (rest := [.int v2, va_rf x116]) de_No_walk_125 (kc_2 l D E B sa) hi125 (cm_No_reckonCell l D E B sa N M v0 v6 s0 _ _ hz125) wt_2_231 wt_2_233 wp_8 wt_1_10 wt_2_234 ⟨by decide, by decide, by decide +kernel⟩ rfl ⟨Nat.le_of_ble_eq_true rfl, Nat.le_of_ble_eq_true rfl⟩ (by simp [mv_cat, mv_cI, mv_cJ]) rfl ?_
    obtain ⟨a128, ha, h128a⟩ := mj_bindE h125
    subst ha
    refine mv_last (pc := 128) (t := 1) rfl de_No_walk_128 h128a (fun Mm128 e128 h128 => ?_)
    exact mv_sub [1, 2, 3, 4, 5, 6] rfl (tb_No_walk_129 l D E B sa M0 M1 r N k19 k33 k48 hk19 hk33 hk48 Mm128 v0 v1 v2 v3 v4 v5 h128)
  · refine mv_aload_n (pc := 103) (i := 0) de_No_walk_103 rfl 1 rfl ?_
    refine mv_iload_n (pc := 104) (i := 2) de_No_walk_104 rfl 3 rfl ?_
    refine mv_iload (pc := 105) de_No_walk_105 7 rfl ?_
    refine mv_iload (pc := 107) de_No_walk_107 0 rfl ?_
    obtain ⟨hi109, h109o⟩ := mj_obE h100
    obtain ⟨r109, Mm109, hz109, h109⟩ := mj_callE h109o
    refine mv_callV (pc := 109) (n := 3) (av := [.int v2, .int v6, .int s0]) (rest := []) de_No_walk_109 (kc_2 l D E B sa) hi109 (cm_No_giveCell l D E B sa N M v0 v2 v6 s0 _ _ hz109) wt_2_181 wt_2_183 wp_4 wt_1_10 wt_2_184 ⟨by decide, by decide, by decide +kernel⟩ rfl ⟨Nat.le_of_ble_eq_true rfl, Nat.le_of_ble_eq_true rfl⟩ (Nat.le_of_ble_eq_true rfl) rfl ?_
    refine mv_goto (pc := 112) (tgt := 129) de_No_walk_112 (by decide) ?_
    exact mv_sub [1, 2, 3, 4, 5, 6] rfl (tb_No_walk_129 l D E B sa M0 M1 r N k19 k33 k48 hk19 hk33 hk48 Mm109 v0 v1 v2 v3 v4 v5 h109)
set_option maxHeartbeats 4000000 in
set_option maxRecDepth 100000 in
theorem tb_No_walk_48 (l : Launch) (D : va_G) (E : Nat → ClassId) (B : Nat) (sa : (Nat → Nat) × Nat × (Nat → Int32)) (M0 M1 : mv_M) (r : Unit) (N : Nat) (k19 : mv_M → Nat → Int32 → Int32 → Int32 → Option (Unit × mv_M)) (k33 : mv_M → Nat → Int32 → Int32 → Int32 → Int32 → Option (Unit × mv_M)) (hk19 : ∀ (M : mv_M) (v0 : Nat) (v1 : Int32) (v2 : Int32) (v3 : Int32), k19 M v0 v1 v2 v3 = some (r, M1) → mv_G (xg l D E B sa) kd_No_walk M0 M1 none M 19 [(0, va_rf (some v0)), (1, .int v1), (2, .int v2), (3, .int v3)] []) (hk33 : ∀ (M : mv_M) (v0 : Nat) (v1 : Int32) (v2 : Int32) (v3 : Int32) (v4 : Int32), k33 M v0 v1 v2 v3 v4 = some (r, M1) → mv_G (xg l D E B sa) kd_No_walk M0 M1 none M 33 [(0, va_rf (some v0)), (1, .int v1), (2, .int v2), (3, .int v3), (4, .int v4)] []) : ∀ (n : Nat) (M : mv_M) (v0 : Nat) (v1 : Int32) (v2 : Int32) (v3 : Int32) (v4 : Int32) (v5 : Int32) (hJ : jb_No_walk_48 N k19 k33 n M v0 v1 v2 v3 v4 v5 = some (r, M1)), mv_G (xg l D E B sa) kd_No_walk M0 M1 none M 48 [(0, va_rf (some v0)), (1, .int v1), (2, .int v2), (3, .int v3), (4, .int v4), (5, .int v5)] [] := by
  intro n
  induction n with
  | zero => intro M v0 v1 v2 v3 v4 v5 hJ; cases hJ
  | succ n ih =>
    intro M v0 v1 v2 v3 v4 v5 hJ
    rw [jb_No_walk_48] at hJ
    refine mv_iload (pc := 48) de_No_walk_48 5 rfl ?_
    refine mv_aload_n (pc := 50) (i := 0) de_No_walk_50 rfl 0 rfl ?_
    refine mv_getR (pc := 51) (f := 0) (kc_2 l D E B sa) (Nat.le_of_ble_eq_true rfl) wt_1_220 de_No_walk_51 hJ (fun x51 e51 h51 => ?_)
    obtain ⟨a54, ha, h54a⟩ := mj_bindE h51
    subst ha
    refine mv_getI (pc := 54) (f := 3) (kc_5 l D E B sa) (Nat.le_of_ble_eq_true rfl) wt_1_189 de_No_walk_54 h54a (fun x54 e54 h54 => ?_)
    refine mv_icmp_ge (pc := 57) (tgt := 138) de_No_walk_57 (by decide) h54 (fun hc57 h57 => ?_) (fun hc57 h57 => ?_)
    · refine mv_iinc (pc := 138) (v := (v4 + 1)) (lv' := [(4, .int (v4 + 1)), (0, va_rf (some v0)), (1, .int v1), (2, .int v2), (3, .int v3), (5, .int v5)]) de_No_walk_138 4 rfl rfl (Nat.le_of_ble_eq_true rfl) rfl ?_
      refine mv_goto (pc := 141) (tgt := 33) de_No_walk_141 (by decide) ?_
      exact mv_sub [1, 2, 3, 4, 0] rfl (hk33 M v0 v1 v2 v3 (v4 + 1) h57)
    · refine mv_aload_n (pc := 60) (i := 0) de_No_walk_60 rfl 0 rfl ?_
      refine mv_getR (pc := 61) (f := 6) (kc_2 l D E B sa) (Nat.le_of_ble_eq_true rfl) wt_1_229 de_No_walk_61 h57 (fun x61 e61 h61 => ?_)
      refine mv_iload_n (pc := 64) (i := 3) de_No_walk_64 rfl 3 rfl ?_
      refine mv_iload (pc := 65) de_No_walk_65 4 rfl ?_
      refine mv_iload (pc := 67) de_No_walk_67 5 rfl ?_
      obtain ⟨a69, ha, h69a⟩ := mj_bindE h61
      subst ha
      obtain ⟨hi69, h69o⟩ := mj_obE h69a
      obtain ⟨r69, Mm69, hz69, h69⟩ := mj_callE h69o
      refine mv_callV (pc := 69) (n := 3) (av := [.int v3, .int v4, .int v5]) (rest := []) de_No_walk_69 (kc_9 l D E B sa) hi69 (cm_Vw_at l D E B sa N M a69 v3 v4 v5 _ _ hz69) wt_2_177 wt_2_178 wt_2_179 wt_1_14 wt_2_180 ⟨by decide, by decide, by decide +kernel⟩ rfl ⟨Nat.le_of_ble_eq_true rfl, Nat.le_of_ble_eq_true rfl⟩ (Nat.le_of_ble_eq_true rfl) rfl ?_
      refine mv_istore (pc := 72) (lv' := [(6, .int r69), (0, va_rf (some v0)), (1, .int v1), (2, .int v2), (3, .int v3), (4, .int v4), (5, .int v5)]) de_No_walk_72 (Nat.le_of_ble_eq_true rfl) rfl ?_
      refine mv_aload_n (pc := 74) (i := 0) de_No_walk_74 rfl 1 rfl ?_
      refine mv_getR (pc := 75) (f := 7) (kc_2 l D E B sa) (Nat.le_of_ble_eq_true rfl) wt_1_230 de_No_walk_75 h69 (fun x75 e75 h75 => ?_)
      refine mv_ifnonnull (pc := 78) (tgt := 85) de_No_walk_78 (by decide) h75 (fun ha h78 => ?_) (fun a78 ha h78 => ?_)
      · subst ha
        refine mv_iconst (pc := 81) (v := 0) de_No_walk_81 (by decide) ?_
        refine mv_goto (pc := 82) (tgt := 97) de_No_walk_82 (by decide) ?_
        exact mv_sub [1, 2, 3, 4, 5, 6, 0] rfl (tb_No_walk_97 l D E B sa M0 M1 r N k19 k33 (jb_No_walk_48 N k19 k33 n) hk19 hk33 ih Mm69 v0 v1 v2 v3 v4 v5 r69 0 h78)
      · subst ha
        refine mv_aload_n (pc := 85) (i := 0) de_No_walk_85 rfl 1 rfl ?_
        refine mv_getR (pc := 86) (f := 7) (kc_2 l D E B sa) (Nat.le_of_ble_eq_true rfl) wt_1_230 de_No_walk_86 h78 (fun x86 e86 h86 => ?_)
        refine mv_iload_n (pc := 89) (i := 3) de_No_walk_89 rfl 4 rfl ?_
        refine mv_iload (pc := 90) de_No_walk_90 5 rfl ?_
        refine mv_iload (pc := 92) de_No_walk_92 6 rfl ?_
        obtain ⟨a94, ha, h94a⟩ := mj_bindE h86
        subst ha
        obtain ⟨hi94, h94o⟩ := mj_obE h94a
        obtain ⟨r94, Mm94, hz94, h94⟩ := mj_callE h94o
        refine mv_callV (pc := 94) (n := 3) (av := [.int v3, .int v4, .int v5]) (rest := []) de_No_walk_94 (kc_9 l D E B sa) hi94 (cm_Vw_at l D E B sa N Mm69 a94 v3 v4 v5 _ _ hz94) wt_2_177 wt_2_178 wt_2_179 wt_1_14 wt_2_180 ⟨by decide, by decide, by decide +kernel⟩ rfl ⟨Nat.le_of_ble_eq_true rfl, Nat.le_of_ble_eq_true rfl⟩ (Nat.le_of_ble_eq_true rfl) rfl ?_
        exact mv_sub [1, 2, 3, 4, 5, 6, 0] rfl (tb_No_walk_97 l D E B sa M0 M1 r N k19 k33 (jb_No_walk_48 N k19 k33 n) hk19 hk33 ih Mm94 v0 v1 v2 v3 v4 v5 r69 r94 h94)
set_option maxHeartbeats 4000000 in
set_option maxRecDepth 100000 in
theorem tb_No_walk_33 (l : Launch) (D : va_G) (E : Nat → ClassId) (B : Nat) (sa : (Nat → Nat) × Nat × (Nat → Int32)) (M0 M1 : mv_M) (r : Unit) (N : Nat) (k19 : mv_M → Nat → Int32 → Int32 → Int32 → Option (Unit × mv_M)) (hk19 : ∀ (M : mv_M) (v0 : Nat) (v1 : Int32) (v2 : Int32) (v3 : Int32), k19 M v0 v1 v2 v3 = some (r, M1) → mv_G (xg l D E B sa) kd_No_walk M0 M1 none M 19 [(0, va_rf (some v0)), (1, .int v1), (2, .int v2), (3, .int v3)] []) : ∀ (n : Nat) (M : mv_M) (v0 : Nat) (v1 : Int32) (v2 : Int32) (v3 : Int32) (v4 : Int32) (hJ : jb_No_walk_33 N k19 n M v0 v1 v2 v3 v4 = some (r, M1)), mv_G (xg l D E B sa) kd_No_walk M0 M1 none M 33 [(0, va_rf (some v0)), (1, .int v1), (2, .int v2), (3, .int v3), (4, .int v4)] [] := by
  intro n
  induction n with
  | zero => intro M v0 v1 v2 v3 v4 hJ; cases hJ
  | succ n ih =>
    intro M v0 v1 v2 v3 v4 hJ
    rw [jb_No_walk_33] at hJ
    refine mv_iload (pc := 33) de_No_walk_33 4 rfl ?_
    refine mv_aload_n (pc := 35) (i := 0) de_No_walk_35 rfl 0 rfl ?_
    refine mv_getR (pc := 36) (f := 0) (kc_2 l D E B sa) (Nat.le_of_ble_eq_true rfl) wt_1_220 de_No_walk_36 hJ (fun x36 e36 h36 => ?_)
    obtain ⟨a39, ha, h39a⟩ := mj_bindE h36
    subst ha
    refine mv_getI (pc := 39) (f := 2) (kc_5 l D E B sa) (Nat.le_of_ble_eq_true rfl) wt_1_186 de_No_walk_39 h39a (fun x39 e39 h39 => ?_)
    refine mv_icmp_ge (pc := 42) (tgt := 144) de_No_walk_42 (by decide) h39 (fun hc42 h42 => ?_) (fun hc42 h42 => ?_)
    · refine mv_iinc (pc := 144) (v := (v3 + 1)) (lv' := [(3, .int (v3 + 1)), (0, va_rf (some v0)), (1, .int v1), (2, .int v2), (4, .int v4)]) de_No_walk_144 3 rfl rfl (Nat.le_of_ble_eq_true rfl) rfl ?_
      refine mv_goto (pc := 147) (tgt := 19) de_No_walk_147 (by decide) ?_
      exact mv_sub [1, 2, 3, 0] rfl (hk19 M v0 v1 v2 (v3 + 1) h42)
    · refine mv_iconst (pc := 45) (v := 0) de_No_walk_45 (by decide) ?_
      refine mv_istore (pc := 46) (lv' := [(5, .int 0), (0, va_rf (some v0)), (1, .int v1), (2, .int v2), (3, .int v3), (4, .int v4)]) de_No_walk_46 (Nat.le_of_ble_eq_true rfl) rfl ?_
      exact mv_sub [1, 2, 3, 4, 5, 0] rfl (tb_No_walk_48 l D E B sa M0 M1 r N k19 (jb_No_walk_33 N k19 n) hk19 ih N M v0 v1 v2 v3 v4 0 h42)
set_option maxHeartbeats 4000000 in
set_option maxRecDepth 100000 in
theorem tb_No_walk_19 (l : Launch) (D : va_G) (E : Nat → ClassId) (B : Nat) (sa : (Nat → Nat) × Nat × (Nat → Int32)) (M0 M1 : mv_M) (r : Unit) (N : Nat) : ∀ (n : Nat) (M : mv_M) (v0 : Nat) (v1 : Int32) (v2 : Int32) (v3 : Int32) (hJ : jb_No_walk_19 N n M v0 v1 v2 v3 = some (r, M1)), mv_G (xg l D E B sa) kd_No_walk M0 M1 none M 19 [(0, va_rf (some v0)), (1, .int v1), (2, .int v2), (3, .int v3)] [] := by
  intro n
  induction n with
  | zero => intro M v0 v1 v2 v3 hJ; cases hJ
  | succ n ih =>
    intro M v0 v1 v2 v3 hJ
    rw [jb_No_walk_19] at hJ
    refine mv_iload_n (pc := 19) (i := 3) de_No_walk_19 rfl 3 rfl ?_
    refine mv_aload_n (pc := 20) (i := 0) de_No_walk_20 rfl 0 rfl ?_
    refine mv_getR (pc := 21) (f := 0) (kc_2 l D E B sa) (Nat.le_of_ble_eq_true rfl) wt_1_220 de_No_walk_21 hJ (fun x21 e21 h21 => ?_)
    obtain ⟨a24, ha, h24a⟩ := mj_bindE h21
    subst ha
    refine mv_getI (pc := 24) (f := 1) (kc_5 l D E B sa) (Nat.le_of_ble_eq_true rfl) wt_1_183 de_No_walk_24 h24a (fun x24 e24 h24 => ?_)
    refine mv_icmp_ge (pc := 27) (tgt := 150) de_No_walk_27 (by decide) h24 (fun hc27 h27 => ?_) (fun hc27 h27 => ?_)
    · exact mv_vret (pc := 150) rfl de_No_walk_150 h27
    · refine mv_iconst (pc := 30) (v := 0) de_No_walk_30 (by decide) ?_
      refine mv_istore (pc := 31) (lv' := [(4, .int 0), (0, va_rf (some v0)), (1, .int v1), (2, .int v2), (3, .int v3)]) de_No_walk_31 (Nat.le_of_ble_eq_true rfl) rfl ?_
      exact mv_sub [1, 2, 3, 4, 0] rfl (tb_No_walk_33 l D E B sa M0 M1 r N (jb_No_walk_19 N n) ih N M v0 v1 v2 v3 0 h27)
set_option maxHeartbeats 4000000 in
set_option maxRecDepth 100000 in
theorem tb_No_walk_0 (l : Launch) (D : va_G) (E : Nat → ClassId) (B : Nat) (sa : (Nat → Nat) × Nat × (Nat → Int32)) (M0 M1 : mv_M) (r : Unit) (N : Nat) (M : mv_M) (v0 : Nat) (v1 : Int32) (hJ : jb_No_walk_0 N M v0 v1 = some (r, M1)) : mv_G (xg l D E B sa) kd_No_walk M0 M1 none M 0 [(0, va_rf (some v0)), (1, .int v1)] [] := by
  unfold jb_No_walk_0 at hJ
  refine mv_aload_n (pc := 0) (i := 0) de_No_walk_0 rfl 0 rfl ?_
  refine mv_getR (pc := 1) (f := 4) (kc_2 l D E B sa) (Nat.le_of_ble_eq_true rfl) wt_1_225 de_No_walk_1 hJ (fun x1 e1 h1 => ?_)
  refine mv_ifnull (pc := 4) (tgt := 14) de_No_walk_4 (by decide) h1 (fun ha h4 => ?_) (fun a4 ha h4 => ?_)
  · subst ha
    exact mv_sub [] rfl (tb_No_walk_14 l D E B sa M0 M1 r N M h4)
  · subst ha
    refine mv_aload_n (pc := 7) (i := 0) de_No_walk_7 rfl 0 rfl ?_
    refine mv_getR (pc := 8) (f := 6) (kc_2 l D E B sa) (Nat.le_of_ble_eq_true rfl) wt_1_229 de_No_walk_8 h4 (fun x8 e8 h8 => ?_)
    refine mv_ifnonnull (pc := 11) (tgt := 15) de_No_walk_11 (by decide) h8 (fun ha h11 => ?_) (fun a11 ha h11 => ?_)
    · subst ha
      exact mv_sub [] rfl (tb_No_walk_14 l D E B sa M0 M1 r N M h11)
    · subst ha
      refine mv_iconst (pc := 15) (v := 0) de_No_walk_15 (by decide) ?_
      refine mv_istore_n (pc := 16) (i := 2) (lv' := [(2, .int 0), (0, va_rf (some v0)), (1, .int v1)]) de_No_walk_16 rfl (Nat.le_of_ble_eq_true rfl) rfl ?_
      refine mv_iconst (pc := 17) (v := 0) de_No_walk_17 (by decide) ?_
      refine mv_istore_n (pc := 18) (i := 3) (lv' := [(3, .int 0), (2, .int 0), (0, va_rf (some v0)), (1, .int v1)]) de_No_walk_18 rfl (Nat.le_of_ble_eq_true rfl) rfl ?_
      exact mv_sub [2, 3, 1, 0] rfl (tb_No_walk_19 l D E B sa M0 M1 r N N M v0 v1 0 0 h11)
theorem cm_No_walk (l : Launch) (D : va_G) (E : Nat → ClassId) (B : Nat) (sa : (Nat → Nat) × Nat × (Nat → Int32)) (N : Nat) (M : mv_M) (v0 : Nat) (v1 : Int32) (r : Unit) (M1 : mv_M) (hJ : jf_No_walk N M v0 v1 = some (r, M1)) : mv_Met (xg l D E B sa) yn_No_walk cd_No_walk 8 none 4 117 [va_rf (some v0), .int v1] M none M1 :=
  mv_enter (by decide) (Nat.le_of_ble_eq_true rfl) (mv_sub (lv := [(0, va_rf (some v0)), (1, .int v1)]) [0, 1] rfl (tb_No_walk_0 l D E B sa M M1 r N M v0 v1 hJ))
/-! ===== PlainLearner$Tape.reckonUpTo(I)V ===== -/
abbrev kd_Tp_reckonUpTo : mv_Kd := (cd_Tp_reckonUpTo, 3, "PlainLearner$Tape", "reckonUpTo", none, 5, 144)
theorem de_Tp_reckonUpTo_0 : decode cd_Tp_reckonUpTo 0 = .ok (.aload_n 0, 1) := by decide +kernel
theorem de_Tp_reckonUpTo_1 : decode cd_Tp_reckonUpTo 1 = .ok (.getfield 87, 3) := by decide +kernel
theorem de_Tp_reckonUpTo_4 : decode cd_Tp_reckonUpTo 4 = .ok (.istore_n 2, 1) := by decide +kernel
theorem de_Tp_reckonUpTo_5 : decode cd_Tp_reckonUpTo 5 = .ok (.iload_n 2, 1) := by decide +kernel
theorem de_Tp_reckonUpTo_6 : decode cd_Tp_reckonUpTo 6 = .ok (.iload_n 1, 1) := by decide +kernel
theorem de_Tp_reckonUpTo_7 : decode cd_Tp_reckonUpTo 7 = .ok (.if_icmp .gt 27, 3) := by decide +kernel
theorem de_Tp_reckonUpTo_10 : decode cd_Tp_reckonUpTo 10 = .ok (.iload_n 2, 1) := by decide +kernel
theorem de_Tp_reckonUpTo_11 : decode cd_Tp_reckonUpTo 11 = .ok (.aload_n 0, 1) := by decide +kernel
theorem de_Tp_reckonUpTo_12 : decode cd_Tp_reckonUpTo 12 = .ok (.getfield 29, 3) := by decide +kernel
theorem de_Tp_reckonUpTo_15 : decode cd_Tp_reckonUpTo 15 = .ok (.if_icmp .ge 19, 3) := by decide +kernel
theorem de_Tp_reckonUpTo_18 : decode cd_Tp_reckonUpTo 18 = .ok (.aload_n 0, 1) := by decide +kernel
theorem de_Tp_reckonUpTo_19 : decode cd_Tp_reckonUpTo 19 = .ok (.getfield 13, 3) := by decide +kernel
theorem de_Tp_reckonUpTo_22 : decode cd_Tp_reckonUpTo 22 = .ok (.iload_n 2, 1) := by decide +kernel
theorem de_Tp_reckonUpTo_23 : decode cd_Tp_reckonUpTo 23 = .ok (.aaload, 1) := by decide +kernel
theorem de_Tp_reckonUpTo_24 : decode cd_Tp_reckonUpTo 24 = .ok (.iconst 0, 1) := by decide +kernel
theorem de_Tp_reckonUpTo_25 : decode cd_Tp_reckonUpTo 25 = .ok (.invokevirtual 100, 3) := by decide +kernel
theorem de_Tp_reckonUpTo_28 : decode cd_Tp_reckonUpTo 28 = .ok (.iinc 2 1, 3) := by decide +kernel
theorem de_Tp_reckonUpTo_31 : decode cd_Tp_reckonUpTo 31 = .ok (.goto (-26), 3) := by decide +kernel
theorem de_Tp_reckonUpTo_34 : decode cd_Tp_reckonUpTo 34 = .ok (.aload_n 0, 1) := by decide +kernel
theorem de_Tp_reckonUpTo_35 : decode cd_Tp_reckonUpTo 35 = .ok (.aload_n 0, 1) := by decide +kernel
theorem de_Tp_reckonUpTo_36 : decode cd_Tp_reckonUpTo 36 = .ok (.getfield 87, 3) := by decide +kernel
theorem de_Tp_reckonUpTo_39 : decode cd_Tp_reckonUpTo 39 = .ok (.iload_n 1, 1) := by decide +kernel
theorem de_Tp_reckonUpTo_40 : decode cd_Tp_reckonUpTo 40 = .ok (.iconst 1, 1) := by decide +kernel
theorem de_Tp_reckonUpTo_41 : decode cd_Tp_reckonUpTo 41 = .ok (.iadd, 1) := by decide +kernel
theorem de_Tp_reckonUpTo_42 : decode cd_Tp_reckonUpTo 42 = .ok (.invokestatic 104, 3) := by decide +kernel
theorem de_Tp_reckonUpTo_45 : decode cd_Tp_reckonUpTo 45 = .ok (.putfield 87, 3) := by decide +kernel
theorem de_Tp_reckonUpTo_48 : decode cd_Tp_reckonUpTo 48 = .ok (.return_, 1) := by decide +kernel
def jb_Tp_reckonUpTo_34 (N : Nat) (M : mv_M) (v0 : Nat) (v1 : Int32) : Option (Unit × mv_M) :=
  Option.bind (mj_getI M v0 7 3) fun x36 =>
  mj_call (jf_Jm_max N M x36 (v1 + 1)) fun r42 Mm42 =>
  Option.bind (mj_put Mm42 v0 7 3 (.int r42)) fun Mm45 =>
  some ((), Mm45)
def jb_Tp_reckonUpTo_5 (N : Nat) : Nat → mv_M → Nat → Int32 → Int32 → Option (Unit × mv_M)
  | 0, _, _, _, _ => none
  | n + 1, M, v0, v1, v2 =>
    if v1 < v2 then (jb_Tp_reckonUpTo_34 N M v0 v1) else
    Option.bind (mj_getI M v0 7 1) fun x12 =>
    if x12 ≤ v2 then (jb_Tp_reckonUpTo_34 N M v0 v1) else
    Option.bind (mj_getR M v0 7 0) fun x19 =>
    Option.bind x19 fun a23 =>
    Option.bind (mj_rld M a23 3 v2) fun x23 =>
    Option.bind x23 fun a25 =>
    mj_ob M a25 2 <|
    mj_call (jf_No_walk N M a25 0) fun r25 Mm25 =>
    jb_Tp_reckonUpTo_5 N n Mm25 v0 v1 (v2 + 1)
def jb_Tp_reckonUpTo_0 (N : Nat) (M : mv_M) (v0 : Nat) (v1 : Int32) : Option (Unit × mv_M) :=
  Option.bind (mj_getI M v0 7 3) fun x1 =>
  jb_Tp_reckonUpTo_5 N N M v0 v1 x1
def jf_Tp_reckonUpTo (N : Nat) (M : mv_M) (v0 : Nat) (v1 : Int32) : Option (Unit × mv_M) := jb_Tp_reckonUpTo_0 N M v0 v1
set_option maxHeartbeats 4000000 in
set_option maxRecDepth 100000 in
theorem tb_Tp_reckonUpTo_34 (l : Launch) (D : va_G) (E : Nat → ClassId) (B : Nat) (sa : (Nat → Nat) × Nat × (Nat → Int32)) (M0 M1 : mv_M) (r : Unit) (N : Nat) (M : mv_M) (v0 : Nat) (v1 : Int32) (hJ : jb_Tp_reckonUpTo_34 N M v0 v1 = some (r, M1)) : mv_G (xg l D E B sa) kd_Tp_reckonUpTo M0 M1 none M 34 [(0, va_rf (some v0)), (1, .int v1)] [] := by
  unfold jb_Tp_reckonUpTo_34 at hJ
  refine mv_aload_n (pc := 34) (i := 0) de_Tp_reckonUpTo_34 rfl 0 rfl ?_
  refine mv_aload_n (pc := 35) (i := 0) de_Tp_reckonUpTo_35 rfl 0 rfl ?_
  refine mv_getI (pc := 36) (f := 3) (kc_7 l D E B sa) (Nat.le_of_ble_eq_true rfl) wt_1_50 de_Tp_reckonUpTo_36 hJ (fun x36 e36 h36 => ?_)
  refine mv_iload_n (pc := 39) (i := 1) de_Tp_reckonUpTo_39 rfl 1 rfl ?_
  refine mv_iconst (pc := 40) (v := 1) de_Tp_reckonUpTo_40 (by decide) ?_
  refine mv_iadd (pc := 41) de_Tp_reckonUpTo_41 ?_
  obtain ⟨r42, Mm42, hz42, h42⟩ := mj_callE h36
  refine mv_callS (pc := 42) (n := 2) (av := [.int x36, .int (v1 + 1)]) (rest := [va_rf (some v0)]) de_Tp_reckonUpTo_42 (cm_Jm_max l D E B sa N M x36 (v1 + 1) _ _ hz42) wt_3_3 wt_2_85 wt_1_12 wt_2_86 ⟨by decide, by decide, by decide +kernel⟩ rfl ⟨Nat.le_of_ble_eq_true rfl, Nat.le_of_ble_eq_true rfl⟩ (Nat.le_of_ble_eq_true rfl) rfl ?_
  refine mv_put (pc := 45) (f := 3) (kc_7 l D E B sa) (Nat.le_of_ble_eq_true rfl) wt_1_50 rfl rfl rfl de_Tp_reckonUpTo_45 h42 (fun Mm45 e45 h45 => ?_)
  exact mv_vret (pc := 48) rfl de_Tp_reckonUpTo_48 h45
set_option maxHeartbeats 4000000 in
set_option maxRecDepth 100000 in
theorem tb_Tp_reckonUpTo_5 (l : Launch) (D : va_G) (E : Nat → ClassId) (B : Nat) (sa : (Nat → Nat) × Nat × (Nat → Int32)) (M0 M1 : mv_M) (r : Unit) (N : Nat) : ∀ (n : Nat) (M : mv_M) (v0 : Nat) (v1 : Int32) (v2 : Int32) (hJ : jb_Tp_reckonUpTo_5 N n M v0 v1 v2 = some (r, M1)), mv_G (xg l D E B sa) kd_Tp_reckonUpTo M0 M1 none M 5 [(0, va_rf (some v0)), (1, .int v1), (2, .int v2)] [] := by
  intro n
  induction n with
  | zero => intro M v0 v1 v2 hJ; cases hJ
  | succ n ih =>
    intro M v0 v1 v2 hJ
    rw [jb_Tp_reckonUpTo_5] at hJ
    refine mv_iload_n (pc := 5) (i := 2) de_Tp_reckonUpTo_5 rfl 2 rfl ?_
    refine mv_iload_n (pc := 6) (i := 1) de_Tp_reckonUpTo_6 rfl 1 rfl ?_
    refine mv_icmp_gt (pc := 7) (tgt := 34) de_Tp_reckonUpTo_7 (by decide) hJ (fun hc7 h7 => ?_) (fun hc7 h7 => ?_)
    · exact mv_sub [0, 1] rfl (tb_Tp_reckonUpTo_34 l D E B sa M0 M1 r N M v0 v1 h7)
    · refine mv_iload_n (pc := 10) (i := 2) de_Tp_reckonUpTo_10 rfl 2 rfl ?_
      refine mv_aload_n (pc := 11) (i := 0) de_Tp_reckonUpTo_11 rfl 0 rfl ?_
      refine mv_getI (pc := 12) (f := 1) (kc_7 l D E B sa) (Nat.le_of_ble_eq_true rfl) wt_1_46 de_Tp_reckonUpTo_12 h7 (fun x12 e12 h12 => ?_)
      refine mv_icmp_ge (pc := 15) (tgt := 34) de_Tp_reckonUpTo_15 (by decide) h12 (fun hc15 h15 => ?_) (fun hc15 h15 => ?_)
      · exact mv_sub [0, 1] rfl (tb_Tp_reckonUpTo_34 l D E B sa M0 M1 r N M v0 v1 h15)
      · refine mv_aload_n (pc := 18) (i := 0) de_Tp_reckonUpTo_18 rfl 0 rfl ?_
        refine mv_getR (pc := 19) (f := 0) (kc_7 l D E B sa) (Nat.le_of_ble_eq_true rfl) wt_1_45 de_Tp_reckonUpTo_19 h15 (fun x19 e19 h19 => ?_)
        refine mv_iload_n (pc := 22) (i := 2) de_Tp_reckonUpTo_22 rfl 2 rfl ?_
        obtain ⟨a23, ha, h23a⟩ := mj_bindE h19
        subst ha
        refine mv_aald (pc := 23) (t := 3) rfl de_Tp_reckonUpTo_23 h23a (fun x23 e23 h23 => ?_)
        refine mv_iconst (pc := 24) (v := 0) de_Tp_reckonUpTo_24 (by decide) ?_
        obtain ⟨a25, ha, h25a⟩ := mj_bindE h23
        subst ha
        obtain ⟨hi25, h25o⟩ := mj_obE h25a
        obtain ⟨r25, Mm25, hz25, h25⟩ := mj_callE h25o
        refine mv_callV (pc := 25) (n := 1) (av := [.int 0]) (rest := []) de_Tp_reckonUpTo_25 (kc_2 l D E B sa) hi25 (cm_No_walk l D E B sa N M a25 0 _ _ hz25) wt_2_173 wt_2_174 wt_2_175 wt_1_10 wt_2_176 ⟨by decide, by decide, by decide +kernel⟩ rfl ⟨Nat.le_of_ble_eq_true rfl, Nat.le_of_ble_eq_true rfl⟩ (Nat.le_of_ble_eq_true rfl) rfl ?_
        refine mv_iinc (pc := 28) (v := (v2 + 1)) (lv' := [(2, .int (v2 + 1)), (0, va_rf (some v0)), (1, .int v1)]) de_Tp_reckonUpTo_28 2 rfl rfl (Nat.le_of_ble_eq_true rfl) rfl ?_
        refine mv_goto (pc := 31) (tgt := 5) de_Tp_reckonUpTo_31 (by decide) ?_
        exact mv_sub [1, 2, 0] rfl (ih Mm25 v0 v1 (v2 + 1) h25)
set_option maxHeartbeats 4000000 in
set_option maxRecDepth 100000 in
theorem tb_Tp_reckonUpTo_0 (l : Launch) (D : va_G) (E : Nat → ClassId) (B : Nat) (sa : (Nat → Nat) × Nat × (Nat → Int32)) (M0 M1 : mv_M) (r : Unit) (N : Nat) (M : mv_M) (v0 : Nat) (v1 : Int32) (hJ : jb_Tp_reckonUpTo_0 N M v0 v1 = some (r, M1)) : mv_G (xg l D E B sa) kd_Tp_reckonUpTo M0 M1 none M 0 [(0, va_rf (some v0)), (1, .int v1)] [] := by
  unfold jb_Tp_reckonUpTo_0 at hJ
  refine mv_aload_n (pc := 0) (i := 0) de_Tp_reckonUpTo_0 rfl 0 rfl ?_
  refine mv_getI (pc := 1) (f := 3) (kc_7 l D E B sa) (Nat.le_of_ble_eq_true rfl) wt_1_50 de_Tp_reckonUpTo_1 hJ (fun x1 e1 h1 => ?_)
  refine mv_istore_n (pc := 4) (i := 2) (lv' := [(2, .int x1), (0, va_rf (some v0)), (1, .int v1)]) de_Tp_reckonUpTo_4 rfl (Nat.le_of_ble_eq_true rfl) rfl ?_
  exact mv_sub [1, 2, 0] rfl (tb_Tp_reckonUpTo_5 l D E B sa M0 M1 r N N M v0 v1 x1 h1)
theorem cm_Tp_reckonUpTo (l : Launch) (D : va_G) (E : Nat → ClassId) (B : Nat) (sa : (Nat → Nat) × Nat × (Nat → Int32)) (N : Nat) (M : mv_M) (v0 : Nat) (v1 : Int32) (r : Unit) (M1 : mv_M) (hJ : jf_Tp_reckonUpTo N M v0 v1 = some (r, M1)) : mv_Met (xg l D E B sa) yn_Tp_reckonUpTo cd_Tp_reckonUpTo 3 none 5 144 [va_rf (some v0), .int v1] M none M1 :=
  mv_enter (by decide) (Nat.le_of_ble_eq_true rfl) (mv_sub (lv := [(0, va_rf (some v0)), (1, .int v1)]) [0, 1] rfl (tb_Tp_reckonUpTo_0 l D E B sa M M1 r N M v0 v1 hJ))
/-! ===== PlainLearner$Fractions.sideOf(JI)J ===== -/
abbrev kd_Fr_sideOf : mv_Kd := (cd_Fr_sideOf, 3, "PlainLearner$Fractions", "sideOf", (some .long), 1, 21)
theorem de_Fr_sideOf_0 : decode cd_Fr_sideOf 0 = .ok (.iload_n 2, 1) := by decide +kernel
theorem de_Fr_sideOf_1 : decode cd_Fr_sideOf 1 = .ok (.ifCond .ne 10, 3) := by decide +kernel
theorem de_Fr_sideOf_4 : decode cd_Fr_sideOf 4 = .ok (.lload_n 0, 1) := by decide +kernel
theorem de_Fr_sideOf_5 : decode cd_Fr_sideOf 5 = .ok (.invokestatic 11, 3) := by decide +kernel
theorem de_Fr_sideOf_8 : decode cd_Fr_sideOf 8 = .ok (.goto 7, 3) := by decide +kernel
theorem de_Fr_sideOf_11 : decode cd_Fr_sideOf 11 = .ok (.lload_n 0, 1) := by decide +kernel
theorem de_Fr_sideOf_12 : decode cd_Fr_sideOf 12 = .ok (.invokestatic 15, 3) := by decide +kernel
theorem de_Fr_sideOf_15 : decode cd_Fr_sideOf 15 = .ok (.lreturn, 1) := by decide +kernel
def jb_Fr_sideOf_15 (N : Nat) (M : mv_M) (s0 : Int64) : Option (Int64 × mv_M) :=
  some (s0, M)
def jb_Fr_sideOf_0 (N : Nat) (M : mv_M) (v0 : Int64) (v2 : Int32) : Option (Int64 × mv_M) :=
  if v2 = 0 then (mj_call (jf_Fr_topOf N M v0) fun r5 Mm5 =>
  jb_Fr_sideOf_15 N Mm5 r5) else
  mj_call (jf_Fr_bottomOf N M v0) fun r12 Mm12 =>
  jb_Fr_sideOf_15 N Mm12 r12
def jf_Fr_sideOf (N : Nat) (M : mv_M) (v0 : Int64) (v2 : Int32) : Option (Int64 × mv_M) := jb_Fr_sideOf_0 N M v0 v2
set_option maxHeartbeats 4000000 in
set_option maxRecDepth 100000 in
theorem tb_Fr_sideOf_15 (l : Launch) (D : va_G) (E : Nat → ClassId) (B : Nat) (sa : (Nat → Nat) × Nat × (Nat → Int32)) (M0 M1 : mv_M) (r : Int64) (N : Nat) (M : mv_M) (s0 : Int64) (hJ : jb_Fr_sideOf_15 N M s0 = some (r, M1)) : mv_G (xg l D E B sa) kd_Fr_sideOf M0 M1 (some (.long r)) M 15 [] [.long s0] := by
  unfold jb_Fr_sideOf_15 at hJ
  exact mv_lret (pc := 15) rfl de_Fr_sideOf_15 hJ
set_option maxHeartbeats 4000000 in
set_option maxRecDepth 100000 in
theorem tb_Fr_sideOf_0 (l : Launch) (D : va_G) (E : Nat → ClassId) (B : Nat) (sa : (Nat → Nat) × Nat × (Nat → Int32)) (M0 M1 : mv_M) (r : Int64) (N : Nat) (M : mv_M) (v0 : Int64) (v2 : Int32) (hJ : jb_Fr_sideOf_0 N M v0 v2 = some (r, M1)) : mv_G (xg l D E B sa) kd_Fr_sideOf M0 M1 (some (.long r)) M 0 [(0, .long v0), (2, .int v2)] [] := by
  unfold jb_Fr_sideOf_0 at hJ
  refine mv_iload_n (pc := 0) (i := 2) de_Fr_sideOf_0 rfl 1 rfl ?_
  refine mv_if_ne (pc := 1) (tgt := 11) de_Fr_sideOf_1 (by decide) hJ (fun hc1 h1 => ?_) (fun hc1 h1 => ?_)
  · refine mv_lload_n (pc := 4) (i := 0) de_Fr_sideOf_4 rfl 0 rfl ?_
    obtain ⟨r5, Mm5, hz5, h5⟩ := mj_callE h1
    refine mv_callS (pc := 5) (n := 1) (av := [.long v0]) (rest := []) de_Fr_sideOf_5 (cm_Fr_topOf l D E B sa N M v0 _ _ hz5) wt_2_192 wt_2_193 wt_1_3 wt_2_194 ⟨by decide, by decide, by decide +kernel⟩ rfl ⟨Nat.le_of_ble_eq_true rfl, Nat.le_of_ble_eq_true rfl⟩ (Nat.le_of_ble_eq_true rfl) rfl ?_
    refine mv_goto (pc := 8) (tgt := 15) de_Fr_sideOf_8 (by decide) ?_
    exact mv_sub [] rfl (tb_Fr_sideOf_15 l D E B sa M0 M1 r N Mm5 r5 h5)
  · refine mv_lload_n (pc := 11) (i := 0) de_Fr_sideOf_11 rfl 0 rfl ?_
    obtain ⟨r12, Mm12, hz12, h12⟩ := mj_callE h1
    refine mv_callS (pc := 12) (n := 1) (av := [.long v0]) (rest := []) de_Fr_sideOf_12 (cm_Fr_bottomOf l D E B sa N M v0 _ _ hz12) wt_2_195 wt_2_196 wt_1_3 wt_2_197 ⟨by decide, by decide, by decide +kernel⟩ rfl ⟨Nat.le_of_ble_eq_true rfl, Nat.le_of_ble_eq_true rfl⟩ (Nat.le_of_ble_eq_true rfl) rfl ?_
    exact mv_sub [] rfl (tb_Fr_sideOf_15 l D E B sa M0 M1 r N Mm12 r12 h12)
theorem cm_Fr_sideOf (l : Launch) (D : va_G) (E : Nat → ClassId) (B : Nat) (sa : (Nat → Nat) × Nat × (Nat → Int32)) (N : Nat) (M : mv_M) (v0 : Int64) (v2 : Int32) (r : Int64) (M1 : mv_M) (hJ : jf_Fr_sideOf N M v0 v2 = some (r, M1)) : mv_Met (xg l D E B sa) yn_Fr_sideOf cd_Fr_sideOf 3 (some .long) 1 21 [.long v0, .int v2] M (some (.long r)) M1 :=
  mv_enter (by decide) (Nat.le_of_ble_eq_true rfl) (mv_sub (lv := [(0, .long v0), (2, .int v2)]) [0, 1] rfl (tb_Fr_sideOf_0 l D E B sa M M1 r N M v0 v2 hJ))
/-! ===== PlainLearner.value(III)J ===== -/
abbrev kd_PL_value : mv_Kd := (cd_PL_value, 5, "PlainLearner", "value", (some .long), 6, 166)
theorem de_PL_value_0 : decode cd_PL_value 0 = .ok (.aload_n 0, 1) := by decide +kernel
theorem de_PL_value_1 : decode cd_PL_value 1 = .ok (.getfield 10, 3) := by decide +kernel
theorem de_PL_value_4 : decode cd_PL_value 4 = .ok (.iload_n 1, 1) := by decide +kernel
theorem de_PL_value_5 : decode cd_PL_value 5 = .ok (.invokevirtual 68, 3) := by decide +kernel
theorem de_PL_value_8 : decode cd_PL_value 8 = .ok (.astore 4, 2) := by decide +kernel
theorem de_PL_value_10 : decode cd_PL_value 10 = .ok (.aload 4, 2) := by decide +kernel
theorem de_PL_value_12 : decode cd_PL_value 12 = .ok (.ifnull 19, 3) := by decide +kernel
theorem de_PL_value_15 : decode cd_PL_value 15 = .ok (.aload 4, 2) := by decide +kernel
theorem de_PL_value_17 : decode cd_PL_value 17 = .ok (.iload_n 2, 1) := by decide +kernel
theorem de_PL_value_18 : decode cd_PL_value 18 = .ok (.invokevirtual 78, 3) := by decide +kernel
theorem de_PL_value_21 : decode cd_PL_value 21 = .ok (.ifCond .eq 10, 3) := by decide +kernel
theorem de_PL_value_24 : decode cd_PL_value 24 = .ok (.iload_n 3, 1) := by decide +kernel
theorem de_PL_value_25 : decode cd_PL_value 25 = .ok (.invokestatic 82, 3) := by decide +kernel
theorem de_PL_value_28 : decode cd_PL_value 28 = .ok (.ifCond .ne 7, 3) := by decide +kernel
theorem de_PL_value_31 : decode cd_PL_value 31 = .ok (.ldc2_w 85, 3) := by decide +kernel
theorem de_PL_value_34 : decode cd_PL_value 34 = .ok (.lreturn, 1) := by decide +kernel
theorem de_PL_value_35 : decode cd_PL_value 35 = .ok (.aload_n 0, 1) := by decide +kernel
theorem de_PL_value_36 : decode cd_PL_value 36 = .ok (.getfield 10, 3) := by decide +kernel
theorem de_PL_value_39 : decode cd_PL_value 39 = .ok (.iload_n 1, 1) := by decide +kernel
theorem de_PL_value_40 : decode cd_PL_value 40 = .ok (.invokevirtual 87, 3) := by decide +kernel
theorem de_PL_value_43 : decode cd_PL_value 43 = .ok (.aload 4, 2) := by decide +kernel
theorem de_PL_value_45 : decode cd_PL_value 45 = .ok (.getfield 91, 3) := by decide +kernel
theorem de_PL_value_48 : decode cd_PL_value 48 = .ok (.iload_n 2, 1) := by decide +kernel
theorem de_PL_value_49 : decode cd_PL_value 49 = .ok (.laload, 1) := by decide +kernel
theorem de_PL_value_50 : decode cd_PL_value 50 = .ok (.iload_n 3, 1) := by decide +kernel
theorem de_PL_value_51 : decode cd_PL_value 51 = .ok (.invokestatic 95, 3) := by decide +kernel
theorem de_PL_value_54 : decode cd_PL_value 54 = .ok (.lreturn, 1) := by decide +kernel
def jb_PL_value_31 (N : Nat) (M : mv_M) : Option (Int64 × mv_M) :=
  some ((-1099511627776), M)
def jb_PL_value_0 (N : Nat) (M : mv_M) (v0 : Nat) (v1 : Int32) (v2 : Int32) (v3 : Int32) : Option (Int64 × mv_M) :=
  Option.bind (mj_getR M v0 0 0) fun x1 =>
  Option.bind x1 fun a5 =>
  mj_ob M a5 7 <|
  mj_call (jf_Tp_find N M a5 v1) fun r5 Mm5 =>
  mj_opt r5 (jb_PL_value_31 N Mm5) fun a12 =>
  mj_ob Mm5 a12 2 <|
  mj_call (jf_No_hasCell N Mm5 a12 v2) fun r18 Mm18 =>
  if r18 = 0 then (jb_PL_value_31 N Mm18) else
  mj_call (jf_PL_isSide N Mm18 v3) fun r25 Mm25 =>
  if r25 = 0 then (jb_PL_value_31 N Mm25) else
  Option.bind (mj_getR Mm25 v0 0 0) fun x36 =>
  Option.bind x36 fun a40 =>
  mj_ob Mm25 a40 7 <|
  mj_call (jf_Tp_reckonUpTo N Mm25 a40 v1) fun r40 Mm40 =>
  Option.bind (mj_getR Mm40 a12 2 9) fun x45 =>
  Option.bind x45 fun a49 =>
  Option.bind (mj_lld Mm40 a49 1 v2) fun x49 =>
  mj_call (jf_Fr_sideOf N Mm40 x49 v3) fun r51 Mm51 =>
  some (r51, Mm51)
def jf_PL_value (N : Nat) (M : mv_M) (v0 : Nat) (v1 : Int32) (v2 : Int32) (v3 : Int32) : Option (Int64 × mv_M) := jb_PL_value_0 N M v0 v1 v2 v3
set_option maxHeartbeats 4000000 in
set_option maxRecDepth 100000 in
theorem tb_PL_value_31 (l : Launch) (D : va_G) (E : Nat → ClassId) (B : Nat) (sa : (Nat → Nat) × Nat × (Nat → Int32)) (M0 M1 : mv_M) (r : Int64) (N : Nat) (M : mv_M) (hJ : jb_PL_value_31 N M = some (r, M1)) : mv_G (xg l D E B sa) kd_PL_value M0 M1 (some (.long r)) M 31 [] [] := by
  unfold jb_PL_value_31 at hJ
  refine mv_ldc2 (pc := 31) de_PL_value_31 wt_2_168 ?_
  exact mv_lret (pc := 34) rfl de_PL_value_34 hJ
set_option maxHeartbeats 4000000 in
set_option maxRecDepth 100000 in
theorem tb_PL_value_0 (l : Launch) (D : va_G) (E : Nat → ClassId) (B : Nat) (sa : (Nat → Nat) × Nat × (Nat → Int32)) (M0 M1 : mv_M) (r : Int64) (N : Nat) (M : mv_M) (v0 : Nat) (v1 : Int32) (v2 : Int32) (v3 : Int32) (hJ : jb_PL_value_0 N M v0 v1 v2 v3 = some (r, M1)) : mv_G (xg l D E B sa) kd_PL_value M0 M1 (some (.long r)) M 0 [(0, va_rf (some v0)), (1, .int v1), (2, .int v2), (3, .int v3)] [] := by
  unfold jb_PL_value_0 at hJ
  refine mv_aload_n (pc := 0) (i := 0) de_PL_value_0 rfl 0 rfl ?_
  refine mv_getR (pc := 1) (f := 0) (kc_0 l D E B sa) (Nat.le_of_ble_eq_true rfl) wt_1_146 de_PL_value_1 hJ (fun x1 e1 h1 => ?_)
  refine mv_iload_n (pc := 4) (i := 1) de_PL_value_4 rfl 1 rfl ?_
  obtain ⟨a5, ha, h5a⟩ := mj_bindE h1
  subst ha
  obtain ⟨hi5, h5o⟩ := mj_obE h5a
  obtain ⟨r5, Mm5, hz5, h5⟩ := mj_callE h5o
  refine mv_callV (pc := 5) (n := 1) (av := [.int v1]) (rest := []) de_PL_value_5 (kc_7 l D E B sa) hi5 (cm_Tp_find l D E B sa N M a5 v1 _ _ hz5) wt_2_155 wt_2_46 wt_2_47 wt_1_2 wt_2_48 ⟨by decide, by decide, by decide +kernel⟩ rfl ⟨Nat.le_of_ble_eq_true rfl, Nat.le_of_ble_eq_true rfl⟩ (Nat.le_of_ble_eq_true rfl) rfl ?_
  refine mv_astore (pc := 8) (lv' := [(4, va_rf r5), (0, va_rf (some v0)), (1, .int v1), (2, .int v2), (3, .int v3)]) de_PL_value_8 (Nat.le_of_ble_eq_true rfl) rfl ?_
  refine mv_aload (pc := 10) de_PL_value_10 0 rfl ?_
  refine mv_ifnull (pc := 12) (tgt := 31) de_PL_value_12 (by decide) h5 (fun ha h12 => ?_) (fun a12 ha h12 => ?_)
  · subst ha
    exact mv_sub [] rfl (tb_PL_value_31 l D E B sa M0 M1 r N Mm5 h12)
  · subst ha
    refine mv_aload (pc := 15) de_PL_value_15 0 rfl ?_
    refine mv_iload_n (pc := 17) (i := 2) de_PL_value_17 rfl 3 rfl ?_
    obtain ⟨hi18, h18o⟩ := mj_obE h12
    obtain ⟨r18, Mm18, hz18, h18⟩ := mj_callE h18o
    refine mv_callV (pc := 18) (n := 1) (av := [.int v2]) (rest := []) de_PL_value_18 (kc_2 l D E B sa) hi18 (cm_No_hasCell l D E B sa N Mm5 a12 v2 _ _ hz18) wt_2_164 wt_2_54 wt_2_55 wt_1_10 wt_2_56 ⟨by decide, by decide, by decide +kernel⟩ rfl ⟨Nat.le_of_ble_eq_true rfl, Nat.le_of_ble_eq_true rfl⟩ (Nat.le_of_ble_eq_true rfl) rfl ?_
    refine mv_if_eq (pc := 21) (tgt := 31) de_PL_value_21 (by decide) h18 (fun hc21 h21 => ?_) (fun hc21 h21 => ?_)
    · exact mv_sub [] rfl (tb_PL_value_31 l D E B sa M0 M1 r N Mm18 h21)
    · refine mv_iload_n (pc := 24) (i := 3) de_PL_value_24 rfl 4 rfl ?_
      obtain ⟨r25, Mm25, hz25, h25⟩ := mj_callE h21
      refine mv_callS (pc := 25) (n := 1) (av := [.int v3]) (rest := []) de_PL_value_25 (cm_PL_isSide l D E B sa N Mm18 v3 _ _ hz25) wt_2_165 wt_2_166 wt_1_1 wt_2_167 ⟨by decide, by decide, by decide +kernel⟩ rfl ⟨Nat.le_of_ble_eq_true rfl, Nat.le_of_ble_eq_true rfl⟩ (Nat.le_of_ble_eq_true rfl) rfl ?_
      refine mv_if_ne (pc := 28) (tgt := 35) de_PL_value_28 (by decide) h25 (fun hc28 h28 => ?_) (fun hc28 h28 => ?_)
      · exact mv_sub [] rfl (tb_PL_value_31 l D E B sa M0 M1 r N Mm25 h28)
      · refine mv_aload_n (pc := 35) (i := 0) de_PL_value_35 rfl 1 rfl ?_
        refine mv_getR (pc := 36) (f := 0) (kc_0 l D E B sa) (Nat.le_of_ble_eq_true rfl) wt_1_146 de_PL_value_36 h28 (fun x36 e36 h36 => ?_)
        refine mv_iload_n (pc := 39) (i := 1) de_PL_value_39 rfl 2 rfl ?_
        obtain ⟨a40, ha, h40a⟩ := mj_bindE h36
        subst ha
        obtain ⟨hi40, h40o⟩ := mj_obE h40a
        obtain ⟨r40, Mm40, hz40, h40⟩ := mj_callE h40o
        refine mv_callV (pc := 40) (n := 1) (av := [.int v1]) (rest := []) de_PL_value_40 (kc_7 l D E B sa) hi40 (cm_Tp_reckonUpTo l D E B sa N Mm25 a40 v1 _ _ hz40) wt_2_169 wt_2_170 wt_2_171 wt_1_2 wt_2_172 ⟨by decide, by decide, by decide +kernel⟩ rfl ⟨Nat.le_of_ble_eq_true rfl, Nat.le_of_ble_eq_true rfl⟩ (Nat.le_of_ble_eq_true rfl) rfl ?_
        refine mv_aload (pc := 43) de_PL_value_43 0 rfl ?_
        refine mv_getR (pc := 45) (f := 9) (kc_2 l D E B sa) (Nat.le_of_ble_eq_true rfl) wt_1_233 de_PL_value_45 h40 (fun x45 e45 h45 => ?_)
        refine mv_iload_n (pc := 48) (i := 2) de_PL_value_48 rfl 3 rfl ?_
        obtain ⟨a49, ha, h49a⟩ := mj_bindE h45
        subst ha
        refine mv_lald (pc := 49) (t := 1) rfl de_PL_value_49 h49a (fun x49 e49 h49 => ?_)
        refine mv_iload_n (pc := 50) (i := 3) de_PL_value_50 rfl 4 rfl ?_
        obtain ⟨r51, Mm51, hz51, h51⟩ := mj_callE h49
        refine mv_callS (pc := 51) (n := 2) (av := [.long x49, .int v3]) (rest := []) de_PL_value_51 (cm_Fr_sideOf l D E B sa N Mm40 x49 v3 _ _ hz51) wt_3_4 wt_3_5 wt_1_3 wt_3_6 ⟨by decide, by decide, by decide +kernel⟩ rfl ⟨Nat.le_of_ble_eq_true rfl, Nat.le_of_ble_eq_true rfl⟩ (Nat.le_of_ble_eq_true rfl) rfl ?_
        exact mv_lret (pc := 54) rfl de_PL_value_54 h51
theorem cm_PL_value (l : Launch) (D : va_G) (E : Nat → ClassId) (B : Nat) (sa : (Nat → Nat) × Nat × (Nat → Int32)) (N : Nat) (M : mv_M) (v0 : Nat) (v1 : Int32) (v2 : Int32) (v3 : Int32) (r : Int64) (M1 : mv_M) (hJ : jf_PL_value N M v0 v1 v2 v3 = some (r, M1)) : mv_Met (xg l D E B sa) yn_PL_value cd_PL_value 5 (some .long) 6 166 [va_rf (some v0), .int v1, .int v2, .int v3] M (some (.long r)) M1 :=
  mv_enter (by decide) (Nat.le_of_ble_eq_true rfl) (mv_sub (lv := [(0, va_rf (some v0)), (1, .int v1), (2, .int v2), (3, .int v3)]) [0, 1, 2, 3] rfl (tb_PL_value_0 l D E B sa M M1 r N M v0 v1 v2 v3 hJ))
/-! ===== PlainLearner$Tape.sumSlopes(II)V ===== -/
abbrev kd_Tp_sumSlopes : mv_Kd := (cd_Tp_sumSlopes, 4, "PlainLearner$Tape", "sumSlopes", none, 5, 144)
theorem de_Tp_sumSlopes_0 : decode cd_Tp_sumSlopes 0 = .ok (.iconst 0, 1) := by decide +kernel
theorem de_Tp_sumSlopes_1 : decode cd_Tp_sumSlopes 1 = .ok (.istore_n 3, 1) := by decide +kernel
theorem de_Tp_sumSlopes_2 : decode cd_Tp_sumSlopes 2 = .ok (.iload_n 3, 1) := by decide +kernel
theorem de_Tp_sumSlopes_3 : decode cd_Tp_sumSlopes 3 = .ok (.aload_n 0, 1) := by decide +kernel
theorem de_Tp_sumSlopes_4 : decode cd_Tp_sumSlopes 4 = .ok (.getfield 29, 3) := by decide +kernel
theorem de_Tp_sumSlopes_7 : decode cd_Tp_sumSlopes 7 = .ok (.if_icmp .ge 33, 3) := by decide +kernel
theorem de_Tp_sumSlopes_10 : decode cd_Tp_sumSlopes 10 = .ok (.aload_n 0, 1) := by decide +kernel
theorem de_Tp_sumSlopes_11 : decode cd_Tp_sumSlopes 11 = .ok (.getfield 13, 3) := by decide +kernel
theorem de_Tp_sumSlopes_14 : decode cd_Tp_sumSlopes 14 = .ok (.iload_n 3, 1) := by decide +kernel
theorem de_Tp_sumSlopes_15 : decode cd_Tp_sumSlopes 15 = .ok (.aaload, 1) := by decide +kernel
theorem de_Tp_sumSlopes_16 : decode cd_Tp_sumSlopes 16 = .ok (.getfield 107, 3) := by decide +kernel
theorem de_Tp_sumSlopes_19 : decode cd_Tp_sumSlopes 19 = .ok (.iload_n 3, 1) := by decide +kernel
theorem de_Tp_sumSlopes_20 : decode cd_Tp_sumSlopes 20 = .ok (.iload_n 1, 1) := by decide +kernel
theorem de_Tp_sumSlopes_21 : decode cd_Tp_sumSlopes 21 = .ok (.if_icmp .ne 9, 3) := by decide +kernel
theorem de_Tp_sumSlopes_24 : decode cd_Tp_sumSlopes 24 = .ok (.ldc2_w 110, 3) := by decide +kernel
theorem de_Tp_sumSlopes_27 : decode cd_Tp_sumSlopes 27 = .ok (.goto 4, 3) := by decide +kernel
theorem de_Tp_sumSlopes_30 : decode cd_Tp_sumSlopes 30 = .ok (.lconst 1, 1) := by decide +kernel
theorem de_Tp_sumSlopes_31 : decode cd_Tp_sumSlopes 31 = .ok (.invokestatic 112, 3) := by decide +kernel
theorem de_Tp_sumSlopes_34 : decode cd_Tp_sumSlopes 34 = .ok (.iinc 3 1, 3) := by decide +kernel
theorem de_Tp_sumSlopes_37 : decode cd_Tp_sumSlopes 37 = .ok (.goto (-35), 3) := by decide +kernel
theorem de_Tp_sumSlopes_40 : decode cd_Tp_sumSlopes 40 = .ok (.iload_n 1, 1) := by decide +kernel
theorem de_Tp_sumSlopes_41 : decode cd_Tp_sumSlopes 41 = .ok (.istore_n 3, 1) := by decide +kernel
theorem de_Tp_sumSlopes_42 : decode cd_Tp_sumSlopes 42 = .ok (.iload_n 3, 1) := by decide +kernel
theorem de_Tp_sumSlopes_43 : decode cd_Tp_sumSlopes 43 = .ok (.iload_n 2, 1) := by decide +kernel
theorem de_Tp_sumSlopes_44 : decode cd_Tp_sumSlopes 44 = .ok (.if_icmp .le 19, 3) := by decide +kernel
theorem de_Tp_sumSlopes_47 : decode cd_Tp_sumSlopes 47 = .ok (.aload_n 0, 1) := by decide +kernel
theorem de_Tp_sumSlopes_48 : decode cd_Tp_sumSlopes 48 = .ok (.getfield 13, 3) := by decide +kernel
theorem de_Tp_sumSlopes_51 : decode cd_Tp_sumSlopes 51 = .ok (.iload_n 3, 1) := by decide +kernel
theorem de_Tp_sumSlopes_52 : decode cd_Tp_sumSlopes 52 = .ok (.aaload, 1) := by decide +kernel
theorem de_Tp_sumSlopes_53 : decode cd_Tp_sumSlopes 53 = .ok (.iconst 1, 1) := by decide +kernel
theorem de_Tp_sumSlopes_54 : decode cd_Tp_sumSlopes 54 = .ok (.invokevirtual 100, 3) := by decide +kernel
theorem de_Tp_sumSlopes_57 : decode cd_Tp_sumSlopes 57 = .ok (.iinc 3 (-1), 3) := by decide +kernel
theorem de_Tp_sumSlopes_60 : decode cd_Tp_sumSlopes 60 = .ok (.goto (-18), 3) := by decide +kernel
theorem de_Tp_sumSlopes_63 : decode cd_Tp_sumSlopes 63 = .ok (.return_, 1) := by decide +kernel
def jb_Tp_sumSlopes_42 (N : Nat) : Nat → mv_M → Nat → Int32 → Int32 → Option (Unit × mv_M)
  | 0, _, _, _, _ => none
  | n + 1, M, v0, v2, v3 =>
    if v3 ≤ v2 then (some ((), M)) else
    Option.bind (mj_getR M v0 7 0) fun x48 =>
    Option.bind x48 fun a52 =>
    Option.bind (mj_rld M a52 3 v3) fun x52 =>
    Option.bind x52 fun a54 =>
    mj_ob M a54 2 <|
    mj_call (jf_No_walk N M a54 1) fun r54 Mm54 =>
    jb_Tp_sumSlopes_42 N n Mm54 v0 v2 (v3 + (-1))
def jb_Tp_sumSlopes_31 (N : Nat) (k2 : mv_M → Nat → Int32 → Int32 → Int32 → Option (Unit × mv_M)) (M : mv_M) (v0 : Nat) (v1 : Int32) (v2 : Int32) (v3 : Int32) (s0 : Option Nat) (s1 : Int64) : Option (Unit × mv_M) :=
  mj_call (jf_Ja_fill1 N M s0 s1) fun r31 Mm31 =>
  k2 Mm31 v0 v1 v2 (v3 + 1)
def jb_Tp_sumSlopes_2 (N : Nat) : Nat → mv_M → Nat → Int32 → Int32 → Int32 → Option (Unit × mv_M)
  | 0, _, _, _, _, _ => none
  | n + 1, M, v0, v1, v2, v3 =>
    Option.bind (mj_getI M v0 7 1) fun x4 =>
    if x4 ≤ v3 then (jb_Tp_sumSlopes_42 N N M v0 v2 v1) else
    Option.bind (mj_getR M v0 7 0) fun x11 =>
    Option.bind x11 fun a15 =>
    Option.bind (mj_rld M a15 3 v3) fun x15 =>
    Option.bind x15 fun a16 =>
    Option.bind (mj_getR M a16 2 10) fun x16 =>
    if v3 = v1 then (jb_Tp_sumSlopes_31 N (jb_Tp_sumSlopes_2 N n) M v0 v1 v2 v3 x16 4294967297) else
    jb_Tp_sumSlopes_31 N (jb_Tp_sumSlopes_2 N n) M v0 v1 v2 v3 x16 1
def jb_Tp_sumSlopes_0 (N : Nat) (M : mv_M) (v0 : Nat) (v1 : Int32) (v2 : Int32) : Option (Unit × mv_M) :=
  jb_Tp_sumSlopes_2 N N M v0 v1 v2 0
def jf_Tp_sumSlopes (N : Nat) (M : mv_M) (v0 : Nat) (v1 : Int32) (v2 : Int32) : Option (Unit × mv_M) := jb_Tp_sumSlopes_0 N M v0 v1 v2
set_option maxHeartbeats 4000000 in
set_option maxRecDepth 100000 in
theorem tb_Tp_sumSlopes_42 (l : Launch) (D : va_G) (E : Nat → ClassId) (B : Nat) (sa : (Nat → Nat) × Nat × (Nat → Int32)) (M0 M1 : mv_M) (r : Unit) (N : Nat) : ∀ (n : Nat) (M : mv_M) (v0 : Nat) (v2 : Int32) (v3 : Int32) (hJ : jb_Tp_sumSlopes_42 N n M v0 v2 v3 = some (r, M1)), mv_G (xg l D E B sa) kd_Tp_sumSlopes M0 M1 none M 42 [(0, va_rf (some v0)), (2, .int v2), (3, .int v3)] [] := by
  intro n
  induction n with
  | zero => intro M v0 v2 v3 hJ; cases hJ
  | succ n ih =>
    intro M v0 v2 v3 hJ
    rw [jb_Tp_sumSlopes_42] at hJ
    refine mv_iload_n (pc := 42) (i := 3) de_Tp_sumSlopes_42 rfl 2 rfl ?_
    refine mv_iload_n (pc := 43) (i := 2) de_Tp_sumSlopes_43 rfl 1 rfl ?_
    refine mv_icmp_le (pc := 44) (tgt := 63) de_Tp_sumSlopes_44 (by decide) hJ (fun hc44 h44 => ?_) (fun hc44 h44 => ?_)
    · exact mv_vret (pc := 63) rfl de_Tp_sumSlopes_63 h44
    · refine mv_aload_n (pc := 47) (i := 0) de_Tp_sumSlopes_47 rfl 0 rfl ?_
      refine mv_getR (pc := 48) (f := 0) (kc_7 l D E B sa) (Nat.le_of_ble_eq_true rfl) wt_1_45 de_Tp_sumSlopes_48 h44 (fun x48 e48 h48 => ?_)
      refine mv_iload_n (pc := 51) (i := 3) de_Tp_sumSlopes_51 rfl 2 rfl ?_
      obtain ⟨a52, ha, h52a⟩ := mj_bindE h48
      subst ha
      refine mv_aald (pc := 52) (t := 3) rfl de_Tp_sumSlopes_52 h52a (fun x52 e52 h52 => ?_)
      refine mv_iconst (pc := 53) (v := 1) de_Tp_sumSlopes_53 (by decide) ?_
      obtain ⟨a54, ha, h54a⟩ := mj_bindE h52
      subst ha
      obtain ⟨hi54, h54o⟩ := mj_obE h54a
      obtain ⟨r54, Mm54, hz54, h54⟩ := mj_callE h54o
      refine mv_callV (pc := 54) (n := 1) (av := [.int 1]) (rest := []) de_Tp_sumSlopes_54 (kc_2 l D E B sa) hi54 (cm_No_walk l D E B sa N M a54 1 _ _ hz54) wt_2_173 wt_2_174 wt_2_175 wt_1_10 wt_2_176 ⟨by decide, by decide, by decide +kernel⟩ rfl ⟨Nat.le_of_ble_eq_true rfl, Nat.le_of_ble_eq_true rfl⟩ (Nat.le_of_ble_eq_true rfl) rfl ?_
      refine mv_iinc (pc := 57) (v := (v3 + (-1))) (lv' := [(3, .int (v3 + (-1))), (0, va_rf (some v0)), (2, .int v2)]) de_Tp_sumSlopes_57 2 rfl rfl (Nat.le_of_ble_eq_true rfl) rfl ?_
      refine mv_goto (pc := 60) (tgt := 42) de_Tp_sumSlopes_60 (by decide) ?_
      exact mv_sub [1, 2, 0] rfl (ih Mm54 v0 v2 (v3 + (-1)) h54)
set_option maxHeartbeats 4000000 in
set_option maxRecDepth 100000 in
theorem tb_Tp_sumSlopes_31 (l : Launch) (D : va_G) (E : Nat → ClassId) (B : Nat) (sa : (Nat → Nat) × Nat × (Nat → Int32)) (M0 M1 : mv_M) (r : Unit) (N : Nat) (k2 : mv_M → Nat → Int32 → Int32 → Int32 → Option (Unit × mv_M)) (hk2 : ∀ (M : mv_M) (v0 : Nat) (v1 : Int32) (v2 : Int32) (v3 : Int32), k2 M v0 v1 v2 v3 = some (r, M1) → mv_G (xg l D E B sa) kd_Tp_sumSlopes M0 M1 none M 2 [(0, va_rf (some v0)), (1, .int v1), (2, .int v2), (3, .int v3)] []) (M : mv_M) (v0 : Nat) (v1 : Int32) (v2 : Int32) (v3 : Int32) (s0 : Option Nat) (s1 : Int64) (hJ : jb_Tp_sumSlopes_31 N k2 M v0 v1 v2 v3 s0 s1 = some (r, M1)) : mv_G (xg l D E B sa) kd_Tp_sumSlopes M0 M1 none M 31 [(0, va_rf (some v0)), (1, .int v1), (2, .int v2), (3, .int v3)] [.long s1, va_rf s0] := by
  unfold jb_Tp_sumSlopes_31 at hJ
  obtain ⟨r31, Mm31, hz31, h31⟩ := mj_callE hJ
  refine mv_callS (pc := 31) (n := 2) (av := [va_rf s0, .long s1]) (rest := []) de_Tp_sumSlopes_31 (cm_Ja_fill1 l D E B sa N M s0 s1 _ _ hz31) wt_3_16 wt_1_218 wt_1_11 wt_1_219 ⟨by decide, by decide, by decide +kernel⟩ rfl ⟨Nat.le_of_ble_eq_true rfl, Nat.le_of_ble_eq_true rfl⟩ (Nat.le_of_ble_eq_true rfl) rfl ?_
  refine mv_iinc (pc := 34) (v := (v3 + 1)) (lv' := [(3, .int (v3 + 1)), (0, va_rf (some v0)), (1, .int v1), (2, .int v2)]) de_Tp_sumSlopes_34 3 rfl rfl (Nat.le_of_ble_eq_true rfl) rfl ?_
  refine mv_goto (pc := 37) (tgt := 2) de_Tp_sumSlopes_37 (by decide) ?_
  exact mv_sub [1, 2, 3, 0] rfl (hk2 Mm31 v0 v1 v2 (v3 + 1) h31)
set_option maxHeartbeats 4000000 in
set_option maxRecDepth 100000 in
theorem tb_Tp_sumSlopes_2 (l : Launch) (D : va_G) (E : Nat → ClassId) (B : Nat) (sa : (Nat → Nat) × Nat × (Nat → Int32)) (M0 M1 : mv_M) (r : Unit) (N : Nat) : ∀ (n : Nat) (M : mv_M) (v0 : Nat) (v1 : Int32) (v2 : Int32) (v3 : Int32) (hJ : jb_Tp_sumSlopes_2 N n M v0 v1 v2 v3 = some (r, M1)), mv_G (xg l D E B sa) kd_Tp_sumSlopes M0 M1 none M 2 [(0, va_rf (some v0)), (1, .int v1), (2, .int v2), (3, .int v3)] [] := by
  intro n
  induction n with
  | zero => intro M v0 v1 v2 v3 hJ; cases hJ
  | succ n ih =>
    intro M v0 v1 v2 v3 hJ
    rw [jb_Tp_sumSlopes_2] at hJ
    refine mv_iload_n (pc := 2) (i := 3) de_Tp_sumSlopes_2 rfl 3 rfl ?_
    refine mv_aload_n (pc := 3) (i := 0) de_Tp_sumSlopes_3 rfl 0 rfl ?_
    refine mv_getI (pc := 4) (f := 1) (kc_7 l D E B sa) (Nat.le_of_ble_eq_true rfl) wt_1_46 de_Tp_sumSlopes_4 hJ (fun x4 e4 h4 => ?_)
    refine mv_icmp_ge (pc := 7) (tgt := 40) de_Tp_sumSlopes_7 (by decide) h4 (fun hc7 h7 => ?_) (fun hc7 h7 => ?_)
    · refine mv_iload_n (pc := 40) (i := 1) de_Tp_sumSlopes_40 rfl 1 rfl ?_
      refine mv_istore_n (pc := 41) (i := 3) (lv' := [(3, .int v1), (0, va_rf (some v0)), (1, .int v1), (2, .int v2)]) de_Tp_sumSlopes_41 rfl (Nat.le_of_ble_eq_true rfl) rfl ?_
      exact mv_sub [1, 3, 0] rfl (tb_Tp_sumSlopes_42 l D E B sa M0 M1 r N N M v0 v2 v1 h7)
    · refine mv_aload_n (pc := 10) (i := 0) de_Tp_sumSlopes_10 rfl 0 rfl ?_
      refine mv_getR (pc := 11) (f := 0) (kc_7 l D E B sa) (Nat.le_of_ble_eq_true rfl) wt_1_45 de_Tp_sumSlopes_11 h7 (fun x11 e11 h11 => ?_)
      refine mv_iload_n (pc := 14) (i := 3) de_Tp_sumSlopes_14 rfl 3 rfl ?_
      obtain ⟨a15, ha, h15a⟩ := mj_bindE h11
      subst ha
      refine mv_aald (pc := 15) (t := 3) rfl de_Tp_sumSlopes_15 h15a (fun x15 e15 h15 => ?_)
      obtain ⟨a16, ha, h16a⟩ := mj_bindE h15
      subst ha
      refine mv_getR (pc := 16) (f := 10) (kc_2 l D E B sa) (Nat.le_of_ble_eq_true rfl) wt_1_237 de_Tp_sumSlopes_16 h16a (fun x16 e16 h16 => ?_)
      refine mv_iload_n (pc := 19) (i := 3) de_Tp_sumSlopes_19 rfl 3 rfl ?_
      refine mv_iload_n (pc := 20) (i := 1) de_Tp_sumSlopes_20 rfl 1 rfl ?_
      refine mv_icmp_ne (pc := 21) (tgt := 30) de_Tp_sumSlopes_21 (by decide) h16 (fun hc21 h21 => ?_) (fun hc21 h21 => ?_)
      · refine mv_ldc2 (pc := 24) de_Tp_sumSlopes_24 wt_3_15 ?_
        refine mv_goto (pc := 27) (tgt := 31) de_Tp_sumSlopes_27 (by decide) ?_
        exact mv_sub [0, 1, 2, 3] rfl (tb_Tp_sumSlopes_31 l D E B sa M0 M1 r N (jb_Tp_sumSlopes_2 N n) ih M v0 v1 v2 v3 x16 4294967297 h21)
      · refine mv_lconst (pc := 30) (v := 1) de_Tp_sumSlopes_30 (by decide) ?_
        exact mv_sub [0, 1, 2, 3] rfl (tb_Tp_sumSlopes_31 l D E B sa M0 M1 r N (jb_Tp_sumSlopes_2 N n) ih M v0 v1 v2 v3 x16 1 h21)
set_option maxHeartbeats 4000000 in
set_option maxRecDepth 100000 in
theorem tb_Tp_sumSlopes_0 (l : Launch) (D : va_G) (E : Nat → ClassId) (B : Nat) (sa : (Nat → Nat) × Nat × (Nat → Int32)) (M0 M1 : mv_M) (r : Unit) (N : Nat) (M : mv_M) (v0 : Nat) (v1 : Int32) (v2 : Int32) (hJ : jb_Tp_sumSlopes_0 N M v0 v1 v2 = some (r, M1)) : mv_G (xg l D E B sa) kd_Tp_sumSlopes M0 M1 none M 0 [(0, va_rf (some v0)), (1, .int v1), (2, .int v2)] [] := by
  unfold jb_Tp_sumSlopes_0 at hJ
  refine mv_iconst (pc := 0) (v := 0) de_Tp_sumSlopes_0 (by decide) ?_
  refine mv_istore_n (pc := 1) (i := 3) (lv' := [(3, .int 0), (0, va_rf (some v0)), (1, .int v1), (2, .int v2)]) de_Tp_sumSlopes_1 rfl (Nat.le_of_ble_eq_true rfl) rfl ?_
  exact mv_sub [1, 2, 3, 0] rfl (tb_Tp_sumSlopes_2 l D E B sa M0 M1 r N N M v0 v1 v2 0 hJ)
theorem cm_Tp_sumSlopes (l : Launch) (D : va_G) (E : Nat → ClassId) (B : Nat) (sa : (Nat → Nat) × Nat × (Nat → Int32)) (N : Nat) (M : mv_M) (v0 : Nat) (v1 : Int32) (v2 : Int32) (r : Unit) (M1 : mv_M) (hJ : jf_Tp_sumSlopes N M v0 v1 v2 = some (r, M1)) : mv_Met (xg l D E B sa) yn_Tp_sumSlopes cd_Tp_sumSlopes 4 none 5 144 [va_rf (some v0), .int v1, .int v2] M none M1 :=
  mv_enter (by decide) (Nat.le_of_ble_eq_true rfl) (mv_sub (lv := [(0, va_rf (some v0)), (1, .int v1), (2, .int v2)]) [0, 1, 2] rfl (tb_Tp_sumSlopes_0 l D E B sa M M1 r N M v0 v1 v2 hJ))
/-! ===== PlainLearner.slope(IIII)J ===== -/
abbrev kd_PL_slope : mv_Kd := (cd_PL_slope, 7, "PlainLearner", "slope", (some .long), 6, 167)
theorem de_PL_slope_0 : decode cd_PL_slope 0 = .ok (.aload_n 0, 1) := by decide +kernel
theorem de_PL_slope_1 : decode cd_PL_slope 1 = .ok (.getfield 10, 3) := by decide +kernel
theorem de_PL_slope_4 : decode cd_PL_slope 4 = .ok (.iload_n 1, 1) := by decide +kernel
theorem de_PL_slope_5 : decode cd_PL_slope 5 = .ok (.invokevirtual 68, 3) := by decide +kernel
theorem de_PL_slope_8 : decode cd_PL_slope 8 = .ok (.astore 5, 2) := by decide +kernel
theorem de_PL_slope_10 : decode cd_PL_slope 10 = .ok (.aload_n 0, 1) := by decide +kernel
theorem de_PL_slope_11 : decode cd_PL_slope 11 = .ok (.getfield 10, 3) := by decide +kernel
theorem de_PL_slope_14 : decode cd_PL_slope 14 = .ok (.iload_n 2, 1) := by decide +kernel
theorem de_PL_slope_15 : decode cd_PL_slope 15 = .ok (.invokevirtual 68, 3) := by decide +kernel
theorem de_PL_slope_18 : decode cd_PL_slope 18 = .ok (.astore 6, 2) := by decide +kernel
theorem de_PL_slope_20 : decode cd_PL_slope 20 = .ok (.aload 5, 2) := by decide +kernel
theorem de_PL_slope_22 : decode cd_PL_slope 22 = .ok (.ifnull 30, 3) := by decide +kernel
theorem de_PL_slope_25 : decode cd_PL_slope 25 = .ok (.aload 6, 2) := by decide +kernel
theorem de_PL_slope_27 : decode cd_PL_slope 27 = .ok (.ifnull 25, 3) := by decide +kernel
theorem de_PL_slope_30 : decode cd_PL_slope 30 = .ok (.iload_n 2, 1) := by decide +kernel
theorem de_PL_slope_31 : decode cd_PL_slope 31 = .ok (.iload_n 1, 1) := by decide +kernel
theorem de_PL_slope_32 : decode cd_PL_slope 32 = .ok (.if_icmp .gt 20, 3) := by decide +kernel
theorem de_PL_slope_35 : decode cd_PL_slope 35 = .ok (.aload 6, 2) := by decide +kernel
theorem de_PL_slope_37 : decode cd_PL_slope 37 = .ok (.iload_n 3, 1) := by decide +kernel
theorem de_PL_slope_38 : decode cd_PL_slope 38 = .ok (.invokevirtual 78, 3) := by decide +kernel
theorem de_PL_slope_41 : decode cd_PL_slope 41 = .ok (.ifCond .eq 11, 3) := by decide +kernel
theorem de_PL_slope_44 : decode cd_PL_slope 44 = .ok (.iload 4, 2) := by decide +kernel
theorem de_PL_slope_46 : decode cd_PL_slope 46 = .ok (.invokestatic 82, 3) := by decide +kernel
theorem de_PL_slope_49 : decode cd_PL_slope 49 = .ok (.ifCond .ne 7, 3) := by decide +kernel
theorem de_PL_slope_52 : decode cd_PL_slope 52 = .ok (.ldc2_w 85, 3) := by decide +kernel
theorem de_PL_slope_55 : decode cd_PL_slope 55 = .ok (.lreturn, 1) := by decide +kernel
theorem de_PL_slope_56 : decode cd_PL_slope 56 = .ok (.aload_n 0, 1) := by decide +kernel
theorem de_PL_slope_57 : decode cd_PL_slope 57 = .ok (.getfield 10, 3) := by decide +kernel
theorem de_PL_slope_60 : decode cd_PL_slope 60 = .ok (.iload_n 1, 1) := by decide +kernel
theorem de_PL_slope_61 : decode cd_PL_slope 61 = .ok (.invokevirtual 87, 3) := by decide +kernel
theorem de_PL_slope_64 : decode cd_PL_slope 64 = .ok (.aload_n 0, 1) := by decide +kernel
theorem de_PL_slope_65 : decode cd_PL_slope 65 = .ok (.getfield 10, 3) := by decide +kernel
theorem de_PL_slope_68 : decode cd_PL_slope 68 = .ok (.iload_n 1, 1) := by decide +kernel
theorem de_PL_slope_69 : decode cd_PL_slope 69 = .ok (.iload_n 2, 1) := by decide +kernel
theorem de_PL_slope_70 : decode cd_PL_slope 70 = .ok (.invokevirtual 99, 3) := by decide +kernel
theorem de_PL_slope_73 : decode cd_PL_slope 73 = .ok (.aload 6, 2) := by decide +kernel
theorem de_PL_slope_75 : decode cd_PL_slope 75 = .ok (.getfield 103, 3) := by decide +kernel
theorem de_PL_slope_78 : decode cd_PL_slope 78 = .ok (.iload_n 3, 1) := by decide +kernel
theorem de_PL_slope_79 : decode cd_PL_slope 79 = .ok (.laload, 1) := by decide +kernel
theorem de_PL_slope_80 : decode cd_PL_slope 80 = .ok (.iload 4, 2) := by decide +kernel
theorem de_PL_slope_82 : decode cd_PL_slope 82 = .ok (.invokestatic 95, 3) := by decide +kernel
theorem de_PL_slope_85 : decode cd_PL_slope 85 = .ok (.lreturn, 1) := by decide +kernel
def jb_PL_slope_52 (N : Nat) (M : mv_M) : Option (Int64 × mv_M) :=
  some ((-1099511627776), M)
def jb_PL_slope_0 (N : Nat) (M : mv_M) (v0 : Nat) (v1 : Int32) (v2 : Int32) (v3 : Int32) (v4 : Int32) : Option (Int64 × mv_M) :=
  Option.bind (mj_getR M v0 0 0) fun x1 =>
  Option.bind x1 fun a5 =>
  mj_ob M a5 7 <|
  mj_call (jf_Tp_find N M a5 v1) fun r5 Mm5 =>
  Option.bind (mj_getR Mm5 v0 0 0) fun x11 =>
  Option.bind x11 fun a15 =>
  mj_ob Mm5 a15 7 <|
  mj_call (jf_Tp_find N Mm5 a15 v2) fun r15 Mm15 =>
  mj_opt r5 (jb_PL_slope_52 N Mm15) fun a22 =>
  mj_opt r15 (jb_PL_slope_52 N Mm15) fun a27 =>
  if v1 < v2 then (jb_PL_slope_52 N Mm15) else
  mj_ob Mm15 a27 2 <|
  mj_call (jf_No_hasCell N Mm15 a27 v3) fun r38 Mm38 =>
  if r38 = 0 then (jb_PL_slope_52 N Mm38) else
  mj_call (jf_PL_isSide N Mm38 v4) fun r46 Mm46 =>
  if r46 = 0 then (jb_PL_slope_52 N Mm46) else
  Option.bind (mj_getR Mm46 v0 0 0) fun x57 =>
  Option.bind x57 fun a61 =>
  mj_ob Mm46 a61 7 <|
  mj_call (jf_Tp_reckonUpTo N Mm46 a61 v1) fun r61 Mm61 =>
  Option.bind (mj_getR Mm61 v0 0 0) fun x65 =>
  Option.bind x65 fun a70 =>
  mj_ob Mm61 a70 7 <|
  mj_call (jf_Tp_sumSlopes N Mm61 a70 v1 v2) fun r70 Mm70 =>
  Option.bind (mj_getR Mm70 a27 2 10) fun x75 =>
  Option.bind x75 fun a79 =>
  Option.bind (mj_lld Mm70 a79 1 v3) fun x79 =>
  mj_call (jf_Fr_sideOf N Mm70 x79 v4) fun r82 Mm82 =>
  some (r82, Mm82)
def jf_PL_slope (N : Nat) (M : mv_M) (v0 : Nat) (v1 : Int32) (v2 : Int32) (v3 : Int32) (v4 : Int32) : Option (Int64 × mv_M) := jb_PL_slope_0 N M v0 v1 v2 v3 v4
set_option maxHeartbeats 4000000 in
set_option maxRecDepth 100000 in
theorem tb_PL_slope_52 (l : Launch) (D : va_G) (E : Nat → ClassId) (B : Nat) (sa : (Nat → Nat) × Nat × (Nat → Int32)) (M0 M1 : mv_M) (r : Int64) (N : Nat) (M : mv_M) (hJ : jb_PL_slope_52 N M = some (r, M1)) : mv_G (xg l D E B sa) kd_PL_slope M0 M1 (some (.long r)) M 52 [] [] := by
  unfold jb_PL_slope_52 at hJ
  refine mv_ldc2 (pc := 52) de_PL_slope_52 wt_2_168 ?_
  exact mv_lret (pc := 55) rfl de_PL_slope_55 hJ
set_option maxHeartbeats 4000000 in
set_option maxRecDepth 100000 in
theorem tb_PL_slope_0 (l : Launch) (D : va_G) (E : Nat → ClassId) (B : Nat) (sa : (Nat → Nat) × Nat × (Nat → Int32)) (M0 M1 : mv_M) (r : Int64) (N : Nat) (M : mv_M) (v0 : Nat) (v1 : Int32) (v2 : Int32) (v3 : Int32) (v4 : Int32) (hJ : jb_PL_slope_0 N M v0 v1 v2 v3 v4 = some (r, M1)) : mv_G (xg l D E B sa) kd_PL_slope M0 M1 (some (.long r)) M 0 [(0, va_rf (some v0)), (1, .int v1), (2, .int v2), (3, .int v3), (4, .int v4)] [] := by
  unfold jb_PL_slope_0 at hJ
  refine mv_aload_n (pc := 0) (i := 0) de_PL_slope_0 rfl 0 rfl ?_
  refine mv_getR (pc := 1) (f := 0) (kc_0 l D E B sa) (Nat.le_of_ble_eq_true rfl) wt_1_146 de_PL_slope_1 hJ (fun x1 e1 h1 => ?_)
  refine mv_iload_n (pc := 4) (i := 1) de_PL_slope_4 rfl 1 rfl ?_
  obtain ⟨a5, ha, h5a⟩ := mj_bindE h1
  subst ha
  obtain ⟨hi5, h5o⟩ := mj_obE h5a
  obtain ⟨r5, Mm5, hz5, h5⟩ := mj_callE h5o
  refine mv_callV (pc := 5) (n := 1) (av := [.int v1]) (rest := []) de_PL_slope_5 (kc_7 l D E B sa) hi5 (cm_Tp_find l D E B sa N M a5 v1 _ _ hz5) wt_2_155 wt_2_46 wt_2_47 wt_1_2 wt_2_48 ⟨by decide, by decide, by decide +kernel⟩ rfl ⟨Nat.le_of_ble_eq_true rfl, Nat.le_of_ble_eq_true rfl⟩ (Nat.le_of_ble_eq_true rfl) rfl ?_
  refine mv_astore (pc := 8) (lv' := [(5, va_rf r5), (0, va_rf (some v0)), (1, .int v1), (2, .int v2), (3, .int v3), (4, .int v4)]) de_PL_slope_8 (Nat.le_of_ble_eq_true rfl) rfl ?_
  refine mv_aload_n (pc := 10) (i := 0) de_PL_slope_10 rfl 1 rfl ?_
  refine mv_getR (pc := 11) (f := 0) (kc_0 l D E B sa) (Nat.le_of_ble_eq_true rfl) wt_1_146 de_PL_slope_11 h5 (fun x11 e11 h11 => ?_)
  refine mv_iload_n (pc := 14) (i := 2) de_PL_slope_14 rfl 3 rfl ?_
  obtain ⟨a15, ha, h15a⟩ := mj_bindE h11
  subst ha
  obtain ⟨hi15, h15o⟩ := mj_obE h15a
  obtain ⟨r15, Mm15, hz15, h15⟩ := mj_callE h15o
  refine mv_callV (pc := 15) (n := 1) (av := [.int v2]) (rest := []) de_PL_slope_15 (kc_7 l D E B sa) hi15 (cm_Tp_find l D E B sa N Mm5 a15 v2 _ _ hz15) wt_2_155 wt_2_46 wt_2_47 wt_1_2 wt_2_48 ⟨by decide, by decide, by decide +kernel⟩ rfl ⟨Nat.le_of_ble_eq_true rfl, Nat.le_of_ble_eq_true rfl⟩ (Nat.le_of_ble_eq_true rfl) rfl ?_
  refine mv_astore (pc := 18) (lv' := [(6, va_rf r15), (5, va_rf r5), (0, va_rf (some v0)), (1, .int v1), (2, .int v2), (3, .int v3), (4, .int v4)]) de_PL_slope_18 (Nat.le_of_ble_eq_true rfl) (by simp [List.filter, mv_cat]) ?_
  refine mv_aload (pc := 20) de_PL_slope_20 1 rfl ?_
  refine mv_ifnull (pc := 22) (tgt := 52) de_PL_slope_22 (by decide) h15 (fun ha h22 => ?_) (fun a22 ha h22 => ?_)
  · subst ha
    exact mv_sub [] rfl (tb_PL_slope_52 l D E B sa M0 M1 r N Mm15 h22)
  · subst ha
    refine mv_aload (pc := 25) de_PL_slope_25 0 rfl ?_
    refine mv_ifnull (pc := 27) (tgt := 52) de_PL_slope_27 (by decide) h22 (fun ha h27 => ?_) (fun a27 ha h27 => ?_)
    · subst ha
      exact mv_sub [] rfl (tb_PL_slope_52 l D E B sa M0 M1 r N Mm15 h27)
    · subst ha
      refine mv_iload_n (pc := 30) (i := 2) de_PL_slope_30 rfl 4 rfl ?_
      refine mv_iload_n (pc := 31) (i := 1) de_PL_slope_31 rfl 3 rfl ?_
      refine mv_icmp_gt (pc := 32) (tgt := 52) de_PL_slope_32 (by decide) h27 (fun hc32 h32 => ?_) (fun hc32 h32 => ?_)
      · exact mv_sub [] rfl (tb_PL_slope_52 l D E B sa M0 M1 r N Mm15 h32)
      · refine mv_aload (pc := 35) de_PL_slope_35 0 rfl ?_
        refine mv_iload_n (pc := 37) (i := 3) de_PL_slope_37 rfl 5 rfl ?_
        obtain ⟨hi38, h38o⟩ := mj_obE h32
        obtain ⟨r38, Mm38, hz38, h38⟩ := mj_callE h38o
        refine mv_callV (pc := 38) (n := 1) (av := [.int v3]) (rest := []) de_PL_slope_38 (kc_2 l D E B sa) hi38 (cm_No_hasCell l D E B sa N Mm15 a27 v3 _ _ hz38) wt_2_164 wt_2_54 wt_2_55 wt_1_10 wt_2_56 ⟨by decide, by decide, by decide +kernel⟩ rfl ⟨Nat.le_of_ble_eq_true rfl, Nat.le_of_ble_eq_true rfl⟩ (Nat.le_of_ble_eq_true rfl) rfl ?_
        refine mv_if_eq (pc := 41) (tgt := 52) de_PL_slope_41 (by decide) h38 (fun hc41 h41 => ?_) (fun hc41 h41 => ?_)
        · exact mv_sub [] rfl (tb_PL_slope_52 l D E B sa M0 M1 r N Mm38 h41)
        · refine mv_iload (pc := 44) de_PL_slope_44 6 rfl ?_
          obtain ⟨r46, Mm46, hz46, h46⟩ := mj_callE h41
          refine mv_callS (pc := 46) (n := 1) (av := [.int v4]) (rest := []) de_PL_slope_46 (cm_PL_isSide l D E B sa N Mm38 v4 _ _ hz46) wt_2_165 wt_2_166 wt_1_1 wt_2_167 ⟨by decide, by decide, by decide +kernel⟩ rfl ⟨Nat.le_of_ble_eq_true rfl, Nat.le_of_ble_eq_true rfl⟩ (Nat.le_of_ble_eq_true rfl) rfl ?_
          refine mv_if_ne (pc := 49) (tgt := 56) de_PL_slope_49 (by decide) h46 (fun hc49 h49 => ?_) (fun hc49 h49 => ?_)
          · exact mv_sub [] rfl (tb_PL_slope_52 l D E B sa M0 M1 r N Mm46 h49)
          · refine mv_aload_n (pc := 56) (i := 0) de_PL_slope_56 rfl 2 rfl ?_
            refine mv_getR (pc := 57) (f := 0) (kc_0 l D E B sa) (Nat.le_of_ble_eq_true rfl) wt_1_146 de_PL_slope_57 h49 (fun x57 e57 h57 => ?_)
            refine mv_iload_n (pc := 60) (i := 1) de_PL_slope_60 rfl 3 rfl ?_
            obtain ⟨a61, ha, h61a⟩ := mj_bindE h57
            subst ha
            obtain ⟨hi61, h61o⟩ := mj_obE h61a
            obtain ⟨r61, Mm61, hz61, h61⟩ := mj_callE h61o
            refine mv_callV (pc := 61) (n := 1) (av := [.int v1]) (rest := []) de_PL_slope_61 (kc_7 l D E B sa) hi61 (cm_Tp_reckonUpTo l D E B sa N Mm46 a61 v1 _ _ hz61) wt_2_169 wt_2_170 wt_2_171 wt_1_2 wt_2_172 ⟨by decide, by decide, by decide +kernel⟩ rfl ⟨Nat.le_of_ble_eq_true rfl, Nat.le_of_ble_eq_true rfl⟩ (Nat.le_of_ble_eq_true rfl) rfl ?_
            refine mv_aload_n (pc := 64) (i := 0) de_PL_slope_64 rfl 2 rfl ?_
            refine mv_getR (pc := 65) (f := 0) (kc_0 l D E B sa) (Nat.le_of_ble_eq_true rfl) wt_1_146 de_PL_slope_65 h61 (fun x65 e65 h65 => ?_)
            refine mv_iload_n (pc := 68) (i := 1) de_PL_slope_68 rfl 3 rfl ?_
            refine mv_iload_n (pc := 69) (i := 2) de_PL_slope_69 rfl 4 rfl ?_
            obtain ⟨a70, ha, h70a⟩ := mj_bindE h65
            subst ha
            obtain ⟨hi70, h70o⟩ := mj_obE h70a
            obtain ⟨r70, Mm70, hz70, h70⟩ := mj_callE h70o
            refine mv_callV (pc := 70) (n := 2) (av := [.int v1, .int v2]) (rest := []) de_PL_slope_70 (kc_7 l D E B sa) hi70 (cm_Tp_sumSlopes l D E B sa N Mm61 a70 v1 v2 _ _ hz70) wt_3_11 wt_3_12 wt_3_13 wt_1_2 wt_3_14 ⟨by decide, by decide, by decide +kernel⟩ rfl ⟨Nat.le_of_ble_eq_true rfl, Nat.le_of_ble_eq_true rfl⟩ (Nat.le_of_ble_eq_true rfl) rfl ?_
            refine mv_aload (pc := 73) de_PL_slope_73 0 rfl ?_
            refine mv_getR (pc := 75) (f := 10) (kc_2 l D E B sa) (Nat.le_of_ble_eq_true rfl) wt_1_236 de_PL_slope_75 h70 (fun x75 e75 h75 => ?_)
            refine mv_iload_n (pc := 78) (i := 3) de_PL_slope_78 rfl 5 rfl ?_
            obtain ⟨a79, ha, h79a⟩ := mj_bindE h75
            subst ha
            refine mv_lald (pc := 79) (t := 1) rfl de_PL_slope_79 h79a (fun x79 e79 h79 => ?_)
            refine mv_iload (pc := 80) de_PL_slope_80 6 rfl ?_
            obtain ⟨r82, Mm82, hz82, h82⟩ := mj_callE h79
            refine mv_callS (pc := 82) (n := 2) (av := [.long x79, .int v4]) (rest := []) de_PL_slope_82 (cm_Fr_sideOf l D E B sa N Mm70 x79 v4 _ _ hz82) wt_3_4 wt_3_5 wt_1_3 wt_3_6 ⟨by decide, by decide, by decide +kernel⟩ rfl ⟨Nat.le_of_ble_eq_true rfl, Nat.le_of_ble_eq_true rfl⟩ (Nat.le_of_ble_eq_true rfl) rfl ?_
            exact mv_lret (pc := 85) rfl de_PL_slope_85 h82
theorem cm_PL_slope (l : Launch) (D : va_G) (E : Nat → ClassId) (B : Nat) (sa : (Nat → Nat) × Nat × (Nat → Int32)) (N : Nat) (M : mv_M) (v0 : Nat) (v1 : Int32) (v2 : Int32) (v3 : Int32) (v4 : Int32) (r : Int64) (M1 : mv_M) (hJ : jf_PL_slope N M v0 v1 v2 v3 v4 = some (r, M1)) : mv_Met (xg l D E B sa) yn_PL_slope cd_PL_slope 7 (some .long) 6 167 [va_rf (some v0), .int v1, .int v2, .int v3, .int v4] M (some (.long r)) M1 :=
  mv_enter (by decide) (Nat.le_of_ble_eq_true rfl) (mv_sub (lv := [(0, va_rf (some v0)), (1, .int v1), (2, .int v2), (3, .int v3), (4, .int v4)]) [0, 1, 2, 3, 4] rfl (tb_PL_slope_0 l D E B sa M M1 r N M v0 v1 v2 v3 v4 hJ))
/-! ===== java/lang/Math.min(JJ)J ===== -/
abbrev kd_Jm_min1 : mv_Kd := (cd_Jm_min1, 4, "java/lang/Math", "min", (some .long), 0, 0)
theorem de_Jm_min1_0 : decode cd_Jm_min1 0 = .ok (.lload_n 0, 1) := by decide +kernel
theorem de_Jm_min1_1 : decode cd_Jm_min1 1 = .ok (.lload_n 2, 1) := by decide +kernel
theorem de_Jm_min1_2 : decode cd_Jm_min1 2 = .ok (.lcmp, 1) := by decide +kernel
theorem de_Jm_min1_3 : decode cd_Jm_min1 3 = .ok (.ifCond .gt 7, 3) := by decide +kernel
theorem de_Jm_min1_6 : decode cd_Jm_min1 6 = .ok (.lload_n 0, 1) := by decide +kernel
theorem de_Jm_min1_7 : decode cd_Jm_min1 7 = .ok (.goto 4, 3) := by decide +kernel
theorem de_Jm_min1_10 : decode cd_Jm_min1 10 = .ok (.lload_n 2, 1) := by decide +kernel
theorem de_Jm_min1_11 : decode cd_Jm_min1 11 = .ok (.lreturn, 1) := by decide +kernel
def jb_Jm_min1_11 (N : Nat) (M : mv_M) (s0 : Int64) : Option (Int64 × mv_M) :=
  some (s0, M)
def jb_Jm_min1_0 (N : Nat) (M : mv_M) (v0 : Int64) (v2 : Int64) : Option (Int64 × mv_M) :=
  if 0 < (lg_cmp v0 v2) then (jb_Jm_min1_11 N M v2) else
  jb_Jm_min1_11 N M v0
def jf_Jm_min1 (N : Nat) (M : mv_M) (v0 : Int64) (v2 : Int64) : Option (Int64 × mv_M) := jb_Jm_min1_0 N M v0 v2
set_option maxHeartbeats 4000000 in
set_option maxRecDepth 100000 in
theorem tb_Jm_min1_11 (l : Launch) (D : va_G) (E : Nat → ClassId) (B : Nat) (sa : (Nat → Nat) × Nat × (Nat → Int32)) (M0 M1 : mv_M) (r : Int64) (N : Nat) (M : mv_M) (s0 : Int64) (hJ : jb_Jm_min1_11 N M s0 = some (r, M1)) : mv_G (xg l D E B sa) kd_Jm_min1 M0 M1 (some (.long r)) M 11 [] [.long s0] := by
  unfold jb_Jm_min1_11 at hJ
  exact mv_lret (pc := 11) rfl de_Jm_min1_11 hJ
set_option maxHeartbeats 4000000 in
set_option maxRecDepth 100000 in
theorem tb_Jm_min1_0 (l : Launch) (D : va_G) (E : Nat → ClassId) (B : Nat) (sa : (Nat → Nat) × Nat × (Nat → Int32)) (M0 M1 : mv_M) (r : Int64) (N : Nat) (M : mv_M) (v0 : Int64) (v2 : Int64) (hJ : jb_Jm_min1_0 N M v0 v2 = some (r, M1)) : mv_G (xg l D E B sa) kd_Jm_min1 M0 M1 (some (.long r)) M 0 [(0, .long v0), (2, .long v2)] [] := by
  unfold jb_Jm_min1_0 at hJ
  refine mv_lload_n (pc := 0) (i := 0) de_Jm_min1_0 rfl 0 rfl ?_
  refine mv_lload_n (pc := 1) (i := 2) de_Jm_min1_1 rfl 1 rfl ?_
  refine mv_lcmp (pc := 2) de_Jm_min1_2 ?_
  refine mv_if_gt (pc := 3) (tgt := 10) de_Jm_min1_3 (by decide) hJ (fun hc3 h3 => ?_) (fun hc3 h3 => ?_)
  · refine mv_lload_n (pc := 10) (i := 2) de_Jm_min1_10 rfl 1 rfl ?_
    exact mv_sub [] rfl (tb_Jm_min1_11 l D E B sa M0 M1 r N M v2 h3)
  · refine mv_lload_n (pc := 6) (i := 0) de_Jm_min1_6 rfl 0 rfl ?_
    refine mv_goto (pc := 7) (tgt := 11) de_Jm_min1_7 (by decide) ?_
    exact mv_sub [] rfl (tb_Jm_min1_11 l D E B sa M0 M1 r N M v0 h3)
theorem cm_Jm_min1 (l : Launch) (D : va_G) (E : Nat → ClassId) (B : Nat) (sa : (Nat → Nat) × Nat × (Nat → Int32)) (N : Nat) (M : mv_M) (v0 : Int64) (v2 : Int64) (r : Int64) (M1 : mv_M) (hJ : jf_Jm_min1 N M v0 v2 = some (r, M1)) : mv_Met (xg l D E B sa) yn_Jm_min1 cd_Jm_min1 4 (some .long) 0 0 [.long v0, .long v2] M (some (.long r)) M1 :=
  mv_enterF (by decide +kernel) (Nat.le_of_ble_eq_true rfl) (mv_sub (lv := [(0, .long v0), (2, .long v2)]) [0, 1] rfl (tb_Jm_min1_0 l D E B sa M M1 r N M v0 v2 hJ))
/-! ===== PlainLearner$Tape.passPaths(LPlainLearner$Node;LPlainLearner$Node;)V ===== -/
abbrev kd_Tp_passPaths : mv_Kd := (cd_Tp_passPaths, 2, "PlainLearner$Tape", "passPaths", none, 1, 23)
theorem de_Tp_passPaths_0 : decode cd_Tp_passPaths 0 = .ok (.aload_n 1, 1) := by decide +kernel
theorem de_Tp_passPaths_1 : decode cd_Tp_passPaths 1 = .ok (.ifnull 22, 3) := by decide +kernel
theorem de_Tp_passPaths_4 : decode cd_Tp_passPaths 4 = .ok (.aload_n 1, 1) := by decide +kernel
theorem de_Tp_passPaths_5 : decode cd_Tp_passPaths 5 = .ok (.ldc2_w 134, 3) := by decide +kernel
theorem de_Tp_passPaths_8 : decode cd_Tp_passPaths 8 = .ok (.aload_n 1, 1) := by decide +kernel
theorem de_Tp_passPaths_9 : decode cd_Tp_passPaths 9 = .ok (.getfield 120, 3) := by decide +kernel
theorem de_Tp_passPaths_12 : decode cd_Tp_passPaths 12 = .ok (.aload_n 0, 1) := by decide +kernel
theorem de_Tp_passPaths_13 : decode cd_Tp_passPaths 13 = .ok (.getfield 120, 3) := by decide +kernel
theorem de_Tp_passPaths_16 : decode cd_Tp_passPaths 16 = .ok (.ladd, 1) := by decide +kernel
theorem de_Tp_passPaths_17 : decode cd_Tp_passPaths 17 = .ok (.invokestatic 136, 3) := by decide +kernel
theorem de_Tp_passPaths_20 : decode cd_Tp_passPaths 20 = .ok (.putfield 120, 3) := by decide +kernel
theorem de_Tp_passPaths_23 : decode cd_Tp_passPaths 23 = .ok (.return_, 1) := by decide +kernel
def jb_Tp_passPaths_23 (N : Nat) (M : mv_M) : Option (Unit × mv_M) :=
  some ((), M)
def jb_Tp_passPaths_0 (N : Nat) (M : mv_M) (v0 : Option Nat) (v1 : Option Nat) : Option (Unit × mv_M) :=
  mj_opt v1 (jb_Tp_passPaths_23 N M) fun a1 =>
  Option.bind (mj_getL M a1 2 12) fun x9 =>
  Option.bind v0 fun a13 =>
  Option.bind (mj_getL M a13 2 12) fun x13 =>
  mj_call (jf_Jm_min1 N M 1000000000000000000 (x9 + x13)) fun r17 Mm17 =>
  Option.bind (mj_put Mm17 a1 2 12 (.long r17)) fun Mm20 =>
  jb_Tp_passPaths_23 N Mm20
def jf_Tp_passPaths (N : Nat) (M : mv_M) (v0 : Option Nat) (v1 : Option Nat) : Option (Unit × mv_M) := jb_Tp_passPaths_0 N M v0 v1
set_option maxHeartbeats 4000000 in
set_option maxRecDepth 100000 in
theorem tb_Tp_passPaths_23 (l : Launch) (D : va_G) (E : Nat → ClassId) (B : Nat) (sa : (Nat → Nat) × Nat × (Nat → Int32)) (M0 M1 : mv_M) (r : Unit) (N : Nat) (M : mv_M) (hJ : jb_Tp_passPaths_23 N M = some (r, M1)) : mv_G (xg l D E B sa) kd_Tp_passPaths M0 M1 none M 23 [] [] := by
  unfold jb_Tp_passPaths_23 at hJ
  exact mv_vret (pc := 23) rfl de_Tp_passPaths_23 hJ
set_option maxHeartbeats 4000000 in
set_option maxRecDepth 100000 in
theorem tb_Tp_passPaths_0 (l : Launch) (D : va_G) (E : Nat → ClassId) (B : Nat) (sa : (Nat → Nat) × Nat × (Nat → Int32)) (M0 M1 : mv_M) (r : Unit) (N : Nat) (M : mv_M) (v0 : Option Nat) (v1 : Option Nat) (hJ : jb_Tp_passPaths_0 N M v0 v1 = some (r, M1)) : mv_G (xg l D E B sa) kd_Tp_passPaths M0 M1 none M 0 [(0, va_rf v0), (1, va_rf v1)] [] := by
  unfold jb_Tp_passPaths_0 at hJ
  refine mv_aload_n (pc := 0) (i := 1) de_Tp_passPaths_0 rfl 1 rfl ?_
  refine mv_ifnull (pc := 1) (tgt := 23) de_Tp_passPaths_1 (by decide) hJ (fun ha h1 => ?_) (fun a1 ha h1 => ?_)
  · subst ha
    exact mv_sub [] rfl (tb_Tp_passPaths_23 l D E B sa M0 M1 r N M h1)
  · subst ha
    refine mv_aload_n (pc := 4) (i := 1) de_Tp_passPaths_4 rfl 1 rfl ?_
    refine mv_ldc2 (pc := 5) de_Tp_passPaths_5 wt_3_29 ?_
    refine mv_aload_n (pc := 8) (i := 1) de_Tp_passPaths_8 rfl 1 rfl ?_
    refine mv_getL (pc := 9) (f := 12) (kc_2 l D E B sa) (Nat.le_of_ble_eq_true rfl) wt_1_239 de_Tp_passPaths_9 h1 (fun x9 e9 h9 => ?_)
    refine mv_aload_n (pc := 12) (i := 0) de_Tp_passPaths_12 rfl 0 rfl ?_
    obtain ⟨a13, ha, h13a⟩ := mj_bindE h9
    subst ha
    refine mv_getL (pc := 13) (f := 12) (kc_2 l D E B sa) (Nat.le_of_ble_eq_true rfl) wt_1_239 de_Tp_passPaths_13 h13a (fun x13 e13 h13 => ?_)
    refine mv_ladd (pc := 16) de_Tp_passPaths_16 ?_
    obtain ⟨r17, Mm17, hz17, h17⟩ := mj_callE h13
    refine mv_callS (pc := 17) (n := 2) (av := [.long 1000000000000000000, .long (x9 + x13)]) (rest := [va_rf (some a1)]) de_Tp_passPaths_17 (cm_Jm_min1 l D E B sa N M 1000000000000000000 (x9 + x13) _ _ hz17) wt_3_30 wt_3_31 wt_1_12 wt_3_32 ⟨by decide, by decide, by decide +kernel⟩ rfl ⟨Nat.le_of_ble_eq_true rfl, Nat.le_of_ble_eq_true rfl⟩ (Nat.le_of_ble_eq_true rfl) rfl ?_
    refine mv_put (pc := 20) (f := 12) (kc_2 l D E B sa) (Nat.le_of_ble_eq_true rfl) wt_1_239 rfl rfl rfl de_Tp_passPaths_20 h17 (fun Mm20 e20 h20 => ?_)
    exact mv_sub [] rfl (tb_Tp_passPaths_23 l D E B sa M0 M1 r N Mm20 h20)
theorem cm_Tp_passPaths (l : Launch) (D : va_G) (E : Nat → ClassId) (B : Nat) (sa : (Nat → Nat) × Nat × (Nat → Int32)) (N : Nat) (M : mv_M) (v0 : Option Nat) (v1 : Option Nat) (r : Unit) (M1 : mv_M) (hJ : jf_Tp_passPaths N M v0 v1 = some (r, M1)) : mv_Met (xg l D E B sa) yn_Tp_passPaths cd_Tp_passPaths 2 none 1 23 [va_rf v0, va_rf v1] M none M1 := by
  cases v0 <;> cases v1 <;> exact mv_enter (by decide) (Nat.le_of_ble_eq_true rfl) (mv_sub [0, 1] rfl (tb_Tp_passPaths_0 l D E B sa M M1 r N M _ _ hJ))
/-! ===== PlainLearner$Tape.countWays(II)J ===== -/
abbrev kd_Tp_countWays : mv_Kd := (cd_Tp_countWays, 6, "PlainLearner$Tape", "countWays", (some .long), 2, 44)
theorem de_Tp_countWays_0 : decode cd_Tp_countWays 0 = .ok (.aload_n 0, 1) := by decide +kernel
theorem de_Tp_countWays_1 : decode cd_Tp_countWays 1 = .ok (.iload_n 1, 1) := by decide +kernel
theorem de_Tp_countWays_2 : decode cd_Tp_countWays 2 = .ok (.invokevirtual 33, 3) := by decide +kernel
theorem de_Tp_countWays_5 : decode cd_Tp_countWays 5 = .ok (.astore_n 3, 1) := by decide +kernel
theorem de_Tp_countWays_6 : decode cd_Tp_countWays 6 = .ok (.aload_n 0, 1) := by decide +kernel
theorem de_Tp_countWays_7 : decode cd_Tp_countWays 7 = .ok (.iload_n 2, 1) := by decide +kernel
theorem de_Tp_countWays_8 : decode cd_Tp_countWays 8 = .ok (.invokevirtual 33, 3) := by decide +kernel
theorem de_Tp_countWays_11 : decode cd_Tp_countWays 11 = .ok (.astore 4, 2) := by decide +kernel
theorem de_Tp_countWays_13 : decode cd_Tp_countWays 13 = .ok (.aload_n 3, 1) := by decide +kernel
theorem de_Tp_countWays_14 : decode cd_Tp_countWays 14 = .ok (.ifnull 13, 3) := by decide +kernel
theorem de_Tp_countWays_17 : decode cd_Tp_countWays 17 = .ok (.aload 4, 2) := by decide +kernel
theorem de_Tp_countWays_19 : decode cd_Tp_countWays 19 = .ok (.ifnull 8, 3) := by decide +kernel
theorem de_Tp_countWays_22 : decode cd_Tp_countWays 22 = .ok (.iload_n 2, 1) := by decide +kernel
theorem de_Tp_countWays_23 : decode cd_Tp_countWays 23 = .ok (.iload_n 1, 1) := by decide +kernel
theorem de_Tp_countWays_24 : decode cd_Tp_countWays 24 = .ok (.if_icmp .le 7, 3) := by decide +kernel
theorem de_Tp_countWays_27 : decode cd_Tp_countWays 27 = .ok (.ldc2_w 118, 3) := by decide +kernel
theorem de_Tp_countWays_30 : decode cd_Tp_countWays 30 = .ok (.lreturn, 1) := by decide +kernel
theorem de_Tp_countWays_31 : decode cd_Tp_countWays 31 = .ok (.iconst 0, 1) := by decide +kernel
theorem de_Tp_countWays_32 : decode cd_Tp_countWays 32 = .ok (.istore 5, 2) := by decide +kernel
theorem de_Tp_countWays_34 : decode cd_Tp_countWays 34 = .ok (.iload 5, 2) := by decide +kernel
theorem de_Tp_countWays_36 : decode cd_Tp_countWays 36 = .ok (.iload_n 1, 1) := by decide +kernel
theorem de_Tp_countWays_37 : decode cd_Tp_countWays 37 = .ok (.if_icmp .gt 20, 3) := by decide +kernel
theorem de_Tp_countWays_40 : decode cd_Tp_countWays 40 = .ok (.aload_n 0, 1) := by decide +kernel
theorem de_Tp_countWays_41 : decode cd_Tp_countWays 41 = .ok (.getfield 13, 3) := by decide +kernel
theorem de_Tp_countWays_44 : decode cd_Tp_countWays 44 = .ok (.iload 5, 2) := by decide +kernel
theorem de_Tp_countWays_46 : decode cd_Tp_countWays 46 = .ok (.aaload, 1) := by decide +kernel
theorem de_Tp_countWays_47 : decode cd_Tp_countWays 47 = .ok (.lconst 0, 1) := by decide +kernel
theorem de_Tp_countWays_48 : decode cd_Tp_countWays 48 = .ok (.putfield 120, 3) := by decide +kernel
theorem de_Tp_countWays_51 : decode cd_Tp_countWays 51 = .ok (.iinc 5 1, 3) := by decide +kernel
theorem de_Tp_countWays_54 : decode cd_Tp_countWays 54 = .ok (.goto (-20), 3) := by decide +kernel
theorem de_Tp_countWays_57 : decode cd_Tp_countWays 57 = .ok (.aload_n 3, 1) := by decide +kernel
theorem de_Tp_countWays_58 : decode cd_Tp_countWays 58 = .ok (.lconst 1, 1) := by decide +kernel
theorem de_Tp_countWays_59 : decode cd_Tp_countWays 59 = .ok (.putfield 120, 3) := by decide +kernel
theorem de_Tp_countWays_62 : decode cd_Tp_countWays 62 = .ok (.iload_n 1, 1) := by decide +kernel
theorem de_Tp_countWays_63 : decode cd_Tp_countWays 63 = .ok (.istore 5, 2) := by decide +kernel
theorem de_Tp_countWays_65 : decode cd_Tp_countWays 65 = .ok (.iload 5, 2) := by decide +kernel
theorem de_Tp_countWays_67 : decode cd_Tp_countWays 67 = .ok (.iload_n 2, 1) := by decide +kernel
theorem de_Tp_countWays_68 : decode cd_Tp_countWays 68 = .ok (.if_icmp .le 49, 3) := by decide +kernel
theorem de_Tp_countWays_71 : decode cd_Tp_countWays 71 = .ok (.aload_n 0, 1) := by decide +kernel
theorem de_Tp_countWays_72 : decode cd_Tp_countWays 72 = .ok (.getfield 13, 3) := by decide +kernel
theorem de_Tp_countWays_75 : decode cd_Tp_countWays 75 = .ok (.iload 5, 2) := by decide +kernel
theorem de_Tp_countWays_77 : decode cd_Tp_countWays 77 = .ok (.aaload, 1) := by decide +kernel
theorem de_Tp_countWays_78 : decode cd_Tp_countWays 78 = .ok (.aload_n 0, 1) := by decide +kernel
theorem de_Tp_countWays_79 : decode cd_Tp_countWays 79 = .ok (.getfield 13, 3) := by decide +kernel
theorem de_Tp_countWays_82 : decode cd_Tp_countWays 82 = .ok (.iload 5, 2) := by decide +kernel
theorem de_Tp_countWays_84 : decode cd_Tp_countWays 84 = .ok (.aaload, 1) := by decide +kernel
theorem de_Tp_countWays_85 : decode cd_Tp_countWays 85 = .ok (.getfield 123, 3) := by decide +kernel
theorem de_Tp_countWays_88 : decode cd_Tp_countWays 88 = .ok (.invokestatic 127, 3) := by decide +kernel
theorem de_Tp_countWays_91 : decode cd_Tp_countWays 91 = .ok (.aload_n 0, 1) := by decide +kernel
theorem de_Tp_countWays_92 : decode cd_Tp_countWays 92 = .ok (.getfield 13, 3) := by decide +kernel
theorem de_Tp_countWays_95 : decode cd_Tp_countWays 95 = .ok (.iload 5, 2) := by decide +kernel
theorem de_Tp_countWays_97 : decode cd_Tp_countWays 97 = .ok (.aaload, 1) := by decide +kernel
theorem de_Tp_countWays_98 : decode cd_Tp_countWays 98 = .ok (.aload_n 0, 1) := by decide +kernel
theorem de_Tp_countWays_99 : decode cd_Tp_countWays 99 = .ok (.getfield 13, 3) := by decide +kernel
theorem de_Tp_countWays_102 : decode cd_Tp_countWays 102 = .ok (.iload 5, 2) := by decide +kernel
theorem de_Tp_countWays_104 : decode cd_Tp_countWays 104 = .ok (.aaload, 1) := by decide +kernel
theorem de_Tp_countWays_105 : decode cd_Tp_countWays 105 = .ok (.getfield 131, 3) := by decide +kernel
theorem de_Tp_countWays_108 : decode cd_Tp_countWays 108 = .ok (.invokestatic 127, 3) := by decide +kernel
theorem de_Tp_countWays_111 : decode cd_Tp_countWays 111 = .ok (.iinc 5 (-1), 3) := by decide +kernel
theorem de_Tp_countWays_114 : decode cd_Tp_countWays 114 = .ok (.goto (-49), 3) := by decide +kernel
theorem de_Tp_countWays_117 : decode cd_Tp_countWays 117 = .ok (.aload 4, 2) := by decide +kernel
theorem de_Tp_countWays_119 : decode cd_Tp_countWays 119 = .ok (.getfield 120, 3) := by decide +kernel
theorem de_Tp_countWays_122 : decode cd_Tp_countWays 122 = .ok (.lreturn, 1) := by decide +kernel
def jb_Tp_countWays_27 (N : Nat) (M : mv_M) : Option (Int64 × mv_M) :=
  some ((-1), M)
def jb_Tp_countWays_65 (N : Nat) : Nat → mv_M → Nat → Int32 → Option Nat → Int32 → Option (Int64 × mv_M)
  | 0, _, _, _, _, _ => none
  | n + 1, M, v0, v2, v4, v5 =>
    if v5 ≤ v2 then (Option.bind v4 fun a119 =>
    Option.bind (mj_getL M a119 2 12) fun x119 =>
    some (x119, M)) else
    Option.bind (mj_getR M v0 7 0) fun x72 =>
    Option.bind x72 fun a77 =>
    Option.bind (mj_rld M a77 3 v5) fun x77 =>
    Option.bind (mj_getR M v0 7 0) fun x79 =>
    Option.bind x79 fun a84 =>
    Option.bind (mj_rld M a84 3 v5) fun x84 =>
    Option.bind x84 fun a85 =>
    Option.bind (mj_getR M a85 2 4) fun x85 =>
    mj_call (jf_Tp_passPaths N M x77 x85) fun r88 Mm88 =>
    Option.bind (mj_getR Mm88 v0 7 0) fun x92 =>
    Option.bind x92 fun a97 =>
    Option.bind (mj_rld Mm88 a97 3 v5) fun x97 =>
    Option.bind (mj_getR Mm88 v0 7 0) fun x99 =>
    Option.bind x99 fun a104 =>
    Option.bind (mj_rld Mm88 a104 3 v5) fun x104 =>
    Option.bind x104 fun a105 =>
    Option.bind (mj_getR Mm88 a105 2 5) fun x105 =>
    mj_call (jf_Tp_passPaths N Mm88 x97 x105) fun r108 Mm108 =>
    jb_Tp_countWays_65 N n Mm108 v0 v2 v4 (v5 + (-1))
def jb_Tp_countWays_34 (N : Nat) : Nat → mv_M → Nat → Int32 → Int32 → Option Nat → Option Nat → Int32 → Option (Int64 × mv_M)
  | 0, _, _, _, _, _, _, _ => none
  | n + 1, M, v0, v1, v2, v3, v4, v5 =>
    if v1 < v5 then (Option.bind v3 fun a59 =>
    Option.bind (mj_put M a59 2 12 (.long 1)) fun Mm59 =>
    jb_Tp_countWays_65 N N Mm59 v0 v2 v4 v1) else
    Option.bind (mj_getR M v0 7 0) fun x41 =>
    Option.bind x41 fun a46 =>
    Option.bind (mj_rld M a46 3 v5) fun x46 =>
    Option.bind x46 fun a48 =>
    Option.bind (mj_put M a48 2 12 (.long 0)) fun Mm48 =>
    jb_Tp_countWays_34 N n Mm48 v0 v1 v2 v3 v4 (v5 + 1)
def jb_Tp_countWays_0 (N : Nat) (M : mv_M) (v0 : Nat) (v1 : Int32) (v2 : Int32) : Option (Int64 × mv_M) :=
  mj_ob M v0 7 <|
  mj_call (jf_Tp_find N M v0 v1) fun r2 Mm2 =>
  mj_ob Mm2 v0 7 <|
  mj_call (jf_Tp_find N Mm2 v0 v2) fun r8 Mm8 =>
  mj_opt r2 (jb_Tp_countWays_27 N Mm8) fun a14 =>
  mj_opt r8 (jb_Tp_countWays_27 N Mm8) fun a19 =>
  if v2 ≤ v1 then (jb_Tp_countWays_34 N N Mm8 v0 v1 v2 (some a14) (some a19) 0) else
  jb_Tp_countWays_27 N Mm8
def jf_Tp_countWays (N : Nat) (M : mv_M) (v0 : Nat) (v1 : Int32) (v2 : Int32) : Option (Int64 × mv_M) := jb_Tp_countWays_0 N M v0 v1 v2
set_option maxHeartbeats 4000000 in
set_option maxRecDepth 100000 in
theorem tb_Tp_countWays_27 (l : Launch) (D : va_G) (E : Nat → ClassId) (B : Nat) (sa : (Nat → Nat) × Nat × (Nat → Int32)) (M0 M1 : mv_M) (r : Int64) (N : Nat) (M : mv_M) (hJ : jb_Tp_countWays_27 N M = some (r, M1)) : mv_G (xg l D E B sa) kd_Tp_countWays M0 M1 (some (.long r)) M 27 [] [] := by
  unfold jb_Tp_countWays_27 at hJ
  refine mv_ldc2 (pc := 27) de_Tp_countWays_27 wt_3_25 ?_
  exact mv_lret (pc := 30) rfl de_Tp_countWays_30 hJ
set_option maxHeartbeats 4000000 in
set_option maxRecDepth 100000 in
theorem tb_Tp_countWays_65 (l : Launch) (D : va_G) (E : Nat → ClassId) (B : Nat) (sa : (Nat → Nat) × Nat × (Nat → Int32)) (M0 M1 : mv_M) (r : Int64) (N : Nat) : ∀ (n : Nat) (M : mv_M) (v0 : Nat) (v2 : Int32) (v4 : Option Nat) (v5 : Int32) (hJ : jb_Tp_countWays_65 N n M v0 v2 v4 v5 = some (r, M1)), mv_G (xg l D E B sa) kd_Tp_countWays M0 M1 (some (.long r)) M 65 [(0, va_rf (some v0)), (2, .int v2), (4, va_rf v4), (5, .int v5)] [] := by
  intro n
  induction n with
  | zero => intro M v0 v2 v4 v5 hJ; cases hJ
  | succ n ih =>
    intro M v0 v2 v4 v5 hJ
    rw [jb_Tp_countWays_65] at hJ
    refine mv_iload (pc := 65) de_Tp_countWays_65 3 rfl ?_
    refine mv_iload_n (pc := 67) (i := 2) de_Tp_countWays_67 rfl 1 rfl ?_
    refine mv_icmp_le (pc := 68) (tgt := 117) de_Tp_countWays_68 (by decide) hJ (fun hc68 h68 => ?_) (fun hc68 h68 => ?_)
    · refine mv_aload (pc := 117) de_Tp_countWays_117 2 rfl ?_
      obtain ⟨a119, ha, h119a⟩ := mj_bindE h68
      subst ha
      refine mv_getL (pc := 119) (f := 12) (kc_2 l D E B sa) (Nat.le_of_ble_eq_true rfl) wt_1_239 de_Tp_countWays_119 h119a (fun x119 e119 h119 => ?_)
      exact mv_lret (pc := 122) rfl de_Tp_countWays_122 h119
    · refine mv_aload_n (pc := 71) (i := 0) de_Tp_countWays_71 rfl 0 rfl ?_
      refine mv_getR (pc := 72) (f := 0) (kc_7 l D E B sa) (Nat.le_of_ble_eq_true rfl) wt_1_45 de_Tp_countWays_72 h68 (fun x72 e72 h72 => ?_)
      refine mv_iload (pc := 75) de_Tp_countWays_75 3 rfl ?_
      obtain ⟨a77, ha, h77a⟩ := mj_bindE h72
      subst ha
      refine mv_aald (pc := 77) (t := 3) rfl de_Tp_countWays_77 h77a (fun x77 e77 h77 => ?_)
      refine mv_aload_n (pc := 78) (i := 0) de_Tp_countWays_78 rfl 0 rfl ?_
      refine mv_getR (pc := 79) (f := 0) (kc_7 l D E B sa) (Nat.le_of_ble_eq_true rfl) wt_1_45 de_Tp_countWays_79 h77 (fun x79 e79 h79 => ?_)
      refine mv_iload (pc := 82) de_Tp_countWays_82 3 rfl ?_
      obtain ⟨a84, ha, h84a⟩ := mj_bindE h79
      subst ha
      refine mv_aald (pc := 84) (t := 3) rfl de_Tp_countWays_84 h84a (fun x84 e84 h84 => ?_)
      obtain ⟨a85, ha, h85a⟩ := mj_bindE h84
      subst ha
      refine mv_getR (pc := 85) (f := 4) (kc_2 l D E B sa) (Nat.le_of_ble_eq_true rfl) wt_1_226 de_Tp_countWays_85 h85a (fun x85 e85 h85 => ?_)
      obtain ⟨r88, Mm88, hz88, h88⟩ := mj_callE h85
      refine mv_callS (pc := 88) (n := 2) (av := [va_rf x77, va_rf x85]) (rest := []) de_Tp_countWays_88 (cm_Tp_passPaths l D E B sa N M x77 x85 _ _ hz88) wt_3_26 wt_3_27 wt_1_2 wt_3_28 ⟨by decide, by decide, by decide +kernel⟩ rfl ⟨Nat.le_of_ble_eq_true rfl, Nat.le_of_ble_eq_true rfl⟩ (Nat.le_of_ble_eq_true rfl) rfl ?_
      refine mv_aload_n (pc := 91) (i := 0) de_Tp_countWays_91 rfl 0 rfl ?_
      refine mv_getR (pc := 92) (f := 0) (kc_7 l D E B sa) (Nat.le_of_ble_eq_true rfl) wt_1_45 de_Tp_countWays_92 h88 (fun x92 e92 h92 => ?_)
      refine mv_iload (pc := 95) de_Tp_countWays_95 3 rfl ?_
      obtain ⟨a97, ha, h97a⟩ := mj_bindE h92
      subst ha
      refine mv_aald (pc := 97) (t := 3) rfl de_Tp_countWays_97 h97a (fun x97 e97 h97 => ?_)
      refine mv_aload_n (pc := 98) (i := 0) de_Tp_countWays_98 rfl 0 rfl ?_
      refine mv_getR (pc := 99) (f := 0) (kc_7 l D E B sa) (Nat.le_of_ble_eq_true rfl) wt_1_45 de_Tp_countWays_99 h97 (fun x99 e99 h99 => ?_)
      refine mv_iload (pc := 102) de_Tp_countWays_102 3 rfl ?_
      obtain ⟨a104, ha, h104a⟩ := mj_bindE h99
      subst ha
      refine mv_aald (pc := 104) (t := 3) rfl de_Tp_countWays_104 h104a (fun x104 e104 h104 => ?_)
      obtain ⟨a105, ha, h105a⟩ := mj_bindE h104
      subst ha
      refine mv_getR (pc := 105) (f := 5) (kc_2 l D E B sa) (Nat.le_of_ble_eq_true rfl) wt_1_228 de_Tp_countWays_105 h105a (fun x105 e105 h105 => ?_)
      obtain ⟨r108, Mm108, hz108, h108⟩ := mj_callE h105
      refine mv_callS (pc := 108) (n := 2) (av := [va_rf x97, va_rf x105]) (rest := []) de_Tp_countWays_108 (cm_Tp_passPaths l D E B sa N Mm88 x97 x105 _ _ hz108) wt_3_26 wt_3_27 wt_1_2 wt_3_28 ⟨by decide, by decide, by decide +kernel⟩ rfl ⟨Nat.le_of_ble_eq_true rfl, Nat.le_of_ble_eq_true rfl⟩ (Nat.le_of_ble_eq_true rfl) rfl ?_
      refine mv_iinc (pc := 111) (v := (v5 + (-1))) (lv' := [(5, .int (v5 + (-1))), (0, va_rf (some v0)), (2, .int v2), (4, va_rf v4)]) de_Tp_countWays_111 3 rfl rfl (Nat.le_of_ble_eq_true rfl) (by simp [List.filter, mv_cat]) ?_
      refine mv_goto (pc := 114) (tgt := 65) de_Tp_countWays_114 (by decide) ?_
      exact mv_sub [1, 2, 3, 0] rfl (ih Mm108 v0 v2 v4 (v5 + (-1)) h108)
set_option maxHeartbeats 4000000 in
set_option maxRecDepth 100000 in
theorem tb_Tp_countWays_34 (l : Launch) (D : va_G) (E : Nat → ClassId) (B : Nat) (sa : (Nat → Nat) × Nat × (Nat → Int32)) (M0 M1 : mv_M) (r : Int64) (N : Nat) : ∀ (n : Nat) (M : mv_M) (v0 : Nat) (v1 : Int32) (v2 : Int32) (v3 : Option Nat) (v4 : Option Nat) (v5 : Int32) (hJ : jb_Tp_countWays_34 N n M v0 v1 v2 v3 v4 v5 = some (r, M1)), mv_G (xg l D E B sa) kd_Tp_countWays M0 M1 (some (.long r)) M 34 [(0, va_rf (some v0)), (1, .int v1), (2, .int v2), (3, va_rf v3), (4, va_rf v4), (5, .int v5)] [] := by
  intro n
  induction n with
  | zero => intro M v0 v1 v2 v3 v4 v5 hJ; cases hJ
  | succ n ih =>
    intro M v0 v1 v2 v3 v4 v5 hJ
    rw [jb_Tp_countWays_34] at hJ
    refine mv_iload (pc := 34) de_Tp_countWays_34 5 rfl ?_
    refine mv_iload_n (pc := 36) (i := 1) de_Tp_countWays_36 rfl 1 rfl ?_
    refine mv_icmp_gt (pc := 37) (tgt := 57) de_Tp_countWays_37 (by decide) hJ (fun hc37 h37 => ?_) (fun hc37 h37 => ?_)
    · refine mv_aload_n (pc := 57) (i := 3) de_Tp_countWays_57 rfl 3 rfl ?_
      refine mv_lconst (pc := 58) (v := 1) de_Tp_countWays_58 (by decide) ?_
      obtain ⟨a59, ha, h59a⟩ := mj_bindE h37
      subst ha
      refine mv_put (pc := 59) (f := 12) (kc_2 l D E B sa) (Nat.le_of_ble_eq_true rfl) wt_1_239 rfl rfl rfl de_Tp_countWays_59 h59a (fun Mm59 e59 h59 => ?_)
      refine mv_iload_n (pc := 62) (i := 1) de_Tp_countWays_62 rfl 1 rfl ?_
      refine mv_istore (pc := 63) (lv' := [(5, .int v1), (0, va_rf (some v0)), (1, .int v1), (2, .int v2), (3, va_rf (some a59)), (4, va_rf v4)]) de_Tp_countWays_63 (Nat.le_of_ble_eq_true rfl) (by simp [List.filter, mv_cat]) ?_
      exact mv_sub [1, 3, 5, 0] rfl (tb_Tp_countWays_65 l D E B sa M0 M1 r N N Mm59 v0 v2 v4 v1 h59)
    · refine mv_aload_n (pc := 40) (i := 0) de_Tp_countWays_40 rfl 0 rfl ?_
      refine mv_getR (pc := 41) (f := 0) (kc_7 l D E B sa) (Nat.le_of_ble_eq_true rfl) wt_1_45 de_Tp_countWays_41 h37 (fun x41 e41 h41 => ?_)
      refine mv_iload (pc := 44) de_Tp_countWays_44 5 rfl ?_
      obtain ⟨a46, ha, h46a⟩ := mj_bindE h41
      subst ha
      refine mv_aald (pc := 46) (t := 3) rfl de_Tp_countWays_46 h46a (fun x46 e46 h46 => ?_)
      refine mv_lconst (pc := 47) (v := 0) de_Tp_countWays_47 (by decide) ?_
      obtain ⟨a48, ha, h48a⟩ := mj_bindE h46
      subst ha
      refine mv_put (pc := 48) (f := 12) (kc_2 l D E B sa) (Nat.le_of_ble_eq_true rfl) wt_1_239 rfl rfl rfl de_Tp_countWays_48 h48a (fun Mm48 e48 h48 => ?_)
      refine mv_iinc (pc := 51) (v := (v5 + 1)) (lv' := [(5, .int (v5 + 1)), (0, va_rf (some v0)), (1, .int v1), (2, .int v2), (3, va_rf v3), (4, va_rf v4)]) de_Tp_countWays_51 5 rfl rfl (Nat.le_of_ble_eq_true rfl) (by simp [List.filter, mv_cat]) ?_
      refine mv_goto (pc := 54) (tgt := 34) de_Tp_countWays_54 (by decide) ?_
      exact mv_sub [1, 2, 3, 4, 5, 0] rfl (ih Mm48 v0 v1 v2 v3 v4 (v5 + 1) h48)
set_option maxHeartbeats 4000000 in
set_option maxRecDepth 100000 in
theorem tb_Tp_countWays_0 (l : Launch) (D : va_G) (E : Nat → ClassId) (B : Nat) (sa : (Nat → Nat) × Nat × (Nat → Int32)) (M0 M1 : mv_M) (r : Int64) (N : Nat) (M : mv_M) (v0 : Nat) (v1 : Int32) (v2 : Int32) (hJ : jb_Tp_countWays_0 N M v0 v1 v2 = some (r, M1)) : mv_G (xg l D E B sa) kd_Tp_countWays M0 M1 (some (.long r)) M 0 [(0, va_rf (some v0)), (1, .int v1), (2, .int v2)] [] := by
  unfold jb_Tp_countWays_0 at hJ
  refine mv_aload_n (pc := 0) (i := 0) de_Tp_countWays_0 rfl 0 rfl ?_
  refine mv_iload_n (pc := 1) (i := 1) de_Tp_countWays_1 rfl 1 rfl ?_
  obtain ⟨hi2, h2o⟩ := mj_obE hJ
  obtain ⟨r2, Mm2, hz2, h2⟩ := mj_callE h2o
  refine mv_callV (pc := 2) (n := 1) (av := [.int v1]) (rest := []) de_Tp_countWays_2 (kc_7 l D E B sa) hi2 (cm_Tp_find l D E B sa N M v0 v1 _ _ hz2) wt_2_45 wt_2_46 wt_2_47 wt_1_2 wt_2_48 ⟨by decide, by decide, by decide +kernel⟩ rfl ⟨Nat.le_of_ble_eq_true rfl, Nat.le_of_ble_eq_true rfl⟩ (Nat.le_of_ble_eq_true rfl) rfl ?_
  refine mv_astore_n (pc := 5) (i := 3) (lv' := [(3, va_rf r2), (0, va_rf (some v0)), (1, .int v1), (2, .int v2)]) de_Tp_countWays_5 rfl (Nat.le_of_ble_eq_true rfl) rfl ?_
  refine mv_aload_n (pc := 6) (i := 0) de_Tp_countWays_6 rfl 1 rfl ?_
  refine mv_iload_n (pc := 7) (i := 2) de_Tp_countWays_7 rfl 3 rfl ?_
  obtain ⟨hi8, h8o⟩ := mj_obE h2
  obtain ⟨r8, Mm8, hz8, h8⟩ := mj_callE h8o
  refine mv_callV (pc := 8) (n := 1) (av := [.int v2]) (rest := []) de_Tp_countWays_8 (kc_7 l D E B sa) hi8 (cm_Tp_find l D E B sa N Mm2 v0 v2 _ _ hz8) wt_2_45 wt_2_46 wt_2_47 wt_1_2 wt_2_48 ⟨by decide, by decide, by decide +kernel⟩ rfl ⟨Nat.le_of_ble_eq_true rfl, Nat.le_of_ble_eq_true rfl⟩ (Nat.le_of_ble_eq_true rfl) rfl ?_
  refine mv_astore (pc := 11) (lv' := [(4, va_rf r8), (3, va_rf r2), (0, va_rf (some v0)), (1, .int v1), (2, .int v2)]) de_Tp_countWays_11 (Nat.le_of_ble_eq_true rfl) (by simp [List.filter, mv_cat]) ?_
  refine mv_aload_n (pc := 13) (i := 3) de_Tp_countWays_13 rfl 1 rfl ?_
  refine mv_ifnull (pc := 14) (tgt := 27) de_Tp_countWays_14 (by decide) h8 (fun ha h14 => ?_) (fun a14 ha h14 => ?_)
  · subst ha
    exact mv_sub [] rfl (tb_Tp_countWays_27 l D E B sa M0 M1 r N Mm8 h14)
  · subst ha
    refine mv_aload (pc := 17) de_Tp_countWays_17 0 rfl ?_
    refine mv_ifnull (pc := 19) (tgt := 27) de_Tp_countWays_19 (by decide) h14 (fun ha h19 => ?_) (fun a19 ha h19 => ?_)
    · subst ha
      exact mv_sub [] rfl (tb_Tp_countWays_27 l D E B sa M0 M1 r N Mm8 h19)
    · subst ha
      refine mv_iload_n (pc := 22) (i := 2) de_Tp_countWays_22 rfl 4 rfl ?_
      refine mv_iload_n (pc := 23) (i := 1) de_Tp_countWays_23 rfl 3 rfl ?_
      refine mv_icmp_le (pc := 24) (tgt := 31) de_Tp_countWays_24 (by decide) h19 (fun hc24 h24 => ?_) (fun hc24 h24 => ?_)
      · refine mv_iconst (pc := 31) (v := 0) de_Tp_countWays_31 (by decide) ?_
        refine mv_istore (pc := 32) (lv' := [(5, .int 0), (4, va_rf (some a19)), (3, va_rf (some a14)), (0, va_rf (some v0)), (1, .int v1), (2, .int v2)]) de_Tp_countWays_32 (Nat.le_of_ble_eq_true rfl) rfl ?_
        exact mv_sub [3, 4, 5, 2, 1, 0] rfl (tb_Tp_countWays_34 l D E B sa M0 M1 r N N Mm8 v0 v1 v2 (some a14) (some a19) 0 h24)
      · exact mv_sub [] rfl (tb_Tp_countWays_27 l D E B sa M0 M1 r N Mm8 h24)
theorem cm_Tp_countWays (l : Launch) (D : va_G) (E : Nat → ClassId) (B : Nat) (sa : (Nat → Nat) × Nat × (Nat → Int32)) (N : Nat) (M : mv_M) (v0 : Nat) (v1 : Int32) (v2 : Int32) (r : Int64) (M1 : mv_M) (hJ : jf_Tp_countWays N M v0 v1 v2 = some (r, M1)) : mv_Met (xg l D E B sa) yn_Tp_countWays cd_Tp_countWays 6 (some .long) 2 44 [va_rf (some v0), .int v1, .int v2] M (some (.long r)) M1 :=
  mv_enter (by decide) (Nat.le_of_ble_eq_true rfl) (mv_sub (lv := [(0, va_rf (some v0)), (1, .int v1), (2, .int v2)]) [0, 1, 2] rfl (tb_Tp_countWays_0 l D E B sa M M1 r N M v0 v1 v2 hJ))
/-! ===== PlainLearner.ways(II)J ===== -/
abbrev kd_PL_ways : mv_Kd := (cd_PL_ways, 3, "PlainLearner", "ways", (some .long), 3, 69)
theorem de_PL_ways_0 : decode cd_PL_ways 0 = .ok (.aload_n 0, 1) := by decide +kernel
theorem de_PL_ways_1 : decode cd_PL_ways 1 = .ok (.getfield 10, 3) := by decide +kernel
theorem de_PL_ways_4 : decode cd_PL_ways 4 = .ok (.iload_n 1, 1) := by decide +kernel
theorem de_PL_ways_5 : decode cd_PL_ways 5 = .ok (.iload_n 2, 1) := by decide +kernel
theorem de_PL_ways_6 : decode cd_PL_ways 6 = .ok (.invokevirtual 106, 3) := by decide +kernel
theorem de_PL_ways_9 : decode cd_PL_ways 9 = .ok (.lreturn, 1) := by decide +kernel
def jb_PL_ways_0 (N : Nat) (M : mv_M) (v0 : Nat) (v1 : Int32) (v2 : Int32) : Option (Int64 × mv_M) :=
  Option.bind (mj_getR M v0 0 0) fun x1 =>
  Option.bind x1 fun a6 =>
  mj_ob M a6 7 <|
  mj_call (jf_Tp_countWays N M a6 v1 v2) fun r6 Mm6 =>
  some (r6, Mm6)
def jf_PL_ways (N : Nat) (M : mv_M) (v0 : Nat) (v1 : Int32) (v2 : Int32) : Option (Int64 × mv_M) := jb_PL_ways_0 N M v0 v1 v2
set_option maxHeartbeats 4000000 in
set_option maxRecDepth 100000 in
theorem tb_PL_ways_0 (l : Launch) (D : va_G) (E : Nat → ClassId) (B : Nat) (sa : (Nat → Nat) × Nat × (Nat → Int32)) (M0 M1 : mv_M) (r : Int64) (N : Nat) (M : mv_M) (v0 : Nat) (v1 : Int32) (v2 : Int32) (hJ : jb_PL_ways_0 N M v0 v1 v2 = some (r, M1)) : mv_G (xg l D E B sa) kd_PL_ways M0 M1 (some (.long r)) M 0 [(0, va_rf (some v0)), (1, .int v1), (2, .int v2)] [] := by
  unfold jb_PL_ways_0 at hJ
  refine mv_aload_n (pc := 0) (i := 0) de_PL_ways_0 rfl 0 rfl ?_
  refine mv_getR (pc := 1) (f := 0) (kc_0 l D E B sa) (Nat.le_of_ble_eq_true rfl) wt_1_146 de_PL_ways_1 hJ (fun x1 e1 h1 => ?_)
  refine mv_iload_n (pc := 4) (i := 1) de_PL_ways_4 rfl 1 rfl ?_
  refine mv_iload_n (pc := 5) (i := 2) de_PL_ways_5 rfl 2 rfl ?_
  obtain ⟨a6, ha, h6a⟩ := mj_bindE h1
  subst ha
  obtain ⟨hi6, h6o⟩ := mj_obE h6a
  obtain ⟨r6, Mm6, hz6, h6⟩ := mj_callE h6o
  refine mv_callV (pc := 6) (n := 2) (av := [.int v1, .int v2]) (rest := []) de_PL_ways_6 (kc_7 l D E B sa) hi6 (cm_Tp_countWays l D E B sa N M a6 v1 v2 _ _ hz6) wt_3_21 wt_3_22 wt_3_23 wt_1_2 wt_3_24 ⟨by decide, by decide, by decide +kernel⟩ rfl ⟨Nat.le_of_ble_eq_true rfl, Nat.le_of_ble_eq_true rfl⟩ (Nat.le_of_ble_eq_true rfl) rfl ?_
  exact mv_lret (pc := 9) rfl de_PL_ways_9 h6
theorem cm_PL_ways (l : Launch) (D : va_G) (E : Nat → ClassId) (B : Nat) (sa : (Nat → Nat) × Nat × (Nat → Int32)) (N : Nat) (M : mv_M) (v0 : Nat) (v1 : Int32) (v2 : Int32) (r : Int64) (M1 : mv_M) (hJ : jf_PL_ways N M v0 v1 v2 = some (r, M1)) : mv_Met (xg l D E B sa) yn_PL_ways cd_PL_ways 3 (some .long) 3 69 [va_rf (some v0), .int v1, .int v2] M (some (.long r)) M1 :=
  mv_enter (by decide) (Nat.le_of_ble_eq_true rfl) (mv_sub (lv := [(0, va_rf (some v0)), (1, .int v1), (2, .int v2)]) [0, 1, 2] rfl (tb_PL_ways_0 l D E B sa M M1 r N M v0 v1 v2 hJ))
/-! ===== PlainLearner$Tape.markParameter(IZ)I ===== -/
abbrev kd_Tp_markParameter : mv_Kd := (cd_Tp_markParameter, 5, "PlainLearner$Tape", "markParameter", (some .int), 2, 43)
theorem de_Tp_markParameter_0 : decode cd_Tp_markParameter 0 = .ok (.aload_n 0, 1) := by decide +kernel
theorem de_Tp_markParameter_1 : decode cd_Tp_markParameter 1 = .ok (.iload_n 1, 1) := by decide +kernel
theorem de_Tp_markParameter_2 : decode cd_Tp_markParameter 2 = .ok (.invokevirtual 77, 3) := by decide +kernel
theorem de_Tp_markParameter_5 : decode cd_Tp_markParameter 5 = .ok (.astore_n 3, 1) := by decide +kernel
theorem de_Tp_markParameter_6 : decode cd_Tp_markParameter 6 = .ok (.aload_n 3, 1) := by decide +kernel
theorem de_Tp_markParameter_7 : decode cd_Tp_markParameter 7 = .ok (.ifnonnull 5, 3) := by decide +kernel
theorem de_Tp_markParameter_10 : decode cd_Tp_markParameter 10 = .ok (.iconst (-1), 1) := by decide +kernel
theorem de_Tp_markParameter_11 : decode cd_Tp_markParameter 11 = .ok (.ireturn, 1) := by decide +kernel
theorem de_Tp_markParameter_12 : decode cd_Tp_markParameter 12 = .ok (.aload_n 3, 1) := by decide +kernel
theorem de_Tp_markParameter_13 : decode cd_Tp_markParameter 13 = .ok (.getfield 96, 3) := by decide +kernel
theorem de_Tp_markParameter_16 : decode cd_Tp_markParameter 16 = .ok (.ifCond .eq 7, 3) := by decide +kernel
theorem de_Tp_markParameter_19 : decode cd_Tp_markParameter 19 = .ok (.iconst 1, 1) := by decide +kernel
theorem de_Tp_markParameter_20 : decode cd_Tp_markParameter 20 = .ok (.goto 4, 3) := by decide +kernel
theorem de_Tp_markParameter_23 : decode cd_Tp_markParameter 23 = .ok (.iconst 0, 1) := by decide +kernel
theorem de_Tp_markParameter_24 : decode cd_Tp_markParameter 24 = .ok (.istore 4, 2) := by decide +kernel
theorem de_Tp_markParameter_26 : decode cd_Tp_markParameter 26 = .ok (.aload_n 3, 1) := by decide +kernel
theorem de_Tp_markParameter_27 : decode cd_Tp_markParameter 27 = .ok (.iload_n 2, 1) := by decide +kernel
theorem de_Tp_markParameter_28 : decode cd_Tp_markParameter 28 = .ok (.putfield 96, 3) := by decide +kernel
theorem de_Tp_markParameter_31 : decode cd_Tp_markParameter 31 = .ok (.iload 4, 2) := by decide +kernel
theorem de_Tp_markParameter_33 : decode cd_Tp_markParameter 33 = .ok (.ireturn, 1) := by decide +kernel
def jb_Tp_markParameter_24 (N : Nat) (M : mv_M) (v2 : Int32) (v3 : Option Nat) (s0 : Int32) : Option (Int32 × mv_M) :=
  Option.bind v3 fun a28 =>
  mj_zz v2 <|
  Option.bind (mj_put M a28 2 11 (.int v2)) fun Mm28 =>
  some (s0, Mm28)
def jb_Tp_markParameter_0 (N : Nat) (M : mv_M) (v0 : Nat) (v1 : Int32) (v2 : Int32) : Option (Int32 × mv_M) :=
  mj_ob M v0 7 <|
  mj_call (jf_Tp_findLeaf N M v0 v1) fun r2 Mm2 =>
  mj_opt r2 (some ((-1), Mm2)) fun a7 =>
  Option.bind (mj_getI Mm2 a7 2 11) fun x13 =>
  if x13 = 0 then (jb_Tp_markParameter_24 N Mm2 v2 (some a7) 0) else
  jb_Tp_markParameter_24 N Mm2 v2 (some a7) 1
def jf_Tp_markParameter (N : Nat) (M : mv_M) (v0 : Nat) (v1 : Int32) (v2 : Int32) : Option (Int32 × mv_M) := jb_Tp_markParameter_0 N M v0 v1 v2
set_option maxHeartbeats 4000000 in
set_option maxRecDepth 100000 in
theorem tb_Tp_markParameter_24 (l : Launch) (D : va_G) (E : Nat → ClassId) (B : Nat) (sa : (Nat → Nat) × Nat × (Nat → Int32)) (M0 M1 : mv_M) (r : Int32) (N : Nat) (M : mv_M) (v2 : Int32) (v3 : Option Nat) (s0 : Int32) (hJ : jb_Tp_markParameter_24 N M v2 v3 s0 = some (r, M1)) : mv_G (xg l D E B sa) kd_Tp_markParameter M0 M1 (some (.int r)) M 24 [(2, .int v2), (3, va_rf v3)] [.int s0] := by
  unfold jb_Tp_markParameter_24 at hJ
  refine mv_istore (pc := 24) (lv' := [(4, .int s0), (2, .int v2), (3, va_rf v3)]) de_Tp_markParameter_24 (Nat.le_of_ble_eq_true rfl) (by simp [List.filter, mv_cat]) ?_
  refine mv_aload_n (pc := 26) (i := 3) de_Tp_markParameter_26 rfl 2 rfl ?_
  refine mv_iload_n (pc := 27) (i := 2) de_Tp_markParameter_27 rfl 1 rfl ?_
  obtain ⟨a28, ha, h28a⟩ := mj_bindE hJ
  subst ha
  obtain ⟨hzz, h28z⟩ := mj_zzE h28a
  refine mv_put (pc := 28) (f := 11) (kc_2 l D E B sa) (Nat.le_of_ble_eq_true rfl) wt_1_238 rfl (mj_zzN hzz) (mj_zzF hzz) de_Tp_markParameter_28 h28z (fun Mm28 e28 h28 => ?_)
  refine mv_iload (pc := 31) de_Tp_markParameter_31 0 rfl ?_
  exact mv_iret (pc := 33) rfl de_Tp_markParameter_33 h28
set_option maxHeartbeats 4000000 in
set_option maxRecDepth 100000 in
theorem tb_Tp_markParameter_0 (l : Launch) (D : va_G) (E : Nat → ClassId) (B : Nat) (sa : (Nat → Nat) × Nat × (Nat → Int32)) (M0 M1 : mv_M) (r : Int32) (N : Nat) (M : mv_M) (v0 : Nat) (v1 : Int32) (v2 : Int32) (hJ : jb_Tp_markParameter_0 N M v0 v1 v2 = some (r, M1)) : mv_G (xg l D E B sa) kd_Tp_markParameter M0 M1 (some (.int r)) M 0 [(0, va_rf (some v0)), (1, .int v1), (2, .int v2)] [] := by
  unfold jb_Tp_markParameter_0 at hJ
  refine mv_aload_n (pc := 0) (i := 0) de_Tp_markParameter_0 rfl 0 rfl ?_
  refine mv_iload_n (pc := 1) (i := 1) de_Tp_markParameter_1 rfl 1 rfl ?_
  obtain ⟨hi2, h2o⟩ := mj_obE hJ
  obtain ⟨r2, Mm2, hz2, h2⟩ := mj_callE h2o
  refine mv_callV (pc := 2) (n := 1) (av := [.int v1]) (rest := []) de_Tp_markParameter_2 (kc_7 l D E B sa) hi2 (cm_Tp_findLeaf l D E B sa N M v0 v1 _ _ hz2) wt_2_41 wt_2_43 wp_2 wt_1_2 wt_2_44 ⟨by decide, by decide, by decide +kernel⟩ rfl ⟨Nat.le_of_ble_eq_true rfl, Nat.le_of_ble_eq_true rfl⟩ (Nat.le_of_ble_eq_true rfl) rfl ?_
  refine mv_astore_n (pc := 5) (i := 3) (lv' := [(3, va_rf r2), (0, va_rf (some v0)), (1, .int v1), (2, .int v2)]) de_Tp_markParameter_5 rfl (Nat.le_of_ble_eq_true rfl) rfl ?_
  refine mv_aload_n (pc := 6) (i := 3) de_Tp_markParameter_6 rfl 0 rfl ?_
  refine mv_ifnonnull (pc := 7) (tgt := 12) de_Tp_markParameter_7 (by decide) h2 (fun ha h7 => ?_) (fun a7 ha h7 => ?_)
  · subst ha
    refine mv_iconst (pc := 10) (v := (-1)) de_Tp_markParameter_10 (by decide) ?_
    exact mv_iret (pc := 11) rfl de_Tp_markParameter_11 h7
  · subst ha
    refine mv_aload_n (pc := 12) (i := 3) de_Tp_markParameter_12 rfl 0 rfl ?_
    refine mv_getI (pc := 13) (f := 11) (kc_2 l D E B sa) (Nat.le_of_ble_eq_true rfl) wt_1_238 de_Tp_markParameter_13 h7 (fun x13 e13 h13 => ?_)
    refine mv_if_eq (pc := 16) (tgt := 23) de_Tp_markParameter_16 (by decide) h13 (fun hc16 h16 => ?_) (fun hc16 h16 => ?_)
    · refine mv_iconst (pc := 23) (v := 0) de_Tp_markParameter_23 (by decide) ?_
      exact mv_sub [3, 0] rfl (tb_Tp_markParameter_24 l D E B sa M0 M1 r N Mm2 v2 (some a7) 0 h16)
    · refine mv_iconst (pc := 19) (v := 1) de_Tp_markParameter_19 (by decide) ?_
      refine mv_goto (pc := 20) (tgt := 24) de_Tp_markParameter_20 (by decide) ?_
      exact mv_sub [3, 0] rfl (tb_Tp_markParameter_24 l D E B sa M0 M1 r N Mm2 v2 (some a7) 1 h16)
theorem cm_Tp_markParameter (l : Launch) (D : va_G) (E : Nat → ClassId) (B : Nat) (sa : (Nat → Nat) × Nat × (Nat → Int32)) (N : Nat) (M : mv_M) (v0 : Nat) (v1 : Int32) (v2 : Int32) (r : Int32) (M1 : mv_M) (hJ : jf_Tp_markParameter N M v0 v1 v2 = some (r, M1)) : mv_Met (xg l D E B sa) yn_Tp_markParameter cd_Tp_markParameter 5 (some .int) 2 43 [va_rf (some v0), .int v1, .int v2] M (some (.int r)) M1 :=
  mv_enter (by decide) (Nat.le_of_ble_eq_true rfl) (mv_sub (lv := [(0, va_rf (some v0)), (1, .int v1), (2, .int v2)]) [0, 1, 2] rfl (tb_Tp_markParameter_0 l D E B sa M M1 r N M v0 v1 v2 hJ))
/-! ===== PlainLearner.parameter(IZ)I ===== -/
abbrev kd_PL_parameter : mv_Kd := (cd_PL_parameter, 3, "PlainLearner", "parameter", (some .int), 3, 67)
theorem de_PL_parameter_0 : decode cd_PL_parameter 0 = .ok (.aload_n 0, 1) := by decide +kernel
theorem de_PL_parameter_1 : decode cd_PL_parameter 1 = .ok (.getfield 10, 3) := by decide +kernel
theorem de_PL_parameter_4 : decode cd_PL_parameter 4 = .ok (.iload_n 1, 1) := by decide +kernel
theorem de_PL_parameter_5 : decode cd_PL_parameter 5 = .ok (.iload_n 2, 1) := by decide +kernel
theorem de_PL_parameter_6 : decode cd_PL_parameter 6 = .ok (.invokevirtual 110, 3) := by decide +kernel
theorem de_PL_parameter_9 : decode cd_PL_parameter 9 = .ok (.ireturn, 1) := by decide +kernel
def jb_PL_parameter_0 (N : Nat) (M : mv_M) (v0 : Nat) (v1 : Int32) (v2 : Int32) : Option (Int32 × mv_M) :=
  Option.bind (mj_getR M v0 0 0) fun x1 =>
  Option.bind x1 fun a6 =>
  mj_ob M a6 7 <|
  mj_call (jf_Tp_markParameter N M a6 v1 v2) fun r6 Mm6 =>
  some (r6, Mm6)
def jf_PL_parameter (N : Nat) (M : mv_M) (v0 : Nat) (v1 : Int32) (v2 : Int32) : Option (Int32 × mv_M) := jb_PL_parameter_0 N M v0 v1 v2
set_option maxHeartbeats 4000000 in
set_option maxRecDepth 100000 in
theorem tb_PL_parameter_0 (l : Launch) (D : va_G) (E : Nat → ClassId) (B : Nat) (sa : (Nat → Nat) × Nat × (Nat → Int32)) (M0 M1 : mv_M) (r : Int32) (N : Nat) (M : mv_M) (v0 : Nat) (v1 : Int32) (v2 : Int32) (hJ : jb_PL_parameter_0 N M v0 v1 v2 = some (r, M1)) : mv_G (xg l D E B sa) kd_PL_parameter M0 M1 (some (.int r)) M 0 [(0, va_rf (some v0)), (1, .int v1), (2, .int v2)] [] := by
  unfold jb_PL_parameter_0 at hJ
  refine mv_aload_n (pc := 0) (i := 0) de_PL_parameter_0 rfl 0 rfl ?_
  refine mv_getR (pc := 1) (f := 0) (kc_0 l D E B sa) (Nat.le_of_ble_eq_true rfl) wt_1_146 de_PL_parameter_1 hJ (fun x1 e1 h1 => ?_)
  refine mv_iload_n (pc := 4) (i := 1) de_PL_parameter_4 rfl 1 rfl ?_
  refine mv_iload_n (pc := 5) (i := 2) de_PL_parameter_5 rfl 2 rfl ?_
  obtain ⟨a6, ha, h6a⟩ := mj_bindE h1
  subst ha
  obtain ⟨hi6, h6o⟩ := mj_obE h6a
  obtain ⟨r6, Mm6, hz6, h6⟩ := mj_callE h6o
  refine mv_callV (pc := 6) (n := 2) (av := [.int v1, .int v2]) (rest := []) de_PL_parameter_6 (kc_7 l D E B sa) hi6 (cm_Tp_markParameter l D E B sa N M a6 v1 v2 _ _ hz6) wt_3_37 wt_3_38 wt_3_39 wt_1_2 wt_3_40 ⟨by decide, by decide, by decide +kernel⟩ rfl ⟨Nat.le_of_ble_eq_true rfl, Nat.le_of_ble_eq_true rfl⟩ (Nat.le_of_ble_eq_true rfl) rfl ?_
  exact mv_iret (pc := 9) rfl de_PL_parameter_9 h6
theorem cm_PL_parameter (l : Launch) (D : va_G) (E : Nat → ClassId) (B : Nat) (sa : (Nat → Nat) × Nat × (Nat → Int32)) (N : Nat) (M : mv_M) (v0 : Nat) (v1 : Int32) (v2 : Int32) (r : Int32) (M1 : mv_M) (hJ : jf_PL_parameter N M v0 v1 v2 = some (r, M1)) : mv_Met (xg l D E B sa) yn_PL_parameter cd_PL_parameter 3 (some .int) 3 67 [va_rf (some v0), .int v1, .int v2] M (some (.int r)) M1 :=
  mv_enter (by decide) (Nat.le_of_ble_eq_true rfl) (mv_sub (lv := [(0, va_rf (some v0)), (1, .int v1), (2, .int v2)]) [0, 1, 2] rfl (tb_PL_parameter_0 l D E B sa M M1 r N M v0 v1 v2 hJ))
/-! ===== PlainLearner.rate(II)I ===== -/
abbrev kd_PL_rate : mv_Kd := (cd_PL_rate, 3, "PlainLearner", "rate", (some .int), 2, 55)
theorem de_PL_rate_0 : decode cd_PL_rate 0 = .ok (.iload_n 2, 1) := by decide +kernel
theorem de_PL_rate_1 : decode cd_PL_rate 1 = .ok (.ifCond .gt 5, 3) := by decide +kernel
theorem de_PL_rate_4 : decode cd_PL_rate 4 = .ok (.iconst (-1), 1) := by decide +kernel
theorem de_PL_rate_5 : decode cd_PL_rate 5 = .ok (.ireturn, 1) := by decide +kernel
theorem de_PL_rate_6 : decode cd_PL_rate 6 = .ok (.aload_n 0, 1) := by decide +kernel
theorem de_PL_rate_7 : decode cd_PL_rate 7 = .ok (.getfield 10, 3) := by decide +kernel
theorem de_PL_rate_10 : decode cd_PL_rate 10 = .ok (.iload_n 1, 1) := by decide +kernel
theorem de_PL_rate_11 : decode cd_PL_rate 11 = .ok (.i2l, 1) := by decide +kernel
theorem de_PL_rate_12 : decode cd_PL_rate 12 = .ok (.iload_n 2, 1) := by decide +kernel
theorem de_PL_rate_13 : decode cd_PL_rate 13 = .ok (.i2l, 1) := by decide +kernel
theorem de_PL_rate_14 : decode cd_PL_rate 14 = .ok (.invokestatic 54, 3) := by decide +kernel
theorem de_PL_rate_17 : decode cd_PL_rate 17 = .ok (.putfield 114, 3) := by decide +kernel
theorem de_PL_rate_20 : decode cd_PL_rate 20 = .ok (.iconst 0, 1) := by decide +kernel
theorem de_PL_rate_21 : decode cd_PL_rate 21 = .ok (.ireturn, 1) := by decide +kernel
def jb_PL_rate_0 (N : Nat) (M : mv_M) (v0 : Nat) (v1 : Int32) (v2 : Int32) : Option (Int32 × mv_M) :=
  if 0 < v2 then (Option.bind (mj_getR M v0 0 0) fun x7 =>
  mj_call (jf_Fr_of N M v1.toInt64 v2.toInt64) fun r14 Mm14 =>
  Option.bind x7 fun a17 =>
  Option.bind (mj_put Mm14 a17 7 2 (.long r14)) fun Mm17 =>
  some (0, Mm17)) else
  some ((-1), M)
def jf_PL_rate (N : Nat) (M : mv_M) (v0 : Nat) (v1 : Int32) (v2 : Int32) : Option (Int32 × mv_M) := jb_PL_rate_0 N M v0 v1 v2
set_option maxHeartbeats 4000000 in
set_option maxRecDepth 100000 in
theorem tb_PL_rate_0 (l : Launch) (D : va_G) (E : Nat → ClassId) (B : Nat) (sa : (Nat → Nat) × Nat × (Nat → Int32)) (M0 M1 : mv_M) (r : Int32) (N : Nat) (M : mv_M) (v0 : Nat) (v1 : Int32) (v2 : Int32) (hJ : jb_PL_rate_0 N M v0 v1 v2 = some (r, M1)) : mv_G (xg l D E B sa) kd_PL_rate M0 M1 (some (.int r)) M 0 [(0, va_rf (some v0)), (1, .int v1), (2, .int v2)] [] := by
  unfold jb_PL_rate_0 at hJ
  refine mv_iload_n (pc := 0) (i := 2) de_PL_rate_0 rfl 2 rfl ?_
  refine mv_if_gt (pc := 1) (tgt := 6) de_PL_rate_1 (by decide) hJ (fun hc1 h1 => ?_) (fun hc1 h1 => ?_)
  · refine mv_aload_n (pc := 6) (i := 0) de_PL_rate_6 rfl 0 rfl ?_
    refine mv_getR (pc := 7) (f := 0) (kc_0 l D E B sa) (Nat.le_of_ble_eq_true rfl) wt_1_146 de_PL_rate_7 h1 (fun x7 e7 h7 => ?_)
    refine mv_iload_n (pc := 10) (i := 1) de_PL_rate_10 rfl 1 rfl ?_
    refine mv_i2l (pc := 11) de_PL_rate_11 ?_
    refine mv_iload_n (pc := 12) (i := 2) de_PL_rate_12 rfl 2 rfl ?_
    refine mv_i2l (pc := 13) de_PL_rate_13 ?_
    obtain ⟨r14, Mm14, hz14, h14⟩ := mj_callE h7
    refine mv_callS (pc := 14) (n := 2) (av := [.long v1.toInt64, .long v2.toInt64]) (rest := [va_rf x7]) de_PL_rate_14 (cm_Fr_of l D E B sa N M v1.toInt64 v2.toInt64 _ _ hz14) wt_2_36 wt_1_35 wt_1_3 wt_1_36 ⟨by decide, by decide, by decide +kernel⟩ rfl ⟨Nat.le_of_ble_eq_true rfl, Nat.le_of_ble_eq_true rfl⟩ (by simp [mv_cat, mv_cI, mv_cJ]) rfl ?_
    obtain ⟨a17, ha, h17a⟩ := mj_bindE h14
    subst ha
    refine mv_put (pc := 17) (f := 2) (kc_7 l D E B sa) (Nat.le_of_ble_eq_true rfl) wt_1_49 rfl rfl rfl de_PL_rate_17 h17a (fun Mm17 e17 h17 => ?_)
    refine mv_iconst (pc := 20) (v := 0) de_PL_rate_20 (by decide) ?_
    exact mv_iret (pc := 21) rfl de_PL_rate_21 h17
  · refine mv_iconst (pc := 4) (v := (-1)) de_PL_rate_4 (by decide) ?_
    exact mv_iret (pc := 5) rfl de_PL_rate_5 h1
theorem cm_PL_rate (l : Launch) (D : va_G) (E : Nat → ClassId) (B : Nat) (sa : (Nat → Nat) × Nat × (Nat → Int32)) (N : Nat) (M : mv_M) (v0 : Nat) (v1 : Int32) (v2 : Int32) (r : Int32) (M1 : mv_M) (hJ : jf_PL_rate N M v0 v1 v2 = some (r, M1)) : mv_Met (xg l D E B sa) yn_PL_rate cd_PL_rate 3 (some .int) 2 55 [va_rf (some v0), .int v1, .int v2] M (some (.int r)) M1 :=
  mv_enter (by decide) (Nat.le_of_ble_eq_true rfl) (mv_sub (lv := [(0, va_rf (some v0)), (1, .int v1), (2, .int v2)]) [0, 1, 2] rfl (tb_PL_rate_0 l D E B sa M M1 r N M v0 v1 v2 hJ))
