def w_X8_find_252 (post : Mem → Prop) (y0 : Int32) (S : Mem) : Prop := (∀ S1 : Mem, S1 = mset S 0 (upd (S 0) 33 y0) → w_X8_findLean  S1 (fun S2 => (∀ S3 : Mem, S3 = mset S2 12 (upd (S2 12) (0 : Int32).toNatClampNeg (S2 0 33)) → (∀ S4 : Mem, S4 = mset S3 12 (upd (S3 12) (1 : Int32).toNatClampNeg (S3 0 34)) → post S4))))
set_option maxHeartbeats 4000000 in
set_option maxRecDepth 20000 in
theorem b_X8_find_252 {v : VmT} {l : Launch} {g : CxT} (ok : Ok l g (oM v) 5 cX8_find RX8 none) {post : Mem → Prop} (he : EndQ g (oM v) (va_Qv post (fun S1 t => BX (oM v) S1 t) (AX (oM v)))) (y0 : Int32) (S : Mem) (h : w_X8_find_252 post y0 S) : G g (oM v) 3 5 252 [(0, .ref (v.1 0))] [.int y0, .ref (v.1 0)] S := by
  unfold w_X8_find_252 at h
  refine fp_X8_X8_rock (n := 255) ok dX8_find_252 rfl ?_
  refine g_mem (fun S1 eS1 => ?_)
  replace h := h S1 eS1
  refine g_aload_n 0 (n := 256) ok dX8_find_255 rfl rfl ?_
  refine g_callVv (n := 259) (As := []) (rest := []) (c := 0) ok (c_X8_findLean l v  S1 _ h) cal_X8_findLean tw_1027 tw_1029 tp_86 (Nat.le_of_ble_eq_true rfl) rfl rfl (by decide) (by decide) rfl (Nat.le_of_ble_eq_true rfl) dX8_find_256 rfl rfl (fun S2 h => ?_)
  refine g_aload_n 0 (n := 260) ok dX8_find_259 rfl rfl ?_
  refine fg_X8_X8_named (n := 263) ok dX8_find_260 rfl ?_
  refine g_iconst (v := 0) (n := 264) ok dX8_find_263 rfl (by decide) ?_
  refine g_aload_n 0 (n := 265) ok dX8_find_264 rfl rfl ?_
  refine fg_X8_X8_rock (n := 268) ok dX8_find_265 rfl ?_
  refine g_iast (c := 12) (t0 := 0) (n := 269) ok (Nat.le_of_ble_eq_true rfl) (fun _ => rfl) rfl (vp_dec rfl) dX8_find_268 rfl ?_
  refine g_mem (fun S3 eS3 => ?_)
  replace h := h S3 eS3
  refine g_aload_n 0 (n := 270) ok dX8_find_269 rfl rfl ?_
  refine fg_X8_X8_named (n := 273) ok dX8_find_270 rfl ?_
  refine g_iconst (v := 1) (n := 274) ok dX8_find_273 rfl (by decide) ?_
  refine g_aload_n 0 (n := 275) ok dX8_find_274 rfl rfl ?_
  refine fg_X8_X8_lean (n := 278) ok dX8_find_275 rfl ?_
  refine g_iast (c := 12) (t0 := 0) (n := 279) ok (Nat.le_of_ble_eq_true rfl) (fun _ => rfl) rfl (vp_dec rfl) dX8_find_278 rfl ?_
  refine g_mem (fun S4 eS4 => ?_)
  replace h := h S4 eS4
  exact g_vret ok he h dX8_find_279
def w_X8_find_242 (post : Mem → Prop) (S : Mem) : Prop := w_X8_find_252 post (0 : Int32) S
set_option maxHeartbeats 4000000 in
set_option maxRecDepth 20000 in
theorem b_X8_find_242 {v : VmT} {l : Launch} {g : CxT} (ok : Ok l g (oM v) 5 cX8_find RX8 none) {post : Mem → Prop} (he : EndQ g (oM v) (va_Qv post (fun S1 t => BX (oM v) S1 t) (AX (oM v)))) (S : Mem) (h : w_X8_find_242 post  S) : G g (oM v) 3 5 242 [(0, .ref (v.1 0))] [.ref (v.1 0)] S := by
  unfold w_X8_find_242 at h
  refine g_iconst (v := 0) (n := 243) ok dX8_find_242 rfl (by decide) ?_
  refine g_goto (t := 252) ok dX8_find_243 (by decide) ?_
  exact g_sub [0] rfl (b_X8_find_252 ok he (0 : Int32) S h)
def w_X8_find_159 (post : Mem → Prop) (x1 : Int32) (x2 : Int32) (y0 : Int32) (S : Mem) : Prop := (∀ S1 : Mem, S1 = mset S 12 (upd (S 12) (0 : Int32).toNatClampNeg (S 0 32)) → (∀ S2 : Mem, S2 = mset S1 12 (upd (S1 12) (1 : Int32).toNatClampNeg (0 : Int32)) → (∀ S3 : Mem, S3 = mset S2 12 (upd (S2 12) (2 : Int32).toNatClampNeg x2) → (∀ S4 : Mem, S4 = mset S3 12 (upd (S3 12) (3 : Int32).toNatClampNeg (x1 / (8 : Int32))) → (∀ S5 : Mem, S5 = mset S4 12 (upd (S4 12) (4 : Int32).toNatClampNeg (jrem x1 (8 : Int32))) → (∀ S6 : Mem, S6 = mset S5 12 (upd (S5 12) (5 : Int32).toNatClampNeg y0) → w_X8_says (0 : Int32) S6 (fun r7 S7 => w_X8_held r7 (0 : Int32) (9 : Int32) S7 (fun r8 S8 => (((S8 0 32) ≤ r8 → w_X8_find_242 post  S8) ∧ (¬ (S8 0 32) ≤ r8 → ((y0 ≤ (S8 0 32) → w_X8_find_252 post ((S8 0 32) - y0) S8) ∧ (¬ y0 ≤ (S8 0 32) → w_X8_find_242 post  S8))))))))))))
set_option maxHeartbeats 4000000 in
set_option maxRecDepth 20000 in
theorem b_X8_find_159 {v : VmT} {l : Launch} {g : CxT} (ok : Ok l g (oM v) 5 cX8_find RX8 none) {post : Mem → Prop} (he : EndQ g (oM v) (va_Qv post (fun S1 t => BX (oM v) S1 t) (AX (oM v)))) (x1 : Int32) (x2 : Int32) (y0 : Int32) (S : Mem) (h : w_X8_find_159 post x1 x2 y0 S) : G g (oM v) 3 5 159 [(0, .ref (v.1 0)), (1, .int x1), (2, .int x2)] [.int y0] S := by
  unfold w_X8_find_159 at h
  refine g_istore_n [(3, .int y0), (0, .ref (v.1 0)), (1, .int x1), (2, .int x2)] (n := 160) ok dX8_find_159 rfl (by decide) rfl ?_
  refine g_aload_n 1 (n := 161) ok dX8_find_160 rfl rfl ?_
  refine fg_X8_X8_named (n := 164) ok dX8_find_161 rfl ?_
  refine g_iconst (v := 0) (n := 165) ok dX8_find_164 rfl (by decide) ?_
  refine g_aload_n 1 (n := 166) ok dX8_find_165 rfl rfl ?_
  refine fg_X8_X8_size (n := 169) ok dX8_find_166 rfl ?_
  refine g_iast (c := 12) (t0 := 0) (n := 170) ok (Nat.le_of_ble_eq_true rfl) (fun _ => rfl) rfl (vp_dec rfl) dX8_find_169 rfl ?_
  refine g_mem (fun S1 eS1 => ?_)
  replace h := h S1 eS1
  refine g_aload_n 1 (n := 171) ok dX8_find_170 rfl rfl ?_
  refine fg_X8_X8_named (n := 174) ok dX8_find_171 rfl ?_
  refine g_iconst (v := 1) (n := 175) ok dX8_find_174 rfl (by decide) ?_
  refine g_iconst (v := 0) (n := 176) ok dX8_find_175 rfl (by decide) ?_
  refine g_iast (c := 12) (t0 := 0) (n := 177) ok (Nat.le_of_ble_eq_true rfl) (fun _ => rfl) rfl (vp_dec rfl) dX8_find_176 rfl ?_
  refine g_mem (fun S2 eS2 => ?_)
  replace h := h S2 eS2
  refine g_aload_n 1 (n := 178) ok dX8_find_177 rfl rfl ?_
  refine fg_X8_X8_named (n := 181) ok dX8_find_178 rfl ?_
  refine g_iconst (v := 2) (n := 182) ok dX8_find_181 rfl (by decide) ?_
  refine g_iload_n 3 (n := 183) ok dX8_find_182 rfl rfl ?_
  refine g_iast (c := 12) (t0 := 0) (n := 184) ok (Nat.le_of_ble_eq_true rfl) (fun _ => rfl) rfl (vp_dec rfl) dX8_find_183 rfl ?_
  refine g_mem (fun S3 eS3 => ?_)
  replace h := h S3 eS3
  refine g_aload_n 1 (n := 185) ok dX8_find_184 rfl rfl ?_
  refine fg_X8_X8_named (n := 188) ok dX8_find_185 rfl ?_
  refine g_iconst (v := 3) (n := 189) ok dX8_find_188 rfl (by decide) ?_
  refine g_iload_n 2 (n := 190) ok dX8_find_189 rfl rfl ?_
  refine g_bipush (v := 8) (n := 192) ok dX8_find_190 rfl (by decide) ?_
  refine g_idiv (n := 193) ok dX8_find_192 rfl (by decide) ?_
  refine g_iast (c := 12) (t0 := 0) (n := 194) ok (Nat.le_of_ble_eq_true rfl) (fun _ => rfl) rfl (vp_dec rfl) dX8_find_193 rfl ?_
  refine g_mem (fun S4 eS4 => ?_)
  replace h := h S4 eS4
  refine g_aload_n 1 (n := 195) ok dX8_find_194 rfl rfl ?_
  refine fg_X8_X8_named (n := 198) ok dX8_find_195 rfl ?_
  refine g_iconst (v := 4) (n := 199) ok dX8_find_198 rfl (by decide) ?_
  refine g_iload_n 2 (n := 200) ok dX8_find_199 rfl rfl ?_
  refine g_bipush (v := 8) (n := 202) ok dX8_find_200 rfl (by decide) ?_
  refine g_irem (n := 203) ok dX8_find_202 rfl (by decide) ?_
  refine g_iast (c := 12) (t0 := 0) (n := 204) ok (Nat.le_of_ble_eq_true rfl) (fun _ => rfl) rfl (vp_dec rfl) dX8_find_203 rfl ?_
  refine g_mem (fun S5 eS5 => ?_)
  replace h := h S5 eS5
  refine g_aload_n 1 (n := 205) ok dX8_find_204 rfl rfl ?_
  refine fg_X8_X8_named (n := 208) ok dX8_find_205 rfl ?_
  refine g_iconst (v := 5) (n := 209) ok dX8_find_208 rfl (by decide) ?_
  refine g_iload_n 0 (n := 210) ok dX8_find_209 rfl rfl ?_
  refine g_iast (c := 12) (t0 := 0) (n := 211) ok (Nat.le_of_ble_eq_true rfl) (fun _ => rfl) rfl (vp_dec rfl) dX8_find_210 rfl ?_
  refine g_mem (fun S6 eS6 => ?_)
  replace h := h S6 eS6
  refine g_aload_n 1 (n := 212) ok dX8_find_211 rfl rfl ?_
  refine g_iconst (v := 0) (n := 213) ok dX8_find_212 rfl (by decide) ?_
  refine g_callVi (n := 216) (As := [.int (0 : Int32)]) (rest := []) (c := 0) ok (c_X8_says l v (0 : Int32) S6 _ h) cal_X8_says tw_1020 tw_1022 tp_85 (Nat.le_of_ble_eq_true rfl) rfl rfl (by decide) (by decide) rfl (Nat.le_of_ble_eq_true rfl) dX8_find_213 rfl rfl (fun r7 S7 h => ?_)
  refine g_iconst (v := 0) (n := 217) ok dX8_find_216 rfl (by decide) ?_
  refine g_bipush (v := 9) (n := 219) ok dX8_find_217 rfl (by decide) ?_
  refine g_callSi (n := 222) (As := [.int r7, .int (0 : Int32), .int (9 : Int32)]) (rest := []) ok (c_X8_held l v r7 (0 : Int32) (9 : Int32) S7 _ h) cal_X8_held tw_1009 tw_1010 (by decide) (by decide) rfl (Nat.le_of_ble_eq_true rfl) dX8_find_219 rfl rfl (fun r8 S8 h => ?_)
  refine g_istore [(4, .int r8), (3, .int y0), (0, .ref (v.1 0)), (1, .int x1), (2, .int x2)] (n := 224) ok dX8_find_222 rfl (by decide) rfl ?_
  refine g_aload_n 2 (n := 225) ok dX8_find_224 rfl rfl ?_
  refine g_aload_n 2 (n := 226) ok dX8_find_225 rfl rfl ?_
  refine fg_X8_X8_size (n := 229) ok dX8_find_226 rfl ?_
  refine g_iload 0 (n := 231) ok dX8_find_229 rfl rfl ?_
  refine g_icmp_le (t := 242) (n := 234) ok dX8_find_231 (by decide) rfl (fun e10 => ?_) (fun e10 => ?_)
  · replace h := h.1 e10
    exact g_sub [2] rfl (b_X8_find_242 ok he  S8 h)
  · replace h := h.2 e10
    refine g_aload_n 2 (n := 235) ok dX8_find_234 rfl rfl ?_
    refine fg_X8_X8_size (n := 238) ok dX8_find_235 rfl ?_
    refine g_iload_n 1 (n := 239) ok dX8_find_238 rfl rfl ?_
    refine g_icmp_ge (t := 246) (n := 242) ok dX8_find_239 (by decide) rfl (fun e9 => ?_) (fun e9 => ?_)
    · replace h := h.1 e9
      refine g_aload_n 2 (n := 247) ok dX8_find_246 rfl rfl ?_
      refine fg_X8_X8_size (n := 250) ok dX8_find_247 rfl ?_
      refine g_iload_n 1 (n := 251) ok dX8_find_250 rfl rfl ?_
      refine g_isub (n := 252) ok dX8_find_251 rfl ?_
      exact g_sub [2] rfl (b_X8_find_252 ok he ((S8 0 32) - y0) S8 h)
    · replace h := h.2 e9
      exact g_sub [2] rfl (b_X8_find_242 ok he  S8 h)
def w_X8_find_108 (post : Mem → Prop) (x1 : Int32) (x2 : Int32) (y0 : Int32) (S : Mem) : Prop := (∀ S1 : Mem, S1 = mset S 0 (upd (S 0) 35 y0) → (∀ S2 : Mem, S2 = mset S1 0 (upd (S1 0) 36 ((1 : Int32) - (S1 0 35))) → ((¬ (S2 0 31) = 0 → w_X8_givesOf (S2 0 36) (S2 0 32) S2 (fun r3 S3 => w_X8_givesOf ((S3 0 36) + (2 : Int32)) (S3 0 32) S3 (fun r4 S4 => w_X8_find_159 post x1 x2 (r3 + r4) S4))) ∧ ((S2 0 31) = 0 → w_X8_find_159 post x1 x2 (0 : Int32) S2))))
set_option maxHeartbeats 4000000 in
set_option maxRecDepth 20000 in
theorem b_X8_find_108 {v : VmT} {l : Launch} {g : CxT} (ok : Ok l g (oM v) 5 cX8_find RX8 none) {post : Mem → Prop} (he : EndQ g (oM v) (va_Qv post (fun S1 t => BX (oM v) S1 t) (AX (oM v)))) (x1 : Int32) (x2 : Int32) (y0 : Int32) (S : Mem) (h : w_X8_find_108 post x1 x2 y0 S) : G g (oM v) 3 5 108 [(0, .ref (v.1 0)), (1, .int x1), (2, .int x2)] [.int y0, .ref (v.1 0)] S := by
  unfold w_X8_find_108 at h
  refine fp_X8_X8_bearing (n := 111) ok dX8_find_108 rfl ?_
  refine g_mem (fun S1 eS1 => ?_)
  replace h := h S1 eS1
  refine g_aload_n 0 (n := 112) ok dX8_find_111 rfl rfl ?_
  refine g_iconst (v := 1) (n := 113) ok dX8_find_112 rfl (by decide) ?_
  refine g_aload_n 0 (n := 114) ok dX8_find_113 rfl rfl ?_
  refine fg_X8_X8_bearing (n := 117) ok dX8_find_114 rfl ?_
  refine g_isub (n := 118) ok dX8_find_117 rfl ?_
  refine fp_X8_X8_loose (n := 121) ok dX8_find_118 rfl ?_
  refine g_mem (fun S2 eS2 => ?_)
  replace h := h S2 eS2
  refine g_aload_n 0 (n := 122) ok dX8_find_121 rfl rfl ?_
  refine fg_X8_X8_gap (n := 125) ok dX8_find_122 rfl ?_
  refine g_if_ne (t := 132) (n := 128) ok dX8_find_125 (by decide) rfl (fun e5 => ?_) (fun e5 => ?_)
  · replace h := h.1 e5
    refine g_aload_n 0 (n := 133) ok dX8_find_132 rfl rfl ?_
    refine g_aload_n 0 (n := 134) ok dX8_find_133 rfl rfl ?_
    refine fg_X8_X8_loose (n := 137) ok dX8_find_134 rfl ?_
    refine g_aload_n 0 (n := 138) ok dX8_find_137 rfl rfl ?_
    refine fg_X8_X8_size (n := 141) ok dX8_find_138 rfl ?_
    refine g_callVi (n := 144) (As := [.int (S2 0 36), .int (S2 0 32)]) (rest := []) (c := 0) ok (c_X8_givesOf l v (S2 0 36) (S2 0 32) S2 _ h) cal_X8_givesOf tw_1016 tw_1018 tp_84 (Nat.le_of_ble_eq_true rfl) rfl rfl (by decide) (by decide) rfl (Nat.le_of_ble_eq_true rfl) dX8_find_141 rfl rfl (fun r3 S3 h => ?_)
    refine g_aload_n 0 (n := 145) ok dX8_find_144 rfl rfl ?_
    refine g_aload_n 0 (n := 146) ok dX8_find_145 rfl rfl ?_
    refine fg_X8_X8_loose (n := 149) ok dX8_find_146 rfl ?_
    refine g_iconst (v := 2) (n := 150) ok dX8_find_149 rfl (by decide) ?_
    refine g_iadd (n := 151) ok dX8_find_150 rfl ?_
    refine g_aload_n 0 (n := 152) ok dX8_find_151 rfl rfl ?_
    refine fg_X8_X8_size (n := 155) ok dX8_find_152 rfl ?_
    refine g_callVi (n := 158) (As := [.int ((S3 0 36) + (2 : Int32)), .int (S3 0 32)]) (rest := [.int r3]) (c := 0) ok (c_X8_givesOf l v ((S3 0 36) + (2 : Int32)) (S3 0 32) S3 _ h) cal_X8_givesOf tw_1016 tw_1018 tp_84 (Nat.le_of_ble_eq_true rfl) rfl rfl (by decide) (by decide) rfl (Nat.le_of_ble_eq_true rfl) dX8_find_155 rfl rfl (fun r4 S4 h => ?_)
    refine g_iadd (n := 159) ok dX8_find_158 rfl ?_
    exact g_sub [0, 1, 2] rfl (b_X8_find_159 ok he x1 x2 (r3 + r4) S4 h)
  · replace h := h.2 e5
    refine g_iconst (v := 0) (n := 129) ok dX8_find_128 rfl (by decide) ?_
    refine g_goto (t := 159) ok dX8_find_129 (by decide) ?_
    exact g_sub [0, 1, 2] rfl (b_X8_find_159 ok he x1 x2 (0 : Int32) S2 h)
def w_X8_find_92 (post : Mem → Prop) (x1 : Int32) (x2 : Int32) (y0 : Int32) (S : Mem) : Prop := (∀ S1 : Mem, S1 = mset S 0 (upd (S 0) 32 y0) → ((0 ≤ (S1 0 31) → w_X8_find_108 post x1 x2 (0 : Int32) S1) ∧ (¬ 0 ≤ (S1 0 31) → w_X8_find_108 post x1 x2 (1 : Int32) S1)))
set_option maxHeartbeats 4000000 in
set_option maxRecDepth 20000 in
theorem b_X8_find_92 {v : VmT} {l : Launch} {g : CxT} (ok : Ok l g (oM v) 5 cX8_find RX8 none) {post : Mem → Prop} (he : EndQ g (oM v) (va_Qv post (fun S1 t => BX (oM v) S1 t) (AX (oM v)))) (x1 : Int32) (x2 : Int32) (y0 : Int32) (S : Mem) (h : w_X8_find_92 post x1 x2 y0 S) : G g (oM v) 3 5 92 [(0, .ref (v.1 0)), (1, .int x1), (2, .int x2)] [.int y0, .ref (v.1 0)] S := by
  unfold w_X8_find_92 at h
  refine fp_X8_X8_size (n := 95) ok dX8_find_92 rfl ?_
  refine g_mem (fun S1 eS1 => ?_)
  replace h := h S1 eS1
  refine g_aload_n 0 (n := 96) ok dX8_find_95 rfl rfl ?_
  refine g_aload_n 0 (n := 97) ok dX8_find_96 rfl rfl ?_
  refine fg_X8_X8_gap (n := 100) ok dX8_find_97 rfl ?_
  refine g_if_ge (t := 107) (n := 103) ok dX8_find_100 (by decide) rfl (fun e2 => ?_) (fun e2 => ?_)
  · replace h := h.1 e2
    refine g_iconst (v := 0) (n := 108) ok dX8_find_107 rfl (by decide) ?_
    exact g_sub [0, 1, 2] rfl (b_X8_find_108 ok he x1 x2 (0 : Int32) S1 h)
  · replace h := h.2 e2
    refine g_iconst (v := 1) (n := 104) ok dX8_find_103 rfl (by decide) ?_
    refine g_goto (t := 108) ok dX8_find_104 (by decide) ?_
    exact g_sub [0, 1, 2] rfl (b_X8_find_108 ok he x1 x2 (1 : Int32) S1 h)
def w_X8_find_2 (post : Mem → Prop) : Nat → Int32 → Int32 → Int32 → Mem → Prop
  | 0, _, _, _, _ => False
  | n + 1, x1, x2, x3, S => (((4 : Int32) ≤ x3 → (∀ S1 : Mem, S1 = mset S 0 (upd (S 0) 31 ((((S 14 (0 : Int32).toNatClampNeg) + (S 14 (2 : Int32).toNatClampNeg)) - (S 14 (1 : Int32).toNatClampNeg)) - (S 14 (3 : Int32).toNatClampNeg))) → ((0 ≤ (S1 0 31) → w_X8_find_92 post x1 x2 (S1 0 31) S1) ∧ (¬ 0 ≤ (S1 0 31) → w_X8_find_92 post x1 x2 (-(S1 0 31)) S1)))) ∧ (¬ (4 : Int32) ≤ x3 → w_X8_cellOf x3 x1 x2 S (fun r3 S3 => (vp_in r3 64 ∧ w_X8_tallOf x3 (S3 0 7) S3 (fun r4 S4 => (vp_in x3 4 ∧ (∀ S5 : Mem, S5 = mset S4 14 (upd (S4 14) x3.toNatClampNeg ((S3 1 r3.toNatClampNeg) + r4)) → (∀ z6 : Int32, z6 = x3 + 1 → w_X8_find_2 post n x1 x2 z6 S5))))))))
set_option maxHeartbeats 4000000 in
set_option maxRecDepth 20000 in
theorem b_X8_find_2 {v : VmT} {l : Launch} {g : CxT} (ok : Ok l g (oM v) 5 cX8_find RX8 none) {post : Mem → Prop} (he : EndQ g (oM v) (va_Qv post (fun S1 t => BX (oM v) S1 t) (AX (oM v)))) : ∀ (n : Nat) (x1 : Int32) (x2 : Int32) (x3 : Int32) (S : Mem), w_X8_find_2 post n x1 x2 x3 S → G g (oM v) 3 5 2 [(0, .ref (v.1 0)), (1, .int x1), (2, .int x2), (3, .int x3)] [] S := by
  intro n
  induction n with
  | zero =>
    intro x1 x2 x3 S h
    exact h.elim
  | succ n ih =>
    intro x1 x2 x3 S h
    rw [w_X8_find_2] at h
    refine g_iload_n 3 (n := 3) ok dX8_find_2 rfl rfl ?_
    refine g_iconst (v := 4) (n := 4) ok dX8_find_3 rfl (by decide) ?_
    refine g_icmp_ge (t := 41) (n := 7) ok dX8_find_4 (by decide) rfl (fun e7 => ?_) (fun e7 => ?_)
    · replace h := h.1 e7
      refine g_aload_n 0 (n := 42) ok dX8_find_41 rfl rfl ?_
      refine g_aload_n 0 (n := 43) ok dX8_find_42 rfl rfl ?_
      refine fg_X8_X8_at (n := 46) ok dX8_find_43 rfl ?_
      refine g_iconst (v := 0) (n := 47) ok dX8_find_46 rfl (by decide) ?_
      refine g_iald (c := 14) (t0 := 0) (n := 48) ok (Nat.le_of_ble_eq_true rfl) rfl rfl (vp_dec rfl) dX8_find_47 rfl ?_
      refine g_aload_n 0 (n := 49) ok dX8_find_48 rfl rfl ?_
      refine fg_X8_X8_at (n := 52) ok dX8_find_49 rfl ?_
      refine g_iconst (v := 2) (n := 53) ok dX8_find_52 rfl (by decide) ?_
      refine g_iald (c := 14) (t0 := 0) (n := 54) ok (Nat.le_of_ble_eq_true rfl) rfl rfl (vp_dec rfl) dX8_find_53 rfl ?_
      refine g_iadd (n := 55) ok dX8_find_54 rfl ?_
      refine g_aload_n 0 (n := 56) ok dX8_find_55 rfl rfl ?_
      refine fg_X8_X8_at (n := 59) ok dX8_find_56 rfl ?_
      refine g_iconst (v := 1) (n := 60) ok dX8_find_59 rfl (by decide) ?_
      refine g_iald (c := 14) (t0 := 0) (n := 61) ok (Nat.le_of_ble_eq_true rfl) rfl rfl (vp_dec rfl) dX8_find_60 rfl ?_
      refine g_isub (n := 62) ok dX8_find_61 rfl ?_
      refine g_aload_n 0 (n := 63) ok dX8_find_62 rfl rfl ?_
      refine fg_X8_X8_at (n := 66) ok dX8_find_63 rfl ?_
      refine g_iconst (v := 3) (n := 67) ok dX8_find_66 rfl (by decide) ?_
      refine g_iald (c := 14) (t0 := 0) (n := 68) ok (Nat.le_of_ble_eq_true rfl) rfl rfl (vp_dec rfl) dX8_find_67 rfl ?_
      refine g_isub (n := 69) ok dX8_find_68 rfl ?_
      refine fp_X8_X8_gap (n := 72) ok dX8_find_69 rfl ?_
      refine g_mem (fun S1 eS1 => ?_)
      replace h := h S1 eS1
      refine g_aload_n 0 (n := 73) ok dX8_find_72 rfl rfl ?_
      refine g_aload_n 0 (n := 74) ok dX8_find_73 rfl rfl ?_
      refine fg_X8_X8_gap (n := 77) ok dX8_find_74 rfl ?_
      refine g_if_ge (t := 88) (n := 80) ok dX8_find_77 (by decide) rfl (fun e2 => ?_) (fun e2 => ?_)
      · replace h := h.1 e2
        refine g_aload_n 0 (n := 89) ok dX8_find_88 rfl rfl ?_
        refine fg_X8_X8_gap (n := 92) ok dX8_find_89 rfl ?_
        exact g_sub [0, 1, 2] rfl (b_X8_find_92 ok he x1 x2 (S1 0 31) S1 h)
      · replace h := h.2 e2
        refine g_aload_n 0 (n := 81) ok dX8_find_80 rfl rfl ?_
        refine fg_X8_X8_gap (n := 84) ok dX8_find_81 rfl ?_
        refine g_ineg (n := 85) ok dX8_find_84 rfl ?_
        refine g_goto (t := 92) ok dX8_find_85 (by decide) ?_
        exact g_sub [0, 1, 2] rfl (b_X8_find_92 ok he x1 x2 (-(S1 0 31)) S1 h)
    · replace h := h.2 e7
      refine g_aload_n 0 (n := 8) ok dX8_find_7 rfl rfl ?_
      refine fg_X8_X8_at (n := 11) ok dX8_find_8 rfl ?_
      refine g_iload_n 3 (n := 12) ok dX8_find_11 rfl rfl ?_
      refine g_aload_n 0 (n := 13) ok dX8_find_12 rfl rfl ?_
      refine fg_X8_X8_heights (n := 16) ok dX8_find_13 rfl ?_
      refine g_aload_n 0 (n := 17) ok dX8_find_16 rfl rfl ?_
      refine g_iload_n 3 (n := 18) ok dX8_find_17 rfl rfl ?_
      refine g_iload_n 1 (n := 19) ok dX8_find_18 rfl rfl ?_
      refine g_iload_n 2 (n := 20) ok dX8_find_19 rfl rfl ?_
      refine g_callVi (n := 23) (As := [.int x3, .int x1, .int x2]) (rest := [.ref (v.1 1), .int x3, .ref (v.1 14)]) (c := 0) ok (c_X8_cellOf l v x3 x1 x2 S _ h) cal_X8_cellOf tw_1005 tw_1007 tp_82 (Nat.le_of_ble_eq_true rfl) rfl rfl (by decide) (by decide) rfl (Nat.le_of_ble_eq_true rfl) dX8_find_20 rfl rfl (fun r3 S3 h => ?_)
      obtain ⟨h0, h⟩ := h
      refine g_iald (c := 1) (t0 := 0) (n := 24) ok (Nat.le_of_ble_eq_true rfl) rfl rfl h0 dX8_find_23 rfl ?_
      refine g_aload_n 0 (n := 25) ok dX8_find_24 rfl rfl ?_
      refine g_iload_n 3 (n := 26) ok dX8_find_25 rfl rfl ?_
      refine g_aload_n 0 (n := 27) ok dX8_find_26 rfl rfl ?_
      refine fg_X8_X8_load (n := 30) ok dX8_find_27 rfl ?_
      refine g_callVi (n := 33) (As := [.int x3, .int (S3 0 7)]) (rest := [.int (S3 1 r3.toNatClampNeg), .int x3, .ref (v.1 14)]) (c := 0) ok (c_X8_tallOf l v x3 (S3 0 7) S3 _ h) cal_X8_tallOf tw_1012 tw_1014 tp_83 (Nat.le_of_ble_eq_true rfl) rfl rfl (by decide) (by decide) rfl (Nat.le_of_ble_eq_true rfl) dX8_find_30 rfl rfl (fun r4 S4 h => ?_)
      refine g_iadd (n := 34) ok dX8_find_33 rfl ?_
      obtain ⟨h0, h⟩ := h
      refine g_iast (c := 14) (t0 := 0) (n := 35) ok (Nat.le_of_ble_eq_true rfl) (fun _ => rfl) rfl h0 dX8_find_34 rfl ?_
      refine g_mem (fun S5 eS5 => ?_)
      replace h := h S5 eS5
      obtain ⟨z6, ez6⟩ : ∃ y : Int32, y = x3 + 1 := ⟨_, rfl⟩
      replace h := h z6 ez6
      refine g_iinc 3 [(3, .int z6), (0, .ref (v.1 0)), (1, .int x1), (2, .int x2)] (v := z6) (n := 38) ok dX8_find_35 rfl rfl (by rw [ez6]; rfl) (by decide) rfl ?_
      refine g_goto (t := 2) ok dX8_find_38 (by decide) ?_
      exact g_sub [1, 2, 3, 0] rfl (ih x1 x2 z6 S5 h)
def w_X8_find (p1 : Int32) (p2 : Int32) (S : Mem) (post : Mem → Prop) : Prop := ∃ n, w_X8_find_2 post n p1 p2 (0 : Int32) S
set_option maxHeartbeats 4000000 in
set_option maxRecDepth 20000 in
theorem c_X8_find (l : Launch) (v : VmT) (p1 : Int32) (p2 : Int32) (S : Mem) (post : Mem → Prop) (h : w_X8_find p1 p2 S post) : MV l yX8_find cX8_find 5 none 3 (oM v) [.ref (v.1 0), .int p1, .int p2] S post := by
  refine met_start (by decide +kernel) (Nat.le_of_ble_eq_true rfl) (fun g ok he => ?_)
  refine g_eq (L' := [(0, .ref (v.1 0)), (1, .int p1), (2, .int p2)]) (st' := []) ?_ rfl rfl
  unfold w_X8_find at h
  refine g_iconst (v := 0) (n := 1) ok dX8_find_0 rfl (by decide) ?_
  refine g_istore_n [(3, .int (0 : Int32)), (0, .ref (v.1 0)), (1, .int p1), (2, .int p2)] (n := 2) ok dX8_find_1 rfl (by decide) rfl ?_
  obtain ⟨n0, h⟩ := h
  exact g_sub [1, 2, 3, 0] rfl (b_X8_find_2 ok he n0 p1 p2 (0 : Int32) S h)
def w_X8_findNow (S : Mem) (post : Mem → Prop) : Prop := w_X8_find (S 0 4) (S 0 6) S (fun S1 => post S1)
set_option maxHeartbeats 4000000 in
set_option maxRecDepth 20000 in
theorem c_X8_findNow (l : Launch) (v : VmT) (S : Mem) (post : Mem → Prop) (h : w_X8_findNow  S post) : MV l yX8_findNow cX8_findNow 1 none 4 (oM v) [.ref (v.1 0)] S post := by
  refine met_start (by decide +kernel) (Nat.le_of_ble_eq_true rfl) (fun g ok he => ?_)
  refine g_eq (L' := [(0, .ref (v.1 0))]) (st' := []) ?_ rfl rfl
  unfold w_X8_findNow at h
  refine g_aload_n 0 (n := 1) ok dX8_findNow_0 rfl rfl ?_
  refine g_aload_n 0 (n := 2) ok dX8_findNow_1 rfl rfl ?_
  refine fg_X8_X8_place (n := 5) ok dX8_findNow_2 rfl ?_
  refine g_aload_n 0 (n := 6) ok dX8_findNow_5 rfl rfl ?_
  refine fg_X8_X8_turned (n := 9) ok dX8_findNow_6 rfl ?_
  refine g_callVv (n := 12) (As := [.int (S 0 4), .int (S 0 6)]) (rest := []) (c := 0) ok (c_X8_find l v (S 0 4) (S 0 6) S _ h) cal_X8_find tw_1001 tw_1003 tp_81 (Nat.le_of_ble_eq_true rfl) rfl rfl (by decide) (by decide) rfl (Nat.le_of_ble_eq_true rfl) dX8_findNow_9 rfl rfl (fun S1 h => ?_)
  exact g_vret ok he h dX8_findNow_12
def w_X8_foundOf_76 (post : Int32 → Mem → Prop) (y0 : Int32) (S : Mem) : Prop := post y0 S
set_option maxHeartbeats 4000000 in
set_option maxRecDepth 20000 in
theorem b_X8_foundOf_76 {v : VmT} {l : Launch} {g : CxT} (ok : Ok l g (oM v) 2 cX8_foundOf RX8 (some .int)) {post : Int32 → Mem → Prop} (he : EndQ g (oM v) (va_Qi post (fun S1 t => BX (oM v) S1 t) (AX (oM v)))) (y0 : Int32) (S : Mem) (h : w_X8_foundOf_76 post y0 S) : G g (oM v) 3 2 76 [] [.int y0] S := by
  unfold w_X8_foundOf_76 at h
  exact g_iret ok he h dX8_foundOf_76
def w_X8_foundOf (p1 : Int32) (S : Mem) (post : Int32 → Mem → Prop) : Prop := ((p1 = 0 → post (S 0 31) S) ∧ (¬ p1 = 0 → ((p1 = 1 → post (S 0 33) S) ∧ (¬ p1 = 1 → ((p1 = 2 → post (S 0 34) S) ∧ (¬ p1 = 2 → ((p1 = 3 → ((¬ (S 0 31) = 0 → ((¬ (S 0 36) = (1 : Int32) → w_X8_foundOf_76 post (5 : Int32) S) ∧ ((S 0 36) = (1 : Int32) → w_X8_foundOf_76 post (10 : Int32) S))) ∧ ((S 0 31) = 0 → w_X8_foundOf_76 post (0 : Int32) S))) ∧ (¬ p1 = 3 → ((p1 = 4 → w_X8_says (1 : Int32) S (fun r8 S8 => w_X8_held r8 (-999 : Int32) (999 : Int32) S8 (fun r9 S9 => post r9 S9))) ∧ (¬ p1 = 4 → w_X8_says (2 : Int32) S (fun r10 S10 => w_X8_held r10 (0 : Int32) (99 : Int32) S10 (fun r11 S11 => post r11 S11))))))))))))
set_option maxHeartbeats 4000000 in
set_option maxRecDepth 20000 in
theorem c_X8_foundOf (l : Launch) (v : VmT) (p1 : Int32) (S : Mem) (post : Int32 → Mem → Prop) (h : w_X8_foundOf p1 S post) : MI l yX8_foundOf cX8_foundOf 2 (some .int) 3 (oM v) [.ref (v.1 0), .int p1] S post := by
  refine met_start (by decide +kernel) (Nat.le_of_ble_eq_true rfl) (fun g ok he => ?_)
  refine g_eq (L' := [(0, .ref (v.1 0)), (1, .int p1)]) (st' := []) ?_ rfl rfl
  unfold w_X8_foundOf at h
  refine g_iload_n 1 (n := 1) ok dX8_foundOf_0 rfl rfl ?_
  by_cases e1 : p1 = 0
  · replace h := h.1 e1
    refine g_tsIn (off := 35) (t := 36) ok dX8_foundOf_1 (by rw [e1]; decide) (by rw [e1]; decide) (by rw [e1]; rfl) (by decide) ?_
    refine g_aload_n 0 (n := 37) ok dX8_foundOf_36 rfl rfl ?_
    refine fg_X8_X8_gap (n := 40) ok dX8_foundOf_37 rfl ?_
    exact g_iret ok he h dX8_foundOf_40
  · replace h := h.2 e1
    by_cases e2 : p1 = 1
    · replace h := h.1 e2
      refine g_tsIn (off := 40) (t := 41) ok dX8_foundOf_1 (by rw [e2]; decide) (by rw [e2]; decide) (by rw [e2]; rfl) (by decide) ?_
      refine g_aload_n 0 (n := 42) ok dX8_foundOf_41 rfl rfl ?_
      refine fg_X8_X8_rock (n := 45) ok dX8_foundOf_42 rfl ?_
      exact g_iret ok he h dX8_foundOf_45
    · replace h := h.2 e2
      by_cases e3 : p1 = 2
      · replace h := h.1 e3
        refine g_tsIn (off := 45) (t := 46) ok dX8_foundOf_1 (by rw [e3]; decide) (by rw [e3]; decide) (by rw [e3]; rfl) (by decide) ?_
        refine g_aload_n 0 (n := 47) ok dX8_foundOf_46 rfl rfl ?_
        refine fg_X8_X8_lean (n := 50) ok dX8_foundOf_47 rfl ?_
        exact g_iret ok he h dX8_foundOf_50
      · replace h := h.2 e3
        by_cases e4 : p1 = 3
        · replace h := h.1 e4
          refine g_tsIn (off := 50) (t := 51) ok dX8_foundOf_1 (by rw [e4]; decide) (by rw [e4]; decide) (by rw [e4]; rfl) (by decide) ?_
          refine g_aload_n 0 (n := 52) ok dX8_foundOf_51 rfl rfl ?_
          refine fg_X8_X8_gap (n := 55) ok dX8_foundOf_52 rfl ?_
          refine g_if_ne (t := 62) (n := 58) ok dX8_foundOf_55 (by decide) rfl (fun e6 => ?_) (fun e6 => ?_)
          · replace h := h.1 e6
            refine g_aload_n 0 (n := 63) ok dX8_foundOf_62 rfl rfl ?_
            refine fg_X8_X8_loose (n := 66) ok dX8_foundOf_63 rfl ?_
            refine g_iconst (v := 1) (n := 67) ok dX8_foundOf_66 rfl (by decide) ?_
            refine g_icmp_ne (t := 75) (n := 70) ok dX8_foundOf_67 (by decide) rfl (fun e5 => ?_) (fun e5 => ?_)
            · replace h := h.1 e5
              refine g_iconst (v := 5) (n := 76) ok dX8_foundOf_75 rfl (by decide) ?_
              exact g_sub [] rfl (b_X8_foundOf_76 ok he (5 : Int32) S h)
            · replace h := h.2 e5
              refine g_bipush (v := 10) (n := 72) ok dX8_foundOf_70 rfl (by decide) ?_
              refine g_goto (t := 76) ok dX8_foundOf_72 (by decide) ?_
              exact g_sub [] rfl (b_X8_foundOf_76 ok he (10 : Int32) S h)
          · replace h := h.2 e6
            refine g_iconst (v := 0) (n := 59) ok dX8_foundOf_58 rfl (by decide) ?_
            refine g_goto (t := 76) ok dX8_foundOf_59 (by decide) ?_
            exact g_sub [] rfl (b_X8_foundOf_76 ok he (0 : Int32) S h)
        · replace h := h.2 e4
          by_cases e7 : p1 = 4
          · replace h := h.1 e7
            refine g_tsIn (off := 76) (t := 77) ok dX8_foundOf_1 (by rw [e7]; decide) (by rw [e7]; decide) (by rw [e7]; rfl) (by decide) ?_
            refine g_aload_n 0 (n := 78) ok dX8_foundOf_77 rfl rfl ?_
            refine g_iconst (v := 1) (n := 79) ok dX8_foundOf_78 rfl (by decide) ?_
            refine g_callVi (n := 82) (As := [.int (1 : Int32)]) (rest := []) (c := 0) ok (c_X8_says l v (1 : Int32) S _ h) cal_X8_says tw_1020 tw_1022 tp_85 (Nat.le_of_ble_eq_true rfl) rfl rfl (by decide) (by decide) rfl (Nat.le_of_ble_eq_true rfl) dX8_foundOf_79 rfl rfl (fun r8 S8 h => ?_)
            refine g_sipush (v := -999) (n := 85) ok dX8_foundOf_82 rfl (by decide) ?_
            refine g_sipush (v := 999) (n := 88) ok dX8_foundOf_85 rfl (by decide) ?_
            refine g_callSi (n := 91) (As := [.int r8, .int (-999 : Int32), .int (999 : Int32)]) (rest := []) ok (c_X8_held l v r8 (-999 : Int32) (999 : Int32) S8 _ h) cal_X8_held tw_1009 tw_1010 (by decide) (by decide) rfl (Nat.le_of_ble_eq_true rfl) dX8_foundOf_88 rfl rfl (fun r9 S9 h => ?_)
            exact g_iret ok he h dX8_foundOf_91
          · replace h := h.2 e7
            refine g_tsOut (t := 92) ok dX8_foundOf_1 (by have q0 := lv_neT (a := 0) e1 rfl; have q1 := lv_neT (a := 1) e2 rfl; have q2 := lv_neT (a := 2) e3 rfl; have q3 := lv_neT (a := 3) e4 rfl; have q4 := lv_neT (a := 4) e7 rfl; omega) (by decide) ?_
            refine g_aload_n 0 (n := 93) ok dX8_foundOf_92 rfl rfl ?_
            refine g_iconst (v := 2) (n := 94) ok dX8_foundOf_93 rfl (by decide) ?_
            refine g_callVi (n := 97) (As := [.int (2 : Int32)]) (rest := []) (c := 0) ok (c_X8_says l v (2 : Int32) S _ h) cal_X8_says tw_1020 tw_1022 tp_85 (Nat.le_of_ble_eq_true rfl) rfl rfl (by decide) (by decide) rfl (Nat.le_of_ble_eq_true rfl) dX8_foundOf_94 rfl rfl (fun r10 S10 h => ?_)
            refine g_iconst (v := 0) (n := 98) ok dX8_foundOf_97 rfl (by decide) ?_
            refine g_bipush (v := 99) (n := 100) ok dX8_foundOf_98 rfl (by decide) ?_
            refine g_callSi (n := 103) (As := [.int r10, .int (0 : Int32), .int (99 : Int32)]) (rest := []) ok (c_X8_held l v r10 (0 : Int32) (99 : Int32) S10 _ h) cal_X8_held tw_1009 tw_1010 (by decide) (by decide) rfl (Nat.le_of_ble_eq_true rfl) dX8_foundOf_100 rfl rfl (fun r11 S11 h => ?_)
            exact g_iret ok he h dX8_foundOf_103
def w_X8_stands (p1 : Int32) (S : Mem) (post : Int32 → Mem → Prop) : Prop := (∀ S1 : Mem, S1 = mset S 0 (upd (S 0) 8 (0 : Int32)) → w_X8_in p1.toInt64 (0 : Int64) (5 : Int64) S1 (fun r2 S2 => ((¬ r2 = 0 → w_X8_findNow  S2 (fun S3 => w_X8_foundOf p1 S3 (fun r4 S4 => post r4 S4))) ∧ (r2 = 0 → post (-100000 : Int32) S2))))
set_option maxHeartbeats 4000000 in
set_option maxRecDepth 20000 in
theorem c_X8_stands (l : Launch) (v : VmT) (p1 : Int32) (S : Mem) (post : Int32 → Mem → Prop) (h : w_X8_stands p1 S post) : MI l yX8_stands cX8_stands 2 (some .int) 5 (oM v) [.ref (v.1 0), .int p1] S post := by
  refine met_start (by decide +kernel) (Nat.le_of_ble_eq_true rfl) (fun g ok he => ?_)
  refine g_eq (L' := [(0, .ref (v.1 0)), (1, .int p1)]) (st' := []) ?_ rfl rfl
  unfold w_X8_stands at h
  refine g_aload_n 0 (n := 1) ok dX8_stands_0 rfl rfl ?_
  refine g_iconst (v := 0) (n := 2) ok dX8_stands_1 rfl (by decide) ?_
  refine fp_X8_X8_thrown (n := 5) ok dX8_stands_2 rfl ?_
  refine g_mem (fun S1 eS1 => ?_)
  replace h := h S1 eS1
  refine g_iload_n 1 (n := 6) ok dX8_stands_5 rfl rfl ?_
  refine g_i2l (n := 7) ok dX8_stands_6 rfl ?_
  refine g_lconst (v := 0) (n := 8) ok dX8_stands_7 rfl (by decide) ?_
  refine g_ldc2 (v := 5) (n := 11) ok dX8_stands_8 rfl tw_995 ?_
  refine g_callSi (n := 14) (As := [.long p1.toInt64, .long (0 : Int64), .long (5 : Int64)]) (rest := []) ok (c_X8_in l v p1.toInt64 (0 : Int64) (5 : Int64) S1 _ h) cal_X8_in tw_771 tw_772 (by decide) (by decide) rfl (Nat.le_of_ble_eq_true rfl) dX8_stands_11 rfl rfl (fun r2 S2 h => ?_)
  refine g_if_ne (t := 20) (n := 17) ok dX8_stands_14 (by decide) rfl (fun e5 => ?_) (fun e5 => ?_)
  · replace h := h.1 e5
    refine g_aload_n 0 (n := 21) ok dX8_stands_20 rfl rfl ?_
    refine g_callVv (n := 24) (As := []) (rest := []) (c := 0) ok (c_X8_findNow l v  S2 _ h) cal_X8_findNow tw_997 tw_999 tp_80 (Nat.le_of_ble_eq_true rfl) rfl rfl (by decide) (by decide) rfl (Nat.le_of_ble_eq_true rfl) dX8_stands_21 rfl rfl (fun S3 h => ?_)
    refine g_aload_n 0 (n := 25) ok dX8_stands_24 rfl rfl ?_
    refine g_iload_n 1 (n := 26) ok dX8_stands_25 rfl rfl ?_
    refine g_callVi (n := 29) (As := [.int p1]) (rest := []) (c := 0) ok (c_X8_foundOf l v p1 S3 _ h) cal_X8_foundOf tw_1031 tw_1033 tp_87 (Nat.le_of_ble_eq_true rfl) rfl rfl (by decide) (by decide) rfl (Nat.le_of_ble_eq_true rfl) dX8_stands_26 rfl rfl (fun r4 S4 h => ?_)
    exact g_iret ok he h dX8_stands_29
  · replace h := h.2 e5
    refine g_ldc (v := -100000) (n := 19) ok dX8_stands_17 rfl tw_996 ?_
    exact g_iret ok he h dX8_stands_19
def w_X8_standsAt_41 (post : Int32 → Mem → Prop) (S : Mem) : Prop := post (-100000 : Int32) S
set_option maxHeartbeats 4000000 in
set_option maxRecDepth 20000 in
theorem b_X8_standsAt_41 {v : VmT} {l : Launch} {g : CxT} (ok : Ok l g (oM v) 4 cX8_standsAt RX8 (some .int)) {post : Int32 → Mem → Prop} (he : EndQ g (oM v) (va_Qi post (fun S1 t => BX (oM v) S1 t) (AX (oM v)))) (S : Mem) (h : w_X8_standsAt_41 post  S) : G g (oM v) 4 4 41 [] [] S := by
  unfold w_X8_standsAt_41 at h
  refine g_ldc (v := -100000) (n := 43) ok dX8_standsAt_41 rfl tw_996 ?_
  exact g_iret ok he h dX8_standsAt_43
def w_X8_standsAt (p1 : Int32) (p2 : Int32) (p3 : Int32) (S : Mem) (post : Int32 → Mem → Prop) : Prop := (∀ S1 : Mem, S1 = mset S 0 (upd (S 0) 8 (0 : Int32)) → w_X8_in p1.toInt64 (0 : Int64) (63 : Int64) S1 (fun r2 S2 => ((r2 = 0 → w_X8_standsAt_41 post  S2) ∧ (¬ r2 = 0 → w_X8_in p2.toInt64 (0 : Int64) (7 : Int64) S2 (fun r3 S3 => ((r3 = 0 → w_X8_standsAt_41 post  S3) ∧ (¬ r3 = 0 → w_X8_in p3.toInt64 (0 : Int64) (5 : Int64) S3 (fun r4 S4 => ((¬ r4 = 0 → w_X8_find p1 p2 S4 (fun S5 => w_X8_foundOf p3 S5 (fun r6 S6 => post r6 S6))) ∧ (r4 = 0 → w_X8_standsAt_41 post  S4))))))))))
set_option maxHeartbeats 4000000 in
set_option maxRecDepth 20000 in
theorem c_X8_standsAt (l : Launch) (v : VmT) (p1 : Int32) (p2 : Int32) (p3 : Int32) (S : Mem) (post : Int32 → Mem → Prop) (h : w_X8_standsAt p1 p2 p3 S post) : MI l yX8_standsAt cX8_standsAt 4 (some .int) 4 (oM v) [.ref (v.1 0), .int p1, .int p2, .int p3] S post := by
  refine met_start (by decide +kernel) (Nat.le_of_ble_eq_true rfl) (fun g ok he => ?_)
  refine g_eq (L' := [(0, .ref (v.1 0)), (1, .int p1), (2, .int p2), (3, .int p3)]) (st' := []) ?_ rfl rfl
  unfold w_X8_standsAt at h
  refine g_aload_n 0 (n := 1) ok dX8_standsAt_0 rfl rfl ?_
  refine g_iconst (v := 0) (n := 2) ok dX8_standsAt_1 rfl (by decide) ?_
  refine fp_X8_X8_thrown (n := 5) ok dX8_standsAt_2 rfl ?_
  refine g_mem (fun S1 eS1 => ?_)
  replace h := h S1 eS1
  refine g_iload_n 1 (n := 6) ok dX8_standsAt_5 rfl rfl ?_
  refine g_i2l (n := 7) ok dX8_standsAt_6 rfl ?_
  refine g_lconst (v := 0) (n := 8) ok dX8_standsAt_7 rfl (by decide) ?_
  refine g_ldc2 (v := 63) (n := 11) ok dX8_standsAt_8 rfl tw_1039 ?_
  refine g_callSi (n := 14) (As := [.long p1.toInt64, .long (0 : Int64), .long (63 : Int64)]) (rest := []) ok (c_X8_in l v p1.toInt64 (0 : Int64) (63 : Int64) S1 _ h) cal_X8_in tw_771 tw_772 (by decide) (by decide) rfl (Nat.le_of_ble_eq_true rfl) dX8_standsAt_11 rfl rfl (fun r2 S2 h => ?_)
  refine g_if_eq (t := 41) (n := 17) ok dX8_standsAt_14 (by decide) rfl (fun e9 => ?_) (fun e9 => ?_)
  · replace h := h.1 e9
    exact g_sub [] rfl (b_X8_standsAt_41 ok he  S2 h)
  · replace h := h.2 e9
    refine g_iload_n 2 (n := 18) ok dX8_standsAt_17 rfl rfl ?_
    refine g_i2l (n := 19) ok dX8_standsAt_18 rfl ?_
    refine g_lconst (v := 0) (n := 20) ok dX8_standsAt_19 rfl (by decide) ?_
    refine g_ldc2 (v := 7) (n := 23) ok dX8_standsAt_20 rfl tw_1040 ?_
    refine g_callSi (n := 26) (As := [.long p2.toInt64, .long (0 : Int64), .long (7 : Int64)]) (rest := []) ok (c_X8_in l v p2.toInt64 (0 : Int64) (7 : Int64) S2 _ h) cal_X8_in tw_771 tw_772 (by decide) (by decide) rfl (Nat.le_of_ble_eq_true rfl) dX8_standsAt_23 rfl rfl (fun r3 S3 h => ?_)
    refine g_if_eq (t := 41) (n := 29) ok dX8_standsAt_26 (by decide) rfl (fun e8 => ?_) (fun e8 => ?_)
    · replace h := h.1 e8
      exact g_sub [] rfl (b_X8_standsAt_41 ok he  S3 h)
    · replace h := h.2 e8
      refine g_iload_n 3 (n := 30) ok dX8_standsAt_29 rfl rfl ?_
      refine g_i2l (n := 31) ok dX8_standsAt_30 rfl ?_
      refine g_lconst (v := 0) (n := 32) ok dX8_standsAt_31 rfl (by decide) ?_
      refine g_ldc2 (v := 5) (n := 35) ok dX8_standsAt_32 rfl tw_995 ?_
      refine g_callSi (n := 38) (As := [.long p3.toInt64, .long (0 : Int64), .long (5 : Int64)]) (rest := []) ok (c_X8_in l v p3.toInt64 (0 : Int64) (5 : Int64) S3 _ h) cal_X8_in tw_771 tw_772 (by decide) (by decide) rfl (Nat.le_of_ble_eq_true rfl) dX8_standsAt_35 rfl rfl (fun r4 S4 h => ?_)
      refine g_if_ne (t := 44) (n := 41) ok dX8_standsAt_38 (by decide) rfl (fun e7 => ?_) (fun e7 => ?_)
      · replace h := h.1 e7
        refine g_aload_n 0 (n := 45) ok dX8_standsAt_44 rfl rfl ?_
        refine g_iload_n 1 (n := 46) ok dX8_standsAt_45 rfl rfl ?_
        refine g_iload_n 2 (n := 47) ok dX8_standsAt_46 rfl rfl ?_
        refine g_callVv (n := 50) (As := [.int p1, .int p2]) (rest := []) (c := 0) ok (c_X8_find l v p1 p2 S4 _ h) cal_X8_find tw_1001 tw_1003 tp_81 (Nat.le_of_ble_eq_true rfl) rfl rfl (by decide) (by decide) rfl (Nat.le_of_ble_eq_true rfl) dX8_standsAt_47 rfl rfl (fun S5 h => ?_)
        refine g_aload_n 0 (n := 51) ok dX8_standsAt_50 rfl rfl ?_
        refine g_iload_n 3 (n := 52) ok dX8_standsAt_51 rfl rfl ?_
        refine g_callVi (n := 55) (As := [.int p3]) (rest := []) (c := 0) ok (c_X8_foundOf l v p3 S5 _ h) cal_X8_foundOf tw_1031 tw_1033 tp_87 (Nat.le_of_ble_eq_true rfl) rfl rfl (by decide) (by decide) rfl (Nat.le_of_ble_eq_true rfl) dX8_standsAt_52 rfl rfl (fun r6 S6 h => ?_)
        exact g_iret ok he h dX8_standsAt_55
      · replace h := h.2 e7
        exact g_sub [] rfl (b_X8_standsAt_41 ok he  S4 h)
def w_X8_isFirmAt_21 (post : Int32 → Mem → Prop) (y0 : Int32) (S : Mem) : Prop := (y0 = 0 ∨ y0 = 1) ∧ post y0 S
set_option maxHeartbeats 4000000 in
set_option maxRecDepth 20000 in
theorem b_X8_isFirmAt_21 {v : VmT} {l : Launch} {g : CxT} (ok : Ok l g (oM v) 3 cX8_isFirmAt RX8 (some .boolean)) {post : Int32 → Mem → Prop} (he : EndQ g (oM v) (va_Qi post (fun S1 t => BX (oM v) S1 t) (AX (oM v)))) (y0 : Int32) (S : Mem) (h : w_X8_isFirmAt_21 post y0 S) : G g (oM v) 4 3 21 [] [.int y0] S := by
  unfold w_X8_isFirmAt_21 at h
  exact g_zret ok he h.1 h.2 dX8_isFirmAt_21
def w_X8_isFirmAt (p1 : Int32) (p2 : Int32) (S : Mem) (post : Int32 → Mem → Prop) : Prop := w_X8_find p1 (jrem p2 (8 : Int32)) S (fun S1 => ((¬ (S1 0 33) = 0 → w_X8_isFirmAt_21 post (0 : Int32) S1) ∧ ((S1 0 33) = 0 → w_X8_isFirmAt_21 post (1 : Int32) S1)))
set_option maxHeartbeats 4000000 in
set_option maxRecDepth 20000 in
theorem c_X8_isFirmAt (l : Launch) (v : VmT) (p1 : Int32) (p2 : Int32) (S : Mem) (post : Int32 → Mem → Prop) (h : w_X8_isFirmAt p1 p2 S post) : MI l yX8_isFirmAt cX8_isFirmAt 3 (some .boolean) 4 (oM v) [.ref (v.1 0), .int p1, .int p2] S post := by
  refine met_start (by decide +kernel) (Nat.le_of_ble_eq_true rfl) (fun g ok he => ?_)
  refine g_eq (L' := [(0, .ref (v.1 0)), (1, .int p1), (2, .int p2)]) (st' := []) ?_ rfl rfl
  unfold w_X8_isFirmAt at h
  refine g_aload_n 0 (n := 1) ok dX8_isFirmAt_0 rfl rfl ?_
  refine g_iload_n 1 (n := 2) ok dX8_isFirmAt_1 rfl rfl ?_
  refine g_iload_n 2 (n := 3) ok dX8_isFirmAt_2 rfl rfl ?_
  refine g_bipush (v := 8) (n := 5) ok dX8_isFirmAt_3 rfl (by decide) ?_
  refine g_irem (n := 6) ok dX8_isFirmAt_5 rfl (by decide) ?_
  refine g_callVv (n := 9) (As := [.int p1, .int (jrem p2 (8 : Int32))]) (rest := []) (c := 0) ok (c_X8_find l v p1 (jrem p2 (8 : Int32)) S _ h) cal_X8_find tw_1001 tw_1003 tp_81 (Nat.le_of_ble_eq_true rfl) rfl rfl (by decide) (by decide) rfl (Nat.le_of_ble_eq_true rfl) dX8_isFirmAt_6 rfl rfl (fun S1 h => ?_)
  refine g_aload_n 0 (n := 10) ok dX8_isFirmAt_9 rfl rfl ?_
  refine fg_X8_X8_rock (n := 13) ok dX8_isFirmAt_10 rfl ?_
  refine g_if_ne (t := 20) (n := 16) ok dX8_isFirmAt_13 (by decide) rfl (fun e2 => ?_) (fun e2 => ?_)
  · replace h := h.1 e2
    refine g_iconst (v := 0) (n := 21) ok dX8_isFirmAt_20 rfl (by decide) ?_
    exact g_sub [] rfl (b_X8_isFirmAt_21 ok he (0 : Int32) S1 h)
  · replace h := h.2 e2
    refine g_iconst (v := 1) (n := 17) ok dX8_isFirmAt_16 rfl (by decide) ?_
    refine g_goto (t := 21) ok dX8_isFirmAt_17 (by decide) ?_
    exact g_sub [] rfl (b_X8_isFirmAt_21 ok he (1 : Int32) S1 h)
def w_X8_firmAt_28 (K4 : Int32 → Int32 → Int32 → Mem → Prop) (post : Int32 → Mem → Prop) (x1 : Int32) (x3 : Int32) (y0 : Int32) (S : Mem) : Prop := (∀ z1 : Int32, z1 = x3 + 1 → K4 x1 y0 z1 S)
set_option maxHeartbeats 4000000 in
set_option maxRecDepth 20000 in
theorem b_X8_firmAt_28 {v : VmT} {l : Launch} {g : CxT} {K4 : Int32 → Int32 → Int32 → Mem → Prop} (ok : Ok l g (oM v) 4 cX8_firmAt RX8 (some .int)) (hK4 : ∀ (x1 : Int32) (x2 : Int32) (x3 : Int32) (S : Mem), K4 x1 x2 x3 S → G g (oM v) 5 4 4 [(0, .ref (v.1 0)), (1, .int x1), (2, .int x2), (3, .int x3)] [] S) {post : Int32 → Mem → Prop} (he : EndQ g (oM v) (va_Qi post (fun S1 t => BX (oM v) S1 t) (AX (oM v)))) (x1 : Int32) (x3 : Int32) (y0 : Int32) (S : Mem) (h : w_X8_firmAt_28 K4 post x1 x3 y0 S) : G g (oM v) 5 4 28 [(0, .ref (v.1 0)), (1, .int x1), (3, .int x3)] [.int y0] S := by
  unfold w_X8_firmAt_28 at h
  refine g_istore_n [(2, .int y0), (0, .ref (v.1 0)), (1, .int x1), (3, .int x3)] (n := 29) ok dX8_firmAt_28 rfl (by decide) rfl ?_
  obtain ⟨z1, ez1⟩ : ∃ y : Int32, y = x3 + 1 := ⟨_, rfl⟩
  replace h := h z1 ez1
  refine g_iinc 3 [(3, .int z1), (2, .int y0), (0, .ref (v.1 0)), (1, .int x1)] (v := z1) (n := 32) ok dX8_firmAt_29 rfl rfl (by rw [ez1]; rfl) (by decide) rfl ?_
  refine g_goto (t := 4) ok dX8_firmAt_32 (by decide) ?_
  exact g_sub [2, 3, 1, 0] rfl (hK4 x1 y0 z1 S h)
def w_X8_firmAt_4 (post : Int32 → Mem → Prop) : Nat → Int32 → Int32 → Int32 → Mem → Prop
  | 0, _, _, _, _ => False
  | n + 1, x1, x2, x3, S => (((8 : Int32) ≤ x3 → post x2 S) ∧ (¬ (8 : Int32) ≤ x3 → w_X8_isFirmAt x1 x3 S (fun r1 S1 => ((r1 = 0 → w_X8_firmAt_28 (w_X8_firmAt_4 post n) post x1 x3 x2 S1) ∧ (¬ r1 = 0 → w_X8_firmAt_28 (w_X8_firmAt_4 post n) post x1 x3 (x2 ||| ((1 : Int32) <<< (x3 &&& 31))) S1)))))
set_option maxHeartbeats 4000000 in
set_option maxRecDepth 20000 in
theorem b_X8_firmAt_4 {v : VmT} {l : Launch} {g : CxT} (ok : Ok l g (oM v) 4 cX8_firmAt RX8 (some .int)) {post : Int32 → Mem → Prop} (he : EndQ g (oM v) (va_Qi post (fun S1 t => BX (oM v) S1 t) (AX (oM v)))) : ∀ (n : Nat) (x1 : Int32) (x2 : Int32) (x3 : Int32) (S : Mem), w_X8_firmAt_4 post n x1 x2 x3 S → G g (oM v) 5 4 4 [(0, .ref (v.1 0)), (1, .int x1), (2, .int x2), (3, .int x3)] [] S := by
  intro n
  induction n with
  | zero =>
    intro x1 x2 x3 S h
    exact h.elim
  | succ n ih =>
    intro x1 x2 x3 S h
    rw [w_X8_firmAt_4] at h
    refine g_iload_n 3 (n := 5) ok dX8_firmAt_4 rfl rfl ?_
    refine g_bipush (v := 8) (n := 7) ok dX8_firmAt_5 rfl (by decide) ?_
    refine g_icmp_ge (t := 35) (n := 10) ok dX8_firmAt_7 (by decide) rfl (fun e3 => ?_) (fun e3 => ?_)
    · replace h := h.1 e3
      refine g_iload_n 2 (n := 36) ok dX8_firmAt_35 rfl rfl ?_
      exact g_iret ok he h dX8_firmAt_36
    · replace h := h.2 e3
      refine g_aload_n 0 (n := 11) ok dX8_firmAt_10 rfl rfl ?_
      refine g_iload_n 1 (n := 12) ok dX8_firmAt_11 rfl rfl ?_
      refine g_iload_n 3 (n := 13) ok dX8_firmAt_12 rfl rfl ?_
      refine g_callVi (n := 16) (As := [.int x1, .int x3]) (rest := []) (c := 0) ok (c_X8_isFirmAt l v x1 x3 S _ h) cal_X8_isFirmAt tw_1049 tw_1051 tp_89 (Nat.le_of_ble_eq_true rfl) rfl rfl (by decide) (by decide) rfl (Nat.le_of_ble_eq_true rfl) dX8_firmAt_13 rfl rfl (fun r1 S1 h => ?_)
      refine g_if_eq (t := 27) (n := 19) ok dX8_firmAt_16 (by decide) rfl (fun e2 => ?_) (fun e2 => ?_)
      · replace h := h.1 e2
        refine g_iload_n 2 (n := 28) ok dX8_firmAt_27 rfl rfl ?_
        exact g_sub [0, 1, 3] rfl (b_X8_firmAt_28 ok ih he x1 x3 x2 S1 h)
      · replace h := h.2 e2
        refine g_iload_n 2 (n := 20) ok dX8_firmAt_19 rfl rfl ?_
        refine g_iconst (v := 1) (n := 21) ok dX8_firmAt_20 rfl (by decide) ?_
        refine g_iload_n 3 (n := 22) ok dX8_firmAt_21 rfl rfl ?_
        refine g_ishl (n := 23) ok dX8_firmAt_22 rfl ?_
        refine g_ior (n := 24) ok dX8_firmAt_23 rfl ?_
        refine g_goto (t := 28) ok dX8_firmAt_24 (by decide) ?_
        exact g_sub [0, 1, 3] rfl (b_X8_firmAt_28 ok ih he x1 x3 (x2 ||| ((1 : Int32) <<< (x3 &&& 31))) S1 h)
def w_X8_firmAt (p1 : Int32) (S : Mem) (post : Int32 → Mem → Prop) : Prop := ∃ n, w_X8_firmAt_4 post n p1 (0 : Int32) (0 : Int32) S
set_option maxHeartbeats 4000000 in
set_option maxRecDepth 20000 in
theorem c_X8_firmAt (l : Launch) (v : VmT) (p1 : Int32) (S : Mem) (post : Int32 → Mem → Prop) (h : w_X8_firmAt p1 S post) : MI l yX8_firmAt cX8_firmAt 4 (some .int) 5 (oM v) [.ref (v.1 0), .int p1] S post := by
  refine met_start (by decide +kernel) (Nat.le_of_ble_eq_true rfl) (fun g ok he => ?_)
  refine g_eq (L' := [(0, .ref (v.1 0)), (1, .int p1)]) (st' := []) ?_ rfl rfl
  unfold w_X8_firmAt at h
  refine g_iconst (v := 0) (n := 1) ok dX8_firmAt_0 rfl (by decide) ?_
  refine g_istore_n [(2, .int (0 : Int32)), (0, .ref (v.1 0)), (1, .int p1)] (n := 2) ok dX8_firmAt_1 rfl (by decide) rfl ?_
  refine g_iconst (v := 0) (n := 3) ok dX8_firmAt_2 rfl (by decide) ?_
  refine g_istore_n [(3, .int (0 : Int32)), (2, .int (0 : Int32)), (0, .ref (v.1 0)), (1, .int p1)] (n := 4) ok dX8_firmAt_3 rfl (by decide) rfl ?_
  obtain ⟨n0, h⟩ := h
  exact g_sub [2, 3, 1, 0] rfl (b_X8_firmAt_4 ok he n0 p1 (0 : Int32) (0 : Int32) S h)
def w_X8_firm (S : Mem) (post : Int32 → Mem → Prop) : Prop := (∀ S1 : Mem, S1 = mset S 0 (upd (S 0) 8 (0 : Int32)) → w_X8_firmAt (S1 0 4) S1 (fun r2 S2 => post r2 S2))
set_option maxHeartbeats 4000000 in
set_option maxRecDepth 20000 in
theorem c_X8_firm (l : Launch) (v : VmT) (S : Mem) (post : Int32 → Mem → Prop) (h : w_X8_firm  S post) : MI l yX8_firm cX8_firm 1 (some .int) 6 (oM v) [.ref (v.1 0)] S post := by
  refine met_start (by decide +kernel) (Nat.le_of_ble_eq_true rfl) (fun g ok he => ?_)
  refine g_eq (L' := [(0, .ref (v.1 0))]) (st' := []) ?_ rfl rfl
  unfold w_X8_firm at h
  refine g_aload_n 0 (n := 1) ok dX8_firm_0 rfl rfl ?_
  refine g_iconst (v := 0) (n := 2) ok dX8_firm_1 rfl (by decide) ?_
  refine fp_X8_X8_thrown (n := 5) ok dX8_firm_2 rfl ?_
  refine g_mem (fun S1 eS1 => ?_)
  replace h := h S1 eS1
  refine g_aload_n 0 (n := 6) ok dX8_firm_5 rfl rfl ?_
  refine g_aload_n 0 (n := 7) ok dX8_firm_6 rfl rfl ?_
  refine fg_X8_X8_place (n := 10) ok dX8_firm_7 rfl ?_
  refine g_callVi (n := 13) (As := [.int (S1 0 4)]) (rest := []) (c := 0) ok (c_X8_firmAt l v (S1 0 4) S1 _ h) cal_X8_firmAt tw_1045 tw_1047 tp_88 (Nat.le_of_ble_eq_true rfl) rfl rfl (by decide) (by decide) rfl (Nat.le_of_ble_eq_true rfl) dX8_firm_10 rfl rfl (fun r2 S2 h => ?_)
  exact g_iret ok he h dX8_firm_13
def w_X8_fewest_79 (post : Int32 → Mem → Prop) (y0 : Int32) (S : Mem) : Prop := post y0 S
set_option maxHeartbeats 4000000 in
set_option maxRecDepth 20000 in
theorem b_X8_fewest_79 {v : VmT} {l : Launch} {g : CxT} (ok : Ok l g (oM v) 6 cX8_fewest RX8 (some .int)) {post : Int32 → Mem → Prop} (he : EndQ g (oM v) (va_Qi post (fun S1 t => BX (oM v) S1 t) (AX (oM v)))) (y0 : Int32) (S : Mem) (h : w_X8_fewest_79 post y0 S) : G g (oM v) 6 6 79 [] [.int y0] S := by
  unfold w_X8_fewest_79 at h
  exact g_iret ok he h dX8_fewest_79
def w_X8_fewest_100 (post : Int32 → Mem → Prop) (y0 : Int32) (S : Mem) : Prop := post y0 S
set_option maxHeartbeats 4000000 in
set_option maxRecDepth 20000 in
theorem b_X8_fewest_100 {v : VmT} {l : Launch} {g : CxT} (ok : Ok l g (oM v) 6 cX8_fewest RX8 (some .int)) {post : Int32 → Mem → Prop} (he : EndQ g (oM v) (va_Qi post (fun S1 t => BX (oM v) S1 t) (AX (oM v)))) (y0 : Int32) (S : Mem) (h : w_X8_fewest_100 post y0 S) : G g (oM v) 6 6 100 [] [.int y0] S := by
  unfold w_X8_fewest_100 at h
  exact g_iret ok he h dX8_fewest_100
def w_X8_fewest_29 (post : Int32 → Mem → Prop) : Nat → Int32 → Int32 → Int32 → Mem → Prop
  | 0, _, _, _, _ => False
  | n + 1, x1, x2, x3, S => (((5 : Int32) ≤ x3 → post (-1 : Int32) S) ∧ (¬ (5 : Int32) ≤ x3 → (∀ z1 : Int32, z1 = jrem ((S 0 6) + x3) (8 : Int32) → (∀ z2 : Int32, z2 = jrem (((S 0 6) + (8 : Int32)) - x3) (8 : Int32) → ((¬ ((x2 >>> (z1 &&& 31)) &&& (1 : Int32)) = (1 : Int32) → ((¬ ((x2 >>> (z2 &&& 31)) &&& (1 : Int32)) = (1 : Int32) → (∀ z3 : Int32, z3 = x3 + 1 → w_X8_fewest_29 post n x1 x2 z3 S)) ∧ (((x2 >>> (z2 &&& 31)) &&& (1 : Int32)) = (1 : Int32) → ((¬ x1 = 0 → w_X8_fewest_100 post z2 S) ∧ (x1 = 0 → w_X8_fewest_100 post x3 S))))) ∧ (((x2 >>> (z1 &&& 31)) &&& (1 : Int32)) = (1 : Int32) → ((¬ x1 = 0 → w_X8_fewest_79 post z1 S) ∧ (x1 = 0 → w_X8_fewest_79 post x3 S))))))))
set_option maxHeartbeats 4000000 in
set_option maxRecDepth 20000 in
theorem b_X8_fewest_29 {v : VmT} {l : Launch} {g : CxT} (ok : Ok l g (oM v) 6 cX8_fewest RX8 (some .int)) {post : Int32 → Mem → Prop} (he : EndQ g (oM v) (va_Qi post (fun S1 t => BX (oM v) S1 t) (AX (oM v)))) : ∀ (n : Nat) (x1 : Int32) (x2 : Int32) (x3 : Int32) (S : Mem), w_X8_fewest_29 post n x1 x2 x3 S → G g (oM v) 6 6 29 [(0, .ref (v.1 0)), (1, .int x1), (2, .int x2), (3, .int x3)] [] S := by
  intro n
  induction n with
  | zero =>
    intro x1 x2 x3 S h
    exact h.elim
  | succ n ih =>
    intro x1 x2 x3 S h
    rw [w_X8_fewest_29] at h
    refine g_iload_n 3 (n := 30) ok dX8_fewest_29 rfl rfl ?_
    refine g_iconst (v := 5) (n := 31) ok dX8_fewest_30 rfl (by decide) ?_
    refine g_icmp_ge (t := 107) (n := 34) ok dX8_fewest_31 (by decide) rfl (fun e8 => ?_) (fun e8 => ?_)
    · replace h := h.1 e8
      refine g_iconst (v := -1) (n := 108) ok dX8_fewest_107 rfl (by decide) ?_
      exact g_iret ok he h dX8_fewest_108
    · replace h := h.2 e8
      refine g_aload_n 0 (n := 35) ok dX8_fewest_34 rfl rfl ?_
      refine fg_X8_X8_turned (n := 38) ok dX8_fewest_35 rfl ?_
      refine g_iload_n 3 (n := 39) ok dX8_fewest_38 rfl rfl ?_
      refine g_iadd (n := 40) ok dX8_fewest_39 rfl ?_
      refine g_bipush (v := 8) (n := 42) ok dX8_fewest_40 rfl (by decide) ?_
      refine g_irem (n := 43) ok dX8_fewest_42 rfl (by decide) ?_
      refine g_topi (fun z1 ez1 => ?_)
      replace h := h z1 ez1
      refine g_istore [(4, .int z1), (0, .ref (v.1 0)), (1, .int x1), (2, .int x2), (3, .int x3)] (n := 45) ok dX8_fewest_43 rfl (by decide) rfl ?_
      refine g_aload_n 1 (n := 46) ok dX8_fewest_45 rfl rfl ?_
      refine fg_X8_X8_turned (n := 49) ok dX8_fewest_46 rfl ?_
      refine g_bipush (v := 8) (n := 51) ok dX8_fewest_49 rfl (by decide) ?_
      refine g_iadd (n := 52) ok dX8_fewest_51 rfl ?_
      refine g_iload_n 4 (n := 53) ok dX8_fewest_52 rfl rfl ?_
      refine g_isub (n := 54) ok dX8_fewest_53 rfl ?_
      refine g_bipush (v := 8) (n := 56) ok dX8_fewest_54 rfl (by decide) ?_
      refine g_irem (n := 57) ok dX8_fewest_56 rfl (by decide) ?_
      refine g_topi (fun z2 ez2 => ?_)
      replace h := h z2 ez2
      refine g_istore [(5, .int z2), (4, .int z1), (0, .ref (v.1 0)), (1, .int x1), (2, .int x2), (3, .int x3)] (n := 59) ok dX8_fewest_57 rfl (by decide) rfl ?_
      refine g_iload_n 4 (n := 60) ok dX8_fewest_59 rfl rfl ?_
      refine g_iload 1 (n := 62) ok dX8_fewest_60 rfl rfl ?_
      refine g_ishr (n := 63) ok dX8_fewest_62 rfl ?_
      refine g_iconst (v := 1) (n := 64) ok dX8_fewest_63 rfl (by decide) ?_
      refine g_iand (n := 65) ok dX8_fewest_64 rfl ?_
      refine g_iconst (v := 1) (n := 66) ok dX8_fewest_65 rfl (by decide) ?_
      refine g_icmp_ne (t := 80) (n := 69) ok dX8_fewest_66 (by decide) rfl (fun e7 => ?_) (fun e7 => ?_)
      · replace h := h.1 e7
        refine g_iload_n 4 (n := 81) ok dX8_fewest_80 rfl rfl ?_
        refine g_iload 0 (n := 83) ok dX8_fewest_81 rfl rfl ?_
        refine g_ishr (n := 84) ok dX8_fewest_83 rfl ?_
        refine g_iconst (v := 1) (n := 85) ok dX8_fewest_84 rfl (by decide) ?_
        refine g_iand (n := 86) ok dX8_fewest_85 rfl ?_
        refine g_iconst (v := 1) (n := 87) ok dX8_fewest_86 rfl (by decide) ?_
        refine g_icmp_ne (t := 101) (n := 90) ok dX8_fewest_87 (by decide) rfl (fun e5 => ?_) (fun e5 => ?_)
        · replace h := h.1 e5
          obtain ⟨z3, ez3⟩ : ∃ y : Int32, y = x3 + 1 := ⟨_, rfl⟩
          replace h := h z3 ez3
          refine g_iinc 5 [(3, .int z3), (5, .int z2), (4, .int z1), (0, .ref (v.1 0)), (1, .int x1), (2, .int x2)] (v := z3) (n := 104) ok dX8_fewest_101 rfl rfl (by rw [ez3]; rfl) (by decide) rfl ?_
          refine g_goto (t := 29) ok dX8_fewest_104 (by decide) ?_
          exact g_sub [3, 4, 5, 0] rfl (ih x1 x2 z3 S h)
        · replace h := h.2 e5
          refine g_iload_n 3 (n := 91) ok dX8_fewest_90 rfl rfl ?_
          refine g_if_ne (t := 98) (n := 94) ok dX8_fewest_91 (by decide) rfl (fun e4 => ?_) (fun e4 => ?_)
          · replace h := h.1 e4
            refine g_iload 0 (n := 100) ok dX8_fewest_98 rfl rfl ?_
            exact g_sub [] rfl (b_X8_fewest_100 ok he z2 S h)
          · replace h := h.2 e4
            refine g_iload_n 5 (n := 95) ok dX8_fewest_94 rfl rfl ?_
            refine g_goto (t := 100) ok dX8_fewest_95 (by decide) ?_
            exact g_sub [] rfl (b_X8_fewest_100 ok he x3 S h)
      · replace h := h.2 e7
        refine g_iload_n 3 (n := 70) ok dX8_fewest_69 rfl rfl ?_
        refine g_if_ne (t := 77) (n := 73) ok dX8_fewest_70 (by decide) rfl (fun e6 => ?_) (fun e6 => ?_)
        · replace h := h.1 e6
          refine g_iload 1 (n := 79) ok dX8_fewest_77 rfl rfl ?_
          exact g_sub [] rfl (b_X8_fewest_79 ok he z1 S h)
        · replace h := h.2 e6
          refine g_iload_n 5 (n := 74) ok dX8_fewest_73 rfl rfl ?_
          refine g_goto (t := 79) ok dX8_fewest_74 (by decide) ?_
          exact g_sub [] rfl (b_X8_fewest_79 ok he x3 S h)
def w_X8_fewest (p1 : Int32) (S : Mem) (post : Int32 → Mem → Prop) : Prop := (∀ S1 : Mem, S1 = mset S 0 (upd (S 0) 8 (0 : Int32)) → w_X8_in p1.toInt64 (0 : Int64) (1 : Int64) S1 (fun r2 S2 => ((¬ r2 = 0 → w_X8_firmAt (S2 0 4) S2 (fun r3 S3 => ∃ n, w_X8_fewest_29 post n p1 r3 (0 : Int32) S3)) ∧ (r2 = 0 → post (-2 : Int32) S2))))
set_option maxHeartbeats 4000000 in
set_option maxRecDepth 20000 in
theorem c_X8_fewest (l : Launch) (v : VmT) (p1 : Int32) (S : Mem) (post : Int32 → Mem → Prop) (h : w_X8_fewest p1 S post) : MI l yX8_fewest cX8_fewest 6 (some .int) 6 (oM v) [.ref (v.1 0), .int p1] S post := by
  refine met_start (by decide +kernel) (Nat.le_of_ble_eq_true rfl) (fun g ok he => ?_)
  refine g_eq (L' := [(0, .ref (v.1 0)), (1, .int p1)]) (st' := []) ?_ rfl rfl
  unfold w_X8_fewest at h
  refine g_aload_n 0 (n := 1) ok dX8_fewest_0 rfl rfl ?_
  refine g_iconst (v := 0) (n := 2) ok dX8_fewest_1 rfl (by decide) ?_
  refine fp_X8_X8_thrown (n := 5) ok dX8_fewest_2 rfl ?_
  refine g_mem (fun S1 eS1 => ?_)
  replace h := h S1 eS1
  refine g_iload_n 1 (n := 6) ok dX8_fewest_5 rfl rfl ?_
  refine g_i2l (n := 7) ok dX8_fewest_6 rfl ?_
  refine g_lconst (v := 0) (n := 8) ok dX8_fewest_7 rfl (by decide) ?_
  refine g_lconst (v := 1) (n := 9) ok dX8_fewest_8 rfl (by decide) ?_
  refine g_callSi (n := 12) (As := [.long p1.toInt64, .long (0 : Int64), .long (1 : Int64)]) (rest := []) ok (c_X8_in l v p1.toInt64 (0 : Int64) (1 : Int64) S1 _ h) cal_X8_in tw_771 tw_772 (by decide) (by decide) rfl (Nat.le_of_ble_eq_true rfl) dX8_fewest_9 rfl rfl (fun r2 S2 h => ?_)
  refine g_if_ne (t := 18) (n := 15) ok dX8_fewest_12 (by decide) rfl (fun e4 => ?_) (fun e4 => ?_)
  · replace h := h.1 e4
    refine g_aload_n 0 (n := 19) ok dX8_fewest_18 rfl rfl ?_
    refine g_aload_n 0 (n := 20) ok dX8_fewest_19 rfl rfl ?_
    refine fg_X8_X8_place (n := 23) ok dX8_fewest_20 rfl ?_
    refine g_callVi (n := 26) (As := [.int (S2 0 4)]) (rest := []) (c := 0) ok (c_X8_firmAt l v (S2 0 4) S2 _ h) cal_X8_firmAt tw_1045 tw_1047 tp_88 (Nat.le_of_ble_eq_true rfl) rfl rfl (by decide) (by decide) rfl (Nat.le_of_ble_eq_true rfl) dX8_fewest_23 rfl rfl (fun r3 S3 h => ?_)
    refine g_istore_n [(2, .int r3), (0, .ref (v.1 0)), (1, .int p1)] (n := 27) ok dX8_fewest_26 rfl (by decide) rfl ?_
    refine g_iconst (v := 0) (n := 28) ok dX8_fewest_27 rfl (by decide) ?_
    refine g_istore_n [(3, .int (0 : Int32)), (2, .int r3), (0, .ref (v.1 0)), (1, .int p1)] (n := 29) ok dX8_fewest_28 rfl (by decide) rfl ?_
    obtain ⟨n0, h⟩ := h
    exact g_sub [2, 3, 1, 0] rfl (b_X8_fewest_29 ok he n0 p1 r3 (0 : Int32) S3 h)
  · replace h := h.2 e4
    refine g_bipush (v := -2) (n := 17) ok dX8_fewest_15 rfl (by decide) ?_
    exact g_iret ok he h dX8_fewest_17
def w_X8_knock_32 (post : Int32 → Mem → Prop) (y0 : Int32) (S : Mem) : Prop := post y0 S
set_option maxHeartbeats 4000000 in
set_option maxRecDepth 20000 in
theorem b_X8_knock_32 {v : VmT} {l : Launch} {g : CxT} (ok : Ok l g (oM v) 3 cX8_knock RX8 (some .int)) {post : Int32 → Mem → Prop} (he : EndQ g (oM v) (va_Qi post (fun S1 t => BX (oM v) S1 t) (AX (oM v)))) (y0 : Int32) (S : Mem) (h : w_X8_knock_32 post y0 S) : G g (oM v) 4 3 32 [] [.int y0] S := by
  unfold w_X8_knock_32 at h
  exact g_iret ok he h dX8_knock_32
def w_X8_knock (p1 : Int32) (p2 : Int32) (S : Mem) (post : Int32 → Mem → Prop) : Prop := w_X8_find p1 (jrem p2 (8 : Int32)) S (fun S1 => ((¬ (S1 0 33) = 0 → (((S1 0 31) ≤ 0 → w_X8_knock_32 post (2 : Int32) S1) ∧ (¬ (S1 0 31) ≤ 0 → w_X8_knock_32 post (1 : Int32) S1))) ∧ ((S1 0 33) = 0 → w_X8_knock_32 post (0 : Int32) S1)))
set_option maxHeartbeats 4000000 in
set_option maxRecDepth 20000 in
theorem c_X8_knock (l : Launch) (v : VmT) (p1 : Int32) (p2 : Int32) (S : Mem) (post : Int32 → Mem → Prop) (h : w_X8_knock p1 p2 S post) : MI l yX8_knock cX8_knock 3 (some .int) 4 (oM v) [.ref (v.1 0), .int p1, .int p2] S post := by
  refine met_start (by decide +kernel) (Nat.le_of_ble_eq_true rfl) (fun g ok he => ?_)
  refine g_eq (L' := [(0, .ref (v.1 0)), (1, .int p1), (2, .int p2)]) (st' := []) ?_ rfl rfl
  unfold w_X8_knock at h
  refine g_aload_n 0 (n := 1) ok dX8_knock_0 rfl rfl ?_
  refine g_iload_n 1 (n := 2) ok dX8_knock_1 rfl rfl ?_
  refine g_iload_n 2 (n := 3) ok dX8_knock_2 rfl rfl ?_
  refine g_bipush (v := 8) (n := 5) ok dX8_knock_3 rfl (by decide) ?_
  refine g_irem (n := 6) ok dX8_knock_5 rfl (by decide) ?_
  refine g_callVv (n := 9) (As := [.int p1, .int (jrem p2 (8 : Int32))]) (rest := []) (c := 0) ok (c_X8_find l v p1 (jrem p2 (8 : Int32)) S _ h) cal_X8_find tw_1001 tw_1003 tp_81 (Nat.le_of_ble_eq_true rfl) rfl rfl (by decide) (by decide) rfl (Nat.le_of_ble_eq_true rfl) dX8_knock_6 rfl rfl (fun S1 h => ?_)
  refine g_aload_n 0 (n := 10) ok dX8_knock_9 rfl rfl ?_
  refine fg_X8_X8_rock (n := 13) ok dX8_knock_10 rfl ?_
  refine g_if_ne (t := 20) (n := 16) ok dX8_knock_13 (by decide) rfl (fun e3 => ?_) (fun e3 => ?_)
  · replace h := h.1 e3
    refine g_aload_n 0 (n := 21) ok dX8_knock_20 rfl rfl ?_
    refine fg_X8_X8_gap (n := 24) ok dX8_knock_21 rfl ?_
    refine g_if_le (t := 31) (n := 27) ok dX8_knock_24 (by decide) rfl (fun e2 => ?_) (fun e2 => ?_)
    · replace h := h.1 e2
      refine g_iconst (v := 2) (n := 32) ok dX8_knock_31 rfl (by decide) ?_
      exact g_sub [] rfl (b_X8_knock_32 ok he (2 : Int32) S1 h)
    · replace h := h.2 e2
      refine g_iconst (v := 1) (n := 28) ok dX8_knock_27 rfl (by decide) ?_
      refine g_goto (t := 32) ok dX8_knock_28 (by decide) ?_
      exact g_sub [] rfl (b_X8_knock_32 ok he (1 : Int32) S1 h)
  · replace h := h.2 e3
    refine g_iconst (v := 0) (n := 17) ok dX8_knock_16 rfl (by decide) ?_
    refine g_goto (t := 32) ok dX8_knock_17 (by decide) ?_
    exact g_sub [] rfl (b_X8_knock_32 ok he (0 : Int32) S1 h)
def w_X8_feels_93 (post : Int32 → Mem → Prop) (y0 : Int32) (S : Mem) : Prop := post y0 S
set_option maxHeartbeats 4000000 in
set_option maxRecDepth 20000 in
theorem b_X8_feels_93 {v : VmT} {l : Launch} {g : CxT} (ok : Ok l g (oM v) 5 cX8_feels RX8 (some .int)) {post : Int32 → Mem → Prop} (he : EndQ g (oM v) (va_Qi post (fun S1 t => BX (oM v) S1 t) (AX (oM v)))) (y0 : Int32) (S : Mem) (h : w_X8_feels_93 post y0 S) : G g (oM v) 5 5 93 [] [.int y0] S := by
  unfold w_X8_feels_93 at h
  exact g_iret ok he h dX8_feels_93
def w_X8_feels_75 (post : Int32 → Mem → Prop) (x1 : Int32) (x3 : Int32) (x4 : Int32) (S : Mem) : Prop := ((¬ x1 = 0 → ((¬ x4 = 0 → w_X8_feels_93 post (0 : Int32) S) ∧ (x4 = 0 → w_X8_feels_93 post (1 : Int32) S))) ∧ (x1 = 0 → w_X8_feels_93 post x3 S))
set_option maxHeartbeats 4000000 in
set_option maxRecDepth 20000 in
theorem b_X8_feels_75 {v : VmT} {l : Launch} {g : CxT} (ok : Ok l g (oM v) 5 cX8_feels RX8 (some .int)) {post : Int32 → Mem → Prop} (he : EndQ g (oM v) (va_Qi post (fun S1 t => BX (oM v) S1 t) (AX (oM v)))) (x1 : Int32) (x3 : Int32) (x4 : Int32) (S : Mem) (h : w_X8_feels_75 post x1 x3 x4 S) : G g (oM v) 5 5 75 [(1, .int x1), (3, .int x3), (4, .int x4)] [] S := by
  unfold w_X8_feels_75 at h
  refine g_iload_n 0 (n := 76) ok dX8_feels_75 rfl rfl ?_
  refine g_if_ne (t := 83) (n := 79) ok dX8_feels_76 (by decide) rfl (fun e2 => ?_) (fun e2 => ?_)
  · replace h := h.1 e2
    refine g_iload 2 (n := 85) ok dX8_feels_83 rfl rfl ?_
    refine g_if_ne (t := 92) (n := 88) ok dX8_feels_85 (by decide) rfl (fun e1 => ?_) (fun e1 => ?_)
    · replace h := h.1 e1
      refine g_iconst (v := 0) (n := 93) ok dX8_feels_92 rfl (by decide) ?_
      exact g_sub [] rfl (b_X8_feels_93 ok he (0 : Int32) S h)
    · replace h := h.2 e1
      refine g_iconst (v := 1) (n := 89) ok dX8_feels_88 rfl (by decide) ?_
      refine g_goto (t := 93) ok dX8_feels_89 (by decide) ?_
      exact g_sub [] rfl (b_X8_feels_93 ok he (1 : Int32) S h)
  · replace h := h.2 e2
    refine g_iload_n 1 (n := 80) ok dX8_feels_79 rfl rfl ?_
    refine g_goto (t := 93) ok dX8_feels_80 (by decide) ?_
    exact g_sub [] rfl (b_X8_feels_93 ok he x3 S h)
def w_X8_feels_36 (post : Int32 → Mem → Prop) : Nat → Int32 → Int32 → Int32 → Int32 → Mem → Prop
  | 0, _, _, _, _, _ => False
  | n + 1, x1, x2, x3, x4, S => ((x4 = 0 → w_X8_feels_75 post x1 x3 x4 S) ∧ (¬ x4 = 0 → ((¬ x4 = x2 → w_X8_feels_75 post x1 x3 x4 S) ∧ (x4 = x2 → (((8 : Int32) ≤ x3 → w_X8_feels_75 post x1 x3 x4 S) ∧ (¬ (8 : Int32) ≤ x3 → (∀ z1 : Int32, z1 = x3 + 1 → w_X8_knock (S 0 4) ((S 0 6) + z1) S (fun r2 S2 => w_X8_feels_36 post n x1 x2 z1 r2 S2))))))))
set_option maxHeartbeats 4000000 in
set_option maxRecDepth 20000 in
theorem b_X8_feels_36 {v : VmT} {l : Launch} {g : CxT} (ok : Ok l g (oM v) 5 cX8_feels RX8 (some .int)) {post : Int32 → Mem → Prop} (he : EndQ g (oM v) (va_Qi post (fun S1 t => BX (oM v) S1 t) (AX (oM v)))) : ∀ (n : Nat) (x1 : Int32) (x2 : Int32) (x3 : Int32) (x4 : Int32) (S : Mem), w_X8_feels_36 post n x1 x2 x3 x4 S → G g (oM v) 5 5 36 [(0, .ref (v.1 0)), (1, .int x1), (2, .int x2), (3, .int x3), (4, .int x4)] [] S := by
  intro n
  induction n with
  | zero =>
    intro x1 x2 x3 x4 S h
    exact h.elim
  | succ n ih =>
    intro x1 x2 x3 x4 S h
    rw [w_X8_feels_36] at h
    refine g_iload 4 (n := 38) ok dX8_feels_36 rfl rfl ?_
    refine g_if_eq (t := 75) (n := 41) ok dX8_feels_38 (by decide) rfl (fun e5 => ?_) (fun e5 => ?_)
    · replace h := h.1 e5
      exact g_sub [1, 3, 4] rfl (b_X8_feels_75 ok he x1 x3 x4 S h)
    · replace h := h.2 e5
      refine g_iload 4 (n := 43) ok dX8_feels_41 rfl rfl ?_
      refine g_iload_n 2 (n := 44) ok dX8_feels_43 rfl rfl ?_
      refine g_icmp_ne (t := 75) (n := 47) ok dX8_feels_44 (by decide) rfl (fun e4 => ?_) (fun e4 => ?_)
      · replace h := h.1 e4
        exact g_sub [1, 3, 4] rfl (b_X8_feels_75 ok he x1 x3 x4 S h)
      · replace h := h.2 e4
        refine g_iload_n 3 (n := 48) ok dX8_feels_47 rfl rfl ?_
        refine g_bipush (v := 8) (n := 50) ok dX8_feels_48 rfl (by decide) ?_
        refine g_icmp_ge (t := 75) (n := 53) ok dX8_feels_50 (by decide) rfl (fun e3 => ?_) (fun e3 => ?_)
        · replace h := h.1 e3
          exact g_sub [1, 3, 4] rfl (b_X8_feels_75 ok he x1 x3 x4 S h)
        · replace h := h.2 e3
          obtain ⟨z1, ez1⟩ : ∃ y : Int32, y = x3 + 1 := ⟨_, rfl⟩
          replace h := h z1 ez1
          refine g_iinc 3 [(3, .int z1), (0, .ref (v.1 0)), (1, .int x1), (2, .int x2), (4, .int x4)] (v := z1) (n := 56) ok dX8_feels_53 rfl rfl (by rw [ez1]; rfl) (by decide) rfl ?_
          refine g_aload_n 1 (n := 57) ok dX8_feels_56 rfl rfl ?_
          refine g_aload_n 1 (n := 58) ok dX8_feels_57 rfl rfl ?_
          refine fg_X8_X8_place (n := 61) ok dX8_feels_58 rfl ?_
          refine g_aload_n 1 (n := 62) ok dX8_feels_61 rfl rfl ?_
          refine fg_X8_X8_turned (n := 65) ok dX8_feels_62 rfl ?_
          refine g_iload_n 0 (n := 66) ok dX8_feels_65 rfl rfl ?_
          refine g_iadd (n := 67) ok dX8_feels_66 rfl ?_
          refine g_callVi (n := 70) (As := [.int (S 0 4), .int ((S 0 6) + z1)]) (rest := []) (c := 0) ok (c_X8_knock l v (S 0 4) ((S 0 6) + z1) S _ h) cal_X8_knock tw_1061 tw_1063 tp_90 (Nat.le_of_ble_eq_true rfl) rfl rfl (by decide) (by decide) rfl (Nat.le_of_ble_eq_true rfl) dX8_feels_67 rfl rfl (fun r2 S2 h => ?_)
          refine g_istore [(4, .int r2), (3, .int z1), (0, .ref (v.1 0)), (1, .int x1), (2, .int x2)] (n := 72) ok dX8_feels_70 rfl (by decide) rfl ?_
          refine g_goto (t := 36) ok dX8_feels_72 (by decide) ?_
          exact g_sub [2, 3, 4, 1, 0] rfl (ih x1 x2 z1 r2 S2 h)
def w_X8_feels (p1 : Int32) (S : Mem) (post : Int32 → Mem → Prop) : Prop := (∀ S1 : Mem, S1 = mset S 0 (upd (S 0) 8 (0 : Int32)) → w_X8_in p1.toInt64 (0 : Int64) (1 : Int64) S1 (fun r2 S2 => ((¬ r2 = 0 → w_X8_knock (S2 0 4) (S2 0 6) S2 (fun r3 S3 => ∃ n, w_X8_feels_36 post n p1 r3 (0 : Int32) r3 S3)) ∧ (r2 = 0 → post (-2 : Int32) S2))))
set_option maxHeartbeats 4000000 in
set_option maxRecDepth 20000 in
theorem c_X8_feels (l : Launch) (v : VmT) (p1 : Int32) (S : Mem) (post : Int32 → Mem → Prop) (h : w_X8_feels p1 S post) : MI l yX8_feels cX8_feels 5 (some .int) 5 (oM v) [.ref (v.1 0), .int p1] S post := by
  refine met_start (by decide +kernel) (Nat.le_of_ble_eq_true rfl) (fun g ok he => ?_)
  refine g_eq (L' := [(0, .ref (v.1 0)), (1, .int p1)]) (st' := []) ?_ rfl rfl
  unfold w_X8_feels at h
  refine g_aload_n 0 (n := 1) ok dX8_feels_0 rfl rfl ?_
  refine g_iconst (v := 0) (n := 2) ok dX8_feels_1 rfl (by decide) ?_
  refine fp_X8_X8_thrown (n := 5) ok dX8_feels_2 rfl ?_
  refine g_mem (fun S1 eS1 => ?_)
  replace h := h S1 eS1
  refine g_iload_n 1 (n := 6) ok dX8_feels_5 rfl rfl ?_
  refine g_i2l (n := 7) ok dX8_feels_6 rfl ?_
  refine g_lconst (v := 0) (n := 8) ok dX8_feels_7 rfl (by decide) ?_
  refine g_lconst (v := 1) (n := 9) ok dX8_feels_8 rfl (by decide) ?_
  refine g_callSi (n := 12) (As := [.long p1.toInt64, .long (0 : Int64), .long (1 : Int64)]) (rest := []) ok (c_X8_in l v p1.toInt64 (0 : Int64) (1 : Int64) S1 _ h) cal_X8_in tw_771 tw_772 (by decide) (by decide) rfl (Nat.le_of_ble_eq_true rfl) dX8_feels_9 rfl rfl (fun r2 S2 h => ?_)
  refine g_if_ne (t := 18) (n := 15) ok dX8_feels_12 (by decide) rfl (fun e4 => ?_) (fun e4 => ?_)
  · replace h := h.1 e4
    refine g_aload_n 0 (n := 19) ok dX8_feels_18 rfl rfl ?_
    refine g_aload_n 0 (n := 20) ok dX8_feels_19 rfl rfl ?_
    refine fg_X8_X8_place (n := 23) ok dX8_feels_20 rfl ?_
    refine g_aload_n 0 (n := 24) ok dX8_feels_23 rfl rfl ?_
    refine fg_X8_X8_turned (n := 27) ok dX8_feels_24 rfl ?_
    refine g_callVi (n := 30) (As := [.int (S2 0 4), .int (S2 0 6)]) (rest := []) (c := 0) ok (c_X8_knock l v (S2 0 4) (S2 0 6) S2 _ h) cal_X8_knock tw_1061 tw_1063 tp_90 (Nat.le_of_ble_eq_true rfl) rfl rfl (by decide) (by decide) rfl (Nat.le_of_ble_eq_true rfl) dX8_feels_27 rfl rfl (fun r3 S3 h => ?_)
    refine g_istore_n [(2, .int r3), (0, .ref (v.1 0)), (1, .int p1)] (n := 31) ok dX8_feels_30 rfl (by decide) rfl ?_
    refine g_iconst (v := 0) (n := 32) ok dX8_feels_31 rfl (by decide) ?_
    refine g_istore_n [(3, .int (0 : Int32)), (2, .int r3), (0, .ref (v.1 0)), (1, .int p1)] (n := 33) ok dX8_feels_32 rfl (by decide) rfl ?_
    refine g_iload_n 1 (n := 34) ok dX8_feels_33 rfl rfl ?_
    refine g_istore [(4, .int r3), (3, .int (0 : Int32)), (2, .int r3), (0, .ref (v.1 0)), (1, .int p1)] (n := 36) ok dX8_feels_34 rfl (by decide) rfl ?_
    obtain ⟨n0, h⟩ := h
    exact g_sub [3, 4, 2, 1, 0] rfl (b_X8_feels_36 ok he n0 p1 r3 (0 : Int32) r3 S3 h)
  · replace h := h.2 e4
    refine g_bipush (v := -2) (n := 17) ok dX8_feels_15 rfl (by decide) ?_
    exact g_iret ok he h dX8_feels_17
def w_X8_best_83 (K29 : Int32 → Int32 → Int32 → Int32 → Mem → Prop) (post : Int32 → Mem → Prop) (x1 : Int32) (x2 : Int32) (x4 : Int32) (y0 : Int32) (S : Mem) : Prop := (∀ z1 : Int32, z1 = x4 + 1 → K29 x1 x2 y0 z1 S)
set_option maxHeartbeats 4000000 in
set_option maxRecDepth 20000 in
theorem b_X8_best_83 {v : VmT} {l : Launch} {g : CxT} {K29 : Int32 → Int32 → Int32 → Int32 → Mem → Prop} (ok : Ok l g (oM v) 6 cX8_best RX8 (some .int)) (hK29 : ∀ (x1 : Int32) (x2 : Int32) (x3 : Int32) (x4 : Int32) (S : Mem), K29 x1 x2 x3 x4 S → G g (oM v) 4 6 29 [(0, .ref (v.1 0)), (1, .int x1), (2, .int x2), (3, .int x3), (4, .int x4)] [] S) {post : Int32 → Mem → Prop} (he : EndQ g (oM v) (va_Qi post (fun S1 t => BX (oM v) S1 t) (AX (oM v)))) (x1 : Int32) (x2 : Int32) (x4 : Int32) (y0 : Int32) (S : Mem) (h : w_X8_best_83 K29 post x1 x2 x4 y0 S) : G g (oM v) 4 6 83 [(0, .ref (v.1 0)), (1, .int x1), (2, .int x2), (4, .int x4)] [.int y0] S := by
  unfold w_X8_best_83 at h
  refine g_istore_n [(3, .int y0), (0, .ref (v.1 0)), (1, .int x1), (2, .int x2), (4, .int x4)] (n := 84) ok dX8_best_83 rfl (by decide) rfl ?_
  obtain ⟨z1, ez1⟩ : ∃ y : Int32, y = x4 + 1 := ⟨_, rfl⟩
  replace h := h z1 ez1
  refine g_iinc 4 [(4, .int z1), (3, .int y0), (0, .ref (v.1 0)), (1, .int x1), (2, .int x2)] (v := z1) (n := 87) ok dX8_best_84 rfl rfl (by rw [ez1]; rfl) (by decide) rfl ?_
  refine g_goto (t := 29) ok dX8_best_87 (by decide) ?_
  exact g_sub [2, 3, 4, 1, 0] rfl (hK29 x1 x2 y0 z1 S h)
def w_X8_best_70 (K29 : Int32 → Int32 → Int32 → Int32 → Mem → Prop) (post : Int32 → Mem → Prop) (x1 : Int32) (x3 : Int32) (x4 : Int32) (x5 : Int32) (y0 : Int32) (S : Mem) : Prop := ((x5 ≤ x3 → w_X8_best_83 K29 post x1 y0 x4 x3 S) ∧ (¬ x5 ≤ x3 → w_X8_best_83 K29 post x1 y0 x4 x5 S))
set_option maxHeartbeats 4000000 in
set_option maxRecDepth 20000 in
theorem b_X8_best_70 {v : VmT} {l : Launch} {g : CxT} {K29 : Int32 → Int32 → Int32 → Int32 → Mem → Prop} (ok : Ok l g (oM v) 6 cX8_best RX8 (some .int)) (hK29 : ∀ (x1 : Int32) (x2 : Int32) (x3 : Int32) (x4 : Int32) (S : Mem), K29 x1 x2 x3 x4 S → G g (oM v) 4 6 29 [(0, .ref (v.1 0)), (1, .int x1), (2, .int x2), (3, .int x3), (4, .int x4)] [] S) {post : Int32 → Mem → Prop} (he : EndQ g (oM v) (va_Qi post (fun S1 t => BX (oM v) S1 t) (AX (oM v)))) (x1 : Int32) (x3 : Int32) (x4 : Int32) (x5 : Int32) (y0 : Int32) (S : Mem) (h : w_X8_best_70 K29 post x1 x3 x4 x5 y0 S) : G g (oM v) 4 6 70 [(0, .ref (v.1 0)), (1, .int x1), (3, .int x3), (4, .int x4), (5, .int x5)] [.int y0] S := by
  unfold w_X8_best_70 at h
  refine g_istore_n [(2, .int y0), (0, .ref (v.1 0)), (1, .int x1), (3, .int x3), (4, .int x4), (5, .int x5)] (n := 71) ok dX8_best_70 rfl (by decide) rfl ?_
  refine g_iload 5 (n := 73) ok dX8_best_71 rfl rfl ?_
  refine g_iload_n 3 (n := 74) ok dX8_best_73 rfl rfl ?_
  refine g_icmp_le (t := 82) (n := 77) ok dX8_best_74 (by decide) rfl (fun e1 => ?_) (fun e1 => ?_)
  · replace h := h.1 e1
    refine g_iload_n 3 (n := 83) ok dX8_best_82 rfl rfl ?_
    exact g_sub [1, 2, 0, 4] rfl (b_X8_best_83 ok hK29 he x1 y0 x4 x3 S h)
  · replace h := h.2 e1
    refine g_iload 5 (n := 79) ok dX8_best_77 rfl rfl ?_
    refine g_goto (t := 83) ok dX8_best_79 (by decide) ?_
    exact g_sub [1, 2, 0, 4] rfl (b_X8_best_83 ok hK29 he x1 y0 x4 x5 S h)
def w_X8_best_114 (post : Int32 → Mem → Prop) (y0 : Int32) (S : Mem) : Prop := post y0 S
set_option maxHeartbeats 4000000 in
set_option maxRecDepth 20000 in
theorem b_X8_best_114 {v : VmT} {l : Launch} {g : CxT} (ok : Ok l g (oM v) 6 cX8_best RX8 (some .int)) {post : Int32 → Mem → Prop} (he : EndQ g (oM v) (va_Qi post (fun S1 t => BX (oM v) S1 t) (AX (oM v)))) (y0 : Int32) (S : Mem) (h : w_X8_best_114 post y0 S) : G g (oM v) 4 6 114 [] [.int y0] S := by
  unfold w_X8_best_114 at h
  exact g_iret ok he h dX8_best_114
def w_X8_best_29 (post : Int32 → Mem → Prop) : Nat → Int32 → Int32 → Int32 → Int32 → Mem → Prop
  | 0, _, _, _, _, _ => False
  | n + 1, x1, x2, x3, x4, S => (((512 : Int32) ≤ x4 → ((¬ x1 = 0 → ((¬ x1 = (1 : Int32) → w_X8_best_114 post x3 S) ∧ (x1 = (1 : Int32) → w_X8_best_114 post (jrem x2 (8 : Int32)) S))) ∧ (x1 = 0 → w_X8_best_114 post (x2 / (8 : Int32)) S))) ∧ (¬ (512 : Int32) ≤ x4 → w_X8_find (x4 / (8 : Int32)) (jrem x4 (8 : Int32)) S (fun S3 => w_X8_foundOf (4 : Int32) S3 (fun r4 S4 => ((r4 ≤ x3 → w_X8_best_70 (w_X8_best_29 post n) post x1 x3 x4 r4 x2 S4) ∧ (¬ r4 ≤ x3 → w_X8_best_70 (w_X8_best_29 post n) post x1 x3 x4 r4 x4 S4))))))
set_option maxHeartbeats 4000000 in
set_option maxRecDepth 20000 in
theorem b_X8_best_29 {v : VmT} {l : Launch} {g : CxT} (ok : Ok l g (oM v) 6 cX8_best RX8 (some .int)) {post : Int32 → Mem → Prop} (he : EndQ g (oM v) (va_Qi post (fun S1 t => BX (oM v) S1 t) (AX (oM v)))) : ∀ (n : Nat) (x1 : Int32) (x2 : Int32) (x3 : Int32) (x4 : Int32) (S : Mem), w_X8_best_29 post n x1 x2 x3 x4 S → G g (oM v) 4 6 29 [(0, .ref (v.1 0)), (1, .int x1), (2, .int x2), (3, .int x3), (4, .int x4)] [] S := by
  intro n
  induction n with
  | zero =>
    intro x1 x2 x3 x4 S h
    exact h.elim
  | succ n ih =>
    intro x1 x2 x3 x4 S h
    rw [w_X8_best_29] at h
    refine g_iload 4 (n := 31) ok dX8_best_29 rfl rfl ?_
    refine g_sipush (v := 512) (n := 34) ok dX8_best_31 rfl (by decide) ?_
    refine g_icmp_ge (t := 90) (n := 37) ok dX8_best_34 (by decide) rfl (fun e6 => ?_) (fun e6 => ?_)
    · replace h := h.1 e6
      refine g_iload_n 1 (n := 91) ok dX8_best_90 rfl rfl ?_
      refine g_if_ne (t := 101) (n := 94) ok dX8_best_91 (by decide) rfl (fun e2 => ?_) (fun e2 => ?_)
      · replace h := h.1 e2
        refine g_iload_n 1 (n := 102) ok dX8_best_101 rfl rfl ?_
        refine g_iconst (v := 1) (n := 103) ok dX8_best_102 rfl (by decide) ?_
        refine g_icmp_ne (t := 113) (n := 106) ok dX8_best_103 (by decide) rfl (fun e1 => ?_) (fun e1 => ?_)
        · replace h := h.1 e1
          refine g_iload_n 3 (n := 114) ok dX8_best_113 rfl rfl ?_
          exact g_sub [] rfl (b_X8_best_114 ok he x3 S h)
        · replace h := h.2 e1
          refine g_iload_n 2 (n := 107) ok dX8_best_106 rfl rfl ?_
          refine g_bipush (v := 8) (n := 109) ok dX8_best_107 rfl (by decide) ?_
          refine g_irem (n := 110) ok dX8_best_109 rfl (by decide) ?_
          refine g_goto (t := 114) ok dX8_best_110 (by decide) ?_
          exact g_sub [] rfl (b_X8_best_114 ok he (jrem x2 (8 : Int32)) S h)
      · replace h := h.2 e2
        refine g_iload_n 2 (n := 95) ok dX8_best_94 rfl rfl ?_
        refine g_bipush (v := 8) (n := 97) ok dX8_best_95 rfl (by decide) ?_
        refine g_idiv (n := 98) ok dX8_best_97 rfl (by decide) ?_
        refine g_goto (t := 114) ok dX8_best_98 (by decide) ?_
        exact g_sub [] rfl (b_X8_best_114 ok he (x2 / (8 : Int32)) S h)
    · replace h := h.2 e6
      refine g_aload_n 0 (n := 38) ok dX8_best_37 rfl rfl ?_
      refine g_iload 4 (n := 40) ok dX8_best_38 rfl rfl ?_
      refine g_bipush (v := 8) (n := 42) ok dX8_best_40 rfl (by decide) ?_
      refine g_idiv (n := 43) ok dX8_best_42 rfl (by decide) ?_
      refine g_iload 4 (n := 45) ok dX8_best_43 rfl rfl ?_
      refine g_bipush (v := 8) (n := 47) ok dX8_best_45 rfl (by decide) ?_
      refine g_irem (n := 48) ok dX8_best_47 rfl (by decide) ?_
      refine g_callVv (n := 51) (As := [.int (x4 / (8 : Int32)), .int (jrem x4 (8 : Int32))]) (rest := []) (c := 0) ok (c_X8_find l v (x4 / (8 : Int32)) (jrem x4 (8 : Int32)) S _ h) cal_X8_find tw_1001 tw_1003 tp_81 (Nat.le_of_ble_eq_true rfl) rfl rfl (by decide) (by decide) rfl (Nat.le_of_ble_eq_true rfl) dX8_best_48 rfl rfl (fun S3 h => ?_)
      refine g_aload_n 0 (n := 52) ok dX8_best_51 rfl rfl ?_
      refine g_iconst (v := 4) (n := 53) ok dX8_best_52 rfl (by decide) ?_
      refine g_callVi (n := 56) (As := [.int (4 : Int32)]) (rest := []) (c := 0) ok (c_X8_foundOf l v (4 : Int32) S3 _ h) cal_X8_foundOf tw_1031 tw_1033 tp_87 (Nat.le_of_ble_eq_true rfl) rfl rfl (by decide) (by decide) rfl (Nat.le_of_ble_eq_true rfl) dX8_best_53 rfl rfl (fun r4 S4 h => ?_)
      refine g_istore [(5, .int r4), (0, .ref (v.1 0)), (1, .int x1), (2, .int x2), (3, .int x3), (4, .int x4)] (n := 58) ok dX8_best_56 rfl (by decide) rfl ?_
      refine g_iload 0 (n := 60) ok dX8_best_58 rfl rfl ?_
      refine g_iload_n 4 (n := 61) ok dX8_best_60 rfl rfl ?_
      refine g_icmp_le (t := 69) (n := 64) ok dX8_best_61 (by decide) rfl (fun e5 => ?_) (fun e5 => ?_)
      · replace h := h.1 e5
        refine g_iload_n 3 (n := 70) ok dX8_best_69 rfl rfl ?_
        exact g_sub [1, 2, 4, 5, 0] rfl (b_X8_best_70 ok ih he x1 x3 x4 r4 x2 S4 h)
      · replace h := h.2 e5
        refine g_iload 5 (n := 66) ok dX8_best_64 rfl rfl ?_
        refine g_goto (t := 70) ok dX8_best_66 (by decide) ?_
        exact g_sub [1, 2, 4, 5, 0] rfl (b_X8_best_70 ok ih he x1 x3 x4 r4 x4 S4 h)
def w_X8_best (p1 : Int32) (S : Mem) (post : Int32 → Mem → Prop) : Prop := (∀ S1 : Mem, S1 = mset S 0 (upd (S 0) 8 (0 : Int32)) → w_X8_in p1.toInt64 (0 : Int64) (2 : Int64) S1 (fun r2 S2 => ((¬ r2 = 0 → ∃ n, w_X8_best_29 post n p1 (0 : Int32) (-1000 : Int32) (0 : Int32) S2) ∧ (r2 = 0 → post (-100000 : Int32) S2))))
set_option maxHeartbeats 4000000 in
set_option maxRecDepth 20000 in
theorem c_X8_best (l : Launch) (v : VmT) (p1 : Int32) (S : Mem) (post : Int32 → Mem → Prop) (h : w_X8_best p1 S post) : MI l yX8_best cX8_best 6 (some .int) 4 (oM v) [.ref (v.1 0), .int p1] S post := by
  refine met_start (by decide +kernel) (Nat.le_of_ble_eq_true rfl) (fun g ok he => ?_)
  refine g_eq (L' := [(0, .ref (v.1 0)), (1, .int p1)]) (st' := []) ?_ rfl rfl
  unfold w_X8_best at h
  refine g_aload_n 0 (n := 1) ok dX8_best_0 rfl rfl ?_
  refine g_iconst (v := 0) (n := 2) ok dX8_best_1 rfl (by decide) ?_
  refine fp_X8_X8_thrown (n := 5) ok dX8_best_2 rfl ?_
  refine g_mem (fun S1 eS1 => ?_)
  replace h := h S1 eS1
  refine g_iload_n 1 (n := 6) ok dX8_best_5 rfl rfl ?_
  refine g_i2l (n := 7) ok dX8_best_6 rfl ?_
  refine g_lconst (v := 0) (n := 8) ok dX8_best_7 rfl (by decide) ?_
  refine g_ldc2 (v := 2) (n := 11) ok dX8_best_8 rfl tw_1069 ?_
  refine g_callSi (n := 14) (As := [.long p1.toInt64, .long (0 : Int64), .long (2 : Int64)]) (rest := []) ok (c_X8_in l v p1.toInt64 (0 : Int64) (2 : Int64) S1 _ h) cal_X8_in tw_771 tw_772 (by decide) (by decide) rfl (Nat.le_of_ble_eq_true rfl) dX8_best_11 rfl rfl (fun r2 S2 h => ?_)
  refine g_if_ne (t := 20) (n := 17) ok dX8_best_14 (by decide) rfl (fun e3 => ?_) (fun e3 => ?_)
  · replace h := h.1 e3
    refine g_iconst (v := 0) (n := 21) ok dX8_best_20 rfl (by decide) ?_
    refine g_istore_n [(2, .int (0 : Int32)), (0, .ref (v.1 0)), (1, .int p1)] (n := 22) ok dX8_best_21 rfl (by decide) rfl ?_
    refine g_sipush (v := -1000) (n := 25) ok dX8_best_22 rfl (by decide) ?_
    refine g_istore_n [(3, .int (-1000 : Int32)), (2, .int (0 : Int32)), (0, .ref (v.1 0)), (1, .int p1)] (n := 26) ok dX8_best_25 rfl (by decide) rfl ?_
    refine g_iconst (v := 0) (n := 27) ok dX8_best_26 rfl (by decide) ?_
    refine g_istore [(4, .int (0 : Int32)), (3, .int (-1000 : Int32)), (2, .int (0 : Int32)), (0, .ref (v.1 0)), (1, .int p1)] (n := 29) ok dX8_best_27 rfl (by decide) rfl ?_
    obtain ⟨n0, h⟩ := h
    exact g_sub [3, 4, 2, 1, 0] rfl (b_X8_best_29 ok he n0 p1 (0 : Int32) (-1000 : Int32) (0 : Int32) S2 h)
  · replace h := h.2 e3
    refine g_ldc (v := -100000) (n := 19) ok dX8_best_17 rfl tw_996 ?_
    exact g_iret ok he h dX8_best_19
def w_X8_turn (p1 : Int32) (S : Mem) (post : Int32 → Mem → Prop) : Prop := (∀ S1 : Mem, S1 = mset S 0 (upd (S 0) 8 (0 : Int32)) → w_X8_in p1.toInt64 (-7 : Int64) (7 : Int64) S1 (fun r2 S2 => ((¬ r2 = 0 → (∀ S3 : Mem, S3 = mset S2 0 (upd (S2 0) 6 (jrem (((S2 0 6) + p1) + (8 : Int32)) (8 : Int32))) → w_X8_findNow  S3 (fun S4 => post (S4 0 33) S4))) ∧ (r2 = 0 → post (-2 : Int32) S2))))
set_option maxHeartbeats 4000000 in
set_option maxRecDepth 20000 in
theorem c_X8_turn (l : Launch) (v : VmT) (p1 : Int32) (S : Mem) (post : Int32 → Mem → Prop) (h : w_X8_turn p1 S post) : MI l yX8_turn cX8_turn 2 (some .int) 5 (oM v) [.ref (v.1 0), .int p1] S post := by
  refine met_start (by decide +kernel) (Nat.le_of_ble_eq_true rfl) (fun g ok he => ?_)
  refine g_eq (L' := [(0, .ref (v.1 0)), (1, .int p1)]) (st' := []) ?_ rfl rfl
  unfold w_X8_turn at h
  refine g_aload_n 0 (n := 1) ok dX8_turn_0 rfl rfl ?_
  refine g_iconst (v := 0) (n := 2) ok dX8_turn_1 rfl (by decide) ?_
  refine fp_X8_X8_thrown (n := 5) ok dX8_turn_2 rfl ?_
  refine g_mem (fun S1 eS1 => ?_)
  replace h := h S1 eS1
  refine g_iload_n 1 (n := 6) ok dX8_turn_5 rfl rfl ?_
  refine g_i2l (n := 7) ok dX8_turn_6 rfl ?_
  refine g_ldc2 (v := -7) (n := 10) ok dX8_turn_7 rfl tw_1074 ?_
  refine g_ldc2 (v := 7) (n := 13) ok dX8_turn_10 rfl tw_1040 ?_
  refine g_callSi (n := 16) (As := [.long p1.toInt64, .long (-7 : Int64), .long (7 : Int64)]) (rest := []) ok (c_X8_in l v p1.toInt64 (-7 : Int64) (7 : Int64) S1 _ h) cal_X8_in tw_771 tw_772 (by decide) (by decide) rfl (Nat.le_of_ble_eq_true rfl) dX8_turn_13 rfl rfl (fun r2 S2 h => ?_)
  refine g_if_ne (t := 22) (n := 19) ok dX8_turn_16 (by decide) rfl (fun e5 => ?_) (fun e5 => ?_)
  · replace h := h.1 e5
    refine g_aload_n 0 (n := 23) ok dX8_turn_22 rfl rfl ?_
    refine g_aload_n 0 (n := 24) ok dX8_turn_23 rfl rfl ?_
    refine fg_X8_X8_turned (n := 27) ok dX8_turn_24 rfl ?_
    refine g_iload_n 1 (n := 28) ok dX8_turn_27 rfl rfl ?_
    refine g_iadd (n := 29) ok dX8_turn_28 rfl ?_
    refine g_bipush (v := 8) (n := 31) ok dX8_turn_29 rfl (by decide) ?_
    refine g_iadd (n := 32) ok dX8_turn_31 rfl ?_
    refine g_bipush (v := 8) (n := 34) ok dX8_turn_32 rfl (by decide) ?_
    refine g_irem (n := 35) ok dX8_turn_34 rfl (by decide) ?_
    refine fp_X8_X8_turned (n := 38) ok dX8_turn_35 rfl ?_
    refine g_mem (fun S3 eS3 => ?_)
    replace h := h S3 eS3
    refine g_aload_n 0 (n := 39) ok dX8_turn_38 rfl rfl ?_
    refine g_callVv (n := 42) (As := []) (rest := []) (c := 0) ok (c_X8_findNow l v  S3 _ h) cal_X8_findNow tw_997 tw_999 tp_80 (Nat.le_of_ble_eq_true rfl) rfl rfl (by decide) (by decide) rfl (Nat.le_of_ble_eq_true rfl) dX8_turn_39 rfl rfl (fun S4 h => ?_)
    refine g_aload_n 0 (n := 43) ok dX8_turn_42 rfl rfl ?_
    refine fg_X8_X8_rock (n := 46) ok dX8_turn_43 rfl ?_
    exact g_iret ok he h dX8_turn_46
  · replace h := h.2 e5
    refine g_bipush (v := -2) (n := 21) ok dX8_turn_19 rfl (by decide) ?_
    exact g_iret ok he h dX8_turn_21
def w_X8_wedge (S : Mem) (post : Int32 → Mem → Prop) : Prop := (∀ S1 : Mem, S1 = mset S 0 (upd (S 0) 8 (0 : Int32)) → w_X8_findNow  S1 (fun S2 => ((¬ (S2 0 33) = 0 → w_X8_cellOf (S2 0 36) (S2 0 4) (S2 0 6) S2 (fun r3 S3 => (vp_in r3 64 ∧ w_X8_held ((S3 1 r3.toNatClampNeg) + (S3 0 33)) (0 : Int32) (99 : Int32) S3 (fun r4 S4 => (vp_in r3 64 ∧ (∀ S5 : Mem, S5 = mset S4 1 (upd (S4 1) r3.toNatClampNeg r4) → post (S5 0 33) S5)))))) ∧ ((S2 0 33) = 0 → post (-3 : Int32) S2))))
set_option maxHeartbeats 4000000 in
set_option maxRecDepth 20000 in
theorem c_X8_wedge (l : Launch) (v : VmT) (S : Mem) (post : Int32 → Mem → Prop) (h : w_X8_wedge  S post) : MI l yX8_wedge cX8_wedge 2 (some .int) 5 (oM v) [.ref (v.1 0)] S post := by
  refine met_start (by decide +kernel) (Nat.le_of_ble_eq_true rfl) (fun g ok he => ?_)
  refine g_eq (L' := [(0, .ref (v.1 0))]) (st' := []) ?_ rfl rfl
  unfold w_X8_wedge at h
  refine g_aload_n 0 (n := 1) ok dX8_wedge_0 rfl rfl ?_
  refine g_iconst (v := 0) (n := 2) ok dX8_wedge_1 rfl (by decide) ?_
  refine fp_X8_X8_thrown (n := 5) ok dX8_wedge_2 rfl ?_
  refine g_mem (fun S1 eS1 => ?_)
  replace h := h S1 eS1
  refine g_aload_n 0 (n := 6) ok dX8_wedge_5 rfl rfl ?_
  refine g_callVv (n := 9) (As := []) (rest := []) (c := 0) ok (c_X8_findNow l v  S1 _ h) cal_X8_findNow tw_997 tw_999 tp_80 (Nat.le_of_ble_eq_true rfl) rfl rfl (by decide) (by decide) rfl (Nat.le_of_ble_eq_true rfl) dX8_wedge_6 rfl rfl (fun S2 h => ?_)
  refine g_aload_n 0 (n := 10) ok dX8_wedge_9 rfl rfl ?_
  refine fg_X8_X8_rock (n := 13) ok dX8_wedge_10 rfl ?_
  refine g_if_ne (t := 19) (n := 16) ok dX8_wedge_13 (by decide) rfl (fun e6 => ?_) (fun e6 => ?_)
  · replace h := h.1 e6
    refine g_aload_n 0 (n := 20) ok dX8_wedge_19 rfl rfl ?_
    refine g_aload_n 0 (n := 21) ok dX8_wedge_20 rfl rfl ?_
    refine fg_X8_X8_loose (n := 24) ok dX8_wedge_21 rfl ?_
    refine g_aload_n 0 (n := 25) ok dX8_wedge_24 rfl rfl ?_
    refine fg_X8_X8_place (n := 28) ok dX8_wedge_25 rfl ?_
    refine g_aload_n 0 (n := 29) ok dX8_wedge_28 rfl rfl ?_
    refine fg_X8_X8_turned (n := 32) ok dX8_wedge_29 rfl ?_
    refine g_callVi (n := 35) (As := [.int (S2 0 36), .int (S2 0 4), .int (S2 0 6)]) (rest := []) (c := 0) ok (c_X8_cellOf l v (S2 0 36) (S2 0 4) (S2 0 6) S2 _ h) cal_X8_cellOf tw_1005 tw_1007 tp_82 (Nat.le_of_ble_eq_true rfl) rfl rfl (by decide) (by decide) rfl (Nat.le_of_ble_eq_true rfl) dX8_wedge_32 rfl rfl (fun r3 S3 h => ?_)
    refine g_istore_n [(1, .int r3), (0, .ref (v.1 0))] (n := 36) ok dX8_wedge_35 rfl (by decide) rfl ?_
    refine g_aload_n 1 (n := 37) ok dX8_wedge_36 rfl rfl ?_
    refine fg_X8_X8_heights (n := 40) ok dX8_wedge_37 rfl ?_
    refine g_iload_n 0 (n := 41) ok dX8_wedge_40 rfl rfl ?_
    refine g_aload_n 1 (n := 42) ok dX8_wedge_41 rfl rfl ?_
    refine fg_X8_X8_heights (n := 45) ok dX8_wedge_42 rfl ?_
    refine g_iload_n 0 (n := 46) ok dX8_wedge_45 rfl rfl ?_
    obtain ⟨h0, h⟩ := h
    refine g_iald (c := 1) (t0 := 0) (n := 47) ok (Nat.le_of_ble_eq_true rfl) rfl rfl h0 dX8_wedge_46 rfl ?_
    refine g_aload_n 1 (n := 48) ok dX8_wedge_47 rfl rfl ?_
    refine fg_X8_X8_rock (n := 51) ok dX8_wedge_48 rfl ?_
    refine g_iadd (n := 52) ok dX8_wedge_51 rfl ?_
    refine g_iconst (v := 0) (n := 53) ok dX8_wedge_52 rfl (by decide) ?_
    refine g_bipush (v := 99) (n := 55) ok dX8_wedge_53 rfl (by decide) ?_
    refine g_callSi (n := 58) (As := [.int ((S3 1 r3.toNatClampNeg) + (S3 0 33)), .int (0 : Int32), .int (99 : Int32)]) (rest := [.int r3, .ref (v.1 1)]) ok (c_X8_held l v ((S3 1 r3.toNatClampNeg) + (S3 0 33)) (0 : Int32) (99 : Int32) S3 _ h) cal_X8_held tw_1009 tw_1010 (by decide) (by decide) rfl (Nat.le_of_ble_eq_true rfl) dX8_wedge_55 rfl rfl (fun r4 S4 h => ?_)
    obtain ⟨h0, h⟩ := h
    refine g_iast (c := 1) (t0 := 0) (n := 59) ok (Nat.le_of_ble_eq_true rfl) (fun _ => rfl) rfl h0 dX8_wedge_58 rfl ?_
    refine g_mem (fun S5 eS5 => ?_)
    replace h := h S5 eS5
    refine g_aload_n 1 (n := 60) ok dX8_wedge_59 rfl rfl ?_
    refine fg_X8_X8_rock (n := 63) ok dX8_wedge_60 rfl ?_
    exact g_iret ok he h dX8_wedge_63
  · replace h := h.2 e6
    refine g_bipush (v := -3) (n := 18) ok dX8_wedge_16 rfl (by decide) ?_
    exact g_iret ok he h dX8_wedge_18
def w_X8_saw (S : Mem) (post : Int32 → Mem → Prop) : Prop := (∀ S1 : Mem, S1 = mset S 0 (upd (S 0) 8 (0 : Int32)) → w_X8_findNow  S1 (fun S2 => ((¬ (S2 0 33) = 0 → (∀ z3 : Int32, z3 = (S2 0 33) / (2 : Int32) → (vp_in (S2 0 35) 4 ∧ w_X8_held ((S2 3 (S2 0 35).toNatClampNeg) - z3) (0 : Int32) (99 : Int32) S2 (fun r4 S4 => (vp_in (S2 0 35) 4 ∧ (∀ S5 : Mem, S5 = mset S4 3 (upd (S4 3) (S2 0 35).toNatClampNeg r4) → (vp_in ((S5 0 35) + (2 : Int32)) 4 ∧ w_X8_held (((S5 3 ((S5 0 35) + (2 : Int32)).toNatClampNeg) - (S5 0 33)) + z3) (0 : Int32) (99 : Int32) S5 (fun r6 S6 => (vp_in ((S5 0 35) + (2 : Int32)) 4 ∧ (∀ S7 : Mem, S7 = mset S6 3 (upd (S6 3) ((S5 0 35) + (2 : Int32)).toNatClampNeg r6) → w_X8_findNow  S7 (fun S8 => post (S8 0 33) S8))))))))))) ∧ ((S2 0 33) = 0 → post (-3 : Int32) S2))))
set_option maxHeartbeats 4000000 in
set_option maxRecDepth 20000 in
theorem c_X8_saw (l : Launch) (v : VmT) (S : Mem) (post : Int32 → Mem → Prop) (h : w_X8_saw  S post) : MI l yX8_saw cX8_saw 2 (some .int) 5 (oM v) [.ref (v.1 0)] S post := by
  refine met_start (by decide +kernel) (Nat.le_of_ble_eq_true rfl) (fun g ok he => ?_)
  refine g_eq (L' := [(0, .ref (v.1 0))]) (st' := []) ?_ rfl rfl
  unfold w_X8_saw at h
  refine g_aload_n 0 (n := 1) ok dX8_saw_0 rfl rfl ?_
  refine g_iconst (v := 0) (n := 2) ok dX8_saw_1 rfl (by decide) ?_
  refine fp_X8_X8_thrown (n := 5) ok dX8_saw_2 rfl ?_
  refine g_mem (fun S1 eS1 => ?_)
  replace h := h S1 eS1
  refine g_aload_n 0 (n := 6) ok dX8_saw_5 rfl rfl ?_
  refine g_callVv (n := 9) (As := []) (rest := []) (c := 0) ok (c_X8_findNow l v  S1 _ h) cal_X8_findNow tw_997 tw_999 tp_80 (Nat.le_of_ble_eq_true rfl) rfl rfl (by decide) (by decide) rfl (Nat.le_of_ble_eq_true rfl) dX8_saw_6 rfl rfl (fun S2 h => ?_)
  refine g_aload_n 0 (n := 10) ok dX8_saw_9 rfl rfl ?_
  refine fg_X8_X8_rock (n := 13) ok dX8_saw_10 rfl ?_
  refine g_if_ne (t := 19) (n := 16) ok dX8_saw_13 (by decide) rfl (fun e9 => ?_) (fun e9 => ?_)
  · replace h := h.1 e9
    refine g_aload_n 0 (n := 20) ok dX8_saw_19 rfl rfl ?_
    refine fg_X8_X8_rock (n := 23) ok dX8_saw_20 rfl ?_
    refine g_iconst (v := 2) (n := 24) ok dX8_saw_23 rfl (by decide) ?_
    refine g_idiv (n := 25) ok dX8_saw_24 rfl (by decide) ?_
    refine g_topi (fun z3 ez3 => ?_)
    replace h := h z3 ez3
    refine g_istore_n [(1, .int z3), (0, .ref (v.1 0))] (n := 26) ok dX8_saw_25 rfl (by decide) rfl ?_
    refine g_aload_n 1 (n := 27) ok dX8_saw_26 rfl rfl ?_
    refine fg_X8_X8_longs (n := 30) ok dX8_saw_27 rfl ?_
    refine g_aload_n 1 (n := 31) ok dX8_saw_30 rfl rfl ?_
    refine fg_X8_X8_bearing (n := 34) ok dX8_saw_31 rfl ?_
    refine g_aload_n 1 (n := 35) ok dX8_saw_34 rfl rfl ?_
    refine fg_X8_X8_longs (n := 38) ok dX8_saw_35 rfl ?_
    refine g_aload_n 1 (n := 39) ok dX8_saw_38 rfl rfl ?_
    refine fg_X8_X8_bearing (n := 42) ok dX8_saw_39 rfl ?_
    obtain ⟨h0, h⟩ := h
    refine g_iald (c := 3) (t0 := 0) (n := 43) ok (Nat.le_of_ble_eq_true rfl) rfl rfl h0 dX8_saw_42 rfl ?_
    refine g_iload_n 0 (n := 44) ok dX8_saw_43 rfl rfl ?_
    refine g_isub (n := 45) ok dX8_saw_44 rfl ?_
    refine g_iconst (v := 0) (n := 46) ok dX8_saw_45 rfl (by decide) ?_
    refine g_bipush (v := 99) (n := 48) ok dX8_saw_46 rfl (by decide) ?_
    refine g_callSi (n := 51) (As := [.int ((S2 3 (S2 0 35).toNatClampNeg) - z3), .int (0 : Int32), .int (99 : Int32)]) (rest := [.int (S2 0 35), .ref (v.1 3)]) ok (c_X8_held l v ((S2 3 (S2 0 35).toNatClampNeg) - z3) (0 : Int32) (99 : Int32) S2 _ h) cal_X8_held tw_1009 tw_1010 (by decide) (by decide) rfl (Nat.le_of_ble_eq_true rfl) dX8_saw_48 rfl rfl (fun r4 S4 h => ?_)
    obtain ⟨h0, h⟩ := h
    refine g_iast (c := 3) (t0 := 0) (n := 52) ok (Nat.le_of_ble_eq_true rfl) (fun _ => rfl) rfl h0 dX8_saw_51 rfl ?_
    refine g_mem (fun S5 eS5 => ?_)
    replace h := h S5 eS5
    refine g_aload_n 1 (n := 53) ok dX8_saw_52 rfl rfl ?_
    refine fg_X8_X8_longs (n := 56) ok dX8_saw_53 rfl ?_
    refine g_aload_n 1 (n := 57) ok dX8_saw_56 rfl rfl ?_
    refine fg_X8_X8_bearing (n := 60) ok dX8_saw_57 rfl ?_
    refine g_iconst (v := 2) (n := 61) ok dX8_saw_60 rfl (by decide) ?_
    refine g_iadd (n := 62) ok dX8_saw_61 rfl ?_
    refine g_aload_n 1 (n := 63) ok dX8_saw_62 rfl rfl ?_
    refine fg_X8_X8_longs (n := 66) ok dX8_saw_63 rfl ?_
    refine g_aload_n 1 (n := 67) ok dX8_saw_66 rfl rfl ?_
    refine fg_X8_X8_bearing (n := 70) ok dX8_saw_67 rfl ?_
    refine g_iconst (v := 2) (n := 71) ok dX8_saw_70 rfl (by decide) ?_
    refine g_iadd (n := 72) ok dX8_saw_71 rfl ?_
    obtain ⟨h0, h⟩ := h
    refine g_iald (c := 3) (t0 := 0) (n := 73) ok (Nat.le_of_ble_eq_true rfl) rfl rfl h0 dX8_saw_72 rfl ?_
    refine g_aload_n 1 (n := 74) ok dX8_saw_73 rfl rfl ?_
    refine fg_X8_X8_rock (n := 77) ok dX8_saw_74 rfl ?_
    refine g_isub (n := 78) ok dX8_saw_77 rfl ?_
    refine g_iload_n 0 (n := 79) ok dX8_saw_78 rfl rfl ?_
    refine g_iadd (n := 80) ok dX8_saw_79 rfl ?_
    refine g_iconst (v := 0) (n := 81) ok dX8_saw_80 rfl (by decide) ?_
    refine g_bipush (v := 99) (n := 83) ok dX8_saw_81 rfl (by decide) ?_
    refine g_callSi (n := 86) (As := [.int (((S5 3 ((S5 0 35) + (2 : Int32)).toNatClampNeg) - (S5 0 33)) + z3), .int (0 : Int32), .int (99 : Int32)]) (rest := [.int ((S5 0 35) + (2 : Int32)), .ref (v.1 3)]) ok (c_X8_held l v (((S5 3 ((S5 0 35) + (2 : Int32)).toNatClampNeg) - (S5 0 33)) + z3) (0 : Int32) (99 : Int32) S5 _ h) cal_X8_held tw_1009 tw_1010 (by decide) (by decide) rfl (Nat.le_of_ble_eq_true rfl) dX8_saw_83 rfl rfl (fun r6 S6 h => ?_)
    obtain ⟨h0, h⟩ := h
    refine g_iast (c := 3) (t0 := 0) (n := 87) ok (Nat.le_of_ble_eq_true rfl) (fun _ => rfl) rfl h0 dX8_saw_86 rfl ?_
    refine g_mem (fun S7 eS7 => ?_)
    replace h := h S7 eS7
    refine g_aload_n 1 (n := 88) ok dX8_saw_87 rfl rfl ?_
    refine g_callVv (n := 91) (As := []) (rest := []) (c := 0) ok (c_X8_findNow l v  S7 _ h) cal_X8_findNow tw_997 tw_999 tp_80 (Nat.le_of_ble_eq_true rfl) rfl rfl (by decide) (by decide) rfl (Nat.le_of_ble_eq_true rfl) dX8_saw_88 rfl rfl (fun S8 h => ?_)
    refine g_aload_n 1 (n := 92) ok dX8_saw_91 rfl rfl ?_
    refine fg_X8_X8_rock (n := 95) ok dX8_saw_92 rfl ?_
    exact g_iret ok he h dX8_saw_95
  · replace h := h.2 e9
    refine g_bipush (v := -3) (n := 18) ok dX8_saw_16 rfl (by decide) ?_
    exact g_iret ok he h dX8_saw_18
