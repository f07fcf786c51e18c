def w_X8_says_181 (K16 : Int32 → Int32 → Int32 → Mem → Prop) (post : Int32 → Mem → Prop) (x1 : Int32) (x2 : Int32) (x3 : Int32) (S : Mem) : Prop := (∀ z1 : Int32, z1 = x3 + 1 → K16 x1 x2 z1 S)
set_option maxHeartbeats 4000000 in
set_option maxRecDepth 20000 in
theorem b_X8_says_181 {v : VmT} {l : Launch} {g : CxT} {K16 : Int32 → Int32 → Int32 → Mem → Prop} (ok : Ok l g (oM v) 5 cX8_says RX8 (some .int)) (hK16 : ∀ (x1 : Int32) (x2 : Int32) (x3 : Int32) (S : Mem), K16 x1 x2 x3 S → G g (oM v) 2 5 16 [(0, .ref (v.1 0)), (1, .int x1), (2, .int x2), (3, .int x3)] [] S) {post : Int32 → Mem → Prop} (he : EndQ g (oM v) (va_Qi post (fun S1 t => BX (oM v) S1 t) (AX (oM v)))) (x1 : Int32) (x2 : Int32) (x3 : Int32) (S : Mem) (h : w_X8_says_181 K16 post x1 x2 x3 S) : G g (oM v) 2 5 181 [(0, .ref (v.1 0)), (1, .int x1), (2, .int x2), (3, .int x3)] [] S := by
  unfold w_X8_says_181 at h
  obtain ⟨z1, ez1⟩ : ∃ y : Int32, y = x3 + 1 := ⟨_, rfl⟩
  replace h := h z1 ez1
  refine g_iinc 3 [(3, .int z1), (0, .ref (v.1 0)), (1, .int x1), (2, .int x2)] (v := z1) (n := 184) ok dX8_says_181 rfl rfl (by rw [ez1]; rfl) (by decide) rfl ?_
  refine g_goto (t := 16) ok dX8_says_184 (by decide) ?_
  exact g_sub [1, 2, 3, 0] rfl (hK16 x1 x2 z1 S h)
def w_X8_says_83 (K16 : Int32 → Int32 → Int32 → Mem → Prop) (post : Int32 → Mem → Prop) (x1 : Int32) (x2 : Int32) (x3 : Int32) (y0 : Int32) (y1 : Int32) (S : Mem) : Prop := (vp_in y1 170 ∧ (∀ S1 : Mem, S1 = mset S 13 (upd (S 13) y1.toNatClampNeg y0) → (∀ z2 : Int32, z2 = x2 + 1 → w_X8_says_181 K16 post x1 z2 x3 S1)))
set_option maxHeartbeats 4000000 in
set_option maxRecDepth 20000 in
theorem b_X8_says_83 {v : VmT} {l : Launch} {g : CxT} {K16 : Int32 → Int32 → Int32 → Mem → Prop} (ok : Ok l g (oM v) 5 cX8_says RX8 (some .int)) (hK16 : ∀ (x1 : Int32) (x2 : Int32) (x3 : Int32) (S : Mem), K16 x1 x2 x3 S → G g (oM v) 2 5 16 [(0, .ref (v.1 0)), (1, .int x1), (2, .int x2), (3, .int x3)] [] S) {post : Int32 → Mem → Prop} (he : EndQ g (oM v) (va_Qi post (fun S1 t => BX (oM v) S1 t) (AX (oM v)))) (x1 : Int32) (x2 : Int32) (x3 : Int32) (y0 : Int32) (y1 : Int32) (S : Mem) (h : w_X8_says_83 K16 post x1 x2 x3 y0 y1 S) : G g (oM v) 2 5 83 [(0, .ref (v.1 0)), (1, .int x1), (2, .int x2), (3, .int x3)] [.int y0, .int y1, .ref (v.1 13)] S := by
  unfold w_X8_says_83 at h
  obtain ⟨h0, h⟩ := h
  refine g_iast (c := 13) (t0 := 0) (n := 84) ok (Nat.le_of_ble_eq_true rfl) (fun _ => rfl) rfl h0 dX8_says_83 rfl ?_
  refine g_mem (fun S1 eS1 => ?_)
  replace h := h S1 eS1
  obtain ⟨z2, ez2⟩ : ∃ y : Int32, y = x2 + 1 := ⟨_, rfl⟩
  replace h := h z2 ez2
  refine g_iinc 2 [(2, .int z2), (0, .ref (v.1 0)), (1, .int x1), (3, .int x3)] (v := z2) (n := 87) ok dX8_says_84 rfl rfl (by rw [ez2]; rfl) (by decide) rfl ?_
  refine g_goto (t := 181) ok dX8_says_87 (by decide) ?_
  exact g_sub [1, 2, 0, 3] rfl (b_X8_says_181 ok hK16 he x1 z2 x3 S1 h)
def w_X8_says_120 (K16 : Int32 → Int32 → Int32 → Mem → Prop) (post : Int32 → Mem → Prop) (x1 : Int32) (x2 : Int32) (x3 : Int32) (y0 : Int32) (y1 : Int32) (S : Mem) : Prop := (vp_in y1 170 ∧ (∀ S1 : Mem, S1 = mset S 13 (upd (S 13) y1.toNatClampNeg y0) → w_X8_says_181 K16 post x1 x2 x3 S1))
set_option maxHeartbeats 4000000 in
set_option maxRecDepth 20000 in
theorem b_X8_says_120 {v : VmT} {l : Launch} {g : CxT} {K16 : Int32 → Int32 → Int32 → Mem → Prop} (ok : Ok l g (oM v) 5 cX8_says RX8 (some .int)) (hK16 : ∀ (x1 : Int32) (x2 : Int32) (x3 : Int32) (S : Mem), K16 x1 x2 x3 S → G g (oM v) 2 5 16 [(0, .ref (v.1 0)), (1, .int x1), (2, .int x2), (3, .int x3)] [] S) {post : Int32 → Mem → Prop} (he : EndQ g (oM v) (va_Qi post (fun S1 t => BX (oM v) S1 t) (AX (oM v)))) (x1 : Int32) (x2 : Int32) (x3 : Int32) (y0 : Int32) (y1 : Int32) (S : Mem) (h : w_X8_says_120 K16 post x1 x2 x3 y0 y1 S) : G g (oM v) 2 5 120 [(0, .ref (v.1 0)), (1, .int x1), (2, .int x2), (3, .int x3)] [.int y0, .int y1, .ref (v.1 13)] S := by
  unfold w_X8_says_120 at h
  obtain ⟨h0, h⟩ := h
  refine g_iast (c := 13) (t0 := 0) (n := 121) ok (Nat.le_of_ble_eq_true rfl) (fun _ => rfl) rfl h0 dX8_says_120 rfl ?_
  refine g_mem (fun S1 eS1 => ?_)
  replace h := h S1 eS1
  refine g_goto (t := 181) ok dX8_says_121 (by decide) ?_
  exact g_sub [0, 1, 2, 3] rfl (b_X8_says_181 ok hK16 he x1 x2 x3 S1 h)
def w_X8_says_16 (post : Int32 → Mem → Prop) : Nat → Int32 → Int32 → Int32 → Mem → Prop
  | 0, _, _, _, _ => False
  | n + 1, x1, x2, x3, S => (vp_in ((((4 : Int32) * (S 0 15)) + x1) + (1 : Int32)) 24 ∧ (((S 10 ((((4 : Int32) * (S 0 15)) + x1) + (1 : Int32)).toNatClampNeg) ≤ x3 → post (S 13 (0 : Int32).toNatClampNeg) S) ∧ (¬ (S 10 ((((4 : Int32) * (S 0 15)) + x1) + (1 : Int32)).toNatClampNeg) ≤ x3 → (vp_in (((160 : Int32) * (S 0 15)) + x3) 960 ∧ (∀ z1 : Int32, z1 = S 9 (((160 : Int32) * (S 0 15)) + x3).toNatClampNeg → (((10 : Int32) ≤ z1 → ((¬ z1 = (12 : Int32) → ((¬ z1 = (18 : Int32) → (∀ z2 : Int32, z2 = x2 + (-1) → (vp_in (z2 - (1 : Int32)) 170 ∧ (vp_in z2 170 ∧ w_X8_done z1 (S 13 (z2 - (1 : Int32)).toNatClampNeg) (S 13 z2.toNatClampNeg) S (fun r3 S3 => (vp_in (z2 - (1 : Int32)) 170 ∧ (∀ S4 : Mem, S4 = mset S3 13 (upd (S3 13) (z2 - (1 : Int32)).toNatClampNeg r3) → w_X8_says_181 (w_X8_says_16 post n) post x1 z2 x3 S4))))))) ∧ (z1 = (18 : Int32) → (vp_in (x2 - (1 : Int32)) 170 ∧ (vp_in (x2 - (1 : Int32)) 170 ∧ (∀ S5 : Mem, S5 = mset S 13 (upd (S 13) (x2 - (1 : Int32)).toNatClampNeg (-(S 13 (x2 - (1 : Int32)).toNatClampNeg))) → w_X8_says_181 (w_X8_says_16 post n) post x1 x2 x3 S5)))))) ∧ (z1 = (12 : Int32) → (vp_in (x2 - (1 : Int32)) 170 ∧ ((¬ (S 13 (x2 - (1 : Int32)).toNatClampNeg) = 0 → w_X8_says_120 (w_X8_says_16 post n) post x1 x2 x3 (0 : Int32) (x2 - (1 : Int32)) S) ∧ ((S 13 (x2 - (1 : Int32)).toNatClampNeg) = 0 → w_X8_says_120 (w_X8_says_16 post n) post x1 x2 x3 (1 : Int32) (x2 - (1 : Int32)) S)))))) ∧ (¬ (10 : Int32) ≤ z1 → ((0 ≤ z1 → (vp_in z1 6 ∧ w_X8_says_83 (w_X8_says_16 post n) post x1 x2 x3 (S 12 z1.toNatClampNeg) x2 S)) ∧ (¬ 0 ≤ z1 → w_X8_says_83 (w_X8_says_16 post n) post x1 x2 x3 ((-1 : Int32) - z1) x2 S)))))))))
set_option maxHeartbeats 4000000 in
set_option maxRecDepth 20000 in
theorem b_X8_says_16 {v : VmT} {l : Launch} {g : CxT} (ok : Ok l g (oM v) 5 cX8_says RX8 (some .int)) {post : Int32 → Mem → Prop} (he : EndQ g (oM v) (va_Qi post (fun S1 t => BX (oM v) S1 t) (AX (oM v)))) : ∀ (n : Nat) (x1 : Int32) (x2 : Int32) (x3 : Int32) (S : Mem), w_X8_says_16 post n x1 x2 x3 S → G g (oM v) 2 5 16 [(0, .ref (v.1 0)), (1, .int x1), (2, .int x2), (3, .int x3)] [] S := by
  intro n
  induction n with
  | zero =>
    intro x1 x2 x3 S h
    exact h.elim
  | succ n ih =>
    intro x1 x2 x3 S h
    rw [w_X8_says_16] at h
    refine g_iload_n 3 (n := 17) ok dX8_says_16 rfl rfl ?_
    refine g_aload_n 0 (n := 18) ok dX8_says_17 rfl rfl ?_
    refine fg_X8_X8_bounds (n := 21) ok dX8_says_18 rfl ?_
    refine g_iconst (v := 4) (n := 22) ok dX8_says_21 rfl (by decide) ?_
    refine g_aload_n 0 (n := 23) ok dX8_says_22 rfl rfl ?_
    refine fg_X8_X8_rule (n := 26) ok dX8_says_23 rfl ?_
    refine g_imul (n := 27) ok dX8_says_26 rfl ?_
    refine g_iload_n 1 (n := 28) ok dX8_says_27 rfl rfl ?_
    refine g_iadd (n := 29) ok dX8_says_28 rfl ?_
    refine g_iconst (v := 1) (n := 30) ok dX8_says_29 rfl (by decide) ?_
    refine g_iadd (n := 31) ok dX8_says_30 rfl ?_
    obtain ⟨h0, h⟩ := h
    refine g_iald (c := 10) (t0 := 0) (n := 32) ok (Nat.le_of_ble_eq_true rfl) rfl rfl h0 dX8_says_31 rfl ?_
    refine g_icmp_ge (t := 187) (n := 35) ok dX8_says_32 (by decide) rfl (fun e11 => ?_) (fun e11 => ?_)
    · replace h := h.1 e11
      refine g_aload_n 0 (n := 188) ok dX8_says_187 rfl rfl ?_
      refine fg_X8_X8_stack (n := 191) ok dX8_says_188 rfl ?_
      refine g_iconst (v := 0) (n := 192) ok dX8_says_191 rfl (by decide) ?_
      refine g_iald (c := 13) (t0 := 0) (n := 193) ok (Nat.le_of_ble_eq_true rfl) rfl rfl (vp_dec rfl) dX8_says_192 rfl ?_
      exact g_iret ok he h dX8_says_193
    · replace h := h.2 e11
      refine g_aload_n 0 (n := 36) ok dX8_says_35 rfl rfl ?_
      refine fg_X8_X8_steps (n := 39) ok dX8_says_36 rfl ?_
      refine g_sipush (v := 160) (n := 42) ok dX8_says_39 rfl (by decide) ?_
      refine g_aload_n 0 (n := 43) ok dX8_says_42 rfl rfl ?_
      refine fg_X8_X8_rule (n := 46) ok dX8_says_43 rfl ?_
      refine g_imul (n := 47) ok dX8_says_46 rfl ?_
      refine g_iload_n 3 (n := 48) ok dX8_says_47 rfl rfl ?_
      refine g_iadd (n := 49) ok dX8_says_48 rfl ?_
      obtain ⟨h0, h⟩ := h
      refine g_iald (c := 9) (t0 := 0) (n := 50) ok (Nat.le_of_ble_eq_true rfl) rfl rfl h0 dX8_says_49 rfl ?_
      refine g_topi (fun z1 ez1 => ?_)
      replace h := h z1 ez1
      refine g_istore [(4, .int z1), (0, .ref (v.1 0)), (1, .int x1), (2, .int x2), (3, .int x3)] (n := 52) ok dX8_says_50 rfl (by decide) rfl ?_
      refine g_iload 0 (n := 54) ok dX8_says_52 rfl rfl ?_
      refine g_bipush (v := 10) (n := 56) ok dX8_says_54 rfl (by decide) ?_
      refine g_icmp_ge (t := 90) (n := 59) ok dX8_says_56 (by decide) rfl (fun e10 => ?_) (fun e10 => ?_)
      · replace h := h.1 e10
        refine g_iload 0 (n := 92) ok dX8_says_90 rfl rfl ?_
        refine g_bipush (v := 12) (n := 94) ok dX8_says_92 rfl (by decide) ?_
        refine g_icmp_ne (t := 124) (n := 97) ok dX8_says_94 (by decide) rfl (fun e8 => ?_) (fun e8 => ?_)
        · replace h := h.1 e8
          refine g_iload 0 (n := 126) ok dX8_says_124 rfl rfl ?_
          refine g_bipush (v := 18) (n := 128) ok dX8_says_126 rfl (by decide) ?_
          refine g_icmp_ne (t := 151) (n := 131) ok dX8_says_128 (by decide) rfl (fun e6 => ?_) (fun e6 => ?_)
          · replace h := h.1 e6
            obtain ⟨z2, ez2⟩ : ∃ y : Int32, y = x2 + (-1) := ⟨_, rfl⟩
            replace h := h z2 ez2
            refine g_iinc 3 [(2, .int z2), (4, .int z1), (0, .ref (v.1 0)), (1, .int x1), (3, .int x3)] (v := z2) (n := 154) ok dX8_says_151 rfl rfl (by rw [ez2]; rfl) (by decide) rfl ?_
            refine g_aload_n 2 (n := 155) ok dX8_says_154 rfl rfl ?_
            refine fg_X8_X8_stack (n := 158) ok dX8_says_155 rfl ?_
            refine g_iload_n 0 (n := 159) ok dX8_says_158 rfl rfl ?_
            refine g_iconst (v := 1) (n := 160) ok dX8_says_159 rfl (by decide) ?_
            refine g_isub (n := 161) ok dX8_says_160 rfl ?_
            refine g_iload 1 (n := 163) ok dX8_says_161 rfl rfl ?_
            refine g_aload_n 2 (n := 164) ok dX8_says_163 rfl rfl ?_
            refine fg_X8_X8_stack (n := 167) ok dX8_says_164 rfl ?_
            refine g_iload_n 0 (n := 168) ok dX8_says_167 rfl rfl ?_
            refine g_iconst (v := 1) (n := 169) ok dX8_says_168 rfl (by decide) ?_
            refine g_isub (n := 170) ok dX8_says_169 rfl ?_
            obtain ⟨h0, h⟩ := h
            refine g_iald (c := 13) (t0 := 0) (n := 171) ok (Nat.le_of_ble_eq_true rfl) rfl rfl h0 dX8_says_170 rfl ?_
            refine g_aload_n 2 (n := 172) ok dX8_says_171 rfl rfl ?_
            refine fg_X8_X8_stack (n := 175) ok dX8_says_172 rfl ?_
            refine g_iload_n 0 (n := 176) ok dX8_says_175 rfl rfl ?_
            obtain ⟨h0, h⟩ := h
            refine g_iald (c := 13) (t0 := 0) (n := 177) ok (Nat.le_of_ble_eq_true rfl) rfl rfl h0 dX8_says_176 rfl ?_
            refine g_callSi (n := 180) (As := [.int z1, .int (S 13 (z2 - (1 : Int32)).toNatClampNeg), .int (S 13 z2.toNatClampNeg)]) (rest := [.int (z2 - (1 : Int32)), .ref (v.1 13)]) ok (c_X8_done l v z1 (S 13 (z2 - (1 : Int32)).toNatClampNeg) (S 13 z2.toNatClampNeg) S _ h) cal_X8_done tw_1024 tw_1025 (by decide) (by decide) rfl (Nat.le_of_ble_eq_true rfl) dX8_says_177 rfl rfl (fun r3 S3 h => ?_)
            obtain ⟨h0, h⟩ := h
            refine g_iast (c := 13) (t0 := 0) (n := 181) ok (Nat.le_of_ble_eq_true rfl) (fun _ => rfl) rfl h0 dX8_says_180 rfl ?_
            refine g_mem (fun S4 eS4 => ?_)
            replace h := h S4 eS4
            exact g_sub [2, 3, 0, 4] rfl (b_X8_says_181 ok ih he x1 z2 x3 S4 h)
          · replace h := h.2 e6
            refine g_aload_n 1 (n := 132) ok dX8_says_131 rfl rfl ?_
            refine fg_X8_X8_stack (n := 135) ok dX8_says_132 rfl ?_
            refine g_iload_n 3 (n := 136) ok dX8_says_135 rfl rfl ?_
            refine g_iconst (v := 1) (n := 137) ok dX8_says_136 rfl (by decide) ?_
            refine g_isub (n := 138) ok dX8_says_137 rfl ?_
            refine g_aload_n 1 (n := 139) ok dX8_says_138 rfl rfl ?_
            refine fg_X8_X8_stack (n := 142) ok dX8_says_139 rfl ?_
            refine g_iload_n 3 (n := 143) ok dX8_says_142 rfl rfl ?_
            refine g_iconst (v := 1) (n := 144) ok dX8_says_143 rfl (by decide) ?_
            refine g_isub (n := 145) ok dX8_says_144 rfl ?_
            obtain ⟨h0, h⟩ := h
            refine g_iald (c := 13) (t0 := 0) (n := 146) ok (Nat.le_of_ble_eq_true rfl) rfl rfl h0 dX8_says_145 rfl ?_
            refine g_ineg (n := 147) ok dX8_says_146 rfl ?_
            obtain ⟨h0, h⟩ := h
            refine g_iast (c := 13) (t0 := 0) (n := 148) ok (Nat.le_of_ble_eq_true rfl) (fun _ => rfl) rfl h0 dX8_says_147 rfl ?_
            refine g_mem (fun S5 eS5 => ?_)
            replace h := h S5 eS5
            refine g_goto (t := 181) ok dX8_says_148 (by decide) ?_
            exact g_sub [1, 2, 3, 4] rfl (b_X8_says_181 ok ih he x1 x2 x3 S5 h)
        · replace h := h.2 e8
          refine g_aload_n 1 (n := 98) ok dX8_says_97 rfl rfl ?_
          refine fg_X8_X8_stack (n := 101) ok dX8_says_98 rfl ?_
          refine g_iload_n 3 (n := 102) ok dX8_says_101 rfl rfl ?_
          refine g_iconst (v := 1) (n := 103) ok dX8_says_102 rfl (by decide) ?_
          refine g_isub (n := 104) ok dX8_says_103 rfl ?_
          refine g_aload_n 1 (n := 105) ok dX8_says_104 rfl rfl ?_
          refine fg_X8_X8_stack (n := 108) ok dX8_says_105 rfl ?_
          refine g_iload_n 3 (n := 109) ok dX8_says_108 rfl rfl ?_
          refine g_iconst (v := 1) (n := 110) ok dX8_says_109 rfl (by decide) ?_
          refine g_isub (n := 111) ok dX8_says_110 rfl ?_
          obtain ⟨h0, h⟩ := h
          refine g_iald (c := 13) (t0 := 0) (n := 112) ok (Nat.le_of_ble_eq_true rfl) rfl rfl h0 dX8_says_111 rfl ?_
          refine g_if_ne (t := 119) (n := 115) ok dX8_says_112 (by decide) rfl (fun e7 => ?_) (fun e7 => ?_)
          · replace h := h.1 e7
            refine g_iconst (v := 0) (n := 120) ok dX8_says_119 rfl (by decide) ?_
            exact g_sub [1, 2, 3, 4] rfl (b_X8_says_120 ok ih he x1 x2 x3 (0 : Int32) (x2 - (1 : Int32)) S h)
          · replace h := h.2 e7
            refine g_iconst (v := 1) (n := 116) ok dX8_says_115 rfl (by decide) ?_
            refine g_goto (t := 120) ok dX8_says_116 (by decide) ?_
            exact g_sub [1, 2, 3, 4] rfl (b_X8_says_120 ok ih he x1 x2 x3 (1 : Int32) (x2 - (1 : Int32)) S h)
      · replace h := h.2 e10
        refine g_aload_n 1 (n := 60) ok dX8_says_59 rfl rfl ?_
        refine fg_X8_X8_stack (n := 63) ok dX8_says_60 rfl ?_
        refine g_iload_n 3 (n := 64) ok dX8_says_63 rfl rfl ?_
        refine g_iload 0 (n := 66) ok dX8_says_64 rfl rfl ?_
        refine g_if_ge (t := 76) (n := 69) ok dX8_says_66 (by decide) rfl (fun e9 => ?_) (fun e9 => ?_)
        · replace h := h.1 e9
          refine g_aload_n 1 (n := 77) ok dX8_says_76 rfl rfl ?_
          refine fg_X8_X8_named (n := 80) ok dX8_says_77 rfl ?_
          refine g_iload 0 (n := 82) ok dX8_says_80 rfl rfl ?_
          obtain ⟨h0, h⟩ := h
          refine g_iald (c := 12) (t0 := 0) (n := 83) ok (Nat.le_of_ble_eq_true rfl) rfl rfl h0 dX8_says_82 rfl ?_
          exact g_sub [1, 2, 3, 4] rfl (b_X8_says_83 ok ih he x1 x2 x3 (S 12 z1.toNatClampNeg) x2 S h)
        · replace h := h.2 e9
          refine g_iconst (v := -1) (n := 70) ok dX8_says_69 rfl (by decide) ?_
          refine g_iload 0 (n := 72) ok dX8_says_70 rfl rfl ?_
          refine g_isub (n := 73) ok dX8_says_72 rfl ?_
          refine g_goto (t := 83) ok dX8_says_73 (by decide) ?_
          exact g_sub [1, 2, 3, 4] rfl (b_X8_says_83 ok ih he x1 x2 x3 ((-1 : Int32) - z1) x2 S h)
def w_X8_says (p1 : Int32) (S : Mem) (post : Int32 → Mem → Prop) : Prop := (vp_in (((4 : Int32) * (S 0 15)) + p1) 24 ∧ (∀ z1 : Int32, z1 = S 10 (((4 : Int32) * (S 0 15)) + p1).toNatClampNeg → ∃ n, w_X8_says_16 post n p1 (0 : Int32) z1 S))
set_option maxHeartbeats 4000000 in
set_option maxRecDepth 20000 in
theorem c_X8_says (l : Launch) (v : VmT) (p1 : Int32) (S : Mem) (post : Int32 → Mem → Prop) (h : w_X8_says p1 S post) : MI l yX8_says cX8_says 5 (some .int) 2 (oM v) [.ref (v.1 0), .int p1] S post := by
  refine met_start (by decide +kernel) (Nat.le_of_ble_eq_true rfl) (fun g ok he => ?_)
  refine g_eq (L' := [(0, .ref (v.1 0)), (1, .int p1)]) (st' := []) ?_ rfl rfl
  unfold w_X8_says at h
  refine g_iconst (v := 0) (n := 1) ok dX8_says_0 rfl (by decide) ?_
  refine g_istore_n [(2, .int (0 : Int32)), (0, .ref (v.1 0)), (1, .int p1)] (n := 2) ok dX8_says_1 rfl (by decide) rfl ?_
  refine g_aload_n 1 (n := 3) ok dX8_says_2 rfl rfl ?_
  refine fg_X8_X8_bounds (n := 6) ok dX8_says_3 rfl ?_
  refine g_iconst (v := 4) (n := 7) ok dX8_says_6 rfl (by decide) ?_
  refine g_aload_n 1 (n := 8) ok dX8_says_7 rfl rfl ?_
  refine fg_X8_X8_rule (n := 11) ok dX8_says_8 rfl ?_
  refine g_imul (n := 12) ok dX8_says_11 rfl ?_
  refine g_iload_n 2 (n := 13) ok dX8_says_12 rfl rfl ?_
  refine g_iadd (n := 14) ok dX8_says_13 rfl ?_
  obtain ⟨h0, h⟩ := h
  refine g_iald (c := 10) (t0 := 0) (n := 15) ok (Nat.le_of_ble_eq_true rfl) rfl rfl h0 dX8_says_14 rfl ?_
  refine g_topi (fun z1 ez1 => ?_)
  replace h := h z1 ez1
  refine g_istore_n [(3, .int z1), (2, .int (0 : Int32)), (0, .ref (v.1 0)), (1, .int p1)] (n := 16) ok dX8_says_15 rfl (by decide) rfl ?_
  obtain ⟨n0, h⟩ := h
  exact g_sub [2, 3, 1, 0] rfl (b_X8_says_16 ok he n0 p1 (0 : Int32) z1 S h)
def w_X8_feed (p1 : Int32) (S : Mem) (post : Int32 → Mem → Prop) : Prop := (∀ S1 : Mem, S1 = mset S 0 (upd (S 0) 8 (0 : Int32)) → w_X8_in p1.toInt64 (0 : Int64) (255 : Int64) S1 (fun r2 S2 => ((¬ r2 = 0 → ((¬ (S2 0 13) = (160 : Int32) → (vp_in (S2 0 13) 160 ∧ (∀ S3 : Mem, S3 = mset S2 8 (upd (S2 8) (S2 0 13).toNatClampNeg p1) → (∀ S4 : Mem, S4 = mset S3 0 (upd (S3 0) 13 ((S3 0 13) + (1 : Int32))) → post (S4 0 13) S4)))) ∧ ((S2 0 13) = (160 : Int32) → post (-4 : Int32) S2))) ∧ (r2 = 0 → post (-2 : Int32) S2))))
set_option maxHeartbeats 4000000 in
set_option maxRecDepth 20000 in
theorem c_X8_feed (l : Launch) (v : VmT) (p1 : Int32) (S : Mem) (post : Int32 → Mem → Prop) (h : w_X8_feed p1 S post) : MI l yX8_feed cX8_feed 2 (some .int) 2 (oM v) [.ref (v.1 0), .int p1] S post := by
  refine met_start (by decide +kernel) (Nat.le_of_ble_eq_true rfl) (fun g ok he => ?_)
  refine g_eq (L' := [(0, .ref (v.1 0)), (1, .int p1)]) (st' := []) ?_ rfl rfl
  unfold w_X8_feed at h
  refine g_aload_n 0 (n := 1) ok dX8_feed_0 rfl rfl ?_
  refine g_iconst (v := 0) (n := 2) ok dX8_feed_1 rfl (by decide) ?_
  refine fp_X8_X8_thrown (n := 5) ok dX8_feed_2 rfl ?_
  refine g_mem (fun S1 eS1 => ?_)
  replace h := h S1 eS1
  refine g_iload_n 1 (n := 6) ok dX8_feed_5 rfl rfl ?_
  refine g_i2l (n := 7) ok dX8_feed_6 rfl ?_
  refine g_lconst (v := 0) (n := 8) ok dX8_feed_7 rfl (by decide) ?_
  refine g_ldc2 (v := 255) (n := 11) ok dX8_feed_8 rfl tw_982 ?_
  refine g_callSi (n := 14) (As := [.long p1.toInt64, .long (0 : Int64), .long (255 : Int64)]) (rest := []) ok (c_X8_in l v p1.toInt64 (0 : Int64) (255 : Int64) S1 _ h) cal_X8_in tw_771 tw_772 (by decide) (by decide) rfl (Nat.le_of_ble_eq_true rfl) dX8_feed_11 rfl rfl (fun r2 S2 h => ?_)
  refine g_if_ne (t := 20) (n := 17) ok dX8_feed_14 (by decide) rfl (fun e6 => ?_) (fun e6 => ?_)
  · replace h := h.1 e6
    refine g_aload_n 0 (n := 21) ok dX8_feed_20 rfl rfl ?_
    refine fg_X8_X8_tapeMany (n := 24) ok dX8_feed_21 rfl ?_
    refine g_sipush (v := 160) (n := 27) ok dX8_feed_24 rfl (by decide) ?_
    refine g_icmp_ne (t := 33) (n := 30) ok dX8_feed_27 (by decide) rfl (fun e5 => ?_) (fun e5 => ?_)
    · replace h := h.1 e5
      refine g_aload_n 0 (n := 34) ok dX8_feed_33 rfl rfl ?_
      refine fg_X8_X8_tape (n := 37) ok dX8_feed_34 rfl ?_
      refine g_aload_n 0 (n := 38) ok dX8_feed_37 rfl rfl ?_
      refine fg_X8_X8_tapeMany (n := 41) ok dX8_feed_38 rfl ?_
      refine g_iload_n 1 (n := 42) ok dX8_feed_41 rfl rfl ?_
      obtain ⟨h0, h⟩ := h
      refine g_iast (c := 8) (t0 := 0) (n := 43) ok (Nat.le_of_ble_eq_true rfl) (fun _ => rfl) rfl h0 dX8_feed_42 rfl ?_
      refine g_mem (fun S3 eS3 => ?_)
      replace h := h S3 eS3
      refine g_aload_n 0 (n := 44) ok dX8_feed_43 rfl rfl ?_
      refine g_dup (n := 45) ok dX8_feed_44 rfl rfl ?_
      refine fg_X8_X8_tapeMany (n := 48) ok dX8_feed_45 rfl ?_
      refine g_iconst (v := 1) (n := 49) ok dX8_feed_48 rfl (by decide) ?_
      refine g_iadd (n := 50) ok dX8_feed_49 rfl ?_
      refine fp_X8_X8_tapeMany (n := 53) ok dX8_feed_50 rfl ?_
      refine g_mem (fun S4 eS4 => ?_)
      replace h := h S4 eS4
      refine g_aload_n 0 (n := 54) ok dX8_feed_53 rfl rfl ?_
      refine fg_X8_X8_tapeMany (n := 57) ok dX8_feed_54 rfl ?_
      exact g_iret ok he h dX8_feed_57
    · replace h := h.2 e5
      refine g_bipush (v := -4) (n := 32) ok dX8_feed_30 rfl (by decide) ?_
      exact g_iret ok he h dX8_feed_32
  · replace h := h.2 e6
    refine g_bipush (v := -2) (n := 19) ok dX8_feed_17 rfl (by decide) ?_
    exact g_iret ok he h dX8_feed_19
def w_X8_text (S : Mem) (post : Int32 → Mem → Prop) : Prop := (∀ S1 : Mem, S1 = mset S 0 (upd (S 0) 8 (0 : Int32)) → ((¬ (S1 0 14) = (6 : Int32) → w_X8_readText  S1 (fun r2 S2 => (∀ S3 : Mem, S3 = mset S2 0 (upd (S2 0) 13 (0 : Int32)) → ((r2 < 0 → (∀ S4 : Mem, S4 = mset S3 0 (upd (S3 0) 14 ((S3 0 14) + (1 : Int32))) → post ((S4 0 14) - (1 : Int32)) S4)) ∧ (¬ r2 < 0 → post ((-100 : Int32) - r2) S3))))) ∧ ((S1 0 14) = (6 : Int32) → post (-4 : Int32) S1)))
set_option maxHeartbeats 4000000 in
set_option maxRecDepth 20000 in
theorem c_X8_text (l : Launch) (v : VmT) (S : Mem) (post : Int32 → Mem → Prop) (h : w_X8_text  S post) : MI l yX8_text cX8_text 2 (some .int) 7 (oM v) [.ref (v.1 0)] S post := by
  refine met_start (by decide +kernel) (Nat.le_of_ble_eq_true rfl) (fun g ok he => ?_)
  refine g_eq (L' := [(0, .ref (v.1 0))]) (st' := []) ?_ rfl rfl
  unfold w_X8_text at h
  refine g_aload_n 0 (n := 1) ok dX8_text_0 rfl rfl ?_
  refine g_iconst (v := 0) (n := 2) ok dX8_text_1 rfl (by decide) ?_
  refine fp_X8_X8_thrown (n := 5) ok dX8_text_2 rfl ?_
  refine g_mem (fun S1 eS1 => ?_)
  replace h := h S1 eS1
  refine g_aload_n 0 (n := 6) ok dX8_text_5 rfl rfl ?_
  refine fg_X8_X8_textMany (n := 9) ok dX8_text_6 rfl ?_
  refine g_bipush (v := 6) (n := 11) ok dX8_text_9 rfl (by decide) ?_
  refine g_icmp_ne (t := 17) (n := 14) ok dX8_text_11 (by decide) rfl (fun e6 => ?_) (fun e6 => ?_)
  · replace h := h.1 e6
    refine g_aload_n 0 (n := 18) ok dX8_text_17 rfl rfl ?_
    refine g_callVi (n := 21) (As := []) (rest := []) (c := 0) ok (c_X8_readText l v  S1 _ h) cal_X8_readText tw_757 tw_759 tp_62 (Nat.le_of_ble_eq_true rfl) rfl rfl (by decide) (by decide) rfl (Nat.le_of_ble_eq_true rfl) dX8_text_18 rfl rfl (fun r2 S2 h => ?_)
    refine g_istore_n [(1, .int r2), (0, .ref (v.1 0))] (n := 22) ok dX8_text_21 rfl (by decide) rfl ?_
    refine g_aload_n 1 (n := 23) ok dX8_text_22 rfl rfl ?_
    refine g_iconst (v := 0) (n := 24) ok dX8_text_23 rfl (by decide) ?_
    refine fp_X8_X8_tapeMany (n := 27) ok dX8_text_24 rfl ?_
    refine g_mem (fun S3 eS3 => ?_)
    replace h := h S3 eS3
    refine g_iload_n 0 (n := 28) ok dX8_text_27 rfl rfl ?_
    refine g_if_lt (t := 36) (n := 31) ok dX8_text_28 (by decide) rfl (fun e5 => ?_) (fun e5 => ?_)
    · replace h := h.1 e5
      refine g_aload_n 1 (n := 37) ok dX8_text_36 rfl rfl ?_
      refine g_dup (n := 38) ok dX8_text_37 rfl rfl ?_
      refine fg_X8_X8_textMany (n := 41) ok dX8_text_38 rfl ?_
      refine g_iconst (v := 1) (n := 42) ok dX8_text_41 rfl (by decide) ?_
      refine g_iadd (n := 43) ok dX8_text_42 rfl ?_
      refine fp_X8_X8_textMany (n := 46) ok dX8_text_43 rfl ?_
      refine g_mem (fun S4 eS4 => ?_)
      replace h := h S4 eS4
      refine g_aload_n 1 (n := 47) ok dX8_text_46 rfl rfl ?_
      refine fg_X8_X8_textMany (n := 50) ok dX8_text_47 rfl ?_
      refine g_iconst (v := 1) (n := 51) ok dX8_text_50 rfl (by decide) ?_
      refine g_isub (n := 52) ok dX8_text_51 rfl ?_
      exact g_iret ok he h dX8_text_52
    · replace h := h.2 e5
      refine g_bipush (v := -100) (n := 33) ok dX8_text_31 rfl (by decide) ?_
      refine g_iload_n 0 (n := 34) ok dX8_text_33 rfl rfl ?_
      refine g_isub (n := 35) ok dX8_text_34 rfl ?_
      exact g_iret ok he h dX8_text_35
  · replace h := h.2 e6
    refine g_bipush (v := -4) (n := 16) ok dX8_text_14 rfl (by decide) ?_
    exact g_iret ok he h dX8_text_16
def w_X8_force (p1 : Int32) (S : Mem) (post : Int32 → Mem → Prop) : Prop := (∀ S1 : Mem, S1 = mset S 0 (upd (S 0) 8 (0 : Int32)) → w_X8_in p1.toInt64 (0 : Int64) (((S1 0 14) - (1 : Int32)).toInt64) S1 (fun r2 S2 => ((¬ r2 = 0 → (∀ z3 : Int32, z3 = S2 0 15 → (∀ S4 : Mem, S4 = mset S2 0 (upd (S2 0) 15 p1) → post z3 S4))) ∧ (r2 = 0 → post (-2 : Int32) S2))))
set_option maxHeartbeats 4000000 in
set_option maxRecDepth 20000 in
theorem c_X8_force (l : Launch) (v : VmT) (p1 : Int32) (S : Mem) (post : Int32 → Mem → Prop) (h : w_X8_force p1 S post) : MI l yX8_force cX8_force 3 (some .int) 2 (oM v) [.ref (v.1 0), .int p1] S post := by
  refine met_start (by decide +kernel) (Nat.le_of_ble_eq_true rfl) (fun g ok he => ?_)
  refine g_eq (L' := [(0, .ref (v.1 0)), (1, .int p1)]) (st' := []) ?_ rfl rfl
  unfold w_X8_force at h
  refine g_aload_n 0 (n := 1) ok dX8_force_0 rfl rfl ?_
  refine g_iconst (v := 0) (n := 2) ok dX8_force_1 rfl (by decide) ?_
  refine fp_X8_X8_thrown (n := 5) ok dX8_force_2 rfl ?_
  refine g_mem (fun S1 eS1 => ?_)
  replace h := h S1 eS1
  refine g_iload_n 1 (n := 6) ok dX8_force_5 rfl rfl ?_
  refine g_i2l (n := 7) ok dX8_force_6 rfl ?_
  refine g_lconst (v := 0) (n := 8) ok dX8_force_7 rfl (by decide) ?_
  refine g_aload_n 0 (n := 9) ok dX8_force_8 rfl rfl ?_
  refine fg_X8_X8_textMany (n := 12) ok dX8_force_9 rfl ?_
  refine g_iconst (v := 1) (n := 13) ok dX8_force_12 rfl (by decide) ?_
  refine g_isub (n := 14) ok dX8_force_13 rfl ?_
  refine g_i2l (n := 15) ok dX8_force_14 rfl ?_
  refine g_callSi (n := 18) (As := [.long p1.toInt64, .long (0 : Int64), .long (((S1 0 14) - (1 : Int32)).toInt64)]) (rest := []) ok (c_X8_in l v p1.toInt64 (0 : Int64) (((S1 0 14) - (1 : Int32)).toInt64) S1 _ h) cal_X8_in tw_771 tw_772 (by decide) (by decide) rfl (Nat.le_of_ble_eq_true rfl) dX8_force_15 rfl rfl (fun r2 S2 h => ?_)
  refine g_if_ne (t := 24) (n := 21) ok dX8_force_18 (by decide) rfl (fun e5 => ?_) (fun e5 => ?_)
  · replace h := h.1 e5
    refine g_aload_n 0 (n := 25) ok dX8_force_24 rfl rfl ?_
    refine fg_X8_X8_rule (n := 28) ok dX8_force_25 rfl ?_
    refine g_topi (fun z3 ez3 => ?_)
    replace h := h z3 ez3
    refine g_istore_n [(2, .int z3), (0, .ref (v.1 0)), (1, .int p1)] (n := 29) ok dX8_force_28 rfl (by decide) rfl ?_
    refine g_aload_n 1 (n := 30) ok dX8_force_29 rfl rfl ?_
    refine g_iload_n 2 (n := 31) ok dX8_force_30 rfl rfl ?_
    refine fp_X8_X8_rule (n := 34) ok dX8_force_31 rfl ?_
    refine g_mem (fun S4 eS4 => ?_)
    replace h := h S4 eS4
    refine g_iload_n 0 (n := 35) ok dX8_force_34 rfl rfl ?_
    exact g_iret ok he h dX8_force_35
  · replace h := h.2 e5
    refine g_bipush (v := -2) (n := 23) ok dX8_force_21 rfl (by decide) ?_
    exact g_iret ok he h dX8_force_23
def w_X8_tallOf_119 (post : Int32 → Mem → Prop) (y0 : Int32) (S : Mem) : Prop := post y0 S
set_option maxHeartbeats 4000000 in
set_option maxRecDepth 20000 in
theorem b_X8_tallOf_119 {v : VmT} {l : Launch} {g : CxT} (ok : Ok l g (oM v) 6 cX8_tallOf RX8 (some .int)) {post : Int32 → Mem → Prop} (he : EndQ g (oM v) (va_Qi post (fun S1 t => BX (oM v) S1 t) (AX (oM v)))) (y0 : Int32) (S : Mem) (h : w_X8_tallOf_119 post y0 S) : G g (oM v) 1 6 119 [] [.int y0] S := by
  unfold w_X8_tallOf_119 at h
  exact g_iret ok he h dX8_tallOf_119
def w_X8_tallOf_110 (post : Int32 → Mem → Prop) (x3 : Int32) (S : Mem) : Prop := ((0 ≤ x3 → w_X8_tallOf_119 post x3 S) ∧ (¬ 0 ≤ x3 → w_X8_tallOf_119 post (0 : Int32) S))
set_option maxHeartbeats 4000000 in
set_option maxRecDepth 20000 in
theorem b_X8_tallOf_110 {v : VmT} {l : Launch} {g : CxT} (ok : Ok l g (oM v) 6 cX8_tallOf RX8 (some .int)) {post : Int32 → Mem → Prop} (he : EndQ g (oM v) (va_Qi post (fun S1 t => BX (oM v) S1 t) (AX (oM v)))) (x3 : Int32) (S : Mem) (h : w_X8_tallOf_110 post x3 S) : G g (oM v) 1 6 110 [(3, .int x3)] [] S := by
  unfold w_X8_tallOf_110 at h
  refine g_iload_n 0 (n := 111) ok dX8_tallOf_110 rfl rfl ?_
  refine g_if_ge (t := 118) (n := 114) ok dX8_tallOf_111 (by decide) rfl (fun e1 => ?_) (fun e1 => ?_)
  · replace h := h.1 e1
    refine g_iload_n 0 (n := 119) ok dX8_tallOf_118 rfl rfl ?_
    exact g_sub [] rfl (b_X8_tallOf_119 ok he x3 S h)
  · replace h := h.2 e1
    refine g_iconst (v := 0) (n := 115) ok dX8_tallOf_114 rfl (by decide) ?_
    refine g_goto (t := 119) ok dX8_tallOf_115 (by decide) ?_
    exact g_sub [] rfl (b_X8_tallOf_119 ok he (0 : Int32) S h)
def w_X8_tallOf (p1 : Int32) (p2 : Int32) (S : Mem) (post : Int32 → Mem → Prop) : Prop := (vp_in p1 4 ∧ (∀ z1 : Int32, z1 = S 3 p1.toNatClampNeg → (vp_in p1 4 ∧ (∀ z2 : Int32, z2 = S 4 p1.toNatClampNeg → (∀ z3 : Int32, z3 = (z1 + z2) - (p2 / (2 : Int32)) → (vp_in p1 4 ∧ (∀ z4 : Int32, z4 = S 2 p1.toNatClampNeg → ((z4 = 1 → w_X8_tallOf_110 post z3 S) ∧ (¬ z4 = 1 → ((z4 = 2 → (∀ z7 : Int32, z7 = z1 + ((3 : Int32) * z2) → w_X8_tallOf_110 post z7 S)) ∧ (¬ z4 = 2 → ((z4 = 3 → (∀ z9 : Int32, z9 = z3 / (2 : Int32) → w_X8_tallOf_110 post z9 S)) ∧ (¬ z4 = 3 → ((z4 = 4 → (∀ z11 : Int32, z11 = z1 + (((3 : Int32) * z2) + (2 : Int32)) → w_X8_tallOf_110 post z11 S)) ∧ (¬ z4 = 4 → ((z4 = 5 → (∀ z13 : Int32, z13 = z1 - (p2 * z2) → w_X8_tallOf_110 post z13 S)) ∧ (¬ z4 = 5 → w_X8_tallOf_110 post z1 S)))))))))))))))))
set_option maxHeartbeats 4000000 in
set_option maxRecDepth 20000 in
theorem c_X8_tallOf (l : Launch) (v : VmT) (p1 : Int32) (p2 : Int32) (S : Mem) (post : Int32 → Mem → Prop) (h : w_X8_tallOf p1 p2 S post) : MI l yX8_tallOf cX8_tallOf 6 (some .int) 1 (oM v) [.ref (v.1 0), .int p1, .int p2] S post := by
  refine met_start (by decide +kernel) (Nat.le_of_ble_eq_true rfl) (fun g ok he => ?_)
  refine g_eq (L' := [(0, .ref (v.1 0)), (1, .int p1), (2, .int p2)]) (st' := []) ?_ rfl rfl
  unfold w_X8_tallOf at h
  refine g_aload_n 0 (n := 1) ok dX8_tallOf_0 rfl rfl ?_
  refine fg_X8_X8_longs (n := 4) ok dX8_tallOf_1 rfl ?_
  refine g_iload_n 1 (n := 5) ok dX8_tallOf_4 rfl rfl ?_
  obtain ⟨h0, h⟩ := h
  refine g_iald (c := 3) (t0 := 0) (n := 6) ok (Nat.le_of_ble_eq_true rfl) rfl rfl h0 dX8_tallOf_5 rfl ?_
  refine g_topi (fun z1 ez1 => ?_)
  replace h := h z1 ez1
  refine g_istore_n [(3, .int z1), (0, .ref (v.1 0)), (1, .int p1), (2, .int p2)] (n := 7) ok dX8_tallOf_6 rfl (by decide) rfl ?_
  refine g_aload_n 1 (n := 8) ok dX8_tallOf_7 rfl rfl ?_
  refine fg_X8_X8_numbers (n := 11) ok dX8_tallOf_8 rfl ?_
  refine g_iload_n 2 (n := 12) ok dX8_tallOf_11 rfl rfl ?_
  obtain ⟨h0, h⟩ := h
  refine g_iald (c := 4) (t0 := 0) (n := 13) ok (Nat.le_of_ble_eq_true rfl) rfl rfl h0 dX8_tallOf_12 rfl ?_
  refine g_topi (fun z2 ez2 => ?_)
  replace h := h z2 ez2
  refine g_istore [(4, .int z2), (3, .int z1), (0, .ref (v.1 0)), (1, .int p1), (2, .int p2)] (n := 15) ok dX8_tallOf_13 rfl (by decide) rfl ?_
  refine g_iload_n 1 (n := 16) ok dX8_tallOf_15 rfl rfl ?_
  refine g_iload 0 (n := 18) ok dX8_tallOf_16 rfl rfl ?_
  refine g_iadd (n := 19) ok dX8_tallOf_18 rfl ?_
  refine g_iload_n 4 (n := 20) ok dX8_tallOf_19 rfl rfl ?_
  refine g_iconst (v := 2) (n := 21) ok dX8_tallOf_20 rfl (by decide) ?_
  refine g_idiv (n := 22) ok dX8_tallOf_21 rfl (by decide) ?_
  refine g_isub (n := 23) ok dX8_tallOf_22 rfl ?_
  refine g_topi (fun z3 ez3 => ?_)
  replace h := h z3 ez3
  refine g_istore [(5, .int z3), (4, .int z2), (3, .int z1), (0, .ref (v.1 0)), (1, .int p1), (2, .int p2)] (n := 25) ok dX8_tallOf_23 rfl (by decide) rfl ?_
  refine g_aload_n 3 (n := 26) ok dX8_tallOf_25 rfl rfl ?_
  refine fg_X8_X8_kinds (n := 29) ok dX8_tallOf_26 rfl ?_
  refine g_iload_n 4 (n := 30) ok dX8_tallOf_29 rfl rfl ?_
  obtain ⟨h0, h⟩ := h
  refine g_iald (c := 2) (t0 := 0) (n := 31) ok (Nat.le_of_ble_eq_true rfl) rfl rfl h0 dX8_tallOf_30 rfl ?_
  refine g_topi (fun z4 ez4 => ?_)
  replace h := h z4 ez4
  by_cases e5 : z4 = 1
  · replace h := h.1 e5
    refine g_tsIn (off := 33) (t := 64) ok dX8_tallOf_31 (by rw [e5]; decide) (by rw [e5]; decide) (by rw [e5]; rfl) (by decide) ?_
    refine g_iload 0 (n := 66) ok dX8_tallOf_64 rfl rfl ?_
    refine g_istore_n [(3, .int z3), (5, .int z3), (4, .int z2), (0, .ref (v.1 0)), (1, .int p1), (2, .int p2)] (n := 67) ok dX8_tallOf_66 rfl (by decide) rfl ?_
    refine g_goto (t := 110) ok dX8_tallOf_67 (by decide) ?_
    exact g_sub [0] rfl (b_X8_tallOf_110 ok he z3 S h)
  · replace h := h.2 e5
    by_cases e6 : z4 = 2
    · replace h := h.1 e6
      refine g_tsIn (off := 39) (t := 70) ok dX8_tallOf_31 (by rw [e6]; decide) (by rw [e6]; decide) (by rw [e6]; rfl) (by decide) ?_
      refine g_iload_n 2 (n := 71) ok dX8_tallOf_70 rfl rfl ?_
      refine g_iconst (v := 3) (n := 72) ok dX8_tallOf_71 rfl (by decide) ?_
      refine g_iload 1 (n := 74) ok dX8_tallOf_72 rfl rfl ?_
      refine g_imul (n := 75) ok dX8_tallOf_74 rfl ?_
      refine g_iadd (n := 76) ok dX8_tallOf_75 rfl ?_
      refine g_topi (fun z7 ez7 => ?_)
      replace h := h z7 ez7
      refine g_istore_n [(3, .int z7), (5, .int z3), (4, .int z2), (0, .ref (v.1 0)), (1, .int p1), (2, .int p2)] (n := 77) ok dX8_tallOf_76 rfl (by decide) rfl ?_
      refine g_goto (t := 110) ok dX8_tallOf_77 (by decide) ?_
      exact g_sub [0] rfl (b_X8_tallOf_110 ok he z7 S h)
    · replace h := h.2 e6
      by_cases e8 : z4 = 3
      · replace h := h.1 e8
        refine g_tsIn (off := 49) (t := 80) ok dX8_tallOf_31 (by rw [e8]; decide) (by rw [e8]; decide) (by rw [e8]; rfl) (by decide) ?_
        refine g_iload 0 (n := 82) ok dX8_tallOf_80 rfl rfl ?_
        refine g_iconst (v := 2) (n := 83) ok dX8_tallOf_82 rfl (by decide) ?_
        refine g_idiv (n := 84) ok dX8_tallOf_83 rfl (by decide) ?_
        refine g_topi (fun z9 ez9 => ?_)
        replace h := h z9 ez9
        refine g_istore_n [(3, .int z9), (5, .int z3), (4, .int z2), (0, .ref (v.1 0)), (1, .int p1), (2, .int p2)] (n := 85) ok dX8_tallOf_84 rfl (by decide) rfl ?_
        refine g_goto (t := 110) ok dX8_tallOf_85 (by decide) ?_
        exact g_sub [0] rfl (b_X8_tallOf_110 ok he z9 S h)
      · replace h := h.2 e8
        by_cases e10 : z4 = 4
        · replace h := h.1 e10
          refine g_tsIn (off := 57) (t := 88) ok dX8_tallOf_31 (by rw [e10]; decide) (by rw [e10]; decide) (by rw [e10]; rfl) (by decide) ?_
          refine g_iload_n 2 (n := 89) ok dX8_tallOf_88 rfl rfl ?_
          refine g_iconst (v := 3) (n := 90) ok dX8_tallOf_89 rfl (by decide) ?_
          refine g_iload 1 (n := 92) ok dX8_tallOf_90 rfl rfl ?_
          refine g_imul (n := 93) ok dX8_tallOf_92 rfl ?_
          refine g_iconst (v := 2) (n := 94) ok dX8_tallOf_93 rfl (by decide) ?_
          refine g_iadd (n := 95) ok dX8_tallOf_94 rfl ?_
          refine g_iadd (n := 96) ok dX8_tallOf_95 rfl ?_
          refine g_topi (fun z11 ez11 => ?_)
          replace h := h z11 ez11
          refine g_istore_n [(3, .int z11), (5, .int z3), (4, .int z2), (0, .ref (v.1 0)), (1, .int p1), (2, .int p2)] (n := 97) ok dX8_tallOf_96 rfl (by decide) rfl ?_
          refine g_goto (t := 110) ok dX8_tallOf_97 (by decide) ?_
          exact g_sub [0] rfl (b_X8_tallOf_110 ok he z11 S h)
        · replace h := h.2 e10
          by_cases e12 : z4 = 5
          · replace h := h.1 e12
            refine g_tsIn (off := 69) (t := 100) ok dX8_tallOf_31 (by rw [e12]; decide) (by rw [e12]; decide) (by rw [e12]; rfl) (by decide) ?_
            refine g_iload_n 2 (n := 101) ok dX8_tallOf_100 rfl rfl ?_
            refine g_iload_n 5 (n := 102) ok dX8_tallOf_101 rfl rfl ?_
            refine g_iload 1 (n := 104) ok dX8_tallOf_102 rfl rfl ?_
            refine g_imul (n := 105) ok dX8_tallOf_104 rfl ?_
            refine g_isub (n := 106) ok dX8_tallOf_105 rfl ?_
            refine g_topi (fun z13 ez13 => ?_)
            replace h := h z13 ez13
            refine g_istore_n [(3, .int z13), (5, .int z3), (4, .int z2), (0, .ref (v.1 0)), (1, .int p1), (2, .int p2)] (n := 107) ok dX8_tallOf_106 rfl (by decide) rfl ?_
            refine g_goto (t := 110) ok dX8_tallOf_107 (by decide) ?_
            exact g_sub [0] rfl (b_X8_tallOf_110 ok he z13 S h)
          · replace h := h.2 e12
            refine g_tsOut (t := 110) ok dX8_tallOf_31 (by have q0 := lv_neT (a := 1) e5 rfl; have q1 := lv_neT (a := 2) e6 rfl; have q2 := lv_neT (a := 3) e8 rfl; have q3 := lv_neT (a := 4) e10 rfl; have q4 := lv_neT (a := 5) e12 rfl; omega) (by decide) ?_
            exact g_sub [2] rfl (b_X8_tallOf_110 ok he z1 S h)
def w_X8_givesOf_75 (post : Int32 → Mem → Prop) (y0 : Int32) (S : Mem) : Prop := post y0 S
set_option maxHeartbeats 4000000 in
set_option maxRecDepth 20000 in
theorem b_X8_givesOf_75 {v : VmT} {l : Launch} {g : CxT} (ok : Ok l g (oM v) 6 cX8_givesOf RX8 (some .int)) {post : Int32 → Mem → Prop} (he : EndQ g (oM v) (va_Qi post (fun S1 t => BX (oM v) S1 t) (AX (oM v)))) (y0 : Int32) (S : Mem) (h : w_X8_givesOf_75 post y0 S) : G g (oM v) 1 6 75 [] [.int y0] S := by
  unfold w_X8_givesOf_75 at h
  exact g_iret ok he h dX8_givesOf_75
def w_X8_givesOf_21 (post : Int32 → Mem → Prop) (x1 : Int32) (x2 : Int32) (x3 : Int32) (y0 : Int32) (S : Mem) : Prop := (vp_in x1 4 ∧ (∀ z1 : Int32, z1 = S 2 x1.toNatClampNeg → ((¬ z1 = (1 : Int32) → ((¬ z1 = (3 : Int32) → ((¬ z1 = (5 : Int32) → w_X8_givesOf_75 post (0 : Int32) S) ∧ (z1 = (5 : Int32) → ((x3 ≤ x2 → w_X8_givesOf_75 post x3 S) ∧ (¬ x3 ≤ x2 → w_X8_givesOf_75 post x2 S))))) ∧ (z1 = (3 : Int32) → w_X8_givesOf_75 post (y0 + (1 : Int32)) S))) ∧ (z1 = (1 : Int32) → w_X8_givesOf_75 post y0 S))))
set_option maxHeartbeats 4000000 in
set_option maxRecDepth 20000 in
theorem b_X8_givesOf_21 {v : VmT} {l : Launch} {g : CxT} (ok : Ok l g (oM v) 6 cX8_givesOf RX8 (some .int)) {post : Int32 → Mem → Prop} (he : EndQ g (oM v) (va_Qi post (fun S1 t => BX (oM v) S1 t) (AX (oM v)))) (x1 : Int32) (x2 : Int32) (x3 : Int32) (y0 : Int32) (S : Mem) (h : w_X8_givesOf_21 post x1 x2 x3 y0 S) : G g (oM v) 1 6 21 [(0, .ref (v.1 0)), (1, .int x1), (2, .int x2), (3, .int x3)] [.int y0] S := by
  unfold w_X8_givesOf_21 at h
  refine g_istore [(4, .int y0), (0, .ref (v.1 0)), (1, .int x1), (2, .int x2), (3, .int x3)] (n := 23) ok dX8_givesOf_21 rfl (by decide) rfl ?_
  refine g_aload_n 1 (n := 24) ok dX8_givesOf_23 rfl rfl ?_
  refine fg_X8_X8_kinds (n := 27) ok dX8_givesOf_24 rfl ?_
  refine g_iload_n 2 (n := 28) ok dX8_givesOf_27 rfl rfl ?_
  obtain ⟨h0, h⟩ := h
  refine g_iald (c := 2) (t0 := 0) (n := 29) ok (Nat.le_of_ble_eq_true rfl) rfl rfl h0 dX8_givesOf_28 rfl ?_
  refine g_topi (fun z1 ez1 => ?_)
  replace h := h z1 ez1
  refine g_istore [(5, .int z1), (4, .int y0), (0, .ref (v.1 0)), (1, .int x1), (2, .int x2), (3, .int x3)] (n := 31) ok dX8_givesOf_29 rfl (by decide) rfl ?_
  refine g_iload 0 (n := 33) ok dX8_givesOf_31 rfl rfl ?_
  refine g_iconst (v := 1) (n := 34) ok dX8_givesOf_33 rfl (by decide) ?_
  refine g_icmp_ne (t := 42) (n := 37) ok dX8_givesOf_34 (by decide) rfl (fun e5 => ?_) (fun e5 => ?_)
  · replace h := h.1 e5
    refine g_iload 0 (n := 44) ok dX8_givesOf_42 rfl rfl ?_
    refine g_iconst (v := 3) (n := 45) ok dX8_givesOf_44 rfl (by decide) ?_
    refine g_icmp_ne (t := 55) (n := 48) ok dX8_givesOf_45 (by decide) rfl (fun e4 => ?_) (fun e4 => ?_)
    · replace h := h.1 e4
      refine g_iload 0 (n := 57) ok dX8_givesOf_55 rfl rfl ?_
      refine g_iconst (v := 5) (n := 58) ok dX8_givesOf_57 rfl (by decide) ?_
      refine g_icmp_ne (t := 74) (n := 61) ok dX8_givesOf_58 (by decide) rfl (fun e3 => ?_) (fun e3 => ?_)
      · replace h := h.1 e3
        refine g_iconst (v := 0) (n := 75) ok dX8_givesOf_74 rfl (by decide) ?_
        exact g_sub [] rfl (b_X8_givesOf_75 ok he (0 : Int32) S h)
      · replace h := h.2 e3
        refine g_iload_n 4 (n := 62) ok dX8_givesOf_61 rfl rfl ?_
        refine g_iload_n 5 (n := 63) ok dX8_givesOf_62 rfl rfl ?_
        refine g_icmp_ge (t := 70) (n := 66) ok dX8_givesOf_63 (by decide) rfl (fun e2 => ?_) (fun e2 => ?_)
        · replace h := h.1 e2
          refine g_iload_n 5 (n := 71) ok dX8_givesOf_70 rfl rfl ?_
          refine g_goto (t := 75) ok dX8_givesOf_71 (by decide) ?_
          exact g_sub [] rfl (b_X8_givesOf_75 ok he x3 S h)
        · replace h := h.2 e2
          refine g_iload_n 4 (n := 67) ok dX8_givesOf_66 rfl rfl ?_
          refine g_goto (t := 75) ok dX8_givesOf_67 (by decide) ?_
          exact g_sub [] rfl (b_X8_givesOf_75 ok he x2 S h)
    · replace h := h.2 e4
      refine g_iload 1 (n := 50) ok dX8_givesOf_48 rfl rfl ?_
      refine g_iconst (v := 1) (n := 51) ok dX8_givesOf_50 rfl (by decide) ?_
      refine g_iadd (n := 52) ok dX8_givesOf_51 rfl ?_
      refine g_goto (t := 75) ok dX8_givesOf_52 (by decide) ?_
      exact g_sub [] rfl (b_X8_givesOf_75 ok he (y0 + (1 : Int32)) S h)
  · replace h := h.2 e5
    refine g_iload 1 (n := 39) ok dX8_givesOf_37 rfl rfl ?_
    refine g_goto (t := 75) ok dX8_givesOf_39 (by decide) ?_
    exact g_sub [] rfl (b_X8_givesOf_75 ok he y0 S h)
def w_X8_givesOf (p1 : Int32) (p2 : Int32) (S : Mem) (post : Int32 → Mem → Prop) : Prop := (vp_in p1 4 ∧ (∀ z1 : Int32, z1 = S 4 p1.toNatClampNeg → ((z1 ≤ (p2 / (2 : Int32)) → w_X8_givesOf_21 post p1 p2 z1 z1 S) ∧ (¬ z1 ≤ (p2 / (2 : Int32)) → w_X8_givesOf_21 post p1 p2 z1 (p2 / (2 : Int32)) S))))
set_option maxHeartbeats 4000000 in
set_option maxRecDepth 20000 in
theorem c_X8_givesOf (l : Launch) (v : VmT) (p1 : Int32) (p2 : Int32) (S : Mem) (post : Int32 → Mem → Prop) (h : w_X8_givesOf p1 p2 S post) : MI l yX8_givesOf cX8_givesOf 6 (some .int) 1 (oM v) [.ref (v.1 0), .int p1, .int p2] S post := by
  refine met_start (by decide +kernel) (Nat.le_of_ble_eq_true rfl) (fun g ok he => ?_)
  refine g_eq (L' := [(0, .ref (v.1 0)), (1, .int p1), (2, .int p2)]) (st' := []) ?_ rfl rfl
  unfold w_X8_givesOf at h
  refine g_aload_n 0 (n := 1) ok dX8_givesOf_0 rfl rfl ?_
  refine fg_X8_X8_numbers (n := 4) ok dX8_givesOf_1 rfl ?_
  refine g_iload_n 1 (n := 5) ok dX8_givesOf_4 rfl rfl ?_
  obtain ⟨h0, h⟩ := h
  refine g_iald (c := 4) (t0 := 0) (n := 6) ok (Nat.le_of_ble_eq_true rfl) rfl rfl h0 dX8_givesOf_5 rfl ?_
  refine g_topi (fun z1 ez1 => ?_)
  replace h := h z1 ez1
  refine g_istore_n [(3, .int z1), (0, .ref (v.1 0)), (1, .int p1), (2, .int p2)] (n := 7) ok dX8_givesOf_6 rfl (by decide) rfl ?_
  refine g_iload_n 3 (n := 8) ok dX8_givesOf_7 rfl rfl ?_
  refine g_iconst (v := 2) (n := 9) ok dX8_givesOf_8 rfl (by decide) ?_
  refine g_idiv (n := 10) ok dX8_givesOf_9 rfl (by decide) ?_
  refine g_iload_n 0 (n := 11) ok dX8_givesOf_10 rfl rfl ?_
  refine g_icmp_ge (t := 20) (n := 14) ok dX8_givesOf_11 (by decide) rfl (fun e2 => ?_) (fun e2 => ?_)
  · replace h := h.1 e2
    refine g_iload_n 0 (n := 21) ok dX8_givesOf_20 rfl rfl ?_
    exact g_sub [1, 2, 3, 0] rfl (b_X8_givesOf_21 ok he p1 p2 z1 z1 S h)
  · replace h := h.2 e2
    refine g_iload_n 3 (n := 15) ok dX8_givesOf_14 rfl rfl ?_
    refine g_iconst (v := 2) (n := 16) ok dX8_givesOf_15 rfl (by decide) ?_
    refine g_idiv (n := 17) ok dX8_givesOf_16 rfl (by decide) ?_
    refine g_goto (t := 21) ok dX8_givesOf_17 (by decide) ?_
    exact g_sub [1, 2, 3, 0] rfl (b_X8_givesOf_21 ok he p1 p2 z1 (p2 / (2 : Int32)) S h)
def w_X8_cellOf_73 (post : Int32 → Mem → Prop) (x2 : Int32) (x5 : Int32) (y0 : Int32) (S : Mem) : Prop := w_X8_held ((x2 / (8 : Int32)) + ((S 0 5) * y0)) (0 : Int32) (7 : Int32) S (fun r1 S1 => w_X8_held ((jrem x2 (8 : Int32)) + ((S1 0 5) * x5)) (0 : Int32) (7 : Int32) S1 (fun r2 S2 => post (((8 : Int32) * r1) + r2) S2))
set_option maxHeartbeats 4000000 in
set_option maxRecDepth 20000 in
theorem b_X8_cellOf_73 {v : VmT} {l : Launch} {g : CxT} (ok : Ok l g (oM v) 7 cX8_cellOf RX8 (some .int)) {post : Int32 → Mem → Prop} (he : EndQ g (oM v) (va_Qi post (fun S1 t => BX (oM v) S1 t) (AX (oM v)))) (x2 : Int32) (x5 : Int32) (y0 : Int32) (S : Mem) (h : w_X8_cellOf_73 post x2 x5 y0 S) : G g (oM v) 2 7 73 [(0, .ref (v.1 0)), (2, .int x2), (5, .int x5)] [.int y0] S := by
  unfold w_X8_cellOf_73 at h
  refine g_istore [(6, .int y0), (0, .ref (v.1 0)), (2, .int x2), (5, .int x5)] (n := 75) ok dX8_cellOf_73 rfl (by decide) rfl ?_
  refine g_bipush (v := 8) (n := 77) ok dX8_cellOf_75 rfl (by decide) ?_
  refine g_iload_n 2 (n := 78) ok dX8_cellOf_77 rfl rfl ?_
  refine g_bipush (v := 8) (n := 80) ok dX8_cellOf_78 rfl (by decide) ?_
  refine g_idiv (n := 81) ok dX8_cellOf_80 rfl (by decide) ?_
  refine g_aload_n 1 (n := 82) ok dX8_cellOf_81 rfl rfl ?_
  refine fg_X8_X8_radius (n := 85) ok dX8_cellOf_82 rfl ?_
  refine g_iload 0 (n := 87) ok dX8_cellOf_85 rfl rfl ?_
  refine g_imul (n := 88) ok dX8_cellOf_87 rfl ?_
  refine g_iadd (n := 89) ok dX8_cellOf_88 rfl ?_
  refine g_iconst (v := 0) (n := 90) ok dX8_cellOf_89 rfl (by decide) ?_
  refine g_bipush (v := 7) (n := 92) ok dX8_cellOf_90 rfl (by decide) ?_
  refine g_callSi (n := 95) (As := [.int ((x2 / (8 : Int32)) + ((S 0 5) * y0)), .int (0 : Int32), .int (7 : Int32)]) (rest := [.int (8 : Int32)]) ok (c_X8_held l v ((x2 / (8 : Int32)) + ((S 0 5) * y0)) (0 : Int32) (7 : Int32) S _ h) cal_X8_held tw_1009 tw_1010 (by decide) (by decide) rfl (Nat.le_of_ble_eq_true rfl) dX8_cellOf_92 rfl rfl (fun r1 S1 h => ?_)
  refine g_imul (n := 96) ok dX8_cellOf_95 rfl ?_
  refine g_iload_n 2 (n := 97) ok dX8_cellOf_96 rfl rfl ?_
  refine g_bipush (v := 8) (n := 99) ok dX8_cellOf_97 rfl (by decide) ?_
  refine g_irem (n := 100) ok dX8_cellOf_99 rfl (by decide) ?_
  refine g_aload_n 1 (n := 101) ok dX8_cellOf_100 rfl rfl ?_
  refine fg_X8_X8_radius (n := 104) ok dX8_cellOf_101 rfl ?_
  refine g_iload 3 (n := 106) ok dX8_cellOf_104 rfl rfl ?_
  refine g_imul (n := 107) ok dX8_cellOf_106 rfl ?_
  refine g_iadd (n := 108) ok dX8_cellOf_107 rfl ?_
  refine g_iconst (v := 0) (n := 109) ok dX8_cellOf_108 rfl (by decide) ?_
  refine g_bipush (v := 7) (n := 111) ok dX8_cellOf_109 rfl (by decide) ?_
  refine g_callSi (n := 114) (As := [.int ((jrem x2 (8 : Int32)) + ((S1 0 5) * x5)), .int (0 : Int32), .int (7 : Int32)]) (rest := [.int ((8 : Int32) * r1)]) ok (c_X8_held l v ((jrem x2 (8 : Int32)) + ((S1 0 5) * x5)) (0 : Int32) (7 : Int32) S1 _ h) cal_X8_held tw_1009 tw_1010 (by decide) (by decide) rfl (Nat.le_of_ble_eq_true rfl) dX8_cellOf_111 rfl rfl (fun r2 S2 h => ?_)
  refine g_iadd (n := 115) ok dX8_cellOf_114 rfl ?_
  exact g_iret ok he h dX8_cellOf_115
def w_X8_cellOf_62 (post : Int32 → Mem → Prop) (x2 : Int32) (x4 : Int32) (x5 : Int32) (S : Mem) : Prop := ((x4 ≤ (4 : Int32) → w_X8_cellOf_73 post x2 x5 (0 : Int32) S) ∧ (¬ x4 ≤ (4 : Int32) → w_X8_cellOf_73 post x2 x5 (-1 : Int32) S))
set_option maxHeartbeats 4000000 in
set_option maxRecDepth 20000 in
theorem b_X8_cellOf_62 {v : VmT} {l : Launch} {g : CxT} (ok : Ok l g (oM v) 7 cX8_cellOf RX8 (some .int)) {post : Int32 → Mem → Prop} (he : EndQ g (oM v) (va_Qi post (fun S1 t => BX (oM v) S1 t) (AX (oM v)))) (x2 : Int32) (x4 : Int32) (x5 : Int32) (S : Mem) (h : w_X8_cellOf_62 post x2 x4 x5 S) : G g (oM v) 2 7 62 [(0, .ref (v.1 0)), (2, .int x2), (4, .int x4), (5, .int x5)] [] S := by
  unfold w_X8_cellOf_62 at h
  refine g_iload 2 (n := 64) ok dX8_cellOf_62 rfl rfl ?_
  refine g_iconst (v := 4) (n := 65) ok dX8_cellOf_64 rfl (by decide) ?_
  refine g_icmp_le (t := 72) (n := 68) ok dX8_cellOf_65 (by decide) rfl (fun e1 => ?_) (fun e1 => ?_)
  · replace h := h.1 e1
    refine g_iconst (v := 0) (n := 73) ok dX8_cellOf_72 rfl (by decide) ?_
    exact g_sub [0, 1, 3] rfl (b_X8_cellOf_73 ok he x2 x5 (0 : Int32) S h)
  · replace h := h.2 e1
    refine g_iconst (v := -1) (n := 69) ok dX8_cellOf_68 rfl (by decide) ?_
    refine g_goto (t := 73) ok dX8_cellOf_69 (by decide) ?_
    exact g_sub [0, 1, 3] rfl (b_X8_cellOf_73 ok he x2 x5 (-1 : Int32) S h)
def w_X8_cellOf_45 (post : Int32 → Mem → Prop) (x2 : Int32) (x4 : Int32) (y0 : Int32) (S : Mem) : Prop := ((x4 ≤ 0 → w_X8_cellOf_62 post x2 x4 y0 S) ∧ (¬ x4 ≤ 0 → (((4 : Int32) ≤ x4 → w_X8_cellOf_62 post x2 x4 y0 S) ∧ (¬ (4 : Int32) ≤ x4 → w_X8_cellOf_73 post x2 y0 (1 : Int32) S))))
set_option maxHeartbeats 4000000 in
set_option maxRecDepth 20000 in
theorem b_X8_cellOf_45 {v : VmT} {l : Launch} {g : CxT} (ok : Ok l g (oM v) 7 cX8_cellOf RX8 (some .int)) {post : Int32 → Mem → Prop} (he : EndQ g (oM v) (va_Qi post (fun S1 t => BX (oM v) S1 t) (AX (oM v)))) (x2 : Int32) (x4 : Int32) (y0 : Int32) (S : Mem) (h : w_X8_cellOf_45 post x2 x4 y0 S) : G g (oM v) 2 7 45 [(0, .ref (v.1 0)), (2, .int x2), (4, .int x4)] [.int y0] S := by
  unfold w_X8_cellOf_45 at h
  refine g_istore [(5, .int y0), (0, .ref (v.1 0)), (2, .int x2), (4, .int x4)] (n := 47) ok dX8_cellOf_45 rfl (by decide) rfl ?_
  refine g_iload 3 (n := 49) ok dX8_cellOf_47 rfl rfl ?_
  refine g_if_le (t := 62) (n := 52) ok dX8_cellOf_49 (by decide) rfl (fun e2 => ?_) (fun e2 => ?_)
  · replace h := h.1 e2
    exact g_sub [1, 2, 3, 0] rfl (b_X8_cellOf_62 ok he x2 x4 y0 S h)
  · replace h := h.2 e2
    refine g_iload 3 (n := 54) ok dX8_cellOf_52 rfl rfl ?_
    refine g_iconst (v := 4) (n := 55) ok dX8_cellOf_54 rfl (by decide) ?_
    refine g_icmp_ge (t := 62) (n := 58) ok dX8_cellOf_55 (by decide) rfl (fun e1 => ?_) (fun e1 => ?_)
    · replace h := h.1 e1
      exact g_sub [1, 2, 3, 0] rfl (b_X8_cellOf_62 ok he x2 x4 y0 S h)
    · replace h := h.2 e1
      refine g_iconst (v := 1) (n := 59) ok dX8_cellOf_58 rfl (by decide) ?_
      refine g_goto (t := 73) ok dX8_cellOf_59 (by decide) ?_
      exact g_sub [1, 2, 0] rfl (b_X8_cellOf_73 ok he x2 y0 (1 : Int32) S h)
def w_X8_cellOf_23 (post : Int32 → Mem → Prop) (x2 : Int32) (x4 : Int32) (S : Mem) : Prop := w_X8_cellOf_45 post x2 x4 (1 : Int32) S
set_option maxHeartbeats 4000000 in
set_option maxRecDepth 20000 in
theorem b_X8_cellOf_23 {v : VmT} {l : Launch} {g : CxT} (ok : Ok l g (oM v) 7 cX8_cellOf RX8 (some .int)) {post : Int32 → Mem → Prop} (he : EndQ g (oM v) (va_Qi post (fun S1 t => BX (oM v) S1 t) (AX (oM v)))) (x2 : Int32) (x4 : Int32) (S : Mem) (h : w_X8_cellOf_23 post x2 x4 S) : G g (oM v) 2 7 23 [(0, .ref (v.1 0)), (2, .int x2), (4, .int x4)] [] S := by
  unfold w_X8_cellOf_23 at h
  refine g_iconst (v := 1) (n := 24) ok dX8_cellOf_23 rfl (by decide) ?_
  refine g_goto (t := 45) ok dX8_cellOf_24 (by decide) ?_
  exact g_sub [0, 1, 2] rfl (b_X8_cellOf_45 ok he x2 x4 (1 : Int32) S h)
def w_X8_cellOf_44 (post : Int32 → Mem → Prop) (x2 : Int32) (x4 : Int32) (S : Mem) : Prop := w_X8_cellOf_45 post x2 x4 (0 : Int32) S
set_option maxHeartbeats 4000000 in
set_option maxRecDepth 20000 in
theorem b_X8_cellOf_44 {v : VmT} {l : Launch} {g : CxT} (ok : Ok l g (oM v) 7 cX8_cellOf RX8 (some .int)) {post : Int32 → Mem → Prop} (he : EndQ g (oM v) (va_Qi post (fun S1 t => BX (oM v) S1 t) (AX (oM v)))) (x2 : Int32) (x4 : Int32) (S : Mem) (h : w_X8_cellOf_44 post x2 x4 S) : G g (oM v) 2 7 44 [(0, .ref (v.1 0)), (2, .int x2), (4, .int x4)] [] S := by
  unfold w_X8_cellOf_44 at h
  refine g_iconst (v := 0) (n := 45) ok dX8_cellOf_44 rfl (by decide) ?_
  exact g_sub [0, 1, 2] rfl (b_X8_cellOf_45 ok he x2 x4 (0 : Int32) S h)
def w_X8_cellOf (p1 : Int32) (p2 : Int32) (p3 : Int32) (S : Mem) (post : Int32 → Mem → Prop) : Prop := (∀ z1 : Int32, z1 = jrem (p3 + ((2 : Int32) * p1)) (8 : Int32) → ((z1 < (2 : Int32) → w_X8_cellOf_23 post p2 z1 S) ∧ (¬ z1 < (2 : Int32) → ((¬ z1 = (7 : Int32) → ((z1 ≤ (2 : Int32) → w_X8_cellOf_44 post p2 z1 S) ∧ (¬ z1 ≤ (2 : Int32) → (((6 : Int32) ≤ z1 → w_X8_cellOf_44 post p2 z1 S) ∧ (¬ (6 : Int32) ≤ z1 → w_X8_cellOf_45 post p2 z1 (-1 : Int32) S))))) ∧ (z1 = (7 : Int32) → w_X8_cellOf_23 post p2 z1 S)))))
set_option maxHeartbeats 4000000 in
set_option maxRecDepth 20000 in
theorem c_X8_cellOf (l : Launch) (v : VmT) (p1 : Int32) (p2 : Int32) (p3 : Int32) (S : Mem) (post : Int32 → Mem → Prop) (h : w_X8_cellOf p1 p2 p3 S post) : MI l yX8_cellOf cX8_cellOf 7 (some .int) 2 (oM v) [.ref (v.1 0), .int p1, .int p2, .int p3] S post := by
  refine met_start (by decide +kernel) (Nat.le_of_ble_eq_true rfl) (fun g ok he => ?_)
  refine g_eq (L' := [(0, .ref (v.1 0)), (1, .int p1), (2, .int p2), (3, .int p3)]) (st' := []) ?_ rfl rfl
  unfold w_X8_cellOf at h
  refine g_iload_n 3 (n := 1) ok dX8_cellOf_0 rfl rfl ?_
  refine g_iconst (v := 2) (n := 2) ok dX8_cellOf_1 rfl (by decide) ?_
  refine g_iload_n 1 (n := 3) ok dX8_cellOf_2 rfl rfl ?_
  refine g_imul (n := 4) ok dX8_cellOf_3 rfl ?_
  refine g_iadd (n := 5) ok dX8_cellOf_4 rfl ?_
  refine g_bipush (v := 8) (n := 7) ok dX8_cellOf_5 rfl (by decide) ?_
  refine g_irem (n := 8) ok dX8_cellOf_7 rfl (by decide) ?_
  refine g_topi (fun z1 ez1 => ?_)
  replace h := h z1 ez1
  refine g_istore [(4, .int z1), (0, .ref (v.1 0)), (1, .int p1), (2, .int p2), (3, .int p3)] (n := 10) ok dX8_cellOf_8 rfl (by decide) rfl ?_
  refine g_iload 0 (n := 12) ok dX8_cellOf_10 rfl rfl ?_
  refine g_iconst (v := 2) (n := 13) ok dX8_cellOf_12 rfl (by decide) ?_
  refine g_icmp_lt (t := 23) (n := 16) ok dX8_cellOf_13 (by decide) rfl (fun e5 => ?_) (fun e5 => ?_)
  · replace h := h.1 e5
    exact g_sub [1, 3, 0] rfl (b_X8_cellOf_23 ok he p2 z1 S h)
  · replace h := h.2 e5
    refine g_iload 0 (n := 18) ok dX8_cellOf_16 rfl rfl ?_
    refine g_bipush (v := 7) (n := 20) ok dX8_cellOf_18 rfl (by decide) ?_
    refine g_icmp_ne (t := 27) (n := 23) ok dX8_cellOf_20 (by decide) rfl (fun e4 => ?_) (fun e4 => ?_)
    · replace h := h.1 e4
      refine g_iload 0 (n := 29) ok dX8_cellOf_27 rfl rfl ?_
      refine g_iconst (v := 2) (n := 30) ok dX8_cellOf_29 rfl (by decide) ?_
      refine g_icmp_le (t := 44) (n := 33) ok dX8_cellOf_30 (by decide) rfl (fun e3 => ?_) (fun e3 => ?_)
      · replace h := h.1 e3
        exact g_sub [1, 3, 0] rfl (b_X8_cellOf_44 ok he p2 z1 S h)
      · replace h := h.2 e3
        refine g_iload 0 (n := 35) ok dX8_cellOf_33 rfl rfl ?_
        refine g_bipush (v := 6) (n := 37) ok dX8_cellOf_35 rfl (by decide) ?_
        refine g_icmp_ge (t := 44) (n := 40) ok dX8_cellOf_37 (by decide) rfl (fun e2 => ?_) (fun e2 => ?_)
        · replace h := h.1 e2
          exact g_sub [1, 3, 0] rfl (b_X8_cellOf_44 ok he p2 z1 S h)
        · replace h := h.2 e2
          refine g_iconst (v := -1) (n := 41) ok dX8_cellOf_40 rfl (by decide) ?_
          refine g_goto (t := 45) ok dX8_cellOf_41 (by decide) ?_
          exact g_sub [1, 3, 0] rfl (b_X8_cellOf_45 ok he p2 z1 (-1 : Int32) S h)
    · replace h := h.2 e4
      exact g_sub [1, 3, 0] rfl (b_X8_cellOf_23 ok he p2 z1 S h)
def w_X8_findLean_144 (K71 : Int32 → Int32 → Int32 → Int32 → Mem → Prop) (post : Mem → Prop) (x2 : Int32) (x3 : Int32) (x5 : Int32) (y0 : Int32) (S : Mem) : Prop := (∀ z1 : Int32, z1 = x5 + 1 → K71 x2 x3 y0 z1 S)
set_option maxHeartbeats 4000000 in
set_option maxRecDepth 20000 in
theorem b_X8_findLean_144 {v : VmT} {l : Launch} {g : CxT} {K71 : Int32 → Int32 → Int32 → Int32 → Mem → Prop} (ok : Ok l g (oM v) 7 cX8_findLean RX8 none) (hK71 : ∀ (x2 : Int32) (x3 : Int32) (x4 : Int32) (x5 : Int32) (S : Mem), K71 x2 x3 x4 x5 S → G g (oM v) 1 7 71 [(0, .ref (v.1 0)), (2, .int x2), (3, .int x3), (4, .int x4), (5, .int x5)] [] S) {post : Mem → Prop} (he : EndQ g (oM v) (va_Qv post (fun S1 t => BX (oM v) S1 t) (AX (oM v)))) (x2 : Int32) (x3 : Int32) (x5 : Int32) (y0 : Int32) (S : Mem) (h : w_X8_findLean_144 K71 post x2 x3 x5 y0 S) : G g (oM v) 1 7 144 [(0, .ref (v.1 0)), (2, .int x2), (3, .int x3), (5, .int x5)] [.int y0] S := by
  unfold w_X8_findLean_144 at h
  refine g_istore [(4, .int y0), (0, .ref (v.1 0)), (2, .int x2), (3, .int x3), (5, .int x5)] (n := 146) ok dX8_findLean_144 rfl (by decide) rfl ?_
  obtain ⟨z1, ez1⟩ : ∃ y : Int32, y = x5 + 1 := ⟨_, rfl⟩
  replace h := h z1 ez1
  refine g_iinc 4 [(5, .int z1), (4, .int y0), (0, .ref (v.1 0)), (2, .int x2), (3, .int x3)] (v := z1) (n := 149) ok dX8_findLean_146 rfl rfl (by rw [ez1]; rfl) (by decide) rfl ?_
  refine g_goto (t := 71) ok dX8_findLean_149 (by decide) ?_
  exact g_sub [2, 3, 4, 1, 0] rfl (hK71 x2 x3 y0 z1 S h)
def w_X8_findLean_129 (K71 : Int32 → Int32 → Int32 → Int32 → Mem → Prop) (post : Mem → Prop) (x2 : Int32) (x4 : Int32) (x5 : Int32) (x6 : Int32) (y0 : Int32) (S : Mem) : Prop := ((x4 ≤ x6 → w_X8_findLean_144 K71 post x2 y0 x5 x4 S) ∧ (¬ x4 ≤ x6 → w_X8_findLean_144 K71 post x2 y0 x5 x6 S))
set_option maxHeartbeats 4000000 in
set_option maxRecDepth 20000 in
theorem b_X8_findLean_129 {v : VmT} {l : Launch} {g : CxT} {K71 : Int32 → Int32 → Int32 → Int32 → Mem → Prop} (ok : Ok l g (oM v) 7 cX8_findLean RX8 none) (hK71 : ∀ (x2 : Int32) (x3 : Int32) (x4 : Int32) (x5 : Int32) (S : Mem), K71 x2 x3 x4 x5 S → G g (oM v) 1 7 71 [(0, .ref (v.1 0)), (2, .int x2), (3, .int x3), (4, .int x4), (5, .int x5)] [] S) {post : Mem → Prop} (he : EndQ g (oM v) (va_Qv post (fun S1 t => BX (oM v) S1 t) (AX (oM v)))) (x2 : Int32) (x4 : Int32) (x5 : Int32) (x6 : Int32) (y0 : Int32) (S : Mem) (h : w_X8_findLean_129 K71 post x2 x4 x5 x6 y0 S) : G g (oM v) 1 7 129 [(0, .ref (v.1 0)), (2, .int x2), (4, .int x4), (5, .int x5), (6, .int x6)] [.int y0] S := by
  unfold w_X8_findLean_129 at h
  refine g_istore_n [(3, .int y0), (0, .ref (v.1 0)), (2, .int x2), (4, .int x4), (5, .int x5), (6, .int x6)] (n := 130) ok dX8_findLean_129 rfl (by decide) rfl ?_
  refine g_iload 5 (n := 132) ok dX8_findLean_130 rfl rfl ?_
  refine g_iload 3 (n := 134) ok dX8_findLean_132 rfl rfl ?_
  refine g_icmp_ge (t := 142) (n := 137) ok dX8_findLean_134 (by decide) rfl (fun e1 => ?_) (fun e1 => ?_)
  · replace h := h.1 e1
    refine g_iload 3 (n := 144) ok dX8_findLean_142 rfl rfl ?_
    exact g_sub [1, 2, 0, 4] rfl (b_X8_findLean_144 ok hK71 he x2 y0 x5 x4 S h)
  · replace h := h.2 e1
    refine g_iload 5 (n := 139) ok dX8_findLean_137 rfl rfl ?_
    refine g_goto (t := 144) ok dX8_findLean_139 (by decide) ?_
    exact g_sub [1, 2, 0, 4] rfl (b_X8_findLean_144 ok hK71 he x2 y0 x5 x6 S h)
def w_X8_findLean_115 (K71 : Int32 → Int32 → Int32 → Int32 → Mem → Prop) (post : Mem → Prop) (x2 : Int32) (x3 : Int32) (x4 : Int32) (x5 : Int32) (y0 : Int32) (S : Mem) : Prop := ((y0 ≤ x3 → w_X8_findLean_129 K71 post x2 x4 x5 y0 x3 S) ∧ (¬ y0 ≤ x3 → w_X8_findLean_129 K71 post x2 x4 x5 y0 y0 S))
set_option maxHeartbeats 4000000 in
set_option maxRecDepth 20000 in
theorem b_X8_findLean_115 {v : VmT} {l : Launch} {g : CxT} {K71 : Int32 → Int32 → Int32 → Int32 → Mem → Prop} (ok : Ok l g (oM v) 7 cX8_findLean RX8 none) (hK71 : ∀ (x2 : Int32) (x3 : Int32) (x4 : Int32) (x5 : Int32) (S : Mem), K71 x2 x3 x4 x5 S → G g (oM v) 1 7 71 [(0, .ref (v.1 0)), (2, .int x2), (3, .int x3), (4, .int x4), (5, .int x5)] [] S) {post : Mem → Prop} (he : EndQ g (oM v) (va_Qv post (fun S1 t => BX (oM v) S1 t) (AX (oM v)))) (x2 : Int32) (x3 : Int32) (x4 : Int32) (x5 : Int32) (y0 : Int32) (S : Mem) (h : w_X8_findLean_115 K71 post x2 x3 x4 x5 y0 S) : G g (oM v) 1 7 115 [(0, .ref (v.1 0)), (2, .int x2), (3, .int x3), (4, .int x4), (5, .int x5)] [.int y0] S := by
  unfold w_X8_findLean_115 at h
  refine g_istore [(6, .int y0), (0, .ref (v.1 0)), (2, .int x2), (3, .int x3), (4, .int x4), (5, .int x5)] (n := 117) ok dX8_findLean_115 rfl (by decide) rfl ?_
  refine g_iload 0 (n := 119) ok dX8_findLean_117 rfl rfl ?_
  refine g_iload_n 3 (n := 120) ok dX8_findLean_119 rfl rfl ?_
  refine g_icmp_le (t := 128) (n := 123) ok dX8_findLean_120 (by decide) rfl (fun e1 => ?_) (fun e1 => ?_)
  · replace h := h.1 e1
    refine g_iload_n 3 (n := 129) ok dX8_findLean_128 rfl rfl ?_
    exact g_sub [1, 2, 4, 5, 0] rfl (b_X8_findLean_129 ok hK71 he x2 x4 x5 y0 x3 S h)
  · replace h := h.2 e1
    refine g_iload 0 (n := 125) ok dX8_findLean_123 rfl rfl ?_
    refine g_goto (t := 129) ok dX8_findLean_125 (by decide) ?_
    exact g_sub [1, 2, 4, 5, 0] rfl (b_X8_findLean_129 ok hK71 he x2 x4 x5 y0 y0 S h)
def w_X8_findLean_71 (post : Mem → Prop) : Nat → Int32 → Int32 → Int32 → Int32 → Mem → Prop
  | 0, _, _, _, _, _ => False
  | n + 1, x2, x3, x4, x5, S => (((3 : Int32) ≤ x5 → (∀ S1 : Mem, S1 = mset S 0 (upd (S 0) 34 (x3 - x4)) → post S1)) ∧ (¬ (3 : Int32) ≤ x5 → ((¬ x5 = 0 → ((¬ x5 = (1 : Int32) → w_X8_findLean_115 (w_X8_findLean_71 post n) post x2 x3 x4 x5 x2 S) ∧ (x5 = (1 : Int32) → (vp_in (S 0 36) 4 ∧ w_X8_findLean_115 (w_X8_findLean_71 post n) post x2 x3 x4 x5 (S 14 (S 0 36).toNatClampNeg) S)))) ∧ (x5 = 0 → (vp_in ((S 0 35) + (2 : Int32)) 4 ∧ w_X8_findLean_115 (w_X8_findLean_71 post n) post x2 x3 x4 x5 (S 14 ((S 0 35) + (2 : Int32)).toNatClampNeg) S)))))
set_option maxHeartbeats 4000000 in
set_option maxRecDepth 20000 in
theorem b_X8_findLean_71 {v : VmT} {l : Launch} {g : CxT} (ok : Ok l g (oM v) 7 cX8_findLean RX8 none) {post : Mem → Prop} (he : EndQ g (oM v) (va_Qv post (fun S1 t => BX (oM v) S1 t) (AX (oM v)))) : ∀ (n : Nat) (x2 : Int32) (x3 : Int32) (x4 : Int32) (x5 : Int32) (S : Mem), w_X8_findLean_71 post n x2 x3 x4 x5 S → G g (oM v) 1 7 71 [(0, .ref (v.1 0)), (2, .int x2), (3, .int x3), (4, .int x4), (5, .int x5)] [] S := by
  intro n
  induction n with
  | zero =>
    intro x2 x3 x4 x5 S h
    exact h.elim
  | succ n ih =>
    intro x2 x3 x4 x5 S h
    rw [w_X8_findLean_71] at h
    refine g_iload 4 (n := 73) ok dX8_findLean_71 rfl rfl ?_
    refine g_iconst (v := 3) (n := 74) ok dX8_findLean_73 rfl (by decide) ?_
    refine g_icmp_ge (t := 152) (n := 77) ok dX8_findLean_74 (by decide) rfl (fun e4 => ?_) (fun e4 => ?_)
    · replace h := h.1 e4
      refine g_aload_n 0 (n := 153) ok dX8_findLean_152 rfl rfl ?_
      refine g_iload_n 2 (n := 154) ok dX8_findLean_153 rfl rfl ?_
      refine g_iload 3 (n := 156) ok dX8_findLean_154 rfl rfl ?_
      refine g_isub (n := 157) ok dX8_findLean_156 rfl ?_
      refine fp_X8_X8_lean (n := 160) ok dX8_findLean_157 rfl ?_
      refine g_mem (fun S1 eS1 => ?_)
      replace h := h S1 eS1
      exact g_vret ok he h dX8_findLean_160
    · replace h := h.2 e4
      refine g_iload 4 (n := 79) ok dX8_findLean_77 rfl rfl ?_
      refine g_if_ne (t := 96) (n := 82) ok dX8_findLean_79 (by decide) rfl (fun e3 => ?_) (fun e3 => ?_)
      · replace h := h.1 e3
        refine g_iload 4 (n := 98) ok dX8_findLean_96 rfl rfl ?_
        refine g_iconst (v := 1) (n := 99) ok dX8_findLean_98 rfl (by decide) ?_
        refine g_icmp_ne (t := 114) (n := 102) ok dX8_findLean_99 (by decide) rfl (fun e2 => ?_) (fun e2 => ?_)
        · replace h := h.1 e2
          refine g_iload_n 1 (n := 115) ok dX8_findLean_114 rfl rfl ?_
          exact g_sub [0, 1, 2, 3, 4] rfl (b_X8_findLean_115 ok ih he x2 x3 x4 x5 x2 S h)
        · replace h := h.2 e2
          refine g_aload_n 0 (n := 103) ok dX8_findLean_102 rfl rfl ?_
          refine fg_X8_X8_at (n := 106) ok dX8_findLean_103 rfl ?_
          refine g_aload_n 0 (n := 107) ok dX8_findLean_106 rfl rfl ?_
          refine fg_X8_X8_loose (n := 110) ok dX8_findLean_107 rfl ?_
          obtain ⟨h0, h⟩ := h
          refine g_iald (c := 14) (t0 := 0) (n := 111) ok (Nat.le_of_ble_eq_true rfl) rfl rfl h0 dX8_findLean_110 rfl ?_
          refine g_goto (t := 115) ok dX8_findLean_111 (by decide) ?_
          exact g_sub [0, 1, 2, 3, 4] rfl (b_X8_findLean_115 ok ih he x2 x3 x4 x5 (S 14 (S 0 36).toNatClampNeg) S h)
      · replace h := h.2 e3
        refine g_aload_n 0 (n := 83) ok dX8_findLean_82 rfl rfl ?_
        refine fg_X8_X8_at (n := 86) ok dX8_findLean_83 rfl ?_
        refine g_aload_n 0 (n := 87) ok dX8_findLean_86 rfl rfl ?_
        refine fg_X8_X8_bearing (n := 90) ok dX8_findLean_87 rfl ?_
        refine g_iconst (v := 2) (n := 91) ok dX8_findLean_90 rfl (by decide) ?_
        refine g_iadd (n := 92) ok dX8_findLean_91 rfl ?_
        obtain ⟨h0, h⟩ := h
        refine g_iald (c := 14) (t0 := 0) (n := 93) ok (Nat.le_of_ble_eq_true rfl) rfl rfl h0 dX8_findLean_92 rfl ?_
        refine g_goto (t := 115) ok dX8_findLean_93 (by decide) ?_
        exact g_sub [0, 1, 2, 3, 4] rfl (b_X8_findLean_115 ok ih he x2 x3 x4 x5 (S 14 ((S 0 35) + (2 : Int32)).toNatClampNeg) S h)
def w_X8_findLean_54 (post : Mem → Prop) (y0 : Int32) (S : Mem) : Prop := (vp_in (S 0 35) 4 ∧ (∀ z1 : Int32, z1 = S 14 (S 0 35).toNatClampNeg → ∃ n, w_X8_findLean_71 post n y0 z1 z1 (0 : Int32) S))
set_option maxHeartbeats 4000000 in
set_option maxRecDepth 20000 in
theorem b_X8_findLean_54 {v : VmT} {l : Launch} {g : CxT} (ok : Ok l g (oM v) 7 cX8_findLean RX8 none) {post : Mem → Prop} (he : EndQ g (oM v) (va_Qv post (fun S1 t => BX (oM v) S1 t) (AX (oM v)))) (y0 : Int32) (S : Mem) (h : w_X8_findLean_54 post y0 S) : G g (oM v) 1 7 54 [(0, .ref (v.1 0))] [.int y0] S := by
  unfold w_X8_findLean_54 at h
  refine g_istore_n [(2, .int y0), (0, .ref (v.1 0))] (n := 55) ok dX8_findLean_54 rfl (by decide) rfl ?_
  refine g_aload_n 1 (n := 56) ok dX8_findLean_55 rfl rfl ?_
  refine fg_X8_X8_at (n := 59) ok dX8_findLean_56 rfl ?_
  refine g_aload_n 1 (n := 60) ok dX8_findLean_59 rfl rfl ?_
  refine fg_X8_X8_bearing (n := 63) ok dX8_findLean_60 rfl ?_
  obtain ⟨h0, h⟩ := h
  refine g_iald (c := 14) (t0 := 0) (n := 64) ok (Nat.le_of_ble_eq_true rfl) rfl rfl h0 dX8_findLean_63 rfl ?_
  refine g_topi (fun z1 ez1 => ?_)
  replace h := h z1 ez1
  refine g_istore_n [(3, .int z1), (2, .int y0), (0, .ref (v.1 0))] (n := 65) ok dX8_findLean_64 rfl (by decide) rfl ?_
  refine g_iload_n 0 (n := 66) ok dX8_findLean_65 rfl rfl ?_
  refine g_istore [(4, .int z1), (3, .int z1), (2, .int y0), (0, .ref (v.1 0))] (n := 68) ok dX8_findLean_66 rfl (by decide) rfl ?_
  refine g_iconst (v := 0) (n := 69) ok dX8_findLean_68 rfl (by decide) ?_
  refine g_istore [(5, .int (0 : Int32)), (4, .int z1), (3, .int z1), (2, .int y0), (0, .ref (v.1 0))] (n := 71) ok dX8_findLean_69 rfl (by decide) rfl ?_
  obtain ⟨n0, h⟩ := h
  exact g_sub [4, 3, 2, 1, 0] rfl (b_X8_findLean_71 ok he n0 y0 z1 z1 (0 : Int32) S h)
def w_X8_findLean (S : Mem) (post : Mem → Prop) : Prop := (vp_in (S 0 35) 4 ∧ (vp_in ((S 0 35) + (2 : Int32)) 4 ∧ (∀ z1 : Int32, z1 = (S 14 (S 0 35).toNatClampNeg) + (S 14 ((S 0 35) + (2 : Int32)).toNatClampNeg) → ((¬ (S 0 31) = 0 → (vp_in (S 0 36) 4 ∧ w_X8_findLean_54 post (z1 - (S 14 (S 0 36).toNatClampNeg)) S)) ∧ ((S 0 31) = 0 → (vp_in ((S 0 36) + (2 : Int32)) 4 ∧ w_X8_findLean_54 post (S 14 ((S 0 36) + (2 : Int32)).toNatClampNeg) S))))))
set_option maxHeartbeats 4000000 in
set_option maxRecDepth 20000 in
theorem c_X8_findLean (l : Launch) (v : VmT) (S : Mem) (post : Mem → Prop) (h : w_X8_findLean  S post) : MV l yX8_findLean cX8_findLean 7 none 1 (oM v) [.ref (v.1 0)] S post := by
  refine met_start (by decide +kernel) (Nat.le_of_ble_eq_true rfl) (fun g ok he => ?_)
  refine g_eq (L' := [(0, .ref (v.1 0))]) (st' := []) ?_ rfl rfl
  unfold w_X8_findLean at h
  refine g_aload_n 0 (n := 1) ok dX8_findLean_0 rfl rfl ?_
  refine fg_X8_X8_at (n := 4) ok dX8_findLean_1 rfl ?_
  refine g_aload_n 0 (n := 5) ok dX8_findLean_4 rfl rfl ?_
  refine fg_X8_X8_bearing (n := 8) ok dX8_findLean_5 rfl ?_
  obtain ⟨h0, h⟩ := h
  refine g_iald (c := 14) (t0 := 0) (n := 9) ok (Nat.le_of_ble_eq_true rfl) rfl rfl h0 dX8_findLean_8 rfl ?_
  refine g_aload_n 0 (n := 10) ok dX8_findLean_9 rfl rfl ?_
  refine fg_X8_X8_at (n := 13) ok dX8_findLean_10 rfl ?_
  refine g_aload_n 0 (n := 14) ok dX8_findLean_13 rfl rfl ?_
  refine fg_X8_X8_bearing (n := 17) ok dX8_findLean_14 rfl ?_
  refine g_iconst (v := 2) (n := 18) ok dX8_findLean_17 rfl (by decide) ?_
  refine g_iadd (n := 19) ok dX8_findLean_18 rfl ?_
  obtain ⟨h0, h⟩ := h
  refine g_iald (c := 14) (t0 := 0) (n := 20) ok (Nat.le_of_ble_eq_true rfl) rfl rfl h0 dX8_findLean_19 rfl ?_
  refine g_iadd (n := 21) ok dX8_findLean_20 rfl ?_
  refine g_topi (fun z1 ez1 => ?_)
  replace h := h z1 ez1
  refine g_istore_n [(1, .int z1), (0, .ref (v.1 0))] (n := 22) ok dX8_findLean_21 rfl (by decide) rfl ?_
  refine g_aload_n 1 (n := 23) ok dX8_findLean_22 rfl rfl ?_
  refine fg_X8_X8_gap (n := 26) ok dX8_findLean_23 rfl ?_
  refine g_if_ne (t := 43) (n := 29) ok dX8_findLean_26 (by decide) rfl (fun e2 => ?_) (fun e2 => ?_)
  · replace h := h.1 e2
    refine g_iload_n 0 (n := 44) ok dX8_findLean_43 rfl rfl ?_
    refine g_aload_n 1 (n := 45) ok dX8_findLean_44 rfl rfl ?_
    refine fg_X8_X8_at (n := 48) ok dX8_findLean_45 rfl ?_
    refine g_aload_n 1 (n := 49) ok dX8_findLean_48 rfl rfl ?_
    refine fg_X8_X8_loose (n := 52) ok dX8_findLean_49 rfl ?_
    obtain ⟨h0, h⟩ := h
    refine g_iald (c := 14) (t0 := 0) (n := 53) ok (Nat.le_of_ble_eq_true rfl) rfl rfl h0 dX8_findLean_52 rfl ?_
    refine g_isub (n := 54) ok dX8_findLean_53 rfl ?_
    exact g_sub [1] rfl (b_X8_findLean_54 ok he (z1 - (S 14 (S 0 36).toNatClampNeg)) S h)
  · replace h := h.2 e2
    refine g_aload_n 1 (n := 30) ok dX8_findLean_29 rfl rfl ?_
    refine fg_X8_X8_at (n := 33) ok dX8_findLean_30 rfl ?_
    refine g_aload_n 1 (n := 34) ok dX8_findLean_33 rfl rfl ?_
    refine fg_X8_X8_loose (n := 37) ok dX8_findLean_34 rfl ?_
    refine g_iconst (v := 2) (n := 38) ok dX8_findLean_37 rfl (by decide) ?_
    refine g_iadd (n := 39) ok dX8_findLean_38 rfl ?_
    obtain ⟨h0, h⟩ := h
    refine g_iald (c := 14) (t0 := 0) (n := 40) ok (Nat.le_of_ble_eq_true rfl) rfl rfl h0 dX8_findLean_39 rfl ?_
    refine g_goto (t := 54) ok dX8_findLean_40 (by decide) ?_
    exact g_sub [1] rfl (b_X8_findLean_54 ok he (S 14 ((S 0 36) + (2 : Int32)).toNatClampNeg) S h)
