def w_X8_screwBy_150 (K7 : Int32 → Int32 → Int32 → Mem → Prop) (post : Int32 → Mem → Prop) (x2 : Int32) (x3 : Int32) (x4 : Int32) (y0 : Int32) (y1 : Int32) (S : Mem) : Prop := (vp_in y1 4 ∧ (∀ S1 : Mem, S1 = mset S 4 (upd (S 4) y1.toNatClampNeg y0) → (∀ z2 : Int32, z2 = x4 + 1 → K7 x2 x3 z2 S1)))
set_option maxHeartbeats 4000000 in
set_option maxRecDepth 20000 in
theorem b_X8_screwBy_150 {v : VmT} {l : Launch} {g : CxT} {K7 : Int32 → Int32 → Int32 → Mem → Prop} (ok : Ok l g (oM v) 8 cX8_screwBy RX8 (some .int)) (hK7 : ∀ (x2 : Int32) (x3 : Int32) (x4 : Int32) (S : Mem), K7 x2 x3 x4 S → G g (oM v) 2 8 7 [(0, .ref (v.1 0)), (2, .int x2), (3, .int x3), (4, .int x4)] [] S) {post : Int32 → Mem → Prop} (he : EndQ g (oM v) (va_Qi post (fun S1 t => BX (oM v) S1 t) (AX (oM v)))) (x2 : Int32) (x3 : Int32) (x4 : Int32) (y0 : Int32) (y1 : Int32) (S : Mem) (h : w_X8_screwBy_150 K7 post x2 x3 x4 y0 y1 S) : G g (oM v) 2 8 150 [(0, .ref (v.1 0)), (2, .int x2), (3, .int x3), (4, .int x4)] [.int y0, .int y1, .ref (v.1 4)] S := by
  unfold w_X8_screwBy_150 at h
  obtain ⟨h0, h⟩ := h
  refine g_iast (c := 4) (t0 := 0) (n := 151) ok (Nat.le_of_ble_eq_true rfl) (fun _ => rfl) rfl h0 dX8_screwBy_150 rfl ?_
  refine g_mem (fun S1 eS1 => ?_)
  replace h := h S1 eS1
  obtain ⟨z2, ez2⟩ : ∃ y : Int32, y = x4 + 1 := ⟨_, rfl⟩
  replace h := h z2 ez2
  refine g_iinc 3 [(4, .int z2), (0, .ref (v.1 0)), (2, .int x2), (3, .int x3)] (v := z2) (n := 154) ok dX8_screwBy_151 rfl rfl (by rw [ez2]; rfl) (by decide) rfl ?_
  refine g_goto (t := 7) ok dX8_screwBy_154 (by decide) ?_
  exact g_sub [1, 2, 3, 0] rfl (hK7 x2 x3 z2 S1 h)
def w_X8_screwBy_117 (K7 : Int32 → Int32 → Int32 → Mem → Prop) (post : Int32 → Mem → Prop) (x3 : Int32) (x4 : Int32) (x5 : Int32) (x7 : Int32) (y0 : Int32) (y1 : Int32) (S : Mem) : Prop := (∀ z1 : Int32, z1 = y1 + y0 → ((x7 = 0 → (vp_in x4 4 ∧ w_X8_screwBy_150 K7 post z1 x3 x4 (S 15 x4.toNatClampNeg) x4 S)) ∧ (¬ x7 = 0 → (vp_in x4 4 ∧ w_X8_screwBy_150 K7 post z1 x3 x4 ((S 15 x4.toNatClampNeg) + x5) x4 S))))
set_option maxHeartbeats 4000000 in
set_option maxRecDepth 20000 in
theorem b_X8_screwBy_117 {v : VmT} {l : Launch} {g : CxT} {K7 : Int32 → Int32 → Int32 → Mem → Prop} (ok : Ok l g (oM v) 8 cX8_screwBy RX8 (some .int)) (hK7 : ∀ (x2 : Int32) (x3 : Int32) (x4 : Int32) (S : Mem), K7 x2 x3 x4 S → G g (oM v) 2 8 7 [(0, .ref (v.1 0)), (2, .int x2), (3, .int x3), (4, .int x4)] [] S) {post : Int32 → Mem → Prop} (he : EndQ g (oM v) (va_Qi post (fun S1 t => BX (oM v) S1 t) (AX (oM v)))) (x3 : Int32) (x4 : Int32) (x5 : Int32) (x7 : Int32) (y0 : Int32) (y1 : Int32) (S : Mem) (h : w_X8_screwBy_117 K7 post x3 x4 x5 x7 y0 y1 S) : G g (oM v) 2 8 117 [(0, .ref (v.1 0)), (3, .int x3), (4, .int x4), (5, .int x5), (7, .int x7)] [.int y0, .int y1] S := by
  unfold w_X8_screwBy_117 at h
  refine g_iadd (n := 118) ok dX8_screwBy_117 rfl ?_
  refine g_topi (fun z1 ez1 => ?_)
  replace h := h z1 ez1
  refine g_istore_n [(2, .int z1), (0, .ref (v.1 0)), (3, .int x3), (4, .int x4), (5, .int x5), (7, .int x7)] (n := 119) ok dX8_screwBy_118 rfl (by decide) rfl ?_
  refine g_aload_n 1 (n := 120) ok dX8_screwBy_119 rfl rfl ?_
  refine fg_X8_X8_numbers (n := 123) ok dX8_screwBy_120 rfl ?_
  refine g_iload 3 (n := 125) ok dX8_screwBy_123 rfl rfl ?_
  refine g_iload 5 (n := 127) ok dX8_screwBy_125 rfl rfl ?_
  refine g_if_eq (t := 143) (n := 130) ok dX8_screwBy_127 (by decide) rfl (fun e2 => ?_) (fun e2 => ?_)
  · replace h := h.1 e2
    refine g_aload_n 1 (n := 144) ok dX8_screwBy_143 rfl rfl ?_
    refine fg_X8_X8_kept (n := 147) ok dX8_screwBy_144 rfl ?_
    refine g_iload 3 (n := 149) ok dX8_screwBy_147 rfl rfl ?_
    obtain ⟨h0, h⟩ := h
    refine g_iald (c := 15) (t0 := 0) (n := 150) ok (Nat.le_of_ble_eq_true rfl) rfl rfl h0 dX8_screwBy_149 rfl ?_
    exact g_sub [1, 0, 2, 3] rfl (b_X8_screwBy_150 ok hK7 he z1 x3 x4 (S 15 x4.toNatClampNeg) x4 S h)
  · replace h := h.2 e2
    refine g_aload_n 1 (n := 131) ok dX8_screwBy_130 rfl rfl ?_
    refine fg_X8_X8_kept (n := 134) ok dX8_screwBy_131 rfl ?_
    refine g_iload 3 (n := 136) ok dX8_screwBy_134 rfl rfl ?_
    obtain ⟨h0, h⟩ := h
    refine g_iald (c := 15) (t0 := 0) (n := 137) ok (Nat.le_of_ble_eq_true rfl) rfl rfl h0 dX8_screwBy_136 rfl ?_
    refine g_iload 4 (n := 139) ok dX8_screwBy_137 rfl rfl ?_
    refine g_iadd (n := 140) ok dX8_screwBy_139 rfl ?_
    refine g_goto (t := 150) ok dX8_screwBy_140 (by decide) ?_
    exact g_sub [1, 0, 2, 3] rfl (b_X8_screwBy_150 ok hK7 he z1 x3 x4 ((S 15 x4.toNatClampNeg) + x5) x4 S h)
def w_X8_screwBy_91 (K7 : Int32 → Int32 → Int32 → Mem → Prop) (post : Int32 → Mem → Prop) (x2 : Int32) (x3 : Int32) (x4 : Int32) (x5 : Int32) (y0 : Int32) (S : Mem) : Prop := ((¬ y0 = 0 → ((0 ≤ x5 → w_X8_screwBy_117 K7 post x3 x4 x5 y0 x5 x2 S) ∧ (¬ 0 ≤ x5 → w_X8_screwBy_117 K7 post x3 x4 x5 y0 (-x5) x2 S))) ∧ (y0 = 0 → w_X8_screwBy_117 K7 post x3 x4 x5 y0 (9 : Int32) x2 S))
set_option maxHeartbeats 4000000 in
set_option maxRecDepth 20000 in
theorem b_X8_screwBy_91 {v : VmT} {l : Launch} {g : CxT} {K7 : Int32 → Int32 → Int32 → Mem → Prop} (ok : Ok l g (oM v) 8 cX8_screwBy RX8 (some .int)) (hK7 : ∀ (x2 : Int32) (x3 : Int32) (x4 : Int32) (S : Mem), K7 x2 x3 x4 S → G g (oM v) 2 8 7 [(0, .ref (v.1 0)), (2, .int x2), (3, .int x3), (4, .int x4)] [] S) {post : Int32 → Mem → Prop} (he : EndQ g (oM v) (va_Qi post (fun S1 t => BX (oM v) S1 t) (AX (oM v)))) (x2 : Int32) (x3 : Int32) (x4 : Int32) (x5 : Int32) (y0 : Int32) (S : Mem) (h : w_X8_screwBy_91 K7 post x2 x3 x4 x5 y0 S) : G g (oM v) 2 8 91 [(0, .ref (v.1 0)), (2, .int x2), (3, .int x3), (4, .int x4), (5, .int x5)] [.int y0] S := by
  unfold w_X8_screwBy_91 at h
  refine g_istore [(7, .int y0), (0, .ref (v.1 0)), (2, .int x2), (3, .int x3), (4, .int x4), (5, .int x5)] (n := 93) ok dX8_screwBy_91 rfl (by decide) rfl ?_
  refine g_iload_n 2 (n := 94) ok dX8_screwBy_93 rfl rfl ?_
  refine g_iload 0 (n := 96) ok dX8_screwBy_94 rfl rfl ?_
  refine g_if_ne (t := 104) (n := 99) ok dX8_screwBy_96 (by decide) rfl (fun e2 => ?_) (fun e2 => ?_)
  · replace h := h.1 e2
    refine g_iload 5 (n := 106) ok dX8_screwBy_104 rfl rfl ?_
    refine g_if_ge (t := 115) (n := 109) ok dX8_screwBy_106 (by decide) rfl (fun e1 => ?_) (fun e1 => ?_)
    · replace h := h.1 e1
      refine g_iload 5 (n := 117) ok dX8_screwBy_115 rfl rfl ?_
      exact g_sub [1, 3, 4, 5, 0] rfl (b_X8_screwBy_117 ok hK7 he x3 x4 x5 y0 x5 x2 S h)
    · replace h := h.2 e1
      refine g_iload 5 (n := 111) ok dX8_screwBy_109 rfl rfl ?_
      refine g_ineg (n := 112) ok dX8_screwBy_111 rfl ?_
      refine g_goto (t := 117) ok dX8_screwBy_112 (by decide) ?_
      exact g_sub [1, 3, 4, 5, 0] rfl (b_X8_screwBy_117 ok hK7 he x3 x4 x5 y0 (-x5) x2 S h)
  · replace h := h.2 e2
    refine g_bipush (v := 9) (n := 101) ok dX8_screwBy_99 rfl (by decide) ?_
    refine g_goto (t := 117) ok dX8_screwBy_101 (by decide) ?_
    exact g_sub [1, 3, 4, 5, 0] rfl (b_X8_screwBy_117 ok hK7 he x3 x4 x5 y0 (9 : Int32) x2 S h)
def w_X8_screwBy_86 (K7 : Int32 → Int32 → Int32 → Mem → Prop) (post : Int32 → Mem → Prop) (x2 : Int32) (x3 : Int32) (x4 : Int32) (x5 : Int32) (S : Mem) : Prop := w_X8_screwBy_91 K7 post x2 x3 x4 x5 (1 : Int32) S
set_option maxHeartbeats 4000000 in
set_option maxRecDepth 20000 in
theorem b_X8_screwBy_86 {v : VmT} {l : Launch} {g : CxT} {K7 : Int32 → Int32 → Int32 → Mem → Prop} (ok : Ok l g (oM v) 8 cX8_screwBy RX8 (some .int)) (hK7 : ∀ (x2 : Int32) (x3 : Int32) (x4 : Int32) (S : Mem), K7 x2 x3 x4 S → G g (oM v) 2 8 7 [(0, .ref (v.1 0)), (2, .int x2), (3, .int x3), (4, .int x4)] [] S) {post : Int32 → Mem → Prop} (he : EndQ g (oM v) (va_Qi post (fun S1 t => BX (oM v) S1 t) (AX (oM v)))) (x2 : Int32) (x3 : Int32) (x4 : Int32) (x5 : Int32) (S : Mem) (h : w_X8_screwBy_86 K7 post x2 x3 x4 x5 S) : G g (oM v) 2 8 86 [(0, .ref (v.1 0)), (2, .int x2), (3, .int x3), (4, .int x4), (5, .int x5)] [] S := by
  unfold w_X8_screwBy_86 at h
  refine g_iconst (v := 1) (n := 87) ok dX8_screwBy_86 rfl (by decide) ?_
  refine g_goto (t := 91) ok dX8_screwBy_87 (by decide) ?_
  exact g_sub [0, 1, 2, 3, 4] rfl (b_X8_screwBy_91 ok hK7 he x2 x3 x4 x5 (1 : Int32) S h)
def w_X8_screwBy_90 (K7 : Int32 → Int32 → Int32 → Mem → Prop) (post : Int32 → Mem → Prop) (x2 : Int32) (x3 : Int32) (x4 : Int32) (x5 : Int32) (S : Mem) : Prop := w_X8_screwBy_91 K7 post x2 x3 x4 x5 (0 : Int32) S
set_option maxHeartbeats 4000000 in
set_option maxRecDepth 20000 in
theorem b_X8_screwBy_90 {v : VmT} {l : Launch} {g : CxT} {K7 : Int32 → Int32 → Int32 → Mem → Prop} (ok : Ok l g (oM v) 8 cX8_screwBy RX8 (some .int)) (hK7 : ∀ (x2 : Int32) (x3 : Int32) (x4 : Int32) (S : Mem), K7 x2 x3 x4 S → G g (oM v) 2 8 7 [(0, .ref (v.1 0)), (2, .int x2), (3, .int x3), (4, .int x4)] [] S) {post : Int32 → Mem → Prop} (he : EndQ g (oM v) (va_Qi post (fun S1 t => BX (oM v) S1 t) (AX (oM v)))) (x2 : Int32) (x3 : Int32) (x4 : Int32) (x5 : Int32) (S : Mem) (h : w_X8_screwBy_90 K7 post x2 x3 x4 x5 S) : G g (oM v) 2 8 90 [(0, .ref (v.1 0)), (2, .int x2), (3, .int x3), (4, .int x4), (5, .int x5)] [] S := by
  unfold w_X8_screwBy_90 at h
  refine g_iconst (v := 0) (n := 91) ok dX8_screwBy_90 rfl (by decide) ?_
  exact g_sub [0, 1, 2, 3, 4] rfl (b_X8_screwBy_91 ok hK7 he x2 x3 x4 x5 (0 : Int32) S h)
def w_X8_screwBy_53 (K7 : Int32 → Int32 → Int32 → Mem → Prop) (post : Int32 → Mem → Prop) (x2 : Int32) (x3 : Int32) (x4 : Int32) (x5 : Int32) (y0 : Int32) (S : Mem) : Prop := ((x5 = 0 → w_X8_screwBy_86 K7 post x2 x3 x4 x5 S) ∧ (¬ x5 = 0 → ((y0 = 0 → w_X8_screwBy_90 K7 post x2 x3 x4 x5 S) ∧ (¬ y0 = 0 → (vp_in x4 4 ∧ w_X8_in (((S 15 x4.toNatClampNeg) + x5).toInt64) (0 : Int64) (9 : Int64) S (fun r1 S1 => ((r1 = 0 → w_X8_screwBy_90 K7 post x2 x3 x4 x5 S1) ∧ (¬ r1 = 0 → w_X8_screwBy_86 K7 post x2 x3 x4 x5 S1))))))))
set_option maxHeartbeats 4000000 in
set_option maxRecDepth 20000 in
theorem b_X8_screwBy_53 {v : VmT} {l : Launch} {g : CxT} {K7 : Int32 → Int32 → Int32 → Mem → Prop} (ok : Ok l g (oM v) 8 cX8_screwBy RX8 (some .int)) (hK7 : ∀ (x2 : Int32) (x3 : Int32) (x4 : Int32) (S : Mem), K7 x2 x3 x4 S → G g (oM v) 2 8 7 [(0, .ref (v.1 0)), (2, .int x2), (3, .int x3), (4, .int x4)] [] S) {post : Int32 → Mem → Prop} (he : EndQ g (oM v) (va_Qi post (fun S1 t => BX (oM v) S1 t) (AX (oM v)))) (x2 : Int32) (x3 : Int32) (x4 : Int32) (x5 : Int32) (y0 : Int32) (S : Mem) (h : w_X8_screwBy_53 K7 post x2 x3 x4 x5 y0 S) : G g (oM v) 2 8 53 [(0, .ref (v.1 0)), (2, .int x2), (3, .int x3), (4, .int x4), (5, .int x5)] [.int y0] S := by
  unfold w_X8_screwBy_53 at h
  refine g_istore [(6, .int y0), (0, .ref (v.1 0)), (2, .int x2), (3, .int x3), (4, .int x4), (5, .int x5)] (n := 55) ok dX8_screwBy_53 rfl (by decide) rfl ?_
  refine g_iload 5 (n := 57) ok dX8_screwBy_55 rfl rfl ?_
  refine g_if_eq (t := 86) (n := 60) ok dX8_screwBy_57 (by decide) rfl (fun e4 => ?_) (fun e4 => ?_)
  · replace h := h.1 e4
    exact g_sub [1, 2, 3, 4, 5] rfl (b_X8_screwBy_86 ok hK7 he x2 x3 x4 x5 S h)
  · replace h := h.2 e4
    refine g_iload 0 (n := 62) ok dX8_screwBy_60 rfl rfl ?_
    refine g_if_eq (t := 90) (n := 65) ok dX8_screwBy_62 (by decide) rfl (fun e3 => ?_) (fun e3 => ?_)
    · replace h := h.1 e3
      exact g_sub [1, 2, 3, 4, 5] rfl (b_X8_screwBy_90 ok hK7 he x2 x3 x4 x5 S h)
    · replace h := h.2 e3
      refine g_aload_n 1 (n := 66) ok dX8_screwBy_65 rfl rfl ?_
      refine fg_X8_X8_kept (n := 69) ok dX8_screwBy_66 rfl ?_
      refine g_iload 4 (n := 71) ok dX8_screwBy_69 rfl rfl ?_
      obtain ⟨h0, h⟩ := h
      refine g_iald (c := 15) (t0 := 0) (n := 72) ok (Nat.le_of_ble_eq_true rfl) rfl rfl h0 dX8_screwBy_71 rfl ?_
      refine g_iload 5 (n := 74) ok dX8_screwBy_72 rfl rfl ?_
      refine g_iadd (n := 75) ok dX8_screwBy_74 rfl ?_
      refine g_i2l (n := 76) ok dX8_screwBy_75 rfl ?_
      refine g_lconst (v := 0) (n := 77) ok dX8_screwBy_76 rfl (by decide) ?_
      refine g_ldc2 (v := 9) (n := 80) ok dX8_screwBy_77 rfl tw_1091 ?_
      refine g_callSi (n := 83) (As := [.long (((S 15 x4.toNatClampNeg) + x5).toInt64), .long (0 : Int64), .long (9 : Int64)]) (rest := []) ok (c_X8_in l v (((S 15 x4.toNatClampNeg) + x5).toInt64) (0 : Int64) (9 : Int64) S _ h) cal_X8_in tw_771 tw_772 (by decide) (by decide) rfl (Nat.le_of_ble_eq_true rfl) dX8_screwBy_80 rfl rfl (fun r1 S1 h => ?_)
      refine g_if_eq (t := 90) (n := 86) ok dX8_screwBy_83 (by decide) rfl (fun e2 => ?_) (fun e2 => ?_)
      · replace h := h.1 e2
        exact g_sub [1, 2, 3, 4, 5] rfl (b_X8_screwBy_90 ok hK7 he x2 x3 x4 x5 S1 h)
      · replace h := h.2 e2
        exact g_sub [1, 2, 3, 4, 5] rfl (b_X8_screwBy_86 ok hK7 he x2 x3 x4 x5 S1 h)
def w_X8_screwBy_48 (K7 : Int32 → Int32 → Int32 → Mem → Prop) (post : Int32 → Mem → Prop) (x2 : Int32) (x3 : Int32) (x4 : Int32) (x5 : Int32) (S : Mem) : Prop := w_X8_screwBy_53 K7 post x2 x3 x4 x5 (1 : Int32) S
set_option maxHeartbeats 4000000 in
set_option maxRecDepth 20000 in
theorem b_X8_screwBy_48 {v : VmT} {l : Launch} {g : CxT} {K7 : Int32 → Int32 → Int32 → Mem → Prop} (ok : Ok l g (oM v) 8 cX8_screwBy RX8 (some .int)) (hK7 : ∀ (x2 : Int32) (x3 : Int32) (x4 : Int32) (S : Mem), K7 x2 x3 x4 S → G g (oM v) 2 8 7 [(0, .ref (v.1 0)), (2, .int x2), (3, .int x3), (4, .int x4)] [] S) {post : Int32 → Mem → Prop} (he : EndQ g (oM v) (va_Qi post (fun S1 t => BX (oM v) S1 t) (AX (oM v)))) (x2 : Int32) (x3 : Int32) (x4 : Int32) (x5 : Int32) (S : Mem) (h : w_X8_screwBy_48 K7 post x2 x3 x4 x5 S) : G g (oM v) 2 8 48 [(0, .ref (v.1 0)), (2, .int x2), (3, .int x3), (4, .int x4), (5, .int x5)] [] S := by
  unfold w_X8_screwBy_48 at h
  refine g_iconst (v := 1) (n := 49) ok dX8_screwBy_48 rfl (by decide) ?_
  refine g_goto (t := 53) ok dX8_screwBy_49 (by decide) ?_
  exact g_sub [0, 1, 2, 3, 4] rfl (b_X8_screwBy_53 ok hK7 he x2 x3 x4 x5 (1 : Int32) S h)
def w_X8_screwBy_168 (post : Int32 → Mem → Prop) (y0 : Int32) (S : Mem) : Prop := post y0 S
set_option maxHeartbeats 4000000 in
set_option maxRecDepth 20000 in
theorem b_X8_screwBy_168 {v : VmT} {l : Launch} {g : CxT} (ok : Ok l g (oM v) 8 cX8_screwBy RX8 (some .int)) {post : Int32 → Mem → Prop} (he : EndQ g (oM v) (va_Qi post (fun S1 t => BX (oM v) S1 t) (AX (oM v)))) (y0 : Int32) (S : Mem) (h : w_X8_screwBy_168 post y0 S) : G g (oM v) 2 8 168 [] [.int y0] S := by
  unfold w_X8_screwBy_168 at h
  exact g_iret ok he h dX8_screwBy_168
def w_X8_screwBy_7 (post : Int32 → Mem → Prop) : Nat → Int32 → Int32 → Int32 → Mem → Prop
  | 0, _, _, _, _ => False
  | n + 1, x2, x3, x4, S => (((4 : Int32) ≤ x4 → ((x2 ≤ (4 : Int32) → w_X8_screwBy_168 post x2 S) ∧ (¬ x2 ≤ (4 : Int32) → w_X8_screwBy_168 post (9 : Int32) S))) ∧ (¬ (4 : Int32) ≤ x4 → (∀ z2 : Int32, z2 = (jrem x3 (7 : Int32)) - (3 : Int32) → (∀ z3 : Int32, z3 = x3 / (7 : Int32) → (vp_in x4 4 ∧ (((S 2 x4.toNatClampNeg) = (2 : Int32) → w_X8_screwBy_48 (w_X8_screwBy_7 post n) post x2 z3 x4 z2 S) ∧ (¬ (S 2 x4.toNatClampNeg) = (2 : Int32) → (vp_in x4 4 ∧ ((¬ (S 2 x4.toNatClampNeg) = (4 : Int32) → w_X8_screwBy_53 (w_X8_screwBy_7 post n) post x2 z3 x4 z2 (0 : Int32) S) ∧ ((S 2 x4.toNatClampNeg) = (4 : Int32) → w_X8_screwBy_48 (w_X8_screwBy_7 post n) post x2 z3 x4 z2 S))))))))))
set_option maxHeartbeats 4000000 in
set_option maxRecDepth 20000 in
theorem b_X8_screwBy_7 {v : VmT} {l : Launch} {g : CxT} (ok : Ok l g (oM v) 8 cX8_screwBy RX8 (some .int)) {post : Int32 → Mem → Prop} (he : EndQ g (oM v) (va_Qi post (fun S1 t => BX (oM v) S1 t) (AX (oM v)))) : ∀ (n : Nat) (x2 : Int32) (x3 : Int32) (x4 : Int32) (S : Mem), w_X8_screwBy_7 post n x2 x3 x4 S → G g (oM v) 2 8 7 [(0, .ref (v.1 0)), (2, .int x2), (3, .int x3), (4, .int x4)] [] S := by
  intro n
  induction n with
  | zero =>
    intro x2 x3 x4 S h
    exact h.elim
  | succ n ih =>
    intro x2 x3 x4 S h
    rw [w_X8_screwBy_7] at h
    refine g_iload 3 (n := 9) ok dX8_screwBy_7 rfl rfl ?_
    refine g_iconst (v := 4) (n := 10) ok dX8_screwBy_9 rfl (by decide) ?_
    refine g_icmp_ge (t := 157) (n := 13) ok dX8_screwBy_10 (by decide) rfl (fun e6 => ?_) (fun e6 => ?_)
    · replace h := h.1 e6
      refine g_iload_n 1 (n := 158) ok dX8_screwBy_157 rfl rfl ?_
      refine g_iconst (v := 4) (n := 159) ok dX8_screwBy_158 rfl (by decide) ?_
      refine g_icmp_le (t := 167) (n := 162) ok dX8_screwBy_159 (by decide) rfl (fun e1 => ?_) (fun e1 => ?_)
      · replace h := h.1 e1
        refine g_iload_n 1 (n := 168) ok dX8_screwBy_167 rfl rfl ?_
        exact g_sub [] rfl (b_X8_screwBy_168 ok he x2 S h)
      · replace h := h.2 e1
        refine g_bipush (v := 9) (n := 164) ok dX8_screwBy_162 rfl (by decide) ?_
        refine g_goto (t := 168) ok dX8_screwBy_164 (by decide) ?_
        exact g_sub [] rfl (b_X8_screwBy_168 ok he (9 : Int32) S h)
    · replace h := h.2 e6
      refine g_iload_n 2 (n := 14) ok dX8_screwBy_13 rfl rfl ?_
      refine g_bipush (v := 7) (n := 16) ok dX8_screwBy_14 rfl (by decide) ?_
      refine g_irem (n := 17) ok dX8_screwBy_16 rfl (by decide) ?_
      refine g_iconst (v := 3) (n := 18) ok dX8_screwBy_17 rfl (by decide) ?_
      refine g_isub (n := 19) ok dX8_screwBy_18 rfl ?_
      refine g_topi (fun z2 ez2 => ?_)
      replace h := h z2 ez2
      refine g_istore [(5, .int z2), (0, .ref (v.1 0)), (2, .int x2), (3, .int x3), (4, .int x4)] (n := 21) ok dX8_screwBy_19 rfl (by decide) rfl ?_
      refine g_iload_n 3 (n := 22) ok dX8_screwBy_21 rfl rfl ?_
      refine g_bipush (v := 7) (n := 24) ok dX8_screwBy_22 rfl (by decide) ?_
      refine g_idiv (n := 25) ok dX8_screwBy_24 rfl (by decide) ?_
      refine g_topi (fun z3 ez3 => ?_)
      replace h := h z3 ez3
      refine g_istore_n [(3, .int z3), (5, .int z2), (0, .ref (v.1 0)), (2, .int x2), (4, .int x4)] (n := 26) ok dX8_screwBy_25 rfl (by decide) rfl ?_
      refine g_aload_n 2 (n := 27) ok dX8_screwBy_26 rfl rfl ?_
      refine fg_X8_X8_kinds (n := 30) ok dX8_screwBy_27 rfl ?_
      refine g_iload 4 (n := 32) ok dX8_screwBy_30 rfl rfl ?_
      obtain ⟨h0, h⟩ := h
      refine g_iald (c := 2) (t0 := 0) (n := 33) ok (Nat.le_of_ble_eq_true rfl) rfl rfl h0 dX8_screwBy_32 rfl ?_
      refine g_iconst (v := 2) (n := 34) ok dX8_screwBy_33 rfl (by decide) ?_
      refine g_icmp_eq (t := 48) (n := 37) ok dX8_screwBy_34 (by decide) rfl (fun e5 => ?_) (fun e5 => ?_)
      · replace h := h.1 e5
        exact g_sub [2, 3, 0, 4, 1] rfl (b_X8_screwBy_48 ok ih he x2 z3 x4 z2 S h)
      · replace h := h.2 e5
        refine g_aload_n 2 (n := 38) ok dX8_screwBy_37 rfl rfl ?_
        refine fg_X8_X8_kinds (n := 41) ok dX8_screwBy_38 rfl ?_
        refine g_iload 4 (n := 43) ok dX8_screwBy_41 rfl rfl ?_
        obtain ⟨h0, h⟩ := h
        refine g_iald (c := 2) (t0 := 0) (n := 44) ok (Nat.le_of_ble_eq_true rfl) rfl rfl h0 dX8_screwBy_43 rfl ?_
        refine g_iconst (v := 4) (n := 45) ok dX8_screwBy_44 rfl (by decide) ?_
        refine g_icmp_ne (t := 52) (n := 48) ok dX8_screwBy_45 (by decide) rfl (fun e4 => ?_) (fun e4 => ?_)
        · replace h := h.1 e4
          refine g_iconst (v := 0) (n := 53) ok dX8_screwBy_52 rfl (by decide) ?_
          exact g_sub [2, 3, 0, 4, 1] rfl (b_X8_screwBy_53 ok ih he x2 z3 x4 z2 (0 : Int32) S h)
        · replace h := h.2 e4
          exact g_sub [2, 3, 0, 4, 1] rfl (b_X8_screwBy_48 ok ih he x2 z3 x4 z2 S h)
def w_X8_screwBy (p1 : Int32) (S : Mem) (post : Int32 → Mem → Prop) : Prop := ∃ n, w_X8_screwBy_7 post n (0 : Int32) p1 (0 : Int32) S
set_option maxHeartbeats 4000000 in
set_option maxRecDepth 20000 in
theorem c_X8_screwBy (l : Launch) (v : VmT) (p1 : Int32) (S : Mem) (post : Int32 → Mem → Prop) (h : w_X8_screwBy p1 S post) : MI l yX8_screwBy cX8_screwBy 8 (some .int) 2 (oM v) [.ref (v.1 0), .int p1] S post := by
  refine met_start (by decide +kernel) (Nat.le_of_ble_eq_true rfl) (fun g ok he => ?_)
  refine g_eq (L' := [(0, .ref (v.1 0)), (1, .int p1)]) (st' := []) ?_ rfl rfl
  unfold w_X8_screwBy at h
  refine g_iconst (v := 0) (n := 1) ok dX8_screwBy_0 rfl (by decide) ?_
  refine g_istore_n [(2, .int (0 : Int32)), (0, .ref (v.1 0)), (1, .int p1)] (n := 2) ok dX8_screwBy_1 rfl (by decide) rfl ?_
  refine g_iload_n 2 (n := 3) ok dX8_screwBy_2 rfl rfl ?_
  refine g_istore_n [(3, .int p1), (2, .int (0 : Int32)), (0, .ref (v.1 0)), (1, .int p1)] (n := 4) ok dX8_screwBy_3 rfl (by decide) rfl ?_
  refine g_iconst (v := 0) (n := 5) ok dX8_screwBy_4 rfl (by decide) ?_
  refine g_istore [(4, .int (0 : Int32)), (3, .int p1), (2, .int (0 : Int32)), (0, .ref (v.1 0)), (1, .int p1)] (n := 7) ok dX8_screwBy_5 rfl (by decide) rfl ?_
  obtain ⟨n0, h⟩ := h
  exact g_sub [3, 2, 1, 0] rfl (b_X8_screwBy_7 ok he n0 (0 : Int32) p1 (0 : Int32) S h)
def w_X8_screwed_70 (K35 : Int32 → Int32 → Mem → Prop) (post : Int32 → Mem → Prop) (x1 : Int32) (x2 : Int32) (S : Mem) : Prop := (∀ z1 : Int32, z1 = x2 + 1 → K35 x1 z1 S)
set_option maxHeartbeats 4000000 in
set_option maxRecDepth 20000 in
theorem b_X8_screwed_70 {v : VmT} {l : Launch} {g : CxT} {K35 : Int32 → Int32 → Mem → Prop} (ok : Ok l g (oM v) 4 cX8_screwed RX8 (some .int)) (hK35 : ∀ (x1 : Int32) (x2 : Int32) (S : Mem), K35 x1 x2 S → G g (oM v) 5 4 35 [(0, .ref (v.1 0)), (1, .int x1), (2, .int x2)] [] S) {post : Int32 → Mem → Prop} (he : EndQ g (oM v) (va_Qi post (fun S1 t => BX (oM v) S1 t) (AX (oM v)))) (x1 : Int32) (x2 : Int32) (S : Mem) (h : w_X8_screwed_70 K35 post x1 x2 S) : G g (oM v) 5 4 70 [(0, .ref (v.1 0)), (1, .int x1), (2, .int x2)] [] S := by
  unfold w_X8_screwed_70 at h
  obtain ⟨z1, ez1⟩ : ∃ y : Int32, y = x2 + 1 := ⟨_, rfl⟩
  replace h := h z1 ez1
  refine g_iinc 2 [(2, .int z1), (0, .ref (v.1 0)), (1, .int x1)] (v := z1) (n := 73) ok dX8_screwed_70 rfl rfl (by rw [ez1]; rfl) (by decide) rfl ?_
  refine g_goto (t := 35) ok dX8_screwed_73 (by decide) ?_
  exact g_sub [1, 2, 0] rfl (hK35 x1 z1 S h)
def w_X8_screwed_69 (K35 : Int32 → Int32 → Mem → Prop) (post : Int32 → Mem → Prop) (x2 : Int32) (y0 : Int32) (S : Mem) : Prop := w_X8_screwed_70 K35 post y0 x2 S
set_option maxHeartbeats 4000000 in
set_option maxRecDepth 20000 in
theorem b_X8_screwed_69 {v : VmT} {l : Launch} {g : CxT} {K35 : Int32 → Int32 → Mem → Prop} (ok : Ok l g (oM v) 4 cX8_screwed RX8 (some .int)) (hK35 : ∀ (x1 : Int32) (x2 : Int32) (S : Mem), K35 x1 x2 S → G g (oM v) 5 4 35 [(0, .ref (v.1 0)), (1, .int x1), (2, .int x2)] [] S) {post : Int32 → Mem → Prop} (he : EndQ g (oM v) (va_Qi post (fun S1 t => BX (oM v) S1 t) (AX (oM v)))) (x2 : Int32) (y0 : Int32) (S : Mem) (h : w_X8_screwed_69 K35 post x2 y0 S) : G g (oM v) 5 4 69 [(0, .ref (v.1 0)), (2, .int x2)] [.int y0] S := by
  unfold w_X8_screwed_69 at h
  refine g_istore_n [(1, .int y0), (0, .ref (v.1 0)), (2, .int x2)] (n := 70) ok dX8_screwed_69 rfl (by decide) rfl ?_
  exact g_sub [1, 0, 2] rfl (b_X8_screwed_70 ok hK35 he y0 x2 S h)
def w_X8_screwed_112 (post : Int32 → Mem → Prop) (y0 : Int32) (S : Mem) : Prop := post y0 S
set_option maxHeartbeats 4000000 in
set_option maxRecDepth 20000 in
theorem b_X8_screwed_112 {v : VmT} {l : Launch} {g : CxT} (ok : Ok l g (oM v) 4 cX8_screwed RX8 (some .int)) {post : Int32 → Mem → Prop} (he : EndQ g (oM v) (va_Qi post (fun S1 t => BX (oM v) S1 t) (AX (oM v)))) (y0 : Int32) (S : Mem) (h : w_X8_screwed_112 post y0 S) : G g (oM v) 5 4 112 [] [.int y0] S := by
  unfold w_X8_screwed_112 at h
  exact g_iret ok he h dX8_screwed_112
def w_X8_screwed_78 (post : Int32 → Mem → Prop) : Nat → Int32 → Int32 → Mem → Prop
  | 0, _, _, _ => False
  | n + 1, x1, x2, S => (((4 : Int32) ≤ x2 → (((9 : Int32) ≤ x1 → w_X8_screwed_112 post (-1 : Int32) S) ∧ (¬ (9 : Int32) ≤ x1 → w_X8_screwed_112 post x1 S))) ∧ (¬ (4 : Int32) ≤ x2 → (vp_in x2 4 ∧ (vp_in x2 4 ∧ (∀ S2 : Mem, S2 = mset S 4 (upd (S 4) x2.toNatClampNeg (S 15 x2.toNatClampNeg)) → (∀ z3 : Int32, z3 = x2 + 1 → w_X8_screwed_78 post n x1 z3 S2))))))
set_option maxHeartbeats 4000000 in
set_option maxRecDepth 20000 in
theorem b_X8_screwed_78 {v : VmT} {l : Launch} {g : CxT} (ok : Ok l g (oM v) 4 cX8_screwed RX8 (some .int)) {post : Int32 → Mem → Prop} (he : EndQ g (oM v) (va_Qi post (fun S1 t => BX (oM v) S1 t) (AX (oM v)))) : ∀ (n : Nat) (x1 : Int32) (x2 : Int32) (S : Mem), w_X8_screwed_78 post n x1 x2 S → G g (oM v) 5 4 78 [(0, .ref (v.1 0)), (1, .int x1), (2, .int x2)] [] S := by
  intro n
  induction n with
  | zero =>
    intro x1 x2 S h
    exact h.elim
  | succ n ih =>
    intro x1 x2 S h
    rw [w_X8_screwed_78] at h
    refine g_iload_n 2 (n := 79) ok dX8_screwed_78 rfl rfl ?_
    refine g_iconst (v := 4) (n := 80) ok dX8_screwed_79 rfl (by decide) ?_
    refine g_icmp_ge (t := 101) (n := 83) ok dX8_screwed_80 (by decide) rfl (fun e4 => ?_) (fun e4 => ?_)
    · replace h := h.1 e4
      refine g_iload_n 1 (n := 102) ok dX8_screwed_101 rfl rfl ?_
      refine g_bipush (v := 9) (n := 104) ok dX8_screwed_102 rfl (by decide) ?_
      refine g_icmp_ge (t := 111) (n := 107) ok dX8_screwed_104 (by decide) rfl (fun e1 => ?_) (fun e1 => ?_)
      · replace h := h.1 e1
        refine g_iconst (v := -1) (n := 112) ok dX8_screwed_111 rfl (by decide) ?_
        exact g_sub [] rfl (b_X8_screwed_112 ok he (-1 : Int32) S h)
      · replace h := h.2 e1
        refine g_iload_n 1 (n := 108) ok dX8_screwed_107 rfl rfl ?_
        refine g_goto (t := 112) ok dX8_screwed_108 (by decide) ?_
        exact g_sub [] rfl (b_X8_screwed_112 ok he x1 S h)
    · replace h := h.2 e4
      refine g_aload_n 0 (n := 84) ok dX8_screwed_83 rfl rfl ?_
      refine fg_X8_X8_numbers (n := 87) ok dX8_screwed_84 rfl ?_
      refine g_iload_n 2 (n := 88) ok dX8_screwed_87 rfl rfl ?_
      refine g_aload_n 0 (n := 89) ok dX8_screwed_88 rfl rfl ?_
      refine fg_X8_X8_kept (n := 92) ok dX8_screwed_89 rfl ?_
      refine g_iload_n 2 (n := 93) ok dX8_screwed_92 rfl rfl ?_
      obtain ⟨h0, h⟩ := h
      refine g_iald (c := 15) (t0 := 0) (n := 94) ok (Nat.le_of_ble_eq_true rfl) rfl rfl h0 dX8_screwed_93 rfl ?_
      obtain ⟨h0, h⟩ := h
      refine g_iast (c := 4) (t0 := 0) (n := 95) ok (Nat.le_of_ble_eq_true rfl) (fun _ => rfl) rfl h0 dX8_screwed_94 rfl ?_
      refine g_mem (fun S2 eS2 => ?_)
      replace h := h S2 eS2
      obtain ⟨z3, ez3⟩ : ∃ y : Int32, y = x2 + 1 := ⟨_, rfl⟩
      replace h := h z3 ez3
      refine g_iinc 2 [(2, .int z3), (0, .ref (v.1 0)), (1, .int x1)] (v := z3) (n := 98) ok dX8_screwed_95 rfl rfl (by rw [ez3]; rfl) (by decide) rfl ?_
      refine g_goto (t := 78) ok dX8_screwed_98 (by decide) ?_
      exact g_sub [1, 2, 0] rfl (ih x1 z3 S2 h)
def w_X8_screwed_35 (post : Int32 → Mem → Prop) : Nat → Int32 → Int32 → Mem → Prop
  | 0, _, _, _ => False
  | n + 1, x1, x2, S => (((2401 : Int32) ≤ x2 → ∃ n, w_X8_screwed_78 post n x1 (0 : Int32) S) ∧ (¬ (2401 : Int32) ≤ x2 → w_X8_screwBy x2 S (fun r1 S1 => ((x1 ≤ r1 → w_X8_screwed_70 (w_X8_screwed_35 post n) post x1 x2 S1) ∧ (¬ x1 ≤ r1 → w_X8_findNow  S1 (fun S2 => ((¬ (S2 0 33) = 0 → w_X8_screwed_69 (w_X8_screwed_35 post n) post x2 x1 S2) ∧ ((S2 0 33) = 0 → w_X8_screwed_69 (w_X8_screwed_35 post n) post x2 r1 S2))))))))
set_option maxHeartbeats 4000000 in
set_option maxRecDepth 20000 in
theorem b_X8_screwed_35 {v : VmT} {l : Launch} {g : CxT} (ok : Ok l g (oM v) 4 cX8_screwed RX8 (some .int)) {post : Int32 → Mem → Prop} (he : EndQ g (oM v) (va_Qi post (fun S1 t => BX (oM v) S1 t) (AX (oM v)))) : ∀ (n : Nat) (x1 : Int32) (x2 : Int32) (S : Mem), w_X8_screwed_35 post n x1 x2 S → G g (oM v) 5 4 35 [(0, .ref (v.1 0)), (1, .int x1), (2, .int x2)] [] S := by
  intro n
  induction n with
  | zero =>
    intro x1 x2 S h
    exact h.elim
  | succ n ih =>
    intro x1 x2 S h
    rw [w_X8_screwed_35] at h
    refine g_iload_n 2 (n := 36) ok dX8_screwed_35 rfl rfl ?_
    refine g_sipush (v := 2401) (n := 39) ok dX8_screwed_36 rfl (by decide) ?_
    refine g_icmp_ge (t := 76) (n := 42) ok dX8_screwed_39 (by decide) rfl (fun e5 => ?_) (fun e5 => ?_)
    · replace h := h.1 e5
      refine g_iconst (v := 0) (n := 77) ok dX8_screwed_76 rfl (by decide) ?_
      refine g_istore_n [(2, .int (0 : Int32)), (0, .ref (v.1 0)), (1, .int x1)] (n := 78) ok dX8_screwed_77 rfl (by decide) rfl ?_
      obtain ⟨n0, h⟩ := h
      exact g_sub [1, 2, 0] rfl (b_X8_screwed_78 ok he n0 x1 (0 : Int32) S h)
    · replace h := h.2 e5
      refine g_aload_n 0 (n := 43) ok dX8_screwed_42 rfl rfl ?_
      refine g_iload_n 2 (n := 44) ok dX8_screwed_43 rfl rfl ?_
      refine g_callVi (n := 47) (As := [.int x2]) (rest := []) (c := 0) ok (c_X8_screwBy l v x2 S _ h) cal_X8_screwBy tw_1087 tw_1089 tp_91 (Nat.le_of_ble_eq_true rfl) rfl rfl (by decide) (by decide) rfl (Nat.le_of_ble_eq_true rfl) dX8_screwed_44 rfl rfl (fun r1 S1 h => ?_)
      refine g_istore_n [(3, .int r1), (0, .ref (v.1 0)), (1, .int x1), (2, .int x2)] (n := 48) ok dX8_screwed_47 rfl (by decide) rfl ?_
      refine g_iload_n 0 (n := 49) ok dX8_screwed_48 rfl rfl ?_
      refine g_iload_n 2 (n := 50) ok dX8_screwed_49 rfl rfl ?_
      refine g_icmp_ge (t := 70) (n := 53) ok dX8_screwed_50 (by decide) rfl (fun e4 => ?_) (fun e4 => ?_)
      · replace h := h.1 e4
        exact g_sub [1, 2, 3] rfl (b_X8_screwed_70 ok ih he x1 x2 S1 h)
      · replace h := h.2 e4
        refine g_aload_n 1 (n := 54) ok dX8_screwed_53 rfl rfl ?_
        refine g_callVv (n := 57) (As := []) (rest := []) (c := 0) ok (c_X8_findNow l v  S1 _ h) cal_X8_findNow tw_997 tw_999 tp_80 (Nat.le_of_ble_eq_true rfl) rfl rfl (by decide) (by decide) rfl (Nat.le_of_ble_eq_true rfl) dX8_screwed_54 rfl rfl (fun S2 h => ?_)
        refine g_aload_n 1 (n := 58) ok dX8_screwed_57 rfl rfl ?_
        refine fg_X8_X8_rock (n := 61) ok dX8_screwed_58 rfl ?_
        refine g_if_ne (t := 68) (n := 64) ok dX8_screwed_61 (by decide) rfl (fun e3 => ?_) (fun e3 => ?_)
        · replace h := h.1 e3
          refine g_iload_n 2 (n := 69) ok dX8_screwed_68 rfl rfl ?_
          exact g_sub [1, 3] rfl (b_X8_screwed_69 ok ih he x2 x1 S2 h)
        · replace h := h.2 e3
          refine g_iload_n 0 (n := 65) ok dX8_screwed_64 rfl rfl ?_
          refine g_goto (t := 69) ok dX8_screwed_65 (by decide) ?_
          exact g_sub [1, 3] rfl (b_X8_screwed_69 ok ih he x2 r1 S2 h)
def w_X8_screwed_7 (post : Int32 → Mem → Prop) : Nat → Int32 → Mem → Prop
  | 0, _, _ => False
  | n + 1, x1, S => (((4 : Int32) ≤ x1 → ∃ n, w_X8_screwed_35 post n (9 : Int32) (0 : Int32) S) ∧ (¬ (4 : Int32) ≤ x1 → (vp_in x1 4 ∧ (vp_in x1 4 ∧ (∀ S1 : Mem, S1 = mset S 15 (upd (S 15) x1.toNatClampNeg (S 4 x1.toNatClampNeg)) → (∀ z2 : Int32, z2 = x1 + 1 → w_X8_screwed_7 post n z2 S1))))))
set_option maxHeartbeats 4000000 in
set_option maxRecDepth 20000 in
theorem b_X8_screwed_7 {v : VmT} {l : Launch} {g : CxT} (ok : Ok l g (oM v) 4 cX8_screwed RX8 (some .int)) {post : Int32 → Mem → Prop} (he : EndQ g (oM v) (va_Qi post (fun S1 t => BX (oM v) S1 t) (AX (oM v)))) : ∀ (n : Nat) (x1 : Int32) (S : Mem), w_X8_screwed_7 post n x1 S → G g (oM v) 5 4 7 [(0, .ref (v.1 0)), (1, .int x1)] [] S := by
  intro n
  induction n with
  | zero =>
    intro x1 S h
    exact h.elim
  | succ n ih =>
    intro x1 S h
    rw [w_X8_screwed_7] at h
    refine g_iload_n 1 (n := 8) ok dX8_screwed_7 rfl rfl ?_
    refine g_iconst (v := 4) (n := 9) ok dX8_screwed_8 rfl (by decide) ?_
    refine g_icmp_ge (t := 30) (n := 12) ok dX8_screwed_9 (by decide) rfl (fun e3 => ?_) (fun e3 => ?_)
    · replace h := h.1 e3
      refine g_bipush (v := 9) (n := 32) ok dX8_screwed_30 rfl (by decide) ?_
      refine g_istore_n [(1, .int (9 : Int32)), (0, .ref (v.1 0))] (n := 33) ok dX8_screwed_32 rfl (by decide) rfl ?_
      refine g_iconst (v := 0) (n := 34) ok dX8_screwed_33 rfl (by decide) ?_
      refine g_istore_n [(2, .int (0 : Int32)), (1, .int (9 : Int32)), (0, .ref (v.1 0))] (n := 35) ok dX8_screwed_34 rfl (by decide) rfl ?_
      obtain ⟨n0, h⟩ := h
      exact g_sub [2, 1, 0] rfl (b_X8_screwed_35 ok he n0 (9 : Int32) (0 : Int32) S h)
    · replace h := h.2 e3
      refine g_aload_n 0 (n := 13) ok dX8_screwed_12 rfl rfl ?_
      refine fg_X8_X8_kept (n := 16) ok dX8_screwed_13 rfl ?_
      refine g_iload_n 1 (n := 17) ok dX8_screwed_16 rfl rfl ?_
      refine g_aload_n 0 (n := 18) ok dX8_screwed_17 rfl rfl ?_
      refine fg_X8_X8_numbers (n := 21) ok dX8_screwed_18 rfl ?_
      refine g_iload_n 1 (n := 22) ok dX8_screwed_21 rfl rfl ?_
      obtain ⟨h0, h⟩ := h
      refine g_iald (c := 4) (t0 := 0) (n := 23) ok (Nat.le_of_ble_eq_true rfl) rfl rfl h0 dX8_screwed_22 rfl ?_
      obtain ⟨h0, h⟩ := h
      refine g_iast (c := 15) (t0 := 0) (n := 24) ok (Nat.le_of_ble_eq_true rfl) (fun _ => rfl) rfl h0 dX8_screwed_23 rfl ?_
      refine g_mem (fun S1 eS1 => ?_)
      replace h := h S1 eS1
      obtain ⟨z2, ez2⟩ : ∃ y : Int32, y = x1 + 1 := ⟨_, rfl⟩
      replace h := h z2 ez2
      refine g_iinc 1 [(1, .int z2), (0, .ref (v.1 0))] (v := z2) (n := 27) ok dX8_screwed_24 rfl rfl (by rw [ez2]; rfl) (by decide) rfl ?_
      refine g_goto (t := 7) ok dX8_screwed_27 (by decide) ?_
      exact g_sub [1, 0] rfl (ih z2 S1 h)
def w_X8_screwed (S : Mem) (post : Int32 → Mem → Prop) : Prop := (∀ S1 : Mem, S1 = mset S 0 (upd (S 0) 8 (0 : Int32)) → ∃ n, w_X8_screwed_7 post n (0 : Int32) S1)
set_option maxHeartbeats 4000000 in
set_option maxRecDepth 20000 in
theorem c_X8_screwed (l : Launch) (v : VmT) (S : Mem) (post : Int32 → Mem → Prop) (h : w_X8_screwed  S post) : MI l yX8_screwed cX8_screwed 4 (some .int) 5 (oM v) [.ref (v.1 0)] S post := by
  refine met_start (by decide +kernel) (Nat.le_of_ble_eq_true rfl) (fun g ok he => ?_)
  refine g_eq (L' := [(0, .ref (v.1 0))]) (st' := []) ?_ rfl rfl
  unfold w_X8_screwed at h
  refine g_aload_n 0 (n := 1) ok dX8_screwed_0 rfl rfl ?_
  refine g_iconst (v := 0) (n := 2) ok dX8_screwed_1 rfl (by decide) ?_
  refine fp_X8_X8_thrown (n := 5) ok dX8_screwed_2 rfl ?_
  refine g_mem (fun S1 eS1 => ?_)
  replace h := h S1 eS1
  refine g_iconst (v := 0) (n := 6) ok dX8_screwed_5 rfl (by decide) ?_
  refine g_istore_n [(1, .int (0 : Int32)), (0, .ref (v.1 0))] (n := 7) ok dX8_screwed_6 rfl (by decide) rfl ?_
  obtain ⟨n0, h⟩ := h
  exact g_sub [1, 0] rfl (b_X8_screwed_7 ok he n0 (0 : Int32) S1 h)
def w_X8_blame_67 (post : Int32 → Mem → Prop) (y0 : Int32) (S : Mem) : Prop := post y0 S
set_option maxHeartbeats 4000000 in
set_option maxRecDepth 20000 in
theorem b_X8_blame_67 {v : VmT} {l : Launch} {g : CxT} (ok : Ok l g (oM v) 4 cX8_blame RX8 (some .int)) {post : Int32 → Mem → Prop} (he : EndQ g (oM v) (va_Qi post (fun S1 t => BX (oM v) S1 t) (AX (oM v)))) (y0 : Int32) (S : Mem) (h : w_X8_blame_67 post y0 S) : G g (oM v) 5 4 67 [] [.int y0] S := by
  unfold w_X8_blame_67 at h
  exact g_iret ok he h dX8_blame_67
def w_X8_blame (p1 : Int32) (S : Mem) (post : Int32 → Mem → Prop) : Prop := (∀ S1 : Mem, S1 = mset S 0 (upd (S 0) 8 (0 : Int32)) → w_X8_in p1.toInt64 (0 : Int64) (1 : Int64) S1 (fun r2 S2 => ((¬ r2 = 0 → w_X8_find (S2 0 4) (jrem ((S2 0 6) + (2 : Int32)) (8 : Int32)) S2 (fun S3 => (∀ z4 : Int32, z4 = S3 0 31 → w_X8_findNow  S3 (fun S5 => (∀ z6 : Int32, z6 = ((S5 0 31) + z4) / (2 : Int32) → ((¬ p1 = 0 → w_X8_blame_67 post ((S5 0 31) - z6) S5) ∧ (p1 = 0 → w_X8_blame_67 post z6 S5))))))) ∧ (r2 = 0 → post (-100000 : Int32) S2))))
set_option maxHeartbeats 4000000 in
set_option maxRecDepth 20000 in
theorem c_X8_blame (l : Launch) (v : VmT) (p1 : Int32) (S : Mem) (post : Int32 → Mem → Prop) (h : w_X8_blame p1 S post) : MI l yX8_blame cX8_blame 4 (some .int) 5 (oM v) [.ref (v.1 0), .int p1] S post := by
  refine met_start (by decide +kernel) (Nat.le_of_ble_eq_true rfl) (fun g ok he => ?_)
  refine g_eq (L' := [(0, .ref (v.1 0)), (1, .int p1)]) (st' := []) ?_ rfl rfl
  unfold w_X8_blame at h
  refine g_aload_n 0 (n := 1) ok dX8_blame_0 rfl rfl ?_
  refine g_iconst (v := 0) (n := 2) ok dX8_blame_1 rfl (by decide) ?_
  refine fp_X8_X8_thrown (n := 5) ok dX8_blame_2 rfl ?_
  refine g_mem (fun S1 eS1 => ?_)
  replace h := h S1 eS1
  refine g_iload_n 1 (n := 6) ok dX8_blame_5 rfl rfl ?_
  refine g_i2l (n := 7) ok dX8_blame_6 rfl ?_
  refine g_lconst (v := 0) (n := 8) ok dX8_blame_7 rfl (by decide) ?_
  refine g_lconst (v := 1) (n := 9) ok dX8_blame_8 rfl (by decide) ?_
  refine g_callSi (n := 12) (As := [.long p1.toInt64, .long (0 : Int64), .long (1 : Int64)]) (rest := []) ok (c_X8_in l v p1.toInt64 (0 : Int64) (1 : Int64) S1 _ h) cal_X8_in tw_771 tw_772 (by decide) (by decide) rfl (Nat.le_of_ble_eq_true rfl) dX8_blame_9 rfl rfl (fun r2 S2 h => ?_)
  refine g_if_ne (t := 18) (n := 15) ok dX8_blame_12 (by decide) rfl (fun e8 => ?_) (fun e8 => ?_)
  · replace h := h.1 e8
    refine g_aload_n 0 (n := 19) ok dX8_blame_18 rfl rfl ?_
    refine g_aload_n 0 (n := 20) ok dX8_blame_19 rfl rfl ?_
    refine fg_X8_X8_place (n := 23) ok dX8_blame_20 rfl ?_
    refine g_aload_n 0 (n := 24) ok dX8_blame_23 rfl rfl ?_
    refine fg_X8_X8_turned (n := 27) ok dX8_blame_24 rfl ?_
    refine g_iconst (v := 2) (n := 28) ok dX8_blame_27 rfl (by decide) ?_
    refine g_iadd (n := 29) ok dX8_blame_28 rfl ?_
    refine g_bipush (v := 8) (n := 31) ok dX8_blame_29 rfl (by decide) ?_
    refine g_irem (n := 32) ok dX8_blame_31 rfl (by decide) ?_
    refine g_callVv (n := 35) (As := [.int (S2 0 4), .int (jrem ((S2 0 6) + (2 : Int32)) (8 : Int32))]) (rest := []) (c := 0) ok (c_X8_find l v (S2 0 4) (jrem ((S2 0 6) + (2 : Int32)) (8 : Int32)) S2 _ h) cal_X8_find tw_1001 tw_1003 tp_81 (Nat.le_of_ble_eq_true rfl) rfl rfl (by decide) (by decide) rfl (Nat.le_of_ble_eq_true rfl) dX8_blame_32 rfl rfl (fun S3 h => ?_)
    refine g_aload_n 0 (n := 36) ok dX8_blame_35 rfl rfl ?_
    refine fg_X8_X8_gap (n := 39) ok dX8_blame_36 rfl ?_
    refine g_topi (fun z4 ez4 => ?_)
    replace h := h z4 ez4
    refine g_istore_n [(2, .int z4), (0, .ref (v.1 0)), (1, .int p1)] (n := 40) ok dX8_blame_39 rfl (by decide) rfl ?_
    refine g_aload_n 1 (n := 41) ok dX8_blame_40 rfl rfl ?_
    refine g_callVv (n := 44) (As := []) (rest := []) (c := 0) ok (c_X8_findNow l v  S3 _ h) cal_X8_findNow tw_997 tw_999 tp_80 (Nat.le_of_ble_eq_true rfl) rfl rfl (by decide) (by decide) rfl (Nat.le_of_ble_eq_true rfl) dX8_blame_41 rfl rfl (fun S5 h => ?_)
    refine g_aload_n 1 (n := 45) ok dX8_blame_44 rfl rfl ?_
    refine fg_X8_X8_gap (n := 48) ok dX8_blame_45 rfl ?_
    refine g_iload_n 0 (n := 49) ok dX8_blame_48 rfl rfl ?_
    refine g_iadd (n := 50) ok dX8_blame_49 rfl ?_
    refine g_iconst (v := 2) (n := 51) ok dX8_blame_50 rfl (by decide) ?_
    refine g_idiv (n := 52) ok dX8_blame_51 rfl (by decide) ?_
    refine g_topi (fun z6 ez6 => ?_)
    replace h := h z6 ez6
    refine g_istore_n [(3, .int z6), (2, .int z4), (0, .ref (v.1 0)), (1, .int p1)] (n := 53) ok dX8_blame_52 rfl (by decide) rfl ?_
    refine g_iload_n 3 (n := 54) ok dX8_blame_53 rfl rfl ?_
    refine g_if_ne (t := 61) (n := 57) ok dX8_blame_54 (by decide) rfl (fun e7 => ?_) (fun e7 => ?_)
    · replace h := h.1 e7
      refine g_aload_n 2 (n := 62) ok dX8_blame_61 rfl rfl ?_
      refine fg_X8_X8_gap (n := 65) ok dX8_blame_62 rfl ?_
      refine g_iload_n 0 (n := 66) ok dX8_blame_65 rfl rfl ?_
      refine g_isub (n := 67) ok dX8_blame_66 rfl ?_
      exact g_sub [] rfl (b_X8_blame_67 ok he ((S5 0 31) - z6) S5 h)
    · replace h := h.2 e7
      refine g_iload_n 0 (n := 58) ok dX8_blame_57 rfl rfl ?_
      refine g_goto (t := 67) ok dX8_blame_58 (by decide) ?_
      exact g_sub [] rfl (b_X8_blame_67 ok he z6 S5 h)
  · replace h := h.2 e8
    refine g_ldc (v := -100000) (n := 17) ok dX8_blame_15 rfl tw_996 ?_
    exact g_iret ok he h dX8_blame_17
def w_X8_apart_14 (post : Int32 → Mem → Prop) (y0 : Int32) (S : Mem) : Prop := post y0 S
set_option maxHeartbeats 4000000 in
set_option maxRecDepth 20000 in
theorem b_X8_apart_14 {v : VmT} {l : Launch} {g : CxT} (ok : Ok l g (oM v) 2 cX8_apart RX8 (some .int)) {post : Int32 → Mem → Prop} (he : EndQ g (oM v) (va_Qi post (fun S1 t => BX (oM v) S1 t) (AX (oM v)))) (y0 : Int32) (S : Mem) (h : w_X8_apart_14 post y0 S) : G g (oM v) 1 2 14 [] [.int y0] S := by
  unfold w_X8_apart_14 at h
  exact g_iret ok he h dX8_apart_14
def w_X8_apart (p0 : Int32) (p1 : Int32) (S : Mem) (post : Int32 → Mem → Prop) : Prop := ((p1 ≤ p0 → w_X8_apart_14 post (p0 - p1) S) ∧ (¬ p1 ≤ p0 → w_X8_apart_14 post (p1 - p0) S))
set_option maxHeartbeats 4000000 in
set_option maxRecDepth 20000 in
theorem c_X8_apart (l : Launch) (v : VmT) (p0 : Int32) (p1 : Int32) (S : Mem) (post : Int32 → Mem → Prop) (h : w_X8_apart p0 p1 S post) : MI l yX8_apart cX8_apart 2 (some .int) 1 (oM v) [.int p0, .int p1] S post := by
  refine met_start (by decide +kernel) (Nat.le_of_ble_eq_true rfl) (fun g ok he => ?_)
  refine g_eq (L' := [(0, .int p0), (1, .int p1)]) (st' := []) ?_ rfl rfl
  unfold w_X8_apart at h
  refine g_iload_n 0 (n := 1) ok dX8_apart_0 rfl rfl ?_
  refine g_iload_n 1 (n := 2) ok dX8_apart_1 rfl rfl ?_
  refine g_icmp_ge (t := 11) (n := 5) ok dX8_apart_2 (by decide) rfl (fun e1 => ?_) (fun e1 => ?_)
  · replace h := h.1 e1
    refine g_iload_n 0 (n := 12) ok dX8_apart_11 rfl rfl ?_
    refine g_iload_n 1 (n := 13) ok dX8_apart_12 rfl rfl ?_
    refine g_isub (n := 14) ok dX8_apart_13 rfl ?_
    exact g_sub [] rfl (b_X8_apart_14 ok he (p0 - p1) S h)
  · replace h := h.2 e1
    refine g_iload_n 1 (n := 6) ok dX8_apart_5 rfl rfl ?_
    refine g_iload_n 0 (n := 7) ok dX8_apart_6 rfl rfl ?_
    refine g_isub (n := 8) ok dX8_apart_7 rfl ?_
    refine g_goto (t := 14) ok dX8_apart_8 (by decide) ?_
    exact g_sub [] rfl (b_X8_apart_14 ok he (p1 - p0) S h)
def w_X8_beside_127 (post : Int32 → Mem → Prop) (y0 : Int32) (S : Mem) : Prop := post y0 S
set_option maxHeartbeats 4000000 in
set_option maxRecDepth 20000 in
theorem b_X8_beside_127 {v : VmT} {l : Launch} {g : CxT} (ok : Ok l g (oM v) 6 cX8_beside RX8 (some .int)) {post : Int32 → Mem → Prop} (he : EndQ g (oM v) (va_Qi post (fun S1 t => BX (oM v) S1 t) (AX (oM v)))) (y0 : Int32) (S : Mem) (h : w_X8_beside_127 post y0 S) : G g (oM v) 6 6 127 [] [.int y0] S := by
  unfold w_X8_beside_127 at h
  exact g_iret ok he h dX8_beside_127
def w_X8_beside_101 (post : Int32 → Mem → Prop) : Nat → Int32 → Int32 → Int32 → Int32 → Mem → Prop
  | 0, _, _, _, _, _ => False
  | n + 1, x1, x2, x4, x5, S => ((¬ ((x4 >>> (x5 &&& 31)) &&& (1 : Int32)) = 0 → ((¬ x1 = 0 → w_X8_beside_127 post x5 S) ∧ (x1 = 0 → w_X8_beside_127 post x2 S))) ∧ (((x4 >>> (x5 &&& 31)) &&& (1 : Int32)) = 0 → (∀ z2 : Int32, z2 = x5 + 1 → w_X8_beside_101 post n x1 x2 x4 z2 S)))
set_option maxHeartbeats 4000000 in
set_option maxRecDepth 20000 in
theorem b_X8_beside_101 {v : VmT} {l : Launch} {g : CxT} (ok : Ok l g (oM v) 6 cX8_beside RX8 (some .int)) {post : Int32 → Mem → Prop} (he : EndQ g (oM v) (va_Qi post (fun S1 t => BX (oM v) S1 t) (AX (oM v)))) : ∀ (n : Nat) (x1 : Int32) (x2 : Int32) (x4 : Int32) (x5 : Int32) (S : Mem), w_X8_beside_101 post n x1 x2 x4 x5 S → G g (oM v) 6 6 101 [(1, .int x1), (2, .int x2), (4, .int x4), (5, .int x5)] [] S := by
  intro n
  induction n with
  | zero =>
    intro x1 x2 x4 x5 S h
    exact h.elim
  | succ n ih =>
    intro x1 x2 x4 x5 S h
    rw [w_X8_beside_101] at h
    refine g_iload 2 (n := 103) ok dX8_beside_101 rfl rfl ?_
    refine g_iload 3 (n := 105) ok dX8_beside_103 rfl rfl ?_
    refine g_ishr (n := 106) ok dX8_beside_105 rfl ?_
    refine g_iconst (v := 1) (n := 107) ok dX8_beside_106 rfl (by decide) ?_
    refine g_iand (n := 108) ok dX8_beside_107 rfl ?_
    refine g_if_ne (t := 117) (n := 111) ok dX8_beside_108 (by decide) rfl (fun e3 => ?_) (fun e3 => ?_)
    · replace h := h.1 e3
      refine g_iload_n 0 (n := 118) ok dX8_beside_117 rfl rfl ?_
      refine g_if_ne (t := 125) (n := 121) ok dX8_beside_118 (by decide) rfl (fun e1 => ?_) (fun e1 => ?_)
      · replace h := h.1 e1
        refine g_iload 3 (n := 127) ok dX8_beside_125 rfl rfl ?_
        exact g_sub [] rfl (b_X8_beside_127 ok he x5 S h)
      · replace h := h.2 e1
        refine g_iload_n 1 (n := 122) ok dX8_beside_121 rfl rfl ?_
        refine g_goto (t := 127) ok dX8_beside_122 (by decide) ?_
        exact g_sub [] rfl (b_X8_beside_127 ok he x2 S h)
    · replace h := h.2 e3
      obtain ⟨z2, ez2⟩ : ∃ y : Int32, y = x5 + 1 := ⟨_, rfl⟩
      replace h := h z2 ez2
      refine g_iinc 3 [(5, .int z2), (1, .int x1), (2, .int x2), (4, .int x4)] (v := z2) (n := 114) ok dX8_beside_111 rfl rfl (by rw [ez2]; rfl) (by decide) rfl ?_
      refine g_goto (t := 101) ok dX8_beside_114 (by decide) ?_
      exact g_sub [1, 2, 3, 0] rfl (ih x1 x2 x4 z2 S h)
def w_X8_beside_91 (K20 : Int32 → Int32 → Mem → Prop) (post : Int32 → Mem → Prop) (x1 : Int32) (x2 : Int32) (y0 : Int32) (S : Mem) : Prop := ((y0 = 0 → (∀ z1 : Int32, z1 = x2 + 1 → K20 x1 z1 S)) ∧ (¬ y0 = 0 → ∃ n, w_X8_beside_101 post n x1 x2 y0 (0 : Int32) S))
set_option maxHeartbeats 4000000 in
set_option maxRecDepth 20000 in
theorem b_X8_beside_91 {v : VmT} {l : Launch} {g : CxT} {K20 : Int32 → Int32 → Mem → Prop} (ok : Ok l g (oM v) 6 cX8_beside RX8 (some .int)) (hK20 : ∀ (x1 : Int32) (x2 : Int32) (S : Mem), K20 x1 x2 S → G g (oM v) 6 6 20 [(0, .ref (v.1 0)), (1, .int x1), (2, .int x2)] [] S) {post : Int32 → Mem → Prop} (he : EndQ g (oM v) (va_Qi post (fun S1 t => BX (oM v) S1 t) (AX (oM v)))) (x1 : Int32) (x2 : Int32) (y0 : Int32) (S : Mem) (h : w_X8_beside_91 K20 post x1 x2 y0 S) : G g (oM v) 6 6 91 [(0, .ref (v.1 0)), (1, .int x1), (2, .int x2)] [.int y0] S := by
  unfold w_X8_beside_91 at h
  refine g_istore [(4, .int y0), (0, .ref (v.1 0)), (1, .int x1), (2, .int x2)] (n := 93) ok dX8_beside_91 rfl (by decide) rfl ?_
  refine g_iload 0 (n := 95) ok dX8_beside_93 rfl rfl ?_
  refine g_if_eq (t := 128) (n := 98) ok dX8_beside_95 (by decide) rfl (fun e2 => ?_) (fun e2 => ?_)
  · replace h := h.1 e2
    obtain ⟨z1, ez1⟩ : ∃ y : Int32, y = x2 + 1 := ⟨_, rfl⟩
    replace h := h z1 ez1
    refine g_iinc 3 [(2, .int z1), (4, .int y0), (0, .ref (v.1 0)), (1, .int x1)] (v := z1) (n := 131) ok dX8_beside_128 rfl rfl (by rw [ez1]; rfl) (by decide) rfl ?_
    refine g_goto (t := 20) ok dX8_beside_131 (by decide) ?_
    exact g_sub [2, 3, 0] rfl (hK20 x1 z1 S h)
  · replace h := h.2 e2
    refine g_iconst (v := 0) (n := 99) ok dX8_beside_98 rfl (by decide) ?_
    refine g_istore [(5, .int (0 : Int32)), (4, .int y0), (0, .ref (v.1 0)), (1, .int x1), (2, .int x2)] (n := 101) ok dX8_beside_99 rfl (by decide) rfl ?_
    obtain ⟨n0, h⟩ := h
    exact g_sub [3, 4, 1, 0] rfl (b_X8_beside_101 ok he n0 x1 x2 y0 (0 : Int32) S h)
def w_X8_beside_77 (K20 : Int32 → Int32 → Mem → Prop) (post : Int32 → Mem → Prop) (x1 : Int32) (x2 : Int32) (y0 : Int32) (S : Mem) : Prop := ((y0 = 0 → w_X8_beside_91 K20 post x1 x2 (0 : Int32) S) ∧ (¬ y0 = 0 → w_X8_firmAt x2 S (fun r1 S1 => w_X8_beside_91 K20 post x1 x2 r1 S1)))
set_option maxHeartbeats 4000000 in
set_option maxRecDepth 20000 in
theorem b_X8_beside_77 {v : VmT} {l : Launch} {g : CxT} {K20 : Int32 → Int32 → Mem → Prop} (ok : Ok l g (oM v) 6 cX8_beside RX8 (some .int)) (hK20 : ∀ (x1 : Int32) (x2 : Int32) (S : Mem), K20 x1 x2 S → G g (oM v) 6 6 20 [(0, .ref (v.1 0)), (1, .int x1), (2, .int x2)] [] S) {post : Int32 → Mem → Prop} (he : EndQ g (oM v) (va_Qi post (fun S1 t => BX (oM v) S1 t) (AX (oM v)))) (x1 : Int32) (x2 : Int32) (y0 : Int32) (S : Mem) (h : w_X8_beside_77 K20 post x1 x2 y0 S) : G g (oM v) 6 6 77 [(0, .ref (v.1 0)), (1, .int x1), (2, .int x2)] [.int y0] S := by
  unfold w_X8_beside_77 at h
  refine g_istore_n [(3, .int y0), (0, .ref (v.1 0)), (1, .int x1), (2, .int x2)] (n := 78) ok dX8_beside_77 rfl (by decide) rfl ?_
  refine g_iload_n 0 (n := 79) ok dX8_beside_78 rfl rfl ?_
  refine g_if_eq (t := 90) (n := 82) ok dX8_beside_79 (by decide) rfl (fun e2 => ?_) (fun e2 => ?_)
  · replace h := h.1 e2
    refine g_iconst (v := 0) (n := 91) ok dX8_beside_90 rfl (by decide) ?_
    exact g_sub [1, 2, 3] rfl (b_X8_beside_91 ok hK20 he x1 x2 (0 : Int32) S h)
  · replace h := h.2 e2
    refine g_aload_n 1 (n := 83) ok dX8_beside_82 rfl rfl ?_
    refine g_iload_n 3 (n := 84) ok dX8_beside_83 rfl rfl ?_
    refine g_callVi (n := 87) (As := [.int x2]) (rest := []) (c := 0) ok (c_X8_firmAt l v x2 S _ h) cal_X8_firmAt tw_1045 tw_1047 tp_88 (Nat.le_of_ble_eq_true rfl) rfl rfl (by decide) (by decide) rfl (Nat.le_of_ble_eq_true rfl) dX8_beside_84 rfl rfl (fun r1 S1 h => ?_)
    refine g_goto (t := 91) ok dX8_beside_87 (by decide) ?_
    exact g_sub [1, 2, 3] rfl (b_X8_beside_91 ok hK20 he x1 x2 r1 S1 h)
def w_X8_beside_72 (K20 : Int32 → Int32 → Mem → Prop) (post : Int32 → Mem → Prop) (x1 : Int32) (x2 : Int32) (S : Mem) : Prop := w_X8_beside_77 K20 post x1 x2 (1 : Int32) S
set_option maxHeartbeats 4000000 in
set_option maxRecDepth 20000 in
theorem b_X8_beside_72 {v : VmT} {l : Launch} {g : CxT} {K20 : Int32 → Int32 → Mem → Prop} (ok : Ok l g (oM v) 6 cX8_beside RX8 (some .int)) (hK20 : ∀ (x1 : Int32) (x2 : Int32) (S : Mem), K20 x1 x2 S → G g (oM v) 6 6 20 [(0, .ref (v.1 0)), (1, .int x1), (2, .int x2)] [] S) {post : Int32 → Mem → Prop} (he : EndQ g (oM v) (va_Qi post (fun S1 t => BX (oM v) S1 t) (AX (oM v)))) (x1 : Int32) (x2 : Int32) (S : Mem) (h : w_X8_beside_72 K20 post x1 x2 S) : G g (oM v) 6 6 72 [(0, .ref (v.1 0)), (1, .int x1), (2, .int x2)] [] S := by
  unfold w_X8_beside_72 at h
  refine g_iconst (v := 1) (n := 73) ok dX8_beside_72 rfl (by decide) ?_
  refine g_goto (t := 77) ok dX8_beside_73 (by decide) ?_
  exact g_sub [0, 1, 2] rfl (b_X8_beside_77 ok hK20 he x1 x2 (1 : Int32) S h)
def w_X8_beside_20 (post : Int32 → Mem → Prop) : Nat → Int32 → Int32 → Mem → Prop
  | 0, _, _, _ => False
  | n + 1, x1, x2, S => (((64 : Int32) ≤ x2 → post (-1 : Int32) S) ∧ (¬ (64 : Int32) ≤ x2 → w_X8_apart (x2 / (8 : Int32)) ((S 0 4) / (8 : Int32)) S (fun r1 S1 => ((((2 : Int32) * (S1 0 5)) < r1 → w_X8_beside_72 (w_X8_beside_20 post n) post x1 x2 S1) ∧ (¬ ((2 : Int32) * (S1 0 5)) < r1 → w_X8_apart (jrem x2 (8 : Int32)) (jrem (S1 0 4) (8 : Int32)) S1 (fun r2 S2 => ((r2 ≤ ((2 : Int32) * (S2 0 5)) → w_X8_beside_77 (w_X8_beside_20 post n) post x1 x2 (0 : Int32) S2) ∧ (¬ r2 ≤ ((2 : Int32) * (S2 0 5)) → w_X8_beside_72 (w_X8_beside_20 post n) post x1 x2 S2))))))))
set_option maxHeartbeats 4000000 in
set_option maxRecDepth 20000 in
theorem b_X8_beside_20 {v : VmT} {l : Launch} {g : CxT} (ok : Ok l g (oM v) 6 cX8_beside RX8 (some .int)) {post : Int32 → Mem → Prop} (he : EndQ g (oM v) (va_Qi post (fun S1 t => BX (oM v) S1 t) (AX (oM v)))) : ∀ (n : Nat) (x1 : Int32) (x2 : Int32) (S : Mem), w_X8_beside_20 post n x1 x2 S → G g (oM v) 6 6 20 [(0, .ref (v.1 0)), (1, .int x1), (2, .int x2)] [] S := by
  intro n
  induction n with
  | zero =>
    intro x1 x2 S h
    exact h.elim
  | succ n ih =>
    intro x1 x2 S h
    rw [w_X8_beside_20] at h
    refine g_iload_n 2 (n := 21) ok dX8_beside_20 rfl rfl ?_
    refine g_bipush (v := 64) (n := 23) ok dX8_beside_21 rfl (by decide) ?_
    refine g_icmp_ge (t := 134) (n := 26) ok dX8_beside_23 (by decide) rfl (fun e5 => ?_) (fun e5 => ?_)
    · replace h := h.1 e5
      refine g_iconst (v := -1) (n := 135) ok dX8_beside_134 rfl (by decide) ?_
      exact g_iret ok he h dX8_beside_135
    · replace h := h.2 e5
      refine g_iload_n 2 (n := 27) ok dX8_beside_26 rfl rfl ?_
      refine g_bipush (v := 8) (n := 29) ok dX8_beside_27 rfl (by decide) ?_
      refine g_idiv (n := 30) ok dX8_beside_29 rfl (by decide) ?_
      refine g_aload_n 0 (n := 31) ok dX8_beside_30 rfl rfl ?_
      refine fg_X8_X8_place (n := 34) ok dX8_beside_31 rfl ?_
      refine g_bipush (v := 8) (n := 36) ok dX8_beside_34 rfl (by decide) ?_
      refine g_idiv (n := 37) ok dX8_beside_36 rfl (by decide) ?_
      refine g_callSi (n := 40) (As := [.int (x2 / (8 : Int32)), .int ((S 0 4) / (8 : Int32))]) (rest := []) ok (c_X8_apart l v (x2 / (8 : Int32)) ((S 0 4) / (8 : Int32)) S _ h) cal_X8_apart tw_1100 tw_1101 (by decide) (by decide) rfl (Nat.le_of_ble_eq_true rfl) dX8_beside_37 rfl rfl (fun r1 S1 h => ?_)
      refine g_iconst (v := 2) (n := 41) ok dX8_beside_40 rfl (by decide) ?_
      refine g_aload_n 0 (n := 42) ok dX8_beside_41 rfl rfl ?_
      refine fg_X8_X8_radius (n := 45) ok dX8_beside_42 rfl ?_
      refine g_imul (n := 46) ok dX8_beside_45 rfl ?_
      refine g_icmp_gt (t := 72) (n := 49) ok dX8_beside_46 (by decide) rfl (fun e4 => ?_) (fun e4 => ?_)
      · replace h := h.1 e4
        exact g_sub [0, 1, 2] rfl (b_X8_beside_72 ok ih he x1 x2 S1 h)
      · replace h := h.2 e4
        refine g_iload_n 2 (n := 50) ok dX8_beside_49 rfl rfl ?_
        refine g_bipush (v := 8) (n := 52) ok dX8_beside_50 rfl (by decide) ?_
        refine g_irem (n := 53) ok dX8_beside_52 rfl (by decide) ?_
        refine g_aload_n 0 (n := 54) ok dX8_beside_53 rfl rfl ?_
        refine fg_X8_X8_place (n := 57) ok dX8_beside_54 rfl ?_
        refine g_bipush (v := 8) (n := 59) ok dX8_beside_57 rfl (by decide) ?_
        refine g_irem (n := 60) ok dX8_beside_59 rfl (by decide) ?_
        refine g_callSi (n := 63) (As := [.int (jrem x2 (8 : Int32)), .int (jrem (S1 0 4) (8 : Int32))]) (rest := []) ok (c_X8_apart l v (jrem x2 (8 : Int32)) (jrem (S1 0 4) (8 : Int32)) S1 _ h) cal_X8_apart tw_1100 tw_1101 (by decide) (by decide) rfl (Nat.le_of_ble_eq_true rfl) dX8_beside_60 rfl rfl (fun r2 S2 h => ?_)
        refine g_iconst (v := 2) (n := 64) ok dX8_beside_63 rfl (by decide) ?_
        refine g_aload_n 0 (n := 65) ok dX8_beside_64 rfl rfl ?_
        refine fg_X8_X8_radius (n := 68) ok dX8_beside_65 rfl ?_
        refine g_imul (n := 69) ok dX8_beside_68 rfl ?_
        refine g_icmp_le (t := 76) (n := 72) ok dX8_beside_69 (by decide) rfl (fun e3 => ?_) (fun e3 => ?_)
        · replace h := h.1 e3
          refine g_iconst (v := 0) (n := 77) ok dX8_beside_76 rfl (by decide) ?_
          exact g_sub [0, 1, 2] rfl (b_X8_beside_77 ok ih he x1 x2 (0 : Int32) S2 h)
        · replace h := h.2 e3
          exact g_sub [0, 1, 2] rfl (b_X8_beside_72 ok ih he x1 x2 S2 h)
def w_X8_beside (p1 : Int32) (S : Mem) (post : Int32 → Mem → Prop) : Prop := (∀ S1 : Mem, S1 = mset S 0 (upd (S 0) 8 (0 : Int32)) → w_X8_in p1.toInt64 (0 : Int64) (1 : Int64) S1 (fun r2 S2 => ((¬ r2 = 0 → ∃ n, w_X8_beside_20 post n p1 (0 : Int32) S2) ∧ (r2 = 0 → post (-2 : Int32) S2))))
set_option maxHeartbeats 4000000 in
set_option maxRecDepth 20000 in
theorem c_X8_beside (l : Launch) (v : VmT) (p1 : Int32) (S : Mem) (post : Int32 → Mem → Prop) (h : w_X8_beside p1 S post) : MI l yX8_beside cX8_beside 6 (some .int) 6 (oM v) [.ref (v.1 0), .int p1] S post := by
  refine met_start (by decide +kernel) (Nat.le_of_ble_eq_true rfl) (fun g ok he => ?_)
  refine g_eq (L' := [(0, .ref (v.1 0)), (1, .int p1)]) (st' := []) ?_ rfl rfl
  unfold w_X8_beside at h
  refine g_aload_n 0 (n := 1) ok dX8_beside_0 rfl rfl ?_
  refine g_iconst (v := 0) (n := 2) ok dX8_beside_1 rfl (by decide) ?_
  refine fp_X8_X8_thrown (n := 5) ok dX8_beside_2 rfl ?_
  refine g_mem (fun S1 eS1 => ?_)
  replace h := h S1 eS1
  refine g_iload_n 1 (n := 6) ok dX8_beside_5 rfl rfl ?_
  refine g_i2l (n := 7) ok dX8_beside_6 rfl ?_
  refine g_lconst (v := 0) (n := 8) ok dX8_beside_7 rfl (by decide) ?_
  refine g_lconst (v := 1) (n := 9) ok dX8_beside_8 rfl (by decide) ?_
  refine g_callSi (n := 12) (As := [.long p1.toInt64, .long (0 : Int64), .long (1 : Int64)]) (rest := []) ok (c_X8_in l v p1.toInt64 (0 : Int64) (1 : Int64) S1 _ h) cal_X8_in tw_771 tw_772 (by decide) (by decide) rfl (Nat.le_of_ble_eq_true rfl) dX8_beside_9 rfl rfl (fun r2 S2 h => ?_)
  refine g_if_ne (t := 18) (n := 15) ok dX8_beside_12 (by decide) rfl (fun e3 => ?_) (fun e3 => ?_)
  · replace h := h.1 e3
    refine g_iconst (v := 0) (n := 19) ok dX8_beside_18 rfl (by decide) ?_
    refine g_istore_n [(2, .int (0 : Int32)), (0, .ref (v.1 0)), (1, .int p1)] (n := 20) ok dX8_beside_19 rfl (by decide) rfl ?_
    obtain ⟨n0, h⟩ := h
    exact g_sub [1, 2, 0] rfl (b_X8_beside_20 ok he n0 p1 (0 : Int32) S2 h)
  · replace h := h.2 e3
    refine g_bipush (v := -2) (n := 17) ok dX8_beside_15 rfl (by decide) ?_
    exact g_iret ok he h dX8_beside_17
def w_X8_sit_47 (K14 : Int32 → Int32 → Int32 → Mem → Prop) (post : Int32 → Mem → Prop) (x1 : Int32) (x3 : Int32) (y0 : Int32) (S : Mem) : Prop := (∀ z1 : Int32, z1 = x3 + 1 → K14 x1 y0 z1 S)
set_option maxHeartbeats 4000000 in
set_option maxRecDepth 20000 in
theorem b_X8_sit_47 {v : VmT} {l : Launch} {g : CxT} {K14 : Int32 → Int32 → Int32 → Mem → Prop} (ok : Ok l g (oM v) 4 cX8_sit RX8 (some .int)) (hK14 : ∀ (x1 : Int32) (x2 : Int32) (x3 : Int32) (S : Mem), K14 x1 x2 x3 S → G g (oM v) 5 4 14 [(0, .ref (v.1 0)), (1, .int x1), (2, .int x2), (3, .int x3)] [] S) {post : Int32 → Mem → Prop} (he : EndQ g (oM v) (va_Qi post (fun S1 t => BX (oM v) S1 t) (AX (oM v)))) (x1 : Int32) (x3 : Int32) (y0 : Int32) (S : Mem) (h : w_X8_sit_47 K14 post x1 x3 y0 S) : G g (oM v) 5 4 47 [(0, .ref (v.1 0)), (1, .int x1), (3, .int x3)] [.int y0] S := by
  unfold w_X8_sit_47 at h
  refine g_istore_n [(2, .int y0), (0, .ref (v.1 0)), (1, .int x1), (3, .int x3)] (n := 48) ok dX8_sit_47 rfl (by decide) rfl ?_
  obtain ⟨z1, ez1⟩ : ∃ y : Int32, y = x3 + 1 := ⟨_, rfl⟩
  replace h := h z1 ez1
  refine g_iinc 3 [(3, .int z1), (2, .int y0), (0, .ref (v.1 0)), (1, .int x1)] (v := z1) (n := 51) ok dX8_sit_48 rfl rfl (by rw [ez1]; rfl) (by decide) rfl ?_
  refine g_goto (t := 14) ok dX8_sit_51 (by decide) ?_
  exact g_sub [2, 3, 1, 0] rfl (hK14 x1 y0 z1 S h)
def w_X8_sit_54 (post : Int32 → Mem → Prop) (x1 : Int32) (x2 : Int32) (S : Mem) : Prop := (∀ S1 : Mem, S1 = mset S 0 (upd (S 0) 7 x1) → post x2 S1)
set_option maxHeartbeats 4000000 in
set_option maxRecDepth 20000 in
theorem b_X8_sit_54 {v : VmT} {l : Launch} {g : CxT} (ok : Ok l g (oM v) 4 cX8_sit RX8 (some .int)) {post : Int32 → Mem → Prop} (he : EndQ g (oM v) (va_Qi post (fun S1 t => BX (oM v) S1 t) (AX (oM v)))) (x1 : Int32) (x2 : Int32) (S : Mem) (h : w_X8_sit_54 post x1 x2 S) : G g (oM v) 5 4 54 [(0, .ref (v.1 0)), (1, .int x1), (2, .int x2)] [] S := by
  unfold w_X8_sit_54 at h
  refine g_aload_n 0 (n := 55) ok dX8_sit_54 rfl rfl ?_
  refine g_iload_n 1 (n := 56) ok dX8_sit_55 rfl rfl ?_
  refine fp_X8_X8_load (n := 59) ok dX8_sit_56 rfl ?_
  refine g_mem (fun S1 eS1 => ?_)
  replace h := h S1 eS1
  refine g_iload_n 2 (n := 60) ok dX8_sit_59 rfl rfl ?_
  exact g_iret ok he h dX8_sit_60
def w_X8_sit_14 (post : Int32 → Mem → Prop) : Nat → Int32 → Int32 → Int32 → Mem → Prop
  | 0, _, _, _, _ => False
  | n + 1, x1, x2, x3, S => (((10 : Int32) ≤ x3 → w_X8_sit_54 post x1 x2 S) ∧ (¬ (10 : Int32) ≤ x3 → ((0 ≤ x2 → w_X8_sit_54 post x1 x2 S) ∧ (¬ 0 ≤ x2 → (∀ S1 : Mem, S1 = mset S 0 (upd (S 0) 7 x3) → w_X8_findNow  S1 (fun S2 => ((¬ (S2 0 33) = 0 → w_X8_sit_47 (w_X8_sit_14 post n) post x1 x3 (-1 : Int32) S2) ∧ ((S2 0 33) = 0 → w_X8_sit_47 (w_X8_sit_14 post n) post x1 x3 (x3 - x1) S2))))))))
set_option maxHeartbeats 4000000 in
set_option maxRecDepth 20000 in
theorem b_X8_sit_14 {v : VmT} {l : Launch} {g : CxT} (ok : Ok l g (oM v) 4 cX8_sit RX8 (some .int)) {post : Int32 → Mem → Prop} (he : EndQ g (oM v) (va_Qi post (fun S1 t => BX (oM v) S1 t) (AX (oM v)))) : ∀ (n : Nat) (x1 : Int32) (x2 : Int32) (x3 : Int32) (S : Mem), w_X8_sit_14 post n x1 x2 x3 S → G g (oM v) 5 4 14 [(0, .ref (v.1 0)), (1, .int x1), (2, .int x2), (3, .int x3)] [] S := by
  intro n
  induction n with
  | zero =>
    intro x1 x2 x3 S h
    exact h.elim
  | succ n ih =>
    intro x1 x2 x3 S h
    rw [w_X8_sit_14] at h
    refine g_iload_n 3 (n := 15) ok dX8_sit_14 rfl rfl ?_
    refine g_bipush (v := 10) (n := 17) ok dX8_sit_15 rfl (by decide) ?_
    refine g_icmp_ge (t := 54) (n := 20) ok dX8_sit_17 (by decide) rfl (fun e5 => ?_) (fun e5 => ?_)
    · replace h := h.1 e5
      exact g_sub [0, 1, 2] rfl (b_X8_sit_54 ok he x1 x2 S h)
    · replace h := h.2 e5
      refine g_iload_n 2 (n := 21) ok dX8_sit_20 rfl rfl ?_
      refine g_if_ge (t := 54) (n := 24) ok dX8_sit_21 (by decide) rfl (fun e4 => ?_) (fun e4 => ?_)
      · replace h := h.1 e4
        exact g_sub [0, 1, 2] rfl (b_X8_sit_54 ok he x1 x2 S h)
      · replace h := h.2 e4
        refine g_aload_n 0 (n := 25) ok dX8_sit_24 rfl rfl ?_
        refine g_iload_n 3 (n := 26) ok dX8_sit_25 rfl rfl ?_
        refine fp_X8_X8_load (n := 29) ok dX8_sit_26 rfl ?_
        refine g_mem (fun S1 eS1 => ?_)
        replace h := h S1 eS1
        refine g_aload_n 0 (n := 30) ok dX8_sit_29 rfl rfl ?_
        refine g_callVv (n := 33) (As := []) (rest := []) (c := 0) ok (c_X8_findNow l v  S1 _ h) cal_X8_findNow tw_997 tw_999 tp_80 (Nat.le_of_ble_eq_true rfl) rfl rfl (by decide) (by decide) rfl (Nat.le_of_ble_eq_true rfl) dX8_sit_30 rfl rfl (fun S2 h => ?_)
        refine g_aload_n 0 (n := 34) ok dX8_sit_33 rfl rfl ?_
        refine fg_X8_X8_rock (n := 37) ok dX8_sit_34 rfl ?_
        refine g_if_ne (t := 46) (n := 40) ok dX8_sit_37 (by decide) rfl (fun e3 => ?_) (fun e3 => ?_)
        · replace h := h.1 e3
          refine g_iconst (v := -1) (n := 47) ok dX8_sit_46 rfl (by decide) ?_
          exact g_sub [0, 1, 3] rfl (b_X8_sit_47 ok ih he x1 x3 (-1 : Int32) S2 h)
        · replace h := h.2 e3
          refine g_iload_n 3 (n := 41) ok dX8_sit_40 rfl rfl ?_
          refine g_iload_n 1 (n := 42) ok dX8_sit_41 rfl rfl ?_
          refine g_isub (n := 43) ok dX8_sit_42 rfl ?_
          refine g_goto (t := 47) ok dX8_sit_43 (by decide) ?_
          exact g_sub [0, 1, 3] rfl (b_X8_sit_47 ok ih he x1 x3 (x3 - x1) S2 h)
def w_X8_sit (S : Mem) (post : Int32 → Mem → Prop) : Prop := (∀ S1 : Mem, S1 = mset S 0 (upd (S 0) 8 (0 : Int32)) → (∀ z2 : Int32, z2 = S1 0 7 → ∃ n, w_X8_sit_14 post n z2 (-1 : Int32) z2 S1))
set_option maxHeartbeats 4000000 in
set_option maxRecDepth 20000 in
theorem c_X8_sit (l : Launch) (v : VmT) (S : Mem) (post : Int32 → Mem → Prop) (h : w_X8_sit  S post) : MI l yX8_sit cX8_sit 4 (some .int) 5 (oM v) [.ref (v.1 0)] S post := by
  refine met_start (by decide +kernel) (Nat.le_of_ble_eq_true rfl) (fun g ok he => ?_)
  refine g_eq (L' := [(0, .ref (v.1 0))]) (st' := []) ?_ rfl rfl
  unfold w_X8_sit at h
  refine g_aload_n 0 (n := 1) ok dX8_sit_0 rfl rfl ?_
  refine g_iconst (v := 0) (n := 2) ok dX8_sit_1 rfl (by decide) ?_
  refine fp_X8_X8_thrown (n := 5) ok dX8_sit_2 rfl ?_
  refine g_mem (fun S1 eS1 => ?_)
  replace h := h S1 eS1
  refine g_aload_n 0 (n := 6) ok dX8_sit_5 rfl rfl ?_
  refine fg_X8_X8_load (n := 9) ok dX8_sit_6 rfl ?_
  refine g_topi (fun z2 ez2 => ?_)
  replace h := h z2 ez2
  refine g_istore_n [(1, .int z2), (0, .ref (v.1 0))] (n := 10) ok dX8_sit_9 rfl (by decide) rfl ?_
  refine g_iconst (v := -1) (n := 11) ok dX8_sit_10 rfl (by decide) ?_
  refine g_istore_n [(2, .int (-1 : Int32)), (1, .int z2), (0, .ref (v.1 0))] (n := 12) ok dX8_sit_11 rfl (by decide) rfl ?_
  refine g_iload_n 1 (n := 13) ok dX8_sit_12 rfl rfl ?_
  refine g_istore_n [(3, .int z2), (2, .int (-1 : Int32)), (1, .int z2), (0, .ref (v.1 0))] (n := 14) ok dX8_sit_13 rfl (by decide) rfl ?_
  obtain ⟨n0, h⟩ := h
  exact g_sub [3, 2, 1, 0] rfl (b_X8_sit_14 ok he n0 z2 (-1 : Int32) z2 S1 h)
def w_X8_firstOtherwise_2 (post : Int32 → Mem → Prop) : Nat → Int32 → Int32 → Int32 → Mem → Prop
  | 0, _, _, _, _ => False
  | n + 1, x1, x2, x3, S => (vp_in x1 4 ∧ (((S 18 x1.toNatClampNeg) ≤ x3 → post (-1 : Int32) S) ∧ (¬ (S 18 x1.toNatClampNeg) ≤ x3 → (vp_in (((40 : Int32) * x1) + x3) 160 ∧ w_X8_knock x2 ((S 0 6) + x3) S (fun r1 S1 => (((S 19 (((40 : Int32) * x1) + x3).toNatClampNeg) = r1 → (∀ z2 : Int32, z2 = x3 + 1 → w_X8_firstOtherwise_2 post n x1 x2 z2 S1)) ∧ (¬ (S 19 (((40 : Int32) * x1) + x3).toNatClampNeg) = r1 → post x3 S1)))))))
set_option maxHeartbeats 4000000 in
set_option maxRecDepth 20000 in
theorem b_X8_firstOtherwise_2 {v : VmT} {l : Launch} {g : CxT} (ok : Ok l g (oM v) 4 cX8_firstOtherwise RX8 (some .int)) {post : Int32 → Mem → Prop} (he : EndQ g (oM v) (va_Qi post (fun S1 t => BX (oM v) S1 t) (AX (oM v)))) : ∀ (n : Nat) (x1 : Int32) (x2 : Int32) (x3 : Int32) (S : Mem), w_X8_firstOtherwise_2 post n x1 x2 x3 S → G g (oM v) 5 4 2 [(0, .ref (v.1 0)), (1, .int x1), (2, .int x2), (3, .int x3)] [] S := by
  intro n
  induction n with
  | zero =>
    intro x1 x2 x3 S h
    exact h.elim
  | succ n ih =>
    intro x1 x2 x3 S h
    rw [w_X8_firstOtherwise_2] at h
    refine g_iload_n 3 (n := 3) ok dX8_firstOtherwise_2 rfl rfl ?_
    refine g_aload_n 0 (n := 4) ok dX8_firstOtherwise_3 rfl rfl ?_
    refine fg_X8_X8_sheetMany (n := 7) ok dX8_firstOtherwise_4 rfl ?_
    refine g_iload_n 1 (n := 8) ok dX8_firstOtherwise_7 rfl rfl ?_
    obtain ⟨h0, h⟩ := h
    refine g_iald (c := 18) (t0 := 0) (n := 9) ok (Nat.le_of_ble_eq_true rfl) rfl rfl h0 dX8_firstOtherwise_8 rfl ?_
    refine g_icmp_ge (t := 45) (n := 12) ok dX8_firstOtherwise_9 (by decide) rfl (fun e4 => ?_) (fun e4 => ?_)
    · replace h := h.1 e4
      refine g_iconst (v := -1) (n := 46) ok dX8_firstOtherwise_45 rfl (by decide) ?_
      exact g_iret ok he h dX8_firstOtherwise_46
    · replace h := h.2 e4
      refine g_aload_n 0 (n := 13) ok dX8_firstOtherwise_12 rfl rfl ?_
      refine fg_X8_X8_sheets (n := 16) ok dX8_firstOtherwise_13 rfl ?_
      refine g_bipush (v := 40) (n := 18) ok dX8_firstOtherwise_16 rfl (by decide) ?_
      refine g_iload_n 1 (n := 19) ok dX8_firstOtherwise_18 rfl rfl ?_
      refine g_imul (n := 20) ok dX8_firstOtherwise_19 rfl ?_
      refine g_iload_n 3 (n := 21) ok dX8_firstOtherwise_20 rfl rfl ?_
      refine g_iadd (n := 22) ok dX8_firstOtherwise_21 rfl ?_
      obtain ⟨h0, h⟩ := h
      refine g_iald (c := 19) (t0 := 0) (n := 23) ok (Nat.le_of_ble_eq_true rfl) rfl rfl h0 dX8_firstOtherwise_22 rfl ?_
      refine g_aload_n 0 (n := 24) ok dX8_firstOtherwise_23 rfl rfl ?_
      refine g_iload_n 2 (n := 25) ok dX8_firstOtherwise_24 rfl rfl ?_
      refine g_aload_n 0 (n := 26) ok dX8_firstOtherwise_25 rfl rfl ?_
      refine fg_X8_X8_turned (n := 29) ok dX8_firstOtherwise_26 rfl ?_
      refine g_iload_n 3 (n := 30) ok dX8_firstOtherwise_29 rfl rfl ?_
      refine g_iadd (n := 31) ok dX8_firstOtherwise_30 rfl ?_
      refine g_callVi (n := 34) (As := [.int x2, .int ((S 0 6) + x3)]) (rest := [.int (S 19 (((40 : Int32) * x1) + x3).toNatClampNeg)]) (c := 0) ok (c_X8_knock l v x2 ((S 0 6) + x3) S _ h) cal_X8_knock tw_1061 tw_1063 tp_90 (Nat.le_of_ble_eq_true rfl) rfl rfl (by decide) (by decide) rfl (Nat.le_of_ble_eq_true rfl) dX8_firstOtherwise_31 rfl rfl (fun r1 S1 h => ?_)
      refine g_icmp_eq (t := 39) (n := 37) ok dX8_firstOtherwise_34 (by decide) rfl (fun e3 => ?_) (fun e3 => ?_)
      · replace h := h.1 e3
        obtain ⟨z2, ez2⟩ : ∃ y : Int32, y = x3 + 1 := ⟨_, rfl⟩
        replace h := h z2 ez2
        refine g_iinc 3 [(3, .int z2), (0, .ref (v.1 0)), (1, .int x1), (2, .int x2)] (v := z2) (n := 42) ok dX8_firstOtherwise_39 rfl rfl (by rw [ez2]; rfl) (by decide) rfl ?_
        refine g_goto (t := 2) ok dX8_firstOtherwise_42 (by decide) ?_
        exact g_sub [1, 2, 3, 0] rfl (ih x1 x2 z2 S1 h)
      · replace h := h.2 e3
        refine g_iload_n 3 (n := 38) ok dX8_firstOtherwise_37 rfl rfl ?_
        exact g_iret ok he h dX8_firstOtherwise_38
def w_X8_firstOtherwise (p1 : Int32) (p2 : Int32) (S : Mem) (post : Int32 → Mem → Prop) : Prop := ∃ n, w_X8_firstOtherwise_2 post n p1 p2 (0 : Int32) S
set_option maxHeartbeats 4000000 in
set_option maxRecDepth 20000 in
theorem c_X8_firstOtherwise (l : Launch) (v : VmT) (p1 : Int32) (p2 : Int32) (S : Mem) (post : Int32 → Mem → Prop) (h : w_X8_firstOtherwise p1 p2 S post) : MI l yX8_firstOtherwise cX8_firstOtherwise 4 (some .int) 5 (oM v) [.ref (v.1 0), .int p1, .int p2] S post := by
  refine met_start (by decide +kernel) (Nat.le_of_ble_eq_true rfl) (fun g ok he => ?_)
  refine g_eq (L' := [(0, .ref (v.1 0)), (1, .int p1), (2, .int p2)]) (st' := []) ?_ rfl rfl
  unfold w_X8_firstOtherwise at h
  refine g_iconst (v := 0) (n := 1) ok dX8_firstOtherwise_0 rfl (by decide) ?_
  refine g_istore_n [(3, .int (0 : Int32)), (0, .ref (v.1 0)), (1, .int p1), (2, .int p2)] (n := 2) ok dX8_firstOtherwise_1 rfl (by decide) rfl ?_
  obtain ⟨n0, h⟩ := h
  exact g_sub [1, 2, 3, 0] rfl (b_X8_firstOtherwise_2 ok he n0 p1 p2 (0 : Int32) S h)
def w_X8_judge_45 (post : Int32 → Mem → Prop) (y0 : Int32) (S : Mem) : Prop := post y0 S
set_option maxHeartbeats 4000000 in
set_option maxRecDepth 20000 in
theorem b_X8_judge_45 {v : VmT} {l : Launch} {g : CxT} (ok : Ok l g (oM v) 2 cX8_judge RX8 (some .int)) {post : Int32 → Mem → Prop} (he : EndQ g (oM v) (va_Qi post (fun S1 t => BX (oM v) S1 t) (AX (oM v)))) (y0 : Int32) (S : Mem) (h : w_X8_judge_45 post y0 S) : G g (oM v) 6 2 45 [] [.int y0] S := by
  unfold w_X8_judge_45 at h
  exact g_iret ok he h dX8_judge_45
def w_X8_judge_26 (post : Int32 → Mem → Prop) (x1 : Int32) (S : Mem) : Prop := w_X8_in x1.toInt64 (0 : Int64) (3 : Int64) S (fun r1 S1 => ((r1 = 0 → w_X8_judge_45 post (-2 : Int32) S1) ∧ (¬ r1 = 0 → w_X8_judge_45 post (-11 : Int32) S1)))
set_option maxHeartbeats 4000000 in
set_option maxRecDepth 20000 in
theorem b_X8_judge_26 {v : VmT} {l : Launch} {g : CxT} (ok : Ok l g (oM v) 2 cX8_judge RX8 (some .int)) {post : Int32 → Mem → Prop} (he : EndQ g (oM v) (va_Qi post (fun S1 t => BX (oM v) S1 t) (AX (oM v)))) (x1 : Int32) (S : Mem) (h : w_X8_judge_26 post x1 S) : G g (oM v) 6 2 26 [(1, .int x1)] [] S := by
  unfold w_X8_judge_26 at h
  refine g_iload_n 0 (n := 27) ok dX8_judge_26 rfl rfl ?_
  refine g_i2l (n := 28) ok dX8_judge_27 rfl ?_
  refine g_lconst (v := 0) (n := 29) ok dX8_judge_28 rfl (by decide) ?_
  refine g_ldc2 (v := 3) (n := 32) ok dX8_judge_29 rfl tw_1111 ?_
  refine g_callSi (n := 35) (As := [.long x1.toInt64, .long (0 : Int64), .long (3 : Int64)]) (rest := []) ok (c_X8_in l v x1.toInt64 (0 : Int64) (3 : Int64) S _ h) cal_X8_in tw_771 tw_772 (by decide) (by decide) rfl (Nat.le_of_ble_eq_true rfl) dX8_judge_32 rfl rfl (fun r1 S1 h => ?_)
  refine g_if_eq (t := 43) (n := 38) ok dX8_judge_35 (by decide) rfl (fun e2 => ?_) (fun e2 => ?_)
  · replace h := h.1 e2
    refine g_bipush (v := -2) (n := 45) ok dX8_judge_43 rfl (by decide) ?_
    exact g_sub [] rfl (b_X8_judge_45 ok he (-2 : Int32) S1 h)
  · replace h := h.2 e2
    refine g_bipush (v := -11) (n := 40) ok dX8_judge_38 rfl (by decide) ?_
    refine g_goto (t := 45) ok dX8_judge_40 (by decide) ?_
    exact g_sub [] rfl (b_X8_judge_45 ok he (-11 : Int32) S1 h)
def w_X8_judge (p1 : Int32) (S : Mem) (post : Int32 → Mem → Prop) : Prop := (∀ S1 : Mem, S1 = mset S 0 (upd (S 0) 8 (0 : Int32)) → w_X8_in p1.toInt64 (0 : Int64) (3 : Int64) S1 (fun r2 S2 => ((r2 = 0 → w_X8_judge_26 post p1 S2) ∧ (¬ r2 = 0 → (vp_in p1 4 ∧ ((0 ≤ (S2 17 p1.toNatClampNeg) → w_X8_firstOtherwise p1 (S2 0 4) S2 (fun r3 S3 => post r3 S3)) ∧ (¬ 0 ≤ (S2 17 p1.toNatClampNeg) → w_X8_judge_26 post p1 S2)))))))
set_option maxHeartbeats 4000000 in
set_option maxRecDepth 20000 in
theorem c_X8_judge (l : Launch) (v : VmT) (p1 : Int32) (S : Mem) (post : Int32 → Mem → Prop) (h : w_X8_judge p1 S post) : MI l yX8_judge cX8_judge 2 (some .int) 6 (oM v) [.ref (v.1 0), .int p1] S post := by
  refine met_start (by decide +kernel) (Nat.le_of_ble_eq_true rfl) (fun g ok he => ?_)
  refine g_eq (L' := [(0, .ref (v.1 0)), (1, .int p1)]) (st' := []) ?_ rfl rfl
  unfold w_X8_judge at h
  refine g_aload_n 0 (n := 1) ok dX8_judge_0 rfl rfl ?_
  refine g_iconst (v := 0) (n := 2) ok dX8_judge_1 rfl (by decide) ?_
  refine fp_X8_X8_thrown (n := 5) ok dX8_judge_2 rfl ?_
  refine g_mem (fun S1 eS1 => ?_)
  replace h := h S1 eS1
  refine g_iload_n 1 (n := 6) ok dX8_judge_5 rfl rfl ?_
  refine g_i2l (n := 7) ok dX8_judge_6 rfl ?_
  refine g_lconst (v := 0) (n := 8) ok dX8_judge_7 rfl (by decide) ?_
  refine g_ldc2 (v := 3) (n := 11) ok dX8_judge_8 rfl tw_1111 ?_
  refine g_callSi (n := 14) (As := [.long p1.toInt64, .long (0 : Int64), .long (3 : Int64)]) (rest := []) ok (c_X8_in l v p1.toInt64 (0 : Int64) (3 : Int64) S1 _ h) cal_X8_in tw_771 tw_772 (by decide) (by decide) rfl (Nat.le_of_ble_eq_true rfl) dX8_judge_11 rfl rfl (fun r2 S2 h => ?_)
  refine g_if_eq (t := 26) (n := 17) ok dX8_judge_14 (by decide) rfl (fun e5 => ?_) (fun e5 => ?_)
  · replace h := h.1 e5
    exact g_sub [1] rfl (b_X8_judge_26 ok he p1 S2 h)
  · replace h := h.2 e5
    refine g_aload_n 0 (n := 18) ok dX8_judge_17 rfl rfl ?_
    refine fg_X8_X8_sheetSort (n := 21) ok dX8_judge_18 rfl ?_
    refine g_iload_n 1 (n := 22) ok dX8_judge_21 rfl rfl ?_
    obtain ⟨h0, h⟩ := h
    refine g_iald (c := 17) (t0 := 0) (n := 23) ok (Nat.le_of_ble_eq_true rfl) rfl rfl h0 dX8_judge_22 rfl ?_
    refine g_if_ge (t := 46) (n := 26) ok dX8_judge_23 (by decide) rfl (fun e4 => ?_) (fun e4 => ?_)
    · replace h := h.1 e4
      refine g_aload_n 0 (n := 47) ok dX8_judge_46 rfl rfl ?_
      refine g_iload_n 1 (n := 48) ok dX8_judge_47 rfl rfl ?_
      refine g_aload_n 0 (n := 49) ok dX8_judge_48 rfl rfl ?_
      refine fg_X8_X8_place (n := 52) ok dX8_judge_49 rfl ?_
      refine g_callVi (n := 55) (As := [.int p1, .int (S2 0 4)]) (rest := []) (c := 0) ok (c_X8_firstOtherwise l v p1 (S2 0 4) S2 _ h) cal_X8_firstOtherwise tw_1112 tw_1114 tp_92 (Nat.le_of_ble_eq_true rfl) rfl rfl (by decide) (by decide) rfl (Nat.le_of_ble_eq_true rfl) dX8_judge_52 rfl rfl (fun r3 S3 h => ?_)
      exact g_iret ok he h dX8_judge_55
    · replace h := h.2 e4
      exact g_sub [1] rfl (b_X8_judge_26 ok he p1 S2 h)
def w_X8_which_26 (post : Int64 → Mem → Prop) (S : Mem) : Prop := post (-4611686018427387904 : Int64) S
set_option maxHeartbeats 4000000 in
set_option maxRecDepth 20000 in
theorem b_X8_which_26 {v : VmT} {l : Launch} {g : CxT} (ok : Ok l g (oM v) 5 cX8_which RX8 (some .long)) {post : Int64 → Mem → Prop} (he : EndQ g (oM v) (va_Ql post (fun S1 t => BX (oM v) S1 t) (AX (oM v)))) (S : Mem) (h : w_X8_which_26 post  S) : G g (oM v) 6 5 26 [] [] S := by
  unfold w_X8_which_26 at h
  refine g_ldc2 (v := -4611686018427387904) (n := 29) ok dX8_which_26 rfl tw_1120 ?_
  exact g_lret ok he h dX8_which_29
def w_X8_which_62 (K35 : Int32 → Int64 → Int32 → Mem → Prop) (post : Int64 → Mem → Prop) (x1 : Int32) (x4 : Int32) (y0 : Int64) (S : Mem) : Prop := (∀ z1 : Int32, z1 = x4 + 1 → K35 x1 y0 z1 S)
set_option maxHeartbeats 4000000 in
set_option maxRecDepth 20000 in
theorem b_X8_which_62 {v : VmT} {l : Launch} {g : CxT} {K35 : Int32 → Int64 → Int32 → Mem → Prop} (ok : Ok l g (oM v) 5 cX8_which RX8 (some .long)) (hK35 : ∀ (x1 : Int32) (x2 : Int64) (x4 : Int32) (S : Mem), K35 x1 x2 x4 S → G g (oM v) 6 5 35 [(0, .ref (v.1 0)), (1, .int x1), (2, .long x2), (4, .int x4)] [] S) {post : Int64 → Mem → Prop} (he : EndQ g (oM v) (va_Ql post (fun S1 t => BX (oM v) S1 t) (AX (oM v)))) (x1 : Int32) (x4 : Int32) (y0 : Int64) (S : Mem) (h : w_X8_which_62 K35 post x1 x4 y0 S) : G g (oM v) 6 5 62 [(0, .ref (v.1 0)), (1, .int x1), (4, .int x4)] [.long y0] S := by
  unfold w_X8_which_62 at h
  refine g_lstore_n [(2, .long y0), (0, .ref (v.1 0)), (1, .int x1), (4, .int x4)] (n := 63) ok dX8_which_62 rfl (by decide) rfl ?_
  obtain ⟨z1, ez1⟩ : ∃ y : Int32, y = x4 + 1 := ⟨_, rfl⟩
  replace h := h z1 ez1
  refine g_iinc 3 [(4, .int z1), (2, .long y0), (0, .ref (v.1 0)), (1, .int x1)] (v := z1) (n := 66) ok dX8_which_63 rfl rfl (by rw [ez1]; rfl) (by decide) rfl ?_
  refine g_goto (t := 35) ok dX8_which_66 (by decide) ?_
  exact g_sub [2, 3, 1, 0] rfl (hK35 x1 y0 z1 S h)
def w_X8_which_35 (post : Int64 → Mem → Prop) : Nat → Int32 → Int64 → Int32 → Mem → Prop
  | 0, _, _, _, _ => False
  | n + 1, x1, x2, x4, S => (((64 : Int32) ≤ x4 → post x2 S) ∧ (¬ (64 : Int32) ≤ x4 → w_X8_firstOtherwise x1 x4 S (fun r1 S1 => ((0 ≤ r1 → w_X8_which_62 (w_X8_which_35 post n) post x1 x4 x2 S1) ∧ (¬ 0 ≤ r1 → w_X8_which_62 (w_X8_which_35 post n) post x1 x4 (x2 ||| (jlshl (1 : Int64) x4)) S1)))))
set_option maxHeartbeats 4000000 in
set_option maxRecDepth 20000 in
theorem b_X8_which_35 {v : VmT} {l : Launch} {g : CxT} (ok : Ok l g (oM v) 5 cX8_which RX8 (some .long)) {post : Int64 → Mem → Prop} (he : EndQ g (oM v) (va_Ql post (fun S1 t => BX (oM v) S1 t) (AX (oM v)))) : ∀ (n : Nat) (x1 : Int32) (x2 : Int64) (x4 : Int32) (S : Mem), w_X8_which_35 post n x1 x2 x4 S → G g (oM v) 6 5 35 [(0, .ref (v.1 0)), (1, .int x1), (2, .long x2), (4, .int x4)] [] S := by
  intro n
  induction n with
  | zero =>
    intro x1 x2 x4 S h
    exact h.elim
  | succ n ih =>
    intro x1 x2 x4 S h
    rw [w_X8_which_35] at h
    refine g_iload 3 (n := 37) ok dX8_which_35 rfl rfl ?_
    refine g_bipush (v := 64) (n := 39) ok dX8_which_37 rfl (by decide) ?_
    refine g_icmp_ge (t := 69) (n := 42) ok dX8_which_39 (by decide) rfl (fun e3 => ?_) (fun e3 => ?_)
    · replace h := h.1 e3
      refine g_lload_n 2 (n := 70) ok dX8_which_69 rfl rfl ?_
      exact g_lret ok he h dX8_which_70
    · replace h := h.2 e3
      refine g_aload_n 0 (n := 43) ok dX8_which_42 rfl rfl ?_
      refine g_iload_n 1 (n := 44) ok dX8_which_43 rfl rfl ?_
      refine g_iload 3 (n := 46) ok dX8_which_44 rfl rfl ?_
      refine g_callVi (n := 49) (As := [.int x1, .int x4]) (rest := []) (c := 0) ok (c_X8_firstOtherwise l v x1 x4 S _ h) cal_X8_firstOtherwise tw_1112 tw_1114 tp_92 (Nat.le_of_ble_eq_true rfl) rfl rfl (by decide) (by decide) rfl (Nat.le_of_ble_eq_true rfl) dX8_which_46 rfl rfl (fun r1 S1 h => ?_)
      refine g_if_ge (t := 61) (n := 52) ok dX8_which_49 (by decide) rfl (fun e2 => ?_) (fun e2 => ?_)
      · replace h := h.1 e2
        refine g_lload_n 2 (n := 62) ok dX8_which_61 rfl rfl ?_
        exact g_sub [0, 1, 3] rfl (b_X8_which_62 ok ih he x1 x4 x2 S1 h)
      · replace h := h.2 e2
        refine g_lload_n 2 (n := 53) ok dX8_which_52 rfl rfl ?_
        refine g_lconst (v := 1) (n := 54) ok dX8_which_53 rfl (by decide) ?_
        refine g_iload 3 (n := 56) ok dX8_which_54 rfl rfl ?_
        refine g_lshl (n := 57) ok dX8_which_56 rfl ?_
        refine g_lor (n := 58) ok dX8_which_57 rfl ?_
        refine g_goto (t := 62) ok dX8_which_58 (by decide) ?_
        exact g_sub [0, 1, 3] rfl (b_X8_which_62 ok ih he x1 x4 (x2 ||| (jlshl (1 : Int64) x4)) S1 h)
def w_X8_which (p1 : Int32) (S : Mem) (post : Int64 → Mem → Prop) : Prop := (∀ S1 : Mem, S1 = mset S 0 (upd (S 0) 8 (0 : Int32)) → w_X8_in p1.toInt64 (0 : Int64) (3 : Int64) S1 (fun r2 S2 => ((r2 = 0 → w_X8_which_26 post  S2) ∧ (¬ r2 = 0 → (vp_in p1 4 ∧ ((0 ≤ (S2 17 p1.toNatClampNeg) → ∃ n, w_X8_which_35 post n p1 (0 : Int64) (0 : Int32) S2) ∧ (¬ 0 ≤ (S2 17 p1.toNatClampNeg) → w_X8_which_26 post  S2)))))))
set_option maxHeartbeats 4000000 in
set_option maxRecDepth 20000 in
theorem c_X8_which (l : Launch) (v : VmT) (p1 : Int32) (S : Mem) (post : Int64 → Mem → Prop) (h : w_X8_which p1 S post) : ML l yX8_which cX8_which 5 (some .long) 6 (oM v) [.ref (v.1 0), .int p1] S post := by
  refine met_start (by decide +kernel) (Nat.le_of_ble_eq_true rfl) (fun g ok he => ?_)
  refine g_eq (L' := [(0, .ref (v.1 0)), (1, .int p1)]) (st' := []) ?_ rfl rfl
  unfold w_X8_which at h
  refine g_aload_n 0 (n := 1) ok dX8_which_0 rfl rfl ?_
  refine g_iconst (v := 0) (n := 2) ok dX8_which_1 rfl (by decide) ?_
  refine fp_X8_X8_thrown (n := 5) ok dX8_which_2 rfl ?_
  refine g_mem (fun S1 eS1 => ?_)
  replace h := h S1 eS1
  refine g_iload_n 1 (n := 6) ok dX8_which_5 rfl rfl ?_
  refine g_i2l (n := 7) ok dX8_which_6 rfl ?_
  refine g_lconst (v := 0) (n := 8) ok dX8_which_7 rfl (by decide) ?_
  refine g_ldc2 (v := 3) (n := 11) ok dX8_which_8 rfl tw_1111 ?_
  refine g_callSi (n := 14) (As := [.long p1.toInt64, .long (0 : Int64), .long (3 : Int64)]) (rest := []) ok (c_X8_in l v p1.toInt64 (0 : Int64) (3 : Int64) S1 _ h) cal_X8_in tw_771 tw_772 (by decide) (by decide) rfl (Nat.le_of_ble_eq_true rfl) dX8_which_11 rfl rfl (fun r2 S2 h => ?_)
  refine g_if_eq (t := 26) (n := 17) ok dX8_which_14 (by decide) rfl (fun e4 => ?_) (fun e4 => ?_)
  · replace h := h.1 e4
    exact g_sub [] rfl (b_X8_which_26 ok he  S2 h)
  · replace h := h.2 e4
    refine g_aload_n 0 (n := 18) ok dX8_which_17 rfl rfl ?_
    refine fg_X8_X8_sheetSort (n := 21) ok dX8_which_18 rfl ?_
    refine g_iload_n 1 (n := 22) ok dX8_which_21 rfl rfl ?_
    obtain ⟨h0, h⟩ := h
    refine g_iald (c := 17) (t0 := 0) (n := 23) ok (Nat.le_of_ble_eq_true rfl) rfl rfl h0 dX8_which_22 rfl ?_
    refine g_if_ge (t := 30) (n := 26) ok dX8_which_23 (by decide) rfl (fun e3 => ?_) (fun e3 => ?_)
    · replace h := h.1 e3
      refine g_lconst (v := 0) (n := 31) ok dX8_which_30 rfl (by decide) ?_
      refine g_lstore_n [(2, .long (0 : Int64)), (0, .ref (v.1 0)), (1, .int p1)] (n := 32) ok dX8_which_31 rfl (by decide) rfl ?_
      refine g_iconst (v := 0) (n := 33) ok dX8_which_32 rfl (by decide) ?_
      refine g_istore [(4, .int (0 : Int32)), (2, .long (0 : Int64)), (0, .ref (v.1 0)), (1, .int p1)] (n := 35) ok dX8_which_33 rfl (by decide) rfl ?_
      obtain ⟨n0, h⟩ := h
      exact g_sub [2, 3, 1, 0] rfl (b_X8_which_35 ok he n0 p1 (0 : Int64) (0 : Int32) S2 h)
    · replace h := h.2 e3
      exact g_sub [] rfl (b_X8_which_26 ok he  S2 h)
def w_X8_rockBy (p1 : Int32) (S : Mem) (post : Int32 → Mem → Prop) : Prop := (∀ z1 : Int32, z1 = (p1 * (1103515245 : Int32)) + (12345 : Int32) → (∀ z2 : Int32, z2 = jrem (jushr z1 (8 : Int32)) (64 : Int32) → (∀ z3 : Int32, z3 = (z1 * (1103515245 : Int32)) + (12345 : Int32) → w_X8_find z2 (jrem (jushr z3 (10 : Int32)) (8 : Int32)) S (fun S4 => post (S4 0 33) S4))))
set_option maxHeartbeats 4000000 in
set_option maxRecDepth 20000 in
theorem c_X8_rockBy (l : Launch) (v : VmT) (p1 : Int32) (S : Mem) (post : Int32 → Mem → Prop) (h : w_X8_rockBy p1 S post) : MI l yX8_rockBy cX8_rockBy 4 (some .int) 4 (oM v) [.ref (v.1 0), .int p1] S post := by
  refine met_start (by decide +kernel) (Nat.le_of_ble_eq_true rfl) (fun g ok he => ?_)
  refine g_eq (L' := [(0, .ref (v.1 0)), (1, .int p1)]) (st' := []) ?_ rfl rfl
  unfold w_X8_rockBy at h
  refine g_iload_n 1 (n := 1) ok dX8_rockBy_0 rfl rfl ?_
  refine g_ldc_w (v := 1103515245) (n := 4) ok dX8_rockBy_1 rfl tw_1129 ?_
  refine g_imul (n := 5) ok dX8_rockBy_4 rfl ?_
  refine g_sipush (v := 12345) (n := 8) ok dX8_rockBy_5 rfl (by decide) ?_
  refine g_iadd (n := 9) ok dX8_rockBy_8 rfl ?_
  refine g_topi (fun z1 ez1 => ?_)
  replace h := h z1 ez1
  refine g_istore_n [(2, .int z1), (0, .ref (v.1 0)), (1, .int p1)] (n := 10) ok dX8_rockBy_9 rfl (by decide) rfl ?_
  refine g_iload_n 0 (n := 11) ok dX8_rockBy_10 rfl rfl ?_
  refine g_bipush (v := 8) (n := 13) ok dX8_rockBy_11 rfl (by decide) ?_
  refine g_iushr (n := 14) ok dX8_rockBy_13 rfl ?_
  refine g_bipush (v := 64) (n := 16) ok dX8_rockBy_14 rfl (by decide) ?_
  refine g_irem (n := 17) ok dX8_rockBy_16 rfl (by decide) ?_
  refine g_topi (fun z2 ez2 => ?_)
  replace h := h z2 ez2
  refine g_istore_n [(3, .int z2), (2, .int z1), (0, .ref (v.1 0)), (1, .int p1)] (n := 18) ok dX8_rockBy_17 rfl (by decide) rfl ?_
  refine g_iload_n 1 (n := 19) ok dX8_rockBy_18 rfl rfl ?_
  refine g_ldc_w (v := 1103515245) (n := 22) ok dX8_rockBy_19 rfl tw_1129 ?_
  refine g_imul (n := 23) ok dX8_rockBy_22 rfl ?_
  refine g_sipush (v := 12345) (n := 26) ok dX8_rockBy_23 rfl (by decide) ?_
  refine g_iadd (n := 27) ok dX8_rockBy_26 rfl ?_
  refine g_topi (fun z3 ez3 => ?_)
  replace h := h z3 ez3
  refine g_istore_n [(2, .int z3), (3, .int z2), (0, .ref (v.1 0)), (1, .int p1)] (n := 28) ok dX8_rockBy_27 rfl (by decide) rfl ?_
  refine g_aload_n 2 (n := 29) ok dX8_rockBy_28 rfl rfl ?_
  refine g_iload_n 1 (n := 30) ok dX8_rockBy_29 rfl rfl ?_
  refine g_iload_n 0 (n := 31) ok dX8_rockBy_30 rfl rfl ?_
  refine g_bipush (v := 10) (n := 33) ok dX8_rockBy_31 rfl (by decide) ?_
  refine g_iushr (n := 34) ok dX8_rockBy_33 rfl ?_
  refine g_bipush (v := 8) (n := 36) ok dX8_rockBy_34 rfl (by decide) ?_
  refine g_irem (n := 37) ok dX8_rockBy_36 rfl (by decide) ?_
  refine g_callVv (n := 40) (As := [.int z2, .int (jrem (jushr z3 (10 : Int32)) (8 : Int32))]) (rest := []) (c := 0) ok (c_X8_find l v z2 (jrem (jushr z3 (10 : Int32)) (8 : Int32)) S _ h) cal_X8_find tw_1001 tw_1003 tp_81 (Nat.le_of_ble_eq_true rfl) rfl rfl (by decide) (by decide) rfl (Nat.le_of_ble_eq_true rfl) dX8_rockBy_37 rfl rfl (fun S4 h => ?_)
  refine g_aload_n 2 (n := 41) ok dX8_rockBy_40 rfl rfl ?_
  refine fg_X8_X8_rock (n := 44) ok dX8_rockBy_41 rfl ?_
  exact g_iret ok he h dX8_rockBy_44
def w_X8_drawn (p1 : Int32) (S : Mem) (post : Int32 → Mem → Prop) : Prop := (∀ S1 : Mem, S1 = mset S 0 (upd (S 0) 8 (0 : Int32)) → w_X8_rockBy p1 S1 (fun r2 S2 => post r2 S2))
set_option maxHeartbeats 4000000 in
set_option maxRecDepth 20000 in
theorem c_X8_drawn (l : Launch) (v : VmT) (p1 : Int32) (S : Mem) (post : Int32 → Mem → Prop) (h : w_X8_drawn p1 S post) : MI l yX8_drawn cX8_drawn 2 (some .int) 5 (oM v) [.ref (v.1 0), .int p1] S post := by
  refine met_start (by decide +kernel) (Nat.le_of_ble_eq_true rfl) (fun g ok he => ?_)
  refine g_eq (L' := [(0, .ref (v.1 0)), (1, .int p1)]) (st' := []) ?_ rfl rfl
  unfold w_X8_drawn at h
  refine g_aload_n 0 (n := 1) ok dX8_drawn_0 rfl rfl ?_
  refine g_iconst (v := 0) (n := 2) ok dX8_drawn_1 rfl (by decide) ?_
  refine fp_X8_X8_thrown (n := 5) ok dX8_drawn_2 rfl ?_
  refine g_mem (fun S1 eS1 => ?_)
  replace h := h S1 eS1
  refine g_aload_n 0 (n := 6) ok dX8_drawn_5 rfl rfl ?_
  refine g_iload_n 1 (n := 7) ok dX8_drawn_6 rfl rfl ?_
  refine g_callVi (n := 10) (As := [.int p1]) (rest := []) (c := 0) ok (c_X8_rockBy l v p1 S1 _ h) cal_X8_rockBy tw_1125 tw_1127 tp_93 (Nat.le_of_ble_eq_true rfl) rfl rfl (by decide) (by decide) rfl (Nat.le_of_ble_eq_true rfl) dX8_drawn_7 rfl rfl (fun r2 S2 h => ?_)
  exact g_iret ok he h dX8_drawn_10
