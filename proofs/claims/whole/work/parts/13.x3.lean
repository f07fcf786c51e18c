def w_X7_isLeg (p0 : Int32) (S : Mem) (post : Int32 → Mem → Prop) : Prop := w_X7_within p0 (0 : Int32) (3 : Int32) S (fun r1 S1 => (r1 = 0 ∨ r1 = 1) ∧ post r1 S1)
set_option maxHeartbeats 4000000 in
set_option maxRecDepth 20000 in
theorem c_X7_isLeg (l : Launch) (v : VxT) (p0 : Int32) (S : Mem) (post : Int32 → Mem → Prop) (h : w_X7_isLeg p0 S post) : MI l yX7_isLeg cX7_isLeg 1 (some .boolean) 2 (oX v) [.int p0] S post := by
  refine met_start (by decide +kernel) (Nat.le_of_ble_eq_true rfl) (fun g ok he => ?_)
  refine g_eq (L' := [(0, .int p0)]) (st' := []) ?_ rfl rfl
  unfold w_X7_isLeg at h
  refine g_iload_n 0 (n := 1) ok dX7_isLeg_0 rfl rfl ?_
  refine g_iconst (v := 0) (n := 2) ok dX7_isLeg_1 rfl (by decide) ?_
  refine g_iconst (v := 3) (n := 3) ok dX7_isLeg_2 rfl (by decide) ?_
  refine g_callSi (n := 6) (As := [.int p0, .int (0 : Int32), .int (3 : Int32)]) (rest := []) ok (c_X7_within l v p0 (0 : Int32) (3 : Int32) S _ h) cal_X7_within tw_373 tw_253 (by decide) (by decide) rfl (Nat.le_of_ble_eq_true rfl) dX7_isLeg_3 rfl rfl (fun r1 S1 h => ?_)
  exact g_zret ok he h.1 h.2 dX7_isLeg_6
def w_X7_leg_24 (post : Int32 → Mem → Prop) (S : Mem) : Prop := post (-2 : Int32) S
set_option maxHeartbeats 4000000 in
set_option maxRecDepth 20000 in
theorem b_X7_leg_24 {v : VxT} {l : Launch} {g : CxT} (ok : Ok l g (oX v) 5 cX7_leg RX7 (some .int)) {post : Int32 → Mem → Prop} (he : EndQ g (oX v) (va_Qi post (fun S1 t => BX (oX v) S1 t) (AX (oX v)))) (S : Mem) (h : w_X7_leg_24 post  S) : G g (oX v) 3 5 24 [] [] S := by
  unfold w_X7_leg_24 at h
  refine g_bipush (v := -2) (n := 26) ok dX7_leg_24 rfl (by decide) ?_
  exact g_iret ok he h dX7_leg_26
def w_X7_leg (p1 : Int32) (p2 : Int32) (p3 : Int32) (S : Mem) (post : Int32 → Mem → Prop) : Prop := w_X7_isLeg p1 S (fun r1 S1 => ((r1 = 0 → w_X7_leg_24 post  S1) ∧ (¬ r1 = 0 → w_X7_isKind p2 S1 (fun r2 S2 => ((r2 = 0 → w_X7_leg_24 post  S2) ∧ (¬ r2 = 0 → w_X7_within p3 (0 : Int32) (9 : Int32) S2 (fun r3 S3 => ((¬ r3 = 0 → (vp_in p1 4 ∧ (∀ z4 : Int32, z4 = S3 (3 + 1 + p1.toNatClampNeg) 0 → (vp_in p1 4 ∧ (∀ S5 : Mem, S5 = mset S3 (3 + 1 + p1.toNatClampNeg) (upd (S3 (3 + 1 + p1.toNatClampNeg)) 0 p2) → (vp_in p1 4 ∧ (∀ S6 : Mem, S6 = mset S5 (3 + 1 + p1.toNatClampNeg) (upd (S5 (3 + 1 + p1.toNatClampNeg)) 2 p3) → post z4 S6))))))) ∧ (r3 = 0 → w_X7_leg_24 post  S3)))))))))
set_option maxHeartbeats 4000000 in
set_option maxRecDepth 20000 in
theorem c_X7_leg (l : Launch) (v : VxT) (p1 : Int32) (p2 : Int32) (p3 : Int32) (S : Mem) (post : Int32 → Mem → Prop) (h : w_X7_leg p1 p2 p3 S post) : MI l yX7_leg cX7_leg 5 (some .int) 3 (oX v) [.ref (v.1 0), .int p1, .int p2, .int p3] S post := by
  refine met_start (by decide +kernel) (Nat.le_of_ble_eq_true rfl) (fun g ok he => ?_)
  refine g_eq (L' := [(0, .ref (v.1 0)), (1, .int p1), (2, .int p2), (3, .int p3)]) (st' := []) ?_ rfl rfl
  unfold w_X7_leg at h
  refine g_iload_n 1 (n := 1) ok dX7_leg_0 rfl rfl ?_
  refine g_callSi (n := 4) (As := [.int p1]) (rest := []) ok (c_X7_isLeg l v p1 S _ h) cal_X7_isLeg tw_382 tw_383 (by decide) (by decide) rfl (Nat.le_of_ble_eq_true rfl) dX7_leg_1 rfl rfl (fun r1 S1 h => ?_)
  refine g_if_eq (t := 24) (n := 7) ok dX7_leg_4 (by decide) rfl (fun e9 => ?_) (fun e9 => ?_)
  · replace h := h.1 e9
    exact g_sub [] rfl (b_X7_leg_24 ok he  S1 h)
  · replace h := h.2 e9
    refine g_iload_n 2 (n := 8) ok dX7_leg_7 rfl rfl ?_
    refine g_callSi (n := 11) (As := [.int p2]) (rest := []) ok (c_X7_isKind l v p2 S1 _ h) cal_X7_isKind tw_385 tw_386 (by decide) (by decide) rfl (Nat.le_of_ble_eq_true rfl) dX7_leg_8 rfl rfl (fun r2 S2 h => ?_)
    refine g_if_eq (t := 24) (n := 14) ok dX7_leg_11 (by decide) rfl (fun e8 => ?_) (fun e8 => ?_)
    · replace h := h.1 e8
      exact g_sub [] rfl (b_X7_leg_24 ok he  S2 h)
    · replace h := h.2 e8
      refine g_iload_n 3 (n := 15) ok dX7_leg_14 rfl rfl ?_
      refine g_iconst (v := 0) (n := 16) ok dX7_leg_15 rfl (by decide) ?_
      refine g_bipush (v := 9) (n := 18) ok dX7_leg_16 rfl (by decide) ?_
      refine g_callSi (n := 21) (As := [.int p3, .int (0 : Int32), .int (9 : Int32)]) (rest := []) ok (c_X7_within l v p3 (0 : Int32) (9 : Int32) S2 _ h) cal_X7_within tw_373 tw_253 (by decide) (by decide) rfl (Nat.le_of_ble_eq_true rfl) dX7_leg_18 rfl rfl (fun r3 S3 h => ?_)
      refine g_if_ne (t := 27) (n := 24) ok dX7_leg_21 (by decide) rfl (fun e7 => ?_) (fun e7 => ?_)
      · replace h := h.1 e7
        refine g_aload_n 0 (n := 28) ok dX7_leg_27 rfl rfl ?_
        refine fg_X7_X7_table (n := 31) 0 rfl ok dX7_leg_28 rfl ?_
        refine fg_X7_X5_legs (n := 34) 1 rfl ok dX7_leg_31 rfl ?_
        refine g_iload_n 1 (n := 35) ok dX7_leg_34 rfl rfl ?_
        obtain ⟨h35, h⟩ := h
        refine g_aald (c := 3) (t0 := 1) (a := v.1 (3 + 1 + p1.toNatClampNeg)) (n := 36) ok (lt3 rfl) (sh3 rfl _) rfl h35 rfl dX7_leg_35 rfl ?_
        refine fg_X7_X0_kind (n := 39) (3 + 1 + p1.toNatClampNeg) (kdE3 rfl h35) ok dX7_leg_36 rfl ?_
        refine g_topi (fun z4 ez4 => ?_)
        replace h := h z4 ez4
        refine g_istore [(4, .int z4), (0, .ref (v.1 0)), (1, .int p1), (2, .int p2), (3, .int p3)] (n := 41) ok dX7_leg_39 rfl (by decide) rfl ?_
        refine g_aload_n 1 (n := 42) ok dX7_leg_41 rfl rfl ?_
        refine fg_X7_X7_table (n := 45) 0 rfl ok dX7_leg_42 rfl ?_
        refine fg_X7_X5_legs (n := 48) 1 rfl ok dX7_leg_45 rfl ?_
        refine g_iload_n 2 (n := 49) ok dX7_leg_48 rfl rfl ?_
        obtain ⟨h49, h⟩ := h
        refine g_aald (c := 3) (t0 := 1) (a := v.1 (3 + 1 + p1.toNatClampNeg)) (n := 50) ok (lt3 rfl) (sh3 rfl _) rfl h49 rfl dX7_leg_49 rfl ?_
        refine g_iload_n 3 (n := 51) ok dX7_leg_50 rfl rfl ?_
        refine fp_X7_X0_kind (n := 54) (3 + 1 + p1.toNatClampNeg) (kdE3 rfl h49) ok dX7_leg_51 rfl ?_
        refine g_mem (fun S5 eS5 => ?_)
        replace h := h S5 eS5
        refine g_aload_n 1 (n := 55) ok dX7_leg_54 rfl rfl ?_
        refine fg_X7_X7_table (n := 58) 0 rfl ok dX7_leg_55 rfl ?_
        refine fg_X7_X5_legs (n := 61) 1 rfl ok dX7_leg_58 rfl ?_
        refine g_iload_n 2 (n := 62) ok dX7_leg_61 rfl rfl ?_
        obtain ⟨h62, h⟩ := h
        refine g_aald (c := 3) (t0 := 1) (a := v.1 (3 + 1 + p1.toNatClampNeg)) (n := 63) ok (lt3 rfl) (sh3 rfl _) rfl h62 rfl dX7_leg_62 rfl ?_
        refine g_iload_n 4 (n := 64) ok dX7_leg_63 rfl rfl ?_
        refine fp_X7_X0_number (n := 67) (3 + 1 + p1.toNatClampNeg) (kdE3 rfl h62) ok dX7_leg_64 rfl ?_
        refine g_mem (fun S6 eS6 => ?_)
        replace h := h S6 eS6
        refine g_iload 0 (n := 69) ok dX7_leg_67 rfl rfl ?_
        exact g_iret ok he h dX7_leg_69
      · replace h := h.2 e7
        exact g_sub [] rfl (b_X7_leg_24 ok he  S3 h)
def w_X7_setOfLeg_26 (post : Int32 → Mem → Prop) (S : Mem) : Prop := post (-2 : Int32) S
set_option maxHeartbeats 4000000 in
set_option maxRecDepth 20000 in
theorem b_X7_setOfLeg_26 {v : VxT} {l : Launch} {g : CxT} (ok : Ok l g (oX v) 6 cX7_setOfLeg RX7 (some .int)) {post : Int32 → Mem → Prop} (he : EndQ g (oX v) (va_Qi post (fun S1 t => BX (oX v) S1 t) (AX (oX v)))) (S : Mem) (h : w_X7_setOfLeg_26 post  S) : G g (oX v) 3 6 26 [] [] S := by
  unfold w_X7_setOfLeg_26 at h
  refine g_bipush (v := -2) (n := 28) ok dX7_setOfLeg_26 rfl (by decide) ?_
  exact g_iret ok he h dX7_setOfLeg_28
def w_X7_setOfLeg_78 (post : Int32 → Mem → Prop) (x5 : Int32) (S : Mem) : Prop := post x5 S
set_option maxHeartbeats 4000000 in
set_option maxRecDepth 20000 in
theorem b_X7_setOfLeg_78 {v : VxT} {l : Launch} {g : CxT} (ok : Ok l g (oX v) 6 cX7_setOfLeg RX7 (some .int)) {post : Int32 → Mem → Prop} (he : EndQ g (oX v) (va_Qi post (fun S1 t => BX (oX v) S1 t) (AX (oX v)))) (x5 : Int32) (S : Mem) (h : w_X7_setOfLeg_78 post x5 S) : G g (oX v) 3 6 78 [(5, .int x5)] [] S := by
  unfold w_X7_setOfLeg_78 at h
  refine g_iload 0 (n := 80) ok dX7_setOfLeg_78 rfl rfl ?_
  exact g_iret ok he h dX7_setOfLeg_80
def w_X7_setOfLeg_57 (post : Int32 → Mem → Prop) (x1 : Int32) (x3 : Int32) (dx4 : Nat) (y0 : Int32) (S : Mem) : Prop := ((¬ x1 = 0 → (∀ S1 : Mem, S1 = mset S dx4 (upd (S dx4) 2 x3) → w_X7_setOfLeg_78 post y0 S1)) ∧ (x1 = 0 → (∀ S2 : Mem, S2 = mset S dx4 (upd (S dx4) 1 x3) → w_X7_setOfLeg_78 post y0 S2)))
set_option maxHeartbeats 4000000 in
set_option maxRecDepth 20000 in
theorem b_X7_setOfLeg_57 {v : VxT} {l : Launch} {g : CxT} (ok : Ok l g (oX v) 6 cX7_setOfLeg RX7 (some .int)) {post : Int32 → Mem → Prop} (he : EndQ g (oX v) (va_Qi post (fun S1 t => BX (oX v) S1 t) (AX (oX v)))) (x1 : Int32) (x3 : Int32) (dx4 : Nat) (y0 : Int32) (S : Mem) (hdx4 : kdX dx4 = 4) (h : w_X7_setOfLeg_57 post x1 x3 dx4 y0 S) : G g (oX v) 3 6 57 [(1, .int x1), (3, .int x3), (4, .ref (v.1 dx4))] [.int y0] S := by
  unfold w_X7_setOfLeg_57 at h
  refine g_istore [(5, .int y0), (1, .int x1), (3, .int x3), (4, .ref (v.1 dx4))] (n := 59) ok dX7_setOfLeg_57 rfl (by decide) rfl ?_
  refine g_iload_n 1 (n := 60) ok dX7_setOfLeg_59 rfl rfl ?_
  refine g_if_ne (t := 72) (n := 63) ok dX7_setOfLeg_60 (by decide) rfl (fun e3 => ?_) (fun e3 => ?_)
  · replace h := h.1 e3
    refine g_aload 3 (n := 74) ok dX7_setOfLeg_72 rfl rfl ?_
    refine g_iload_n 2 (n := 75) ok dX7_setOfLeg_74 rfl rfl ?_
    refine fp_X7_X0_number (n := 78) dx4 hdx4 ok dX7_setOfLeg_75 rfl ?_
    refine g_mem (fun S1 eS1 => ?_)
    replace h := h S1 eS1
    exact g_sub [0] rfl (b_X7_setOfLeg_78 ok he y0 S1 h)
  · replace h := h.2 e3
    refine g_aload 3 (n := 65) ok dX7_setOfLeg_63 rfl rfl ?_
    refine g_iload_n 2 (n := 66) ok dX7_setOfLeg_65 rfl rfl ?_
    refine fp_X7_X0_length (n := 69) dx4 hdx4 ok dX7_setOfLeg_66 rfl ?_
    refine g_mem (fun S2 eS2 => ?_)
    replace h := h S2 eS2
    refine g_goto (t := 78) ok dX7_setOfLeg_69 (by decide) ?_
    exact g_sub [0] rfl (b_X7_setOfLeg_78 ok he y0 S2 h)
def w_X7_setOfLeg_20 (post : Int32 → Mem → Prop) (x1 : Int32) (x2 : Int32) (x3 : Int32) (y0 : Int32) (y1 : Int32) (y2 : Int32) (S : Mem) : Prop := w_X7_within y2 y1 y0 S (fun r1 S1 => ((¬ r1 = 0 → (vp_in x2 4 ∧ ((¬ x1 = 0 → w_X7_setOfLeg_57 post x1 x3 (3 + 1 + x2.toNatClampNeg) (S1 (3 + 1 + x2.toNatClampNeg) 2) S1) ∧ (x1 = 0 → w_X7_setOfLeg_57 post x1 x3 (3 + 1 + x2.toNatClampNeg) (S1 (3 + 1 + x2.toNatClampNeg) 1) S1)))) ∧ (r1 = 0 → w_X7_setOfLeg_26 post  S1)))
set_option maxHeartbeats 4000000 in
set_option maxRecDepth 20000 in
theorem b_X7_setOfLeg_20 {v : VxT} {l : Launch} {g : CxT} (ok : Ok l g (oX v) 6 cX7_setOfLeg RX7 (some .int)) {post : Int32 → Mem → Prop} (he : EndQ g (oX v) (va_Qi post (fun S1 t => BX (oX v) S1 t) (AX (oX v)))) (x1 : Int32) (x2 : Int32) (x3 : Int32) (y0 : Int32) (y1 : Int32) (y2 : Int32) (S : Mem) (h : w_X7_setOfLeg_20 post x1 x2 x3 y0 y1 y2 S) : G g (oX v) 3 6 20 [(0, .ref (v.1 0)), (1, .int x1), (2, .int x2), (3, .int x3)] [.int y0, .int y1, .int y2] S := by
  unfold w_X7_setOfLeg_20 at h
  refine g_callSi (n := 23) (As := [.int y2, .int y1, .int y0]) (rest := []) ok (c_X7_within l v y2 y1 y0 S _ h) cal_X7_within tw_373 tw_253 (by decide) (by decide) rfl (Nat.le_of_ble_eq_true rfl) dX7_setOfLeg_20 rfl rfl (fun r1 S1 h => ?_)
  refine g_if_ne (t := 29) (n := 26) ok dX7_setOfLeg_23 (by decide) rfl (fun e3 => ?_) (fun e3 => ?_)
  · replace h := h.1 e3
    refine g_aload_n 0 (n := 30) ok dX7_setOfLeg_29 rfl rfl ?_
    refine fg_X7_X7_table (n := 33) 0 rfl ok dX7_setOfLeg_30 rfl ?_
    refine fg_X7_X5_legs (n := 36) 1 rfl ok dX7_setOfLeg_33 rfl ?_
    refine g_iload_n 2 (n := 37) ok dX7_setOfLeg_36 rfl rfl ?_
    obtain ⟨h37, h⟩ := h
    refine g_aald (c := 3) (t0 := 1) (a := v.1 (3 + 1 + x2.toNatClampNeg)) (n := 38) ok (lt3 rfl) (sh3 rfl _) rfl h37 rfl dX7_setOfLeg_37 rfl ?_
    refine g_astore [(4, .ref (v.1 (3 + 1 + x2.toNatClampNeg))), (0, .ref (v.1 0)), (1, .int x1), (2, .int x2), (3, .int x3)] (n := 40) ok dX7_setOfLeg_38 rfl (by decide) rfl ?_
    refine g_iload_n 2 (n := 41) ok dX7_setOfLeg_40 rfl rfl ?_
    refine g_if_ne (t := 52) (n := 44) ok dX7_setOfLeg_41 (by decide) rfl (fun e2 => ?_) (fun e2 => ?_)
    · replace h := h.1 e2
      refine g_aload 0 (n := 54) ok dX7_setOfLeg_52 rfl rfl ?_
      refine fg_X7_X0_number (n := 57) (3 + 1 + x2.toNatClampNeg) (kdE3 rfl h37) ok dX7_setOfLeg_54 rfl ?_
      exact g_sub [2, 4, 0] rfl (b_X7_setOfLeg_57 ok he x1 x3 (3 + 1 + x2.toNatClampNeg) (S1 (3 + 1 + x2.toNatClampNeg) 2) S1 (kdE3 rfl h37) h)
    · replace h := h.2 e2
      refine g_aload 0 (n := 46) ok dX7_setOfLeg_44 rfl rfl ?_
      refine fg_X7_X0_length (n := 49) (3 + 1 + x2.toNatClampNeg) (kdE3 rfl h37) ok dX7_setOfLeg_46 rfl ?_
      refine g_goto (t := 57) ok dX7_setOfLeg_49 (by decide) ?_
      exact g_sub [2, 4, 0] rfl (b_X7_setOfLeg_57 ok he x1 x3 (3 + 1 + x2.toNatClampNeg) (S1 (3 + 1 + x2.toNatClampNeg) 1) S1 (kdE3 rfl h37) h)
  · replace h := h.2 e3
    exact g_sub [] rfl (b_X7_setOfLeg_26 ok he  S1 h)
def w_X7_setOfLeg (p1 : Int32) (p2 : Int32) (p3 : Int32) (S : Mem) (post : Int32 → Mem → Prop) : Prop := w_X7_isLeg p2 S (fun r1 S1 => ((r1 = 0 → w_X7_setOfLeg_26 post  S1) ∧ (¬ r1 = 0 → ((¬ p1 = 0 → w_X7_setOfLeg_20 post p1 p2 p3 (9 : Int32) (0 : Int32) p3 S1) ∧ (p1 = 0 → w_X7_setOfLeg_20 post p1 p2 p3 (99 : Int32) (0 : Int32) p3 S1)))))
set_option maxHeartbeats 4000000 in
set_option maxRecDepth 20000 in
theorem c_X7_setOfLeg (l : Launch) (v : VxT) (p1 : Int32) (p2 : Int32) (p3 : Int32) (S : Mem) (post : Int32 → Mem → Prop) (h : w_X7_setOfLeg p1 p2 p3 S post) : MI l yX7_setOfLeg cX7_setOfLeg 6 (some .int) 3 (oX v) [.ref (v.1 0), .int p1, .int p2, .int p3] S post := by
  refine met_start (by decide +kernel) (Nat.le_of_ble_eq_true rfl) (fun g ok he => ?_)
  refine g_eq (L' := [(0, .ref (v.1 0)), (1, .int p1), (2, .int p2), (3, .int p3)]) (st' := []) ?_ rfl rfl
  unfold w_X7_setOfLeg at h
  refine g_iload_n 2 (n := 1) ok dX7_setOfLeg_0 rfl rfl ?_
  refine g_callSi (n := 4) (As := [.int p2]) (rest := []) ok (c_X7_isLeg l v p2 S _ h) cal_X7_isLeg tw_382 tw_383 (by decide) (by decide) rfl (Nat.le_of_ble_eq_true rfl) dX7_setOfLeg_1 rfl rfl (fun r1 S1 h => ?_)
  refine g_if_eq (t := 26) (n := 7) ok dX7_setOfLeg_4 (by decide) rfl (fun e3 => ?_) (fun e3 => ?_)
  · replace h := h.1 e3
    exact g_sub [] rfl (b_X7_setOfLeg_26 ok he  S1 h)
  · replace h := h.2 e3
    refine g_iload_n 3 (n := 8) ok dX7_setOfLeg_7 rfl rfl ?_
    refine g_iconst (v := 0) (n := 9) ok dX7_setOfLeg_8 rfl (by decide) ?_
    refine g_iload_n 1 (n := 10) ok dX7_setOfLeg_9 rfl rfl ?_
    refine g_if_ne (t := 18) (n := 13) ok dX7_setOfLeg_10 (by decide) rfl (fun e2 => ?_) (fun e2 => ?_)
    · replace h := h.1 e2
      refine g_bipush (v := 9) (n := 20) ok dX7_setOfLeg_18 rfl (by decide) ?_
      exact g_sub [0, 1, 2, 3] rfl (b_X7_setOfLeg_20 ok he p1 p2 p3 (9 : Int32) (0 : Int32) p3 S1 h)
    · replace h := h.2 e2
      refine g_bipush (v := 99) (n := 15) ok dX7_setOfLeg_13 rfl (by decide) ?_
      refine g_goto (t := 20) ok dX7_setOfLeg_15 (by decide) ?_
      exact g_sub [0, 1, 2, 3] rfl (b_X7_setOfLeg_20 ok he p1 p2 p3 (99 : Int32) (0 : Int32) p3 S1 h)
def w_X7_setOfTable_135 (post : Int32 → Mem → Prop) (x3 : Int32) (S : Mem) : Prop := post x3 S
set_option maxHeartbeats 4000000 in
set_option maxRecDepth 20000 in
theorem b_X7_setOfTable_135 {v : VxT} {l : Launch} {g : CxT} (ok : Ok l g (oX v) 4 cX7_setOfTable RX7 (some .int)) {post : Int32 → Mem → Prop} (he : EndQ g (oX v) (va_Qi post (fun S1 t => BX (oX v) S1 t) (AX (oX v)))) (x3 : Int32) (S : Mem) (h : w_X7_setOfTable_135 post x3 S) : G g (oX v) 2 4 135 [(3, .int x3)] [] S := by
  unfold w_X7_setOfTable_135 at h
  refine g_iload_n 0 (n := 136) ok dX7_setOfTable_135 rfl rfl ?_
  exact g_iret ok he h dX7_setOfTable_136
def w_X7_setOfTable_104 (post : Int32 → Mem → Prop) (x1 : Int32) (x2 : Int32) (x3 : Int32) (S : Mem) : Prop := ((¬ x1 = (5 : Int32) → w_X7_setOfTable_135 post x3 S) ∧ (x1 = (5 : Int32) → w_X7_within x2 (0 : Int32) (9 : Int32) S (fun r1 S1 => ((r1 = 0 → w_X7_setOfTable_135 post x3 S1) ∧ (¬ r1 = 0 → (∀ z2 : Int32, z2 = S1 1 5 → (∀ S3 : Mem, S3 = mset S1 1 (upd (S1 1) 5 x2) → w_X7_setOfTable_135 post z2 S3)))))))
set_option maxHeartbeats 4000000 in
set_option maxRecDepth 20000 in
theorem b_X7_setOfTable_104 {v : VxT} {l : Launch} {g : CxT} (ok : Ok l g (oX v) 4 cX7_setOfTable RX7 (some .int)) {post : Int32 → Mem → Prop} (he : EndQ g (oX v) (va_Qi post (fun S1 t => BX (oX v) S1 t) (AX (oX v)))) (x1 : Int32) (x2 : Int32) (x3 : Int32) (S : Mem) (h : w_X7_setOfTable_104 post x1 x2 x3 S) : G g (oX v) 2 4 104 [(0, .ref (v.1 0)), (1, .int x1), (2, .int x2), (3, .int x3)] [] S := by
  unfold w_X7_setOfTable_104 at h
  refine g_iload_n 1 (n := 105) ok dX7_setOfTable_104 rfl rfl ?_
  refine g_iconst (v := 5) (n := 106) ok dX7_setOfTable_105 rfl (by decide) ?_
  refine g_icmp_ne (t := 135) (n := 109) ok dX7_setOfTable_106 (by decide) rfl (fun e5 => ?_) (fun e5 => ?_)
  · replace h := h.1 e5
    exact g_sub [3] rfl (b_X7_setOfTable_135 ok he x3 S h)
  · replace h := h.2 e5
    refine g_iload_n 2 (n := 110) ok dX7_setOfTable_109 rfl rfl ?_
    refine g_iconst (v := 0) (n := 111) ok dX7_setOfTable_110 rfl (by decide) ?_
    refine g_bipush (v := 9) (n := 113) ok dX7_setOfTable_111 rfl (by decide) ?_
    refine g_callSi (n := 116) (As := [.int x2, .int (0 : Int32), .int (9 : Int32)]) (rest := []) ok (c_X7_within l v x2 (0 : Int32) (9 : Int32) S _ h) cal_X7_within tw_373 tw_253 (by decide) (by decide) rfl (Nat.le_of_ble_eq_true rfl) dX7_setOfTable_113 rfl rfl (fun r1 S1 h => ?_)
    refine g_if_eq (t := 135) (n := 119) ok dX7_setOfTable_116 (by decide) rfl (fun e4 => ?_) (fun e4 => ?_)
    · replace h := h.1 e4
      exact g_sub [3] rfl (b_X7_setOfTable_135 ok he x3 S1 h)
    · replace h := h.2 e4
      refine g_aload_n 0 (n := 120) ok dX7_setOfTable_119 rfl rfl ?_
      refine fg_X7_X7_table (n := 123) 0 rfl ok dX7_setOfTable_120 rfl ?_
      refine fg_X7_X5_load (n := 126) 1 rfl ok dX7_setOfTable_123 rfl ?_
      refine g_topi (fun z2 ez2 => ?_)
      replace h := h z2 ez2
      refine g_istore_n [(3, .int z2), (0, .ref (v.1 0)), (1, .int x1), (2, .int x2)] (n := 127) ok dX7_setOfTable_126 rfl (by decide) rfl ?_
      refine g_aload_n 1 (n := 128) ok dX7_setOfTable_127 rfl rfl ?_
      refine fg_X7_X7_table (n := 131) 0 rfl ok dX7_setOfTable_128 rfl ?_
      refine g_iload_n 3 (n := 132) ok dX7_setOfTable_131 rfl rfl ?_
      refine fp_X7_X5_load (n := 135) 1 rfl ok dX7_setOfTable_132 rfl ?_
      refine g_mem (fun S3 eS3 => ?_)
      replace h := h S3 eS3
      exact g_sub [0] rfl (b_X7_setOfTable_135 ok he z2 S3 h)
def w_X7_setOfTable_70 (post : Int32 → Mem → Prop) (x1 : Int32) (x2 : Int32) (x3 : Int32) (S : Mem) : Prop := ((¬ x1 = (4 : Int32) → w_X7_setOfTable_104 post x1 x2 x3 S) ∧ (x1 = (4 : Int32) → w_X7_within x2 (0 : Int32) (7 : Int32) S (fun r1 S1 => ((r1 = 0 → w_X7_setOfTable_104 post x1 x2 x3 S1) ∧ (¬ r1 = 0 → (∀ z2 : Int32, z2 = S1 1 4 → (∀ S3 : Mem, S3 = mset S1 1 (upd (S1 1) 4 x2) → w_X7_setOfTable_135 post z2 S3)))))))
set_option maxHeartbeats 4000000 in
set_option maxRecDepth 20000 in
theorem b_X7_setOfTable_70 {v : VxT} {l : Launch} {g : CxT} (ok : Ok l g (oX v) 4 cX7_setOfTable RX7 (some .int)) {post : Int32 → Mem → Prop} (he : EndQ g (oX v) (va_Qi post (fun S1 t => BX (oX v) S1 t) (AX (oX v)))) (x1 : Int32) (x2 : Int32) (x3 : Int32) (S : Mem) (h : w_X7_setOfTable_70 post x1 x2 x3 S) : G g (oX v) 2 4 70 [(0, .ref (v.1 0)), (1, .int x1), (2, .int x2), (3, .int x3)] [] S := by
  unfold w_X7_setOfTable_70 at h
  refine g_iload_n 1 (n := 71) ok dX7_setOfTable_70 rfl rfl ?_
  refine g_iconst (v := 4) (n := 72) ok dX7_setOfTable_71 rfl (by decide) ?_
  refine g_icmp_ne (t := 104) (n := 75) ok dX7_setOfTable_72 (by decide) rfl (fun e5 => ?_) (fun e5 => ?_)
  · replace h := h.1 e5
    exact g_sub [0, 1, 2, 3] rfl (b_X7_setOfTable_104 ok he x1 x2 x3 S h)
  · replace h := h.2 e5
    refine g_iload_n 2 (n := 76) ok dX7_setOfTable_75 rfl rfl ?_
    refine g_iconst (v := 0) (n := 77) ok dX7_setOfTable_76 rfl (by decide) ?_
    refine g_bipush (v := 7) (n := 79) ok dX7_setOfTable_77 rfl (by decide) ?_
    refine g_callSi (n := 82) (As := [.int x2, .int (0 : Int32), .int (7 : Int32)]) (rest := []) ok (c_X7_within l v x2 (0 : Int32) (7 : Int32) S _ h) cal_X7_within tw_373 tw_253 (by decide) (by decide) rfl (Nat.le_of_ble_eq_true rfl) dX7_setOfTable_79 rfl rfl (fun r1 S1 h => ?_)
    refine g_if_eq (t := 104) (n := 85) ok dX7_setOfTable_82 (by decide) rfl (fun e4 => ?_) (fun e4 => ?_)
    · replace h := h.1 e4
      exact g_sub [0, 1, 2, 3] rfl (b_X7_setOfTable_104 ok he x1 x2 x3 S1 h)
    · replace h := h.2 e4
      refine g_aload_n 0 (n := 86) ok dX7_setOfTable_85 rfl rfl ?_
      refine fg_X7_X7_table (n := 89) 0 rfl ok dX7_setOfTable_86 rfl ?_
      refine fg_X7_X5_turn (n := 92) 1 rfl ok dX7_setOfTable_89 rfl ?_
      refine g_topi (fun z2 ez2 => ?_)
      replace h := h z2 ez2
      refine g_istore_n [(3, .int z2), (0, .ref (v.1 0)), (1, .int x1), (2, .int x2)] (n := 93) ok dX7_setOfTable_92 rfl (by decide) rfl ?_
      refine g_aload_n 1 (n := 94) ok dX7_setOfTable_93 rfl rfl ?_
      refine fg_X7_X7_table (n := 97) 0 rfl ok dX7_setOfTable_94 rfl ?_
      refine g_iload_n 3 (n := 98) ok dX7_setOfTable_97 rfl rfl ?_
      refine fp_X7_X5_turn (n := 101) 1 rfl ok dX7_setOfTable_98 rfl ?_
      refine g_mem (fun S3 eS3 => ?_)
      replace h := h S3 eS3
      refine g_goto (t := 135) ok dX7_setOfTable_101 (by decide) ?_
      exact g_sub [0] rfl (b_X7_setOfTable_135 ok he z2 S3 h)
def w_X7_setOfTable_37 (post : Int32 → Mem → Prop) (x1 : Int32) (x2 : Int32) (x3 : Int32) (S : Mem) : Prop := ((¬ x1 = (3 : Int32) → w_X7_setOfTable_70 post x1 x2 x3 S) ∧ (x1 = (3 : Int32) → w_X7_within x2 (1 : Int32) (3 : Int32) S (fun r1 S1 => ((r1 = 0 → w_X7_setOfTable_70 post x1 x2 x3 S1) ∧ (¬ r1 = 0 → (∀ z2 : Int32, z2 = S1 1 3 → (∀ S3 : Mem, S3 = mset S1 1 (upd (S1 1) 3 x2) → w_X7_setOfTable_135 post z2 S3)))))))
set_option maxHeartbeats 4000000 in
set_option maxRecDepth 20000 in
theorem b_X7_setOfTable_37 {v : VxT} {l : Launch} {g : CxT} (ok : Ok l g (oX v) 4 cX7_setOfTable RX7 (some .int)) {post : Int32 → Mem → Prop} (he : EndQ g (oX v) (va_Qi post (fun S1 t => BX (oX v) S1 t) (AX (oX v)))) (x1 : Int32) (x2 : Int32) (x3 : Int32) (S : Mem) (h : w_X7_setOfTable_37 post x1 x2 x3 S) : G g (oX v) 2 4 37 [(0, .ref (v.1 0)), (1, .int x1), (2, .int x2), (3, .int x3)] [] S := by
  unfold w_X7_setOfTable_37 at h
  refine g_iload_n 1 (n := 38) ok dX7_setOfTable_37 rfl rfl ?_
  refine g_iconst (v := 3) (n := 39) ok dX7_setOfTable_38 rfl (by decide) ?_
  refine g_icmp_ne (t := 70) (n := 42) ok dX7_setOfTable_39 (by decide) rfl (fun e5 => ?_) (fun e5 => ?_)
  · replace h := h.1 e5
    exact g_sub [0, 1, 2, 3] rfl (b_X7_setOfTable_70 ok he x1 x2 x3 S h)
  · replace h := h.2 e5
    refine g_iload_n 2 (n := 43) ok dX7_setOfTable_42 rfl rfl ?_
    refine g_iconst (v := 1) (n := 44) ok dX7_setOfTable_43 rfl (by decide) ?_
    refine g_iconst (v := 3) (n := 45) ok dX7_setOfTable_44 rfl (by decide) ?_
    refine g_callSi (n := 48) (As := [.int x2, .int (1 : Int32), .int (3 : Int32)]) (rest := []) ok (c_X7_within l v x2 (1 : Int32) (3 : Int32) S _ h) cal_X7_within tw_373 tw_253 (by decide) (by decide) rfl (Nat.le_of_ble_eq_true rfl) dX7_setOfTable_45 rfl rfl (fun r1 S1 h => ?_)
    refine g_if_eq (t := 70) (n := 51) ok dX7_setOfTable_48 (by decide) rfl (fun e4 => ?_) (fun e4 => ?_)
    · replace h := h.1 e4
      exact g_sub [0, 1, 2, 3] rfl (b_X7_setOfTable_70 ok he x1 x2 x3 S1 h)
    · replace h := h.2 e4
      refine g_aload_n 0 (n := 52) ok dX7_setOfTable_51 rfl rfl ?_
      refine fg_X7_X7_table (n := 55) 0 rfl ok dX7_setOfTable_52 rfl ?_
      refine fg_X7_X5_radius (n := 58) 1 rfl ok dX7_setOfTable_55 rfl ?_
      refine g_topi (fun z2 ez2 => ?_)
      replace h := h z2 ez2
      refine g_istore_n [(3, .int z2), (0, .ref (v.1 0)), (1, .int x1), (2, .int x2)] (n := 59) ok dX7_setOfTable_58 rfl (by decide) rfl ?_
      refine g_aload_n 1 (n := 60) ok dX7_setOfTable_59 rfl rfl ?_
      refine fg_X7_X7_table (n := 63) 0 rfl ok dX7_setOfTable_60 rfl ?_
      refine g_iload_n 3 (n := 64) ok dX7_setOfTable_63 rfl rfl ?_
      refine fp_X7_X5_radius (n := 67) 1 rfl ok dX7_setOfTable_64 rfl ?_
      refine g_mem (fun S3 eS3 => ?_)
      replace h := h S3 eS3
      refine g_goto (t := 135) ok dX7_setOfTable_67 (by decide) ?_
      exact g_sub [0] rfl (b_X7_setOfTable_135 ok he z2 S3 h)
def w_X7_setOfTable (p1 : Int32) (p2 : Int32) (S : Mem) (post : Int32 → Mem → Prop) : Prop := ((¬ p1 = (2 : Int32) → w_X7_setOfTable_37 post p1 p2 (-2 : Int32) S) ∧ (p1 = (2 : Int32) → w_X7_within p2 (0 : Int32) (63 : Int32) S (fun r1 S1 => ((r1 = 0 → w_X7_setOfTable_37 post p1 p2 (-2 : Int32) S1) ∧ (¬ r1 = 0 → (∀ z2 : Int32, z2 = S1 1 2 → (∀ S3 : Mem, S3 = mset S1 1 (upd (S1 1) 2 p2) → w_X7_setOfTable_135 post z2 S3)))))))
set_option maxHeartbeats 4000000 in
set_option maxRecDepth 20000 in
theorem c_X7_setOfTable (l : Launch) (v : VxT) (p1 : Int32) (p2 : Int32) (S : Mem) (post : Int32 → Mem → Prop) (h : w_X7_setOfTable p1 p2 S post) : MI l yX7_setOfTable cX7_setOfTable 4 (some .int) 2 (oX v) [.ref (v.1 0), .int p1, .int p2] S post := by
  refine met_start (by decide +kernel) (Nat.le_of_ble_eq_true rfl) (fun g ok he => ?_)
  refine g_eq (L' := [(0, .ref (v.1 0)), (1, .int p1), (2, .int p2)]) (st' := []) ?_ rfl rfl
  unfold w_X7_setOfTable at h
  refine g_bipush (v := -2) (n := 2) ok dX7_setOfTable_0 rfl (by decide) ?_
  refine g_istore_n [(3, .int (-2 : Int32)), (0, .ref (v.1 0)), (1, .int p1), (2, .int p2)] (n := 3) ok dX7_setOfTable_2 rfl (by decide) rfl ?_
  refine g_iload_n 2 (n := 4) ok dX7_setOfTable_3 rfl rfl ?_
  refine g_iconst (v := 2) (n := 5) ok dX7_setOfTable_4 rfl (by decide) ?_
  refine g_icmp_ne (t := 37) (n := 8) ok dX7_setOfTable_5 (by decide) rfl (fun e5 => ?_) (fun e5 => ?_)
  · replace h := h.1 e5
    exact g_sub [1, 2, 3, 0] rfl (b_X7_setOfTable_37 ok he p1 p2 (-2 : Int32) S h)
  · replace h := h.2 e5
    refine g_iload_n 3 (n := 9) ok dX7_setOfTable_8 rfl rfl ?_
    refine g_iconst (v := 0) (n := 10) ok dX7_setOfTable_9 rfl (by decide) ?_
    refine g_bipush (v := 63) (n := 12) ok dX7_setOfTable_10 rfl (by decide) ?_
    refine g_callSi (n := 15) (As := [.int p2, .int (0 : Int32), .int (63 : Int32)]) (rest := []) ok (c_X7_within l v p2 (0 : Int32) (63 : Int32) S _ h) cal_X7_within tw_373 tw_253 (by decide) (by decide) rfl (Nat.le_of_ble_eq_true rfl) dX7_setOfTable_12 rfl rfl (fun r1 S1 h => ?_)
    refine g_if_eq (t := 37) (n := 18) ok dX7_setOfTable_15 (by decide) rfl (fun e4 => ?_) (fun e4 => ?_)
    · replace h := h.1 e4
      exact g_sub [1, 2, 3, 0] rfl (b_X7_setOfTable_37 ok he p1 p2 (-2 : Int32) S1 h)
    · replace h := h.2 e4
      refine g_aload_n 1 (n := 19) ok dX7_setOfTable_18 rfl rfl ?_
      refine fg_X7_X7_table (n := 22) 0 rfl ok dX7_setOfTable_19 rfl ?_
      refine fg_X7_X5_place (n := 25) 1 rfl ok dX7_setOfTable_22 rfl ?_
      refine g_topi (fun z2 ez2 => ?_)
      replace h := h z2 ez2
      refine g_istore_n [(3, .int z2), (0, .ref (v.1 0)), (1, .int p1), (2, .int p2)] (n := 26) ok dX7_setOfTable_25 rfl (by decide) rfl ?_
      refine g_aload_n 1 (n := 27) ok dX7_setOfTable_26 rfl rfl ?_
      refine fg_X7_X7_table (n := 30) 0 rfl ok dX7_setOfTable_27 rfl ?_
      refine g_iload_n 3 (n := 31) ok dX7_setOfTable_30 rfl rfl ?_
      refine fp_X7_X5_place (n := 34) 1 rfl ok dX7_setOfTable_31 rfl ?_
      refine g_mem (fun S3 eS3 => ?_)
      replace h := h S3 eS3
      refine g_goto (t := 135) ok dX7_setOfTable_34 (by decide) ?_
      exact g_sub [0] rfl (b_X7_setOfTable_135 ok he z2 S3 h)
def w_X7_set_48 (post : Int32 → Mem → Prop) (x1 : Int32) (x3 : Int32) (S : Mem) : Prop := w_X7_setOfTable x1 x3 S (fun r1 S1 => post r1 S1)
set_option maxHeartbeats 4000000 in
set_option maxRecDepth 20000 in
theorem b_X7_set_48 {v : VxT} {l : Launch} {g : CxT} (ok : Ok l g (oX v) 4 cX7_set RX7 (some .int)) {post : Int32 → Mem → Prop} (he : EndQ g (oX v) (va_Qi post (fun S1 t => BX (oX v) S1 t) (AX (oX v)))) (x1 : Int32) (x3 : Int32) (S : Mem) (h : w_X7_set_48 post x1 x3 S) : G g (oX v) 4 4 48 [(0, .ref (v.1 0)), (1, .int x1), (3, .int x3)] [] S := by
  unfold w_X7_set_48 at h
  refine g_aload_n 0 (n := 49) ok dX7_set_48 rfl rfl ?_
  refine g_iload_n 1 (n := 50) ok dX7_set_49 rfl rfl ?_
  refine g_iload_n 2 (n := 51) ok dX7_set_50 rfl rfl ?_
  refine g_callVi (n := 54) (As := [.int x1, .int x3]) (rest := []) (c := 0) ok (c_X7_setOfTable l v x1 x3 S _ h) cal_X7_setOfTable tw_396 tw_398 tp_19 (lt0 rfl) (sh0 rfl _) rfl (by decide) (by decide) rfl (Nat.le_of_ble_eq_true rfl) dX7_set_51 rfl rfl (fun r1 S1 h => ?_)
  exact g_iret ok he h dX7_set_54
def w_X7_set_40 (post : Int32 → Mem → Prop) (x1 : Int32) (x2 : Int32) (x3 : Int32) (S : Mem) : Prop := w_X7_setOfLeg x1 x2 x3 S (fun r1 S1 => post r1 S1)
set_option maxHeartbeats 4000000 in
set_option maxRecDepth 20000 in
theorem b_X7_set_40 {v : VxT} {l : Launch} {g : CxT} (ok : Ok l g (oX v) 4 cX7_set RX7 (some .int)) {post : Int32 → Mem → Prop} (he : EndQ g (oX v) (va_Qi post (fun S1 t => BX (oX v) S1 t) (AX (oX v)))) (x1 : Int32) (x2 : Int32) (x3 : Int32) (S : Mem) (h : w_X7_set_40 post x1 x2 x3 S) : G g (oX v) 4 4 40 [(0, .ref (v.1 0)), (1, .int x1), (2, .int x2), (3, .int x3)] [] S := by
  unfold w_X7_set_40 at h
  refine g_aload_n 0 (n := 41) ok dX7_set_40 rfl rfl ?_
  refine g_iload_n 1 (n := 42) ok dX7_set_41 rfl rfl ?_
  refine g_iload_n 2 (n := 43) ok dX7_set_42 rfl rfl ?_
  refine g_iload_n 3 (n := 44) ok dX7_set_43 rfl rfl ?_
  refine g_callVi (n := 47) (As := [.int x1, .int x2, .int x3]) (rest := []) (c := 0) ok (c_X7_setOfLeg l v x1 x2 x3 S _ h) cal_X7_setOfLeg tw_392 tw_394 tp_18 (lt0 rfl) (sh0 rfl _) rfl (by decide) (by decide) rfl (Nat.le_of_ble_eq_true rfl) dX7_set_44 rfl rfl (fun r1 S1 h => ?_)
  exact g_iret ok he h dX7_set_47
def w_X7_set (p1 : Int32) (p2 : Int32) (p3 : Int32) (S : Mem) (post : Int32 → Mem → Prop) : Prop := ((p1 = 0 → w_X7_set_40 post p1 p2 p3 S) ∧ (¬ p1 = 0 → ((p1 = 1 → w_X7_set_40 post p1 p2 p3 S) ∧ (¬ p1 = 1 → ((p1 = 2 → w_X7_set_48 post p1 p3 S) ∧ (¬ p1 = 2 → ((p1 = 3 → w_X7_set_48 post p1 p3 S) ∧ (¬ p1 = 3 → ((p1 = 4 → w_X7_set_48 post p1 p3 S) ∧ (¬ p1 = 4 → ((p1 = 5 → w_X7_set_48 post p1 p3 S) ∧ (¬ p1 = 5 → post (-2 : Int32) S))))))))))))
set_option maxHeartbeats 4000000 in
set_option maxRecDepth 20000 in
theorem c_X7_set (l : Launch) (v : VxT) (p1 : Int32) (p2 : Int32) (p3 : Int32) (S : Mem) (post : Int32 → Mem → Prop) (h : w_X7_set p1 p2 p3 S post) : MI l yX7_set cX7_set 4 (some .int) 4 (oX v) [.ref (v.1 0), .int p1, .int p2, .int p3] S post := by
  refine met_start (by decide +kernel) (Nat.le_of_ble_eq_true rfl) (fun g ok he => ?_)
  refine g_eq (L' := [(0, .ref (v.1 0)), (1, .int p1), (2, .int p2), (3, .int p3)]) (st' := []) ?_ rfl rfl
  unfold w_X7_set at h
  refine g_iload_n 1 (n := 1) ok dX7_set_0 rfl rfl ?_
  by_cases e1 : p1 = 0
  · replace h := h.1 e1
    refine g_tsIn (off := 39) (t := 40) ok dX7_set_1 (by rw [e1]; decide) (by rw [e1]; decide) (by rw [e1]; rfl) (by decide) ?_
    exact g_sub [0, 1, 2, 3] rfl (b_X7_set_40 ok he p1 p2 p3 S h)
  · replace h := h.2 e1
    by_cases e2 : p1 = 1
    · replace h := h.1 e2
      refine g_tsIn (off := 39) (t := 40) ok dX7_set_1 (by rw [e2]; decide) (by rw [e2]; decide) (by rw [e2]; rfl) (by decide) ?_
      exact g_sub [0, 1, 2, 3] rfl (b_X7_set_40 ok he p1 p2 p3 S h)
    · replace h := h.2 e2
      by_cases e3 : p1 = 2
      · replace h := h.1 e3
        refine g_tsIn (off := 47) (t := 48) ok dX7_set_1 (by rw [e3]; decide) (by rw [e3]; decide) (by rw [e3]; rfl) (by decide) ?_
        exact g_sub [0, 1, 3] rfl (b_X7_set_48 ok he p1 p3 S h)
      · replace h := h.2 e3
        by_cases e4 : p1 = 3
        · replace h := h.1 e4
          refine g_tsIn (off := 47) (t := 48) ok dX7_set_1 (by rw [e4]; decide) (by rw [e4]; decide) (by rw [e4]; rfl) (by decide) ?_
          exact g_sub [0, 1, 3] rfl (b_X7_set_48 ok he p1 p3 S h)
        · replace h := h.2 e4
          by_cases e5 : p1 = 4
          · replace h := h.1 e5
            refine g_tsIn (off := 47) (t := 48) ok dX7_set_1 (by rw [e5]; decide) (by rw [e5]; decide) (by rw [e5]; rfl) (by decide) ?_
            exact g_sub [0, 1, 3] rfl (b_X7_set_48 ok he p1 p3 S h)
          · replace h := h.2 e5
            by_cases e6 : p1 = 5
            · replace h := h.1 e6
              refine g_tsIn (off := 47) (t := 48) ok dX7_set_1 (by rw [e6]; decide) (by rw [e6]; decide) (by rw [e6]; rfl) (by decide) ?_
              exact g_sub [0, 1, 3] rfl (b_X7_set_48 ok he p1 p3 S h)
            · replace h := h.2 e6
              refine g_tsOut (t := 55) ok dX7_set_1 (by have q0 := lv_neT (a := 0) e1 rfl; have q1 := lv_neT (a := 1) e2 rfl; have q2 := lv_neT (a := 2) e3 rfl; have q3 := lv_neT (a := 3) e4 rfl; have q4 := lv_neT (a := 4) e5 rfl; have q5 := lv_neT (a := 5) e6 rfl; omega) (by decide) ?_
              refine g_bipush (v := -2) (n := 57) ok dX7_set_55 rfl (by decide) ?_
              exact g_iret ok he h dX7_set_57
def w_X7_told_30 (post : Int32 → Mem → Prop) (y0 : Int32) (S : Mem) : Prop := post y0 S
set_option maxHeartbeats 4000000 in
set_option maxRecDepth 20000 in
theorem b_X7_told_30 {v : VxT} {l : Launch} {g : CxT} (ok : Ok l g (oX v) 3 cX7_told RX7 (some .int)) {post : Int32 → Mem → Prop} (he : EndQ g (oX v) (va_Qi post (fun S1 t => BX (oX v) S1 t) (AX (oX v)))) (y0 : Int32) (S : Mem) (h : w_X7_told_30 post y0 S) : G g (oX v) 5 3 30 [] [.int y0] S := by
  unfold w_X7_told_30 at h
  exact g_iret ok he h dX7_told_30
def w_X7_told (p1 : Int32) (p2 : Int32) (S : Mem) (post : Int32 → Mem → Prop) : Prop := ((¬ p2 = (6 : Int32) → w_X7_isLeg p1 S (fun r1 S1 => ((¬ r1 = 0 → ((p2 = 0 → (vp_in p1 4 ∧ post (S1 (3 + 1 + p1.toNatClampNeg) 0) S1)) ∧ (¬ p2 = 0 → ((p2 = 1 → (vp_in p1 4 ∧ post (S1 (3 + 1 + p1.toNatClampNeg) 1) S1)) ∧ (¬ p2 = 1 → ((p2 = 2 → (vp_in p1 4 ∧ post (S1 (3 + 1 + p1.toNatClampNeg) 2) S1)) ∧ (¬ p2 = 2 → ((p2 = 3 → (vp_in p1 4 ∧ w_X0_tall (3 + 1 + p1.toNatClampNeg) (S1 1 5) S1 (fun r6 S6 => post r6 S6))) ∧ (¬ p2 = 3 → ((p2 = 4 → w_X5_cellBeneath 1 p1 (S1 1 2) (S1 1 4) S1 (fun r8 S8 => post r8 S8)) ∧ (¬ p2 = 4 → ((p2 = 5 → w_X5_heightOf 1 p1 (S1 1 2) (S1 1 4) S1 (fun r10 S10 => post r10 S10)) ∧ (¬ p2 = 5 → post (-2 : Int32) S1))))))))))))) ∧ (r1 = 0 → post (-2 : Int32) S1)))) ∧ (p2 = (6 : Int32) → w_X7_within p1 (0 : Int32) (63 : Int32) S (fun r12 S12 => ((r12 = 0 → w_X7_told_30 post (-2 : Int32) S12) ∧ (¬ r12 = 0 → (vp_in p1 64 ∧ w_X7_told_30 post (S12 2 p1.toNatClampNeg) S12))))))
set_option maxHeartbeats 4000000 in
set_option maxRecDepth 20000 in
theorem c_X7_told (l : Launch) (v : VxT) (p1 : Int32) (p2 : Int32) (S : Mem) (post : Int32 → Mem → Prop) (h : w_X7_told p1 p2 S post) : MI l yX7_told cX7_told 3 (some .int) 5 (oX v) [.ref (v.1 0), .int p1, .int p2] S post := by
  refine met_start (by decide +kernel) (Nat.le_of_ble_eq_true rfl) (fun g ok he => ?_)
  refine g_eq (L' := [(0, .ref (v.1 0)), (1, .int p1), (2, .int p2)]) (st' := []) ?_ rfl rfl
  unfold w_X7_told at h
  refine g_iload_n 2 (n := 1) ok dX7_told_0 rfl rfl ?_
  refine g_bipush (v := 6) (n := 3) ok dX7_told_1 rfl (by decide) ?_
  refine g_icmp_ne (t := 31) (n := 6) ok dX7_told_3 (by decide) rfl (fun e14 => ?_) (fun e14 => ?_)
  · replace h := h.1 e14
    refine g_iload_n 1 (n := 32) ok dX7_told_31 rfl rfl ?_
    refine g_callSi (n := 35) (As := [.int p1]) (rest := []) ok (c_X7_isLeg l v p1 S _ h) cal_X7_isLeg tw_382 tw_383 (by decide) (by decide) rfl (Nat.le_of_ble_eq_true rfl) dX7_told_32 rfl rfl (fun r1 S1 h => ?_)
    refine g_if_ne (t := 41) (n := 38) ok dX7_told_35 (by decide) rfl (fun e11 => ?_) (fun e11 => ?_)
    · replace h := h.1 e11
      refine g_iload_n 2 (n := 42) ok dX7_told_41 rfl rfl ?_
      by_cases e2 : p2 = 0
      · replace h := h.1 e2
        refine g_tsIn (off := 38) (t := 80) ok dX7_told_42 (by rw [e2]; decide) (by rw [e2]; decide) (by rw [e2]; rfl) (by decide) ?_
        refine g_aload_n 0 (n := 81) ok dX7_told_80 rfl rfl ?_
        refine fg_X7_X7_table (n := 84) 0 rfl ok dX7_told_81 rfl ?_
        refine fg_X7_X5_legs (n := 87) 1 rfl ok dX7_told_84 rfl ?_
        refine g_iload_n 1 (n := 88) ok dX7_told_87 rfl rfl ?_
        obtain ⟨h88, h⟩ := h
        refine g_aald (c := 3) (t0 := 1) (a := v.1 (3 + 1 + p1.toNatClampNeg)) (n := 89) ok (lt3 rfl) (sh3 rfl _) rfl h88 rfl dX7_told_88 rfl ?_
        refine fg_X7_X0_kind (n := 92) (3 + 1 + p1.toNatClampNeg) (kdE3 rfl h88) ok dX7_told_89 rfl ?_
        exact g_iret ok he h dX7_told_92
      · replace h := h.2 e2
        by_cases e3 : p2 = 1
        · replace h := h.1 e3
          refine g_tsIn (off := 51) (t := 93) ok dX7_told_42 (by rw [e3]; decide) (by rw [e3]; decide) (by rw [e3]; rfl) (by decide) ?_
          refine g_aload_n 0 (n := 94) ok dX7_told_93 rfl rfl ?_
          refine fg_X7_X7_table (n := 97) 0 rfl ok dX7_told_94 rfl ?_
          refine fg_X7_X5_legs (n := 100) 1 rfl ok dX7_told_97 rfl ?_
          refine g_iload_n 1 (n := 101) ok dX7_told_100 rfl rfl ?_
          obtain ⟨h101, h⟩ := h
          refine g_aald (c := 3) (t0 := 1) (a := v.1 (3 + 1 + p1.toNatClampNeg)) (n := 102) ok (lt3 rfl) (sh3 rfl _) rfl h101 rfl dX7_told_101 rfl ?_
          refine fg_X7_X0_length (n := 105) (3 + 1 + p1.toNatClampNeg) (kdE3 rfl h101) ok dX7_told_102 rfl ?_
          exact g_iret ok he h dX7_told_105
        · replace h := h.2 e3
          by_cases e4 : p2 = 2
          · replace h := h.1 e4
            refine g_tsIn (off := 64) (t := 106) ok dX7_told_42 (by rw [e4]; decide) (by rw [e4]; decide) (by rw [e4]; rfl) (by decide) ?_
            refine g_aload_n 0 (n := 107) ok dX7_told_106 rfl rfl ?_
            refine fg_X7_X7_table (n := 110) 0 rfl ok dX7_told_107 rfl ?_
            refine fg_X7_X5_legs (n := 113) 1 rfl ok dX7_told_110 rfl ?_
            refine g_iload_n 1 (n := 114) ok dX7_told_113 rfl rfl ?_
            obtain ⟨h114, h⟩ := h
            refine g_aald (c := 3) (t0 := 1) (a := v.1 (3 + 1 + p1.toNatClampNeg)) (n := 115) ok (lt3 rfl) (sh3 rfl _) rfl h114 rfl dX7_told_114 rfl ?_
            refine fg_X7_X0_number (n := 118) (3 + 1 + p1.toNatClampNeg) (kdE3 rfl h114) ok dX7_told_115 rfl ?_
            exact g_iret ok he h dX7_told_118
          · replace h := h.2 e4
            by_cases e5 : p2 = 3
            · replace h := h.1 e5
              refine g_tsIn (off := 77) (t := 119) ok dX7_told_42 (by rw [e5]; decide) (by rw [e5]; decide) (by rw [e5]; rfl) (by decide) ?_
              refine g_aload_n 0 (n := 120) ok dX7_told_119 rfl rfl ?_
              refine fg_X7_X7_table (n := 123) 0 rfl ok dX7_told_120 rfl ?_
              refine fg_X7_X5_legs (n := 126) 1 rfl ok dX7_told_123 rfl ?_
              refine g_iload_n 1 (n := 127) ok dX7_told_126 rfl rfl ?_
              obtain ⟨h127, h⟩ := h
              refine g_aald (c := 3) (t0 := 1) (a := v.1 (3 + 1 + p1.toNatClampNeg)) (n := 128) ok (lt3 rfl) (sh3 rfl _) rfl h127 rfl dX7_told_127 rfl ?_
              refine g_aload_n 0 (n := 129) ok dX7_told_128 rfl rfl ?_
              refine fg_X7_X7_table (n := 132) 0 rfl ok dX7_told_129 rfl ?_
              refine fg_X7_X5_load (n := 135) 1 rfl ok dX7_told_132 rfl ?_
              refine g_callVNi (n := 138) (As := [.int (S1 1 5)]) (rest := []) (c := (3 + 1 + p1.toNatClampNeg)) ok (c_X0_tall l v (3 + 1 + p1.toNatClampNeg) (kdE3 rfl h127) (S1 1 5) S1 _ h) cal_X0_tall tw_404 tw_406 tp_20 (lt4 (kdE3 rfl h127)) (sh4 (kdE3 rfl h127) _) rfl (by decide) (by decide) rfl (Nat.le_of_ble_eq_true rfl) dX7_told_135 rfl rfl (fun r6 S6 h => ?_)
              exact g_iret ok he h dX7_told_138
            · replace h := h.2 e5
              by_cases e7 : p2 = 4
              · replace h := h.1 e7
                refine g_tsIn (off := 97) (t := 139) ok dX7_told_42 (by rw [e7]; decide) (by rw [e7]; decide) (by rw [e7]; rfl) (by decide) ?_
                refine g_aload_n 0 (n := 140) ok dX7_told_139 rfl rfl ?_
                refine fg_X7_X7_table (n := 143) 0 rfl ok dX7_told_140 rfl ?_
                refine g_iload_n 1 (n := 144) ok dX7_told_143 rfl rfl ?_
                refine g_aload_n 0 (n := 145) ok dX7_told_144 rfl rfl ?_
                refine fg_X7_X7_table (n := 148) 0 rfl ok dX7_told_145 rfl ?_
                refine fg_X7_X5_place (n := 151) 1 rfl ok dX7_told_148 rfl ?_
                refine g_aload_n 0 (n := 152) ok dX7_told_151 rfl rfl ?_
                refine fg_X7_X7_table (n := 155) 0 rfl ok dX7_told_152 rfl ?_
                refine fg_X7_X5_turn (n := 158) 1 rfl ok dX7_told_155 rfl ?_
                refine g_callVNi (n := 161) (As := [.int p1, .int (S1 1 2), .int (S1 1 4)]) (rest := []) (c := 1) ok (c_X5_cellBeneath l v 1 rfl p1 (S1 1 2) (S1 1 4) S1 _ h) cal_X5_cellBeneath tw_419 tw_421 tp_23 (lt1 rfl) (sh1 rfl _) rfl (by decide) (by decide) rfl (Nat.le_of_ble_eq_true rfl) dX7_told_158 rfl rfl (fun r8 S8 h => ?_)
                exact g_iret ok he h dX7_told_161
              · replace h := h.2 e7
                by_cases e9 : p2 = 5
                · replace h := h.1 e9
                  refine g_tsIn (off := 120) (t := 162) ok dX7_told_42 (by rw [e9]; decide) (by rw [e9]; decide) (by rw [e9]; rfl) (by decide) ?_
                  refine g_aload_n 0 (n := 163) ok dX7_told_162 rfl rfl ?_
                  refine fg_X7_X7_table (n := 166) 0 rfl ok dX7_told_163 rfl ?_
                  refine g_iload_n 1 (n := 167) ok dX7_told_166 rfl rfl ?_
                  refine g_aload_n 0 (n := 168) ok dX7_told_167 rfl rfl ?_
                  refine fg_X7_X7_table (n := 171) 0 rfl ok dX7_told_168 rfl ?_
                  refine fg_X7_X5_place (n := 174) 1 rfl ok dX7_told_171 rfl ?_
                  refine g_aload_n 0 (n := 175) ok dX7_told_174 rfl rfl ?_
                  refine fg_X7_X7_table (n := 178) 0 rfl ok dX7_told_175 rfl ?_
                  refine fg_X7_X5_turn (n := 181) 1 rfl ok dX7_told_178 rfl ?_
                  refine g_callVNi (n := 184) (As := [.int p1, .int (S1 1 2), .int (S1 1 4)]) (rest := []) (c := 1) ok (c_X5_heightOf l v 1 rfl p1 (S1 1 2) (S1 1 4) S1 _ h) cal_X5_heightOf tw_436 tw_438 tp_24 (lt1 rfl) (sh1 rfl _) rfl (by decide) (by decide) rfl (Nat.le_of_ble_eq_true rfl) dX7_told_181 rfl rfl (fun r10 S10 h => ?_)
                  exact g_iret ok he h dX7_told_184
                · replace h := h.2 e9
                  refine g_tsOut (t := 185) ok dX7_told_42 (by have q0 := lv_neT (a := 0) e2 rfl; have q1 := lv_neT (a := 1) e3 rfl; have q2 := lv_neT (a := 2) e4 rfl; have q3 := lv_neT (a := 3) e5 rfl; have q4 := lv_neT (a := 4) e7 rfl; have q5 := lv_neT (a := 5) e9 rfl; omega) (by decide) ?_
                  refine g_bipush (v := -2) (n := 187) ok dX7_told_185 rfl (by decide) ?_
                  exact g_iret ok he h dX7_told_187
    · replace h := h.2 e11
      refine g_bipush (v := -2) (n := 40) ok dX7_told_38 rfl (by decide) ?_
      exact g_iret ok he h dX7_told_40
  · replace h := h.2 e14
    refine g_iload_n 1 (n := 7) ok dX7_told_6 rfl rfl ?_
    refine g_iconst (v := 0) (n := 8) ok dX7_told_7 rfl (by decide) ?_
    refine g_bipush (v := 63) (n := 10) ok dX7_told_8 rfl (by decide) ?_
    refine g_callSi (n := 13) (As := [.int p1, .int (0 : Int32), .int (63 : Int32)]) (rest := []) ok (c_X7_within l v p1 (0 : Int32) (63 : Int32) S _ h) cal_X7_within tw_373 tw_253 (by decide) (by decide) rfl (Nat.le_of_ble_eq_true rfl) dX7_told_10 rfl rfl (fun r12 S12 h => ?_)
    refine g_if_eq (t := 28) (n := 16) ok dX7_told_13 (by decide) rfl (fun e13 => ?_) (fun e13 => ?_)
    · replace h := h.1 e13
      refine g_bipush (v := -2) (n := 30) ok dX7_told_28 rfl (by decide) ?_
      exact g_sub [] rfl (b_X7_told_30 ok he (-2 : Int32) S12 h)
    · replace h := h.2 e13
      refine g_aload_n 0 (n := 17) ok dX7_told_16 rfl rfl ?_
      refine fg_X7_X7_table (n := 20) 0 rfl ok dX7_told_17 rfl ?_
      refine fg_X7_X5_heights (n := 23) 1 rfl ok dX7_told_20 rfl ?_
      refine g_iload_n 1 (n := 24) ok dX7_told_23 rfl rfl ?_
      obtain ⟨h0, h⟩ := h
      refine g_iald (c := 2) (t0 := 0) (n := 25) ok (lt2 rfl) (sh2 rfl _) rfl h0 dX7_told_24 rfl ?_
      refine g_goto (t := 30) ok dX7_told_25 (by decide) ?_
      exact g_sub [] rfl (b_X7_told_30 ok he (S12 2 p1.toNatClampNeg) S12 h)
def w_X7_feed_37 (post : Int32 → Mem → Prop) (y0 : Int32) (S : Mem) : Prop := post y0 S
set_option maxHeartbeats 4000000 in
set_option maxRecDepth 20000 in
theorem b_X7_feed_37 {v : VxT} {l : Launch} {g : CxT} (ok : Ok l g (oX v) 2 cX7_feed RX7 (some .int)) {post : Int32 → Mem → Prop} (he : EndQ g (oX v) (va_Qi post (fun S1 t => BX (oX v) S1 t) (AX (oX v)))) (y0 : Int32) (S : Mem) (h : w_X7_feed_37 post y0 S) : G g (oX v) 2 2 37 [] [.int y0] S := by
  unfold w_X7_feed_37 at h
  exact g_iret ok he h dX7_feed_37
def w_X7_feed (p1 : Int32) (S : Mem) (post : Int32 → Mem → Prop) : Prop := w_X7_within p1 (0 : Int32) (255 : Int32) S (fun r1 S1 => ((¬ r1 = 0 → w_X1_append p1 S1 (fun r2 S2 => ((r2 = 0 → w_X7_feed_37 post (-4 : Int32) S2) ∧ (¬ r2 = 0 → w_X7_feed_37 post (S2 15 2) S2)))) ∧ (r1 = 0 → post (-2 : Int32) S1)))
set_option maxHeartbeats 4000000 in
set_option maxRecDepth 20000 in
theorem c_X7_feed (l : Launch) (v : VxT) (p1 : Int32) (S : Mem) (post : Int32 → Mem → Prop) (h : w_X7_feed p1 S post) : MI l yX7_feed cX7_feed 2 (some .int) 2 (oX v) [.ref (v.1 0), .int p1] S post := by
  refine met_start (by decide +kernel) (Nat.le_of_ble_eq_true rfl) (fun g ok he => ?_)
  refine g_eq (L' := [(0, .ref (v.1 0)), (1, .int p1)]) (st' := []) ?_ rfl rfl
  unfold w_X7_feed at h
  refine g_iload_n 1 (n := 1) ok dX7_feed_0 rfl rfl ?_
  refine g_iconst (v := 0) (n := 2) ok dX7_feed_1 rfl (by decide) ?_
  refine g_sipush (v := 255) (n := 5) ok dX7_feed_2 rfl (by decide) ?_
  refine g_callSi (n := 8) (As := [.int p1, .int (0 : Int32), .int (255 : Int32)]) (rest := []) ok (c_X7_within l v p1 (0 : Int32) (255 : Int32) S _ h) cal_X7_within tw_373 tw_253 (by decide) (by decide) rfl (Nat.le_of_ble_eq_true rfl) dX7_feed_5 rfl rfl (fun r1 S1 h => ?_)
  refine g_if_ne (t := 14) (n := 11) ok dX7_feed_8 (by decide) rfl (fun e4 => ?_) (fun e4 => ?_)
  · replace h := h.1 e4
    refine g_aload_n 0 (n := 15) ok dX7_feed_14 rfl rfl ?_
    refine fg_X7_X7_reader (n := 18) 0 rfl ok dX7_feed_15 rfl ?_
    refine g_iload_n 1 (n := 19) ok dX7_feed_18 rfl rfl ?_
    refine g_callVNi (n := 22) (As := [.int p1]) (rest := []) (c := 15) ok (c_X1_append l v p1 S1 _ h) cal_X1_append tw_236 tw_238 tp_0 (lt5 rfl) (sh5 rfl _) rfl (by decide) (by decide) rfl (Nat.le_of_ble_eq_true rfl) dX7_feed_19 rfl rfl (fun r2 S2 h => ?_)
    refine g_if_eq (t := 35) (n := 25) ok dX7_feed_22 (by decide) rfl (fun e3 => ?_) (fun e3 => ?_)
    · replace h := h.1 e3
      refine g_bipush (v := -4) (n := 37) ok dX7_feed_35 rfl (by decide) ?_
      exact g_sub [] rfl (b_X7_feed_37 ok he (-4 : Int32) S2 h)
    · replace h := h.2 e3
      refine g_aload_n 0 (n := 26) ok dX7_feed_25 rfl rfl ?_
      refine fg_X7_X7_reader (n := 29) 0 rfl ok dX7_feed_26 rfl ?_
      refine fg_X7_X1_size (n := 32) 15 rfl ok dX7_feed_29 rfl ?_
      refine g_goto (t := 37) ok dX7_feed_32 (by decide) ?_
      exact g_sub [] rfl (b_X7_feed_37 ok he (S2 15 2) S2 h)
  · replace h := h.2 e4
    refine g_bipush (v := -2) (n := 13) ok dX7_feed_11 rfl (by decide) ?_
    exact g_iret ok he h dX7_feed_13
def w_X7_text (S : Mem) (post : Int32 → Mem → Prop) : Prop := (((S 0 5) < (6 : Int32) → w_X1_readTape  S (fun r1 S1 => ((r1 = (-1 : Int32) → (vp_in (S1 0 5) 6 ∧ w_X2_becomeLike (20 + 1 + 3 * (S1 0 5).toNatClampNeg) 17 S1 (fun S2 => (∀ S3 : Mem, S3 = mset S2 0 (upd (S2 0) 5 ((S2 0 5) + (1 : Int32))) → post ((S3 0 5) - (1 : Int32)) S3)))) ∧ (¬ r1 = (-1 : Int32) → post ((-100 : Int32) - r1) S1)))) ∧ (¬ (S 0 5) < (6 : Int32) → post (-4 : Int32) S))
set_option maxHeartbeats 4000000 in
set_option maxRecDepth 20000 in
theorem c_X7_text (l : Launch) (v : VxT) (S : Mem) (post : Int32 → Mem → Prop) (h : w_X7_text  S post) : MI l yX7_text cX7_text 2 (some .int) 72 (oX v) [.ref (v.1 0)] S post := by
  refine met_start (by decide +kernel) (Nat.le_of_ble_eq_true rfl) (fun g ok he => ?_)
  refine g_eq (L' := [(0, .ref (v.1 0))]) (st' := []) ?_ rfl rfl
  unfold w_X7_text at h
  refine g_aload_n 0 (n := 1) ok dX7_text_0 rfl rfl ?_
  refine fg_X7_X7_ruleCount (n := 4) 0 rfl ok dX7_text_1 rfl ?_
  refine g_bipush (v := 6) (n := 6) ok dX7_text_4 rfl (by decide) ?_
  refine g_icmp_lt (t := 12) (n := 9) ok dX7_text_6 (by decide) rfl (fun e5 => ?_) (fun e5 => ?_)
  · replace h := h.1 e5
    refine g_aload_n 0 (n := 13) ok dX7_text_12 rfl rfl ?_
    refine fg_X7_X7_reader (n := 16) 0 rfl ok dX7_text_13 rfl ?_
    refine g_callVNi (n := 19) (As := []) (rest := []) (c := 15) ok (c_X1_readTape l v  S _ h) cal_X1_readTape tw_244 tw_246 tp_1 (lt5 rfl) (sh5 rfl _) rfl (by decide) (by decide) rfl (Nat.le_of_ble_eq_true rfl) dX7_text_16 rfl rfl (fun r1 S1 h => ?_)
    refine g_istore_n [(1, .int r1), (0, .ref (v.1 0))] (n := 20) ok dX7_text_19 rfl (by decide) rfl ?_
    refine g_iload_n 0 (n := 21) ok dX7_text_20 rfl rfl ?_
    refine g_iconst (v := -1) (n := 22) ok dX7_text_21 rfl (by decide) ?_
    refine g_icmp_eq (t := 30) (n := 25) ok dX7_text_22 (by decide) rfl (fun e4 => ?_) (fun e4 => ?_)
    · replace h := h.1 e4
      refine g_aload_n 1 (n := 31) ok dX7_text_30 rfl rfl ?_
      refine fg_X7_X7_rules (n := 34) 0 rfl ok dX7_text_31 rfl ?_
      refine g_aload_n 1 (n := 35) ok dX7_text_34 rfl rfl ?_
      refine fg_X7_X7_ruleCount (n := 38) 0 rfl ok dX7_text_35 rfl ?_
      obtain ⟨h38, h⟩ := h
      refine g_aald (c := 20) (t0 := 2) (a := v.1 (20 + 1 + 3 * (S1 0 5).toNatClampNeg)) (n := 39) ok (lt9 rfl) (sh9 rfl _) rfl h38 rfl dX7_text_38 rfl ?_
      refine g_aload_n 1 (n := 40) ok dX7_text_39 rfl rfl ?_
      refine fg_X7_X7_reader (n := 43) 0 rfl ok dX7_text_40 rfl ?_
      refine fg_X7_X1_rule (n := 46) 15 rfl ok dX7_text_43 rfl ?_
      refine g_callVNv (n := 49) (As := [.ref (v.1 17)]) (rest := []) (c := (20 + 1 + 3 * (S1 0 5).toNatClampNeg)) ok (c_X2_becomeLike l v (20 + 1 + 3 * (S1 0 5).toNatClampNeg) (kdE9 rfl h38) 17 rfl S1 _ h) cal_X2_becomeLike tw_336 tw_338 tp_17 (lt7 (kdE9 rfl h38)) (sh7 (kdE9 rfl h38) _) rfl (by decide) (by decide) rfl (Nat.le_of_ble_eq_true rfl) dX7_text_46 rfl rfl (fun S2 h => ?_)
      refine g_aload_n 1 (n := 50) ok dX7_text_49 rfl rfl ?_
      refine g_dup (n := 51) ok dX7_text_50 rfl rfl ?_
      refine fg_X7_X7_ruleCount (n := 54) 0 rfl ok dX7_text_51 rfl ?_
      refine g_iconst (v := 1) (n := 55) ok dX7_text_54 rfl (by decide) ?_
      refine g_iadd (n := 56) ok dX7_text_55 rfl ?_
      refine fp_X7_X7_ruleCount (n := 59) 0 rfl ok dX7_text_56 rfl ?_
      refine g_mem (fun S3 eS3 => ?_)
      replace h := h S3 eS3
      refine g_aload_n 1 (n := 60) ok dX7_text_59 rfl rfl ?_
      refine fg_X7_X7_ruleCount (n := 63) 0 rfl ok dX7_text_60 rfl ?_
      refine g_iconst (v := 1) (n := 64) ok dX7_text_63 rfl (by decide) ?_
      refine g_isub (n := 65) ok dX7_text_64 rfl ?_
      exact g_iret ok he h dX7_text_65
    · replace h := h.2 e4
      refine g_bipush (v := -100) (n := 27) ok dX7_text_25 rfl (by decide) ?_
      refine g_iload_n 0 (n := 28) ok dX7_text_27 rfl rfl ?_
      refine g_isub (n := 29) ok dX7_text_28 rfl ?_
      exact g_iret ok he h dX7_text_29
  · replace h := h.2 e5
    refine g_bipush (v := -4) (n := 11) ok dX7_text_9 rfl (by decide) ?_
    exact g_iret ok he h dX7_text_11
def w_X7_force (p1 : Int32) (S : Mem) (post : Int32 → Mem → Prop) : Prop := w_X7_within p1 (0 : Int32) ((S 0 5) - (1 : Int32)) S (fun r1 S1 => ((¬ r1 = 0 → (∀ z2 : Int32, z2 = S1 1 6 → (∀ S3 : Mem, S3 = mset S1 1 (upd (S1 1) 6 p1) → post z2 S3))) ∧ (r1 = 0 → post (-2 : Int32) S1)))
set_option maxHeartbeats 4000000 in
set_option maxRecDepth 20000 in
theorem c_X7_force (l : Launch) (v : VxT) (p1 : Int32) (S : Mem) (post : Int32 → Mem → Prop) (h : w_X7_force p1 S post) : MI l yX7_force cX7_force 3 (some .int) 2 (oX v) [.ref (v.1 0), .int p1] S post := by
  refine met_start (by decide +kernel) (Nat.le_of_ble_eq_true rfl) (fun g ok he => ?_)
  refine g_eq (L' := [(0, .ref (v.1 0)), (1, .int p1)]) (st' := []) ?_ rfl rfl
  unfold w_X7_force at h
  refine g_iload_n 1 (n := 1) ok dX7_force_0 rfl rfl ?_
  refine g_iconst (v := 0) (n := 2) ok dX7_force_1 rfl (by decide) ?_
  refine g_aload_n 0 (n := 3) ok dX7_force_2 rfl rfl ?_
  refine fg_X7_X7_ruleCount (n := 6) 0 rfl ok dX7_force_3 rfl ?_
  refine g_iconst (v := 1) (n := 7) ok dX7_force_6 rfl (by decide) ?_
  refine g_isub (n := 8) ok dX7_force_7 rfl ?_
  refine g_callSi (n := 11) (As := [.int p1, .int (0 : Int32), .int ((S 0 5) - (1 : Int32))]) (rest := []) ok (c_X7_within l v p1 (0 : Int32) ((S 0 5) - (1 : Int32)) S _ h) cal_X7_within tw_373 tw_253 (by decide) (by decide) rfl (Nat.le_of_ble_eq_true rfl) dX7_force_8 rfl rfl (fun r1 S1 h => ?_)
  refine g_if_ne (t := 17) (n := 14) ok dX7_force_11 (by decide) rfl (fun e4 => ?_) (fun e4 => ?_)
  · replace h := h.1 e4
    refine g_aload_n 0 (n := 18) ok dX7_force_17 rfl rfl ?_
    refine fg_X7_X7_table (n := 21) 0 rfl ok dX7_force_18 rfl ?_
    refine fg_X7_X5_rule (n := 24) 1 rfl ok dX7_force_21 rfl ?_
    refine g_topi (fun z2 ez2 => ?_)
    replace h := h z2 ez2
    refine g_istore_n [(2, .int z2), (0, .ref (v.1 0)), (1, .int p1)] (n := 25) ok dX7_force_24 rfl (by decide) rfl ?_
    refine g_aload_n 1 (n := 26) ok dX7_force_25 rfl rfl ?_
    refine fg_X7_X7_table (n := 29) 0 rfl ok dX7_force_26 rfl ?_
    refine g_iload_n 2 (n := 30) ok dX7_force_29 rfl rfl ?_
    refine fp_X7_X5_rule (n := 33) 1 rfl ok dX7_force_30 rfl ?_
    refine g_mem (fun S3 eS3 => ?_)
    replace h := h S3 eS3
    refine g_iload_n 0 (n := 34) ok dX7_force_33 rfl rfl ?_
    exact g_iret ok he h dX7_force_34
  · replace h := h.2 e4
    refine g_bipush (v := -2) (n := 16) ok dX7_force_14 rfl (by decide) ?_
    exact g_iret ok he h dX7_force_16
def w_X7_ruleInForce (S : Mem) (post : Nat → Mem → Prop) : Prop := (vp_in (S 1 6) 6 ∧ post (20 + 1 + 3 * (S 1 6).toNatClampNeg) S)
set_option maxHeartbeats 4000000 in
set_option maxRecDepth 20000 in
theorem c_X7_ruleInForce (l : Launch) (v : VxT) (S : Mem) (post : Nat → Mem → Prop) (h : w_X7_ruleInForce  S post) : MR l yX7_ruleInForce cX7_ruleInForce 1 (some (.object "TableRocks$Rule")) 1 (oX v) [.ref (v.1 0)] S post := by
  refine met_start (by decide +kernel) (Nat.le_of_ble_eq_true rfl) (fun g ok he => ?_)
  refine g_eq (L' := [(0, .ref (v.1 0))]) (st' := []) ?_ rfl rfl
  unfold w_X7_ruleInForce at h
  refine g_aload_n 0 (n := 1) ok dX7_ruleInForce_0 rfl rfl ?_
  refine fg_X7_X7_rules (n := 4) 0 rfl ok dX7_ruleInForce_1 rfl ?_
  refine g_aload_n 0 (n := 5) ok dX7_ruleInForce_4 rfl rfl ?_
  refine fg_X7_X7_table (n := 8) 0 rfl ok dX7_ruleInForce_5 rfl ?_
  refine fg_X7_X5_rule (n := 11) 1 rfl ok dX7_ruleInForce_8 rfl ?_
  obtain ⟨h11, h⟩ := h
  refine g_aald (c := 20) (t0 := 2) (a := v.1 (20 + 1 + 3 * (S 1 6).toNatClampNeg)) (n := 12) ok (lt9 rfl) (sh9 rfl _) rfl h11 rfl dX7_ruleInForce_11 rfl ?_
  exact g_aret ok he h dX7_ruleInForce_12
def w_X7_measure (p1 : Int32) (p2 : Int32) (S : Mem) (post : Mem → Prop) : Prop := w_X7_ruleInForce  S (fun r1 S1 => (kdX r1 = 7 ∧ w_X4_measure 1 r1 p1 p2 S1 (fun S2 => post S2)))
set_option maxHeartbeats 4000000 in
set_option maxRecDepth 20000 in
theorem c_X7_measure (l : Launch) (v : VxT) (p1 : Int32) (p2 : Int32) (S : Mem) (post : Mem → Prop) (h : w_X7_measure p1 p2 S post) : MV l yX7_measure cX7_measure 3 none 6 (oX v) [.ref (v.1 0), .int p1, .int p2] S post := by
  refine met_start (by decide +kernel) (Nat.le_of_ble_eq_true rfl) (fun g ok he => ?_)
  refine g_eq (L' := [(0, .ref (v.1 0)), (1, .int p1), (2, .int p2)]) (st' := []) ?_ rfl rfl
  unfold w_X7_measure at h
  refine g_aload_n 0 (n := 1) ok dX7_measure_0 rfl rfl ?_
  refine fg_X7_X7_stand (n := 4) 0 rfl ok dX7_measure_1 rfl ?_
  refine g_aload_n 0 (n := 5) ok dX7_measure_4 rfl rfl ?_
  refine fg_X7_X7_table (n := 8) 0 rfl ok dX7_measure_5 rfl ?_
  refine g_aload_n 0 (n := 9) ok dX7_measure_8 rfl rfl ?_
  refine g_callVr (n := 12) (As := []) (rest := [.ref (v.1 1), .ref (v.1 39)]) (c := 0) ok (c_X7_ruleInForce l v  S _ h) cal_X7_ruleInForce tw_464 tw_466 tp_27 (lt0 rfl) (sh0 rfl _) rfl (by decide) (by decide) rfl (Nat.le_of_ble_eq_true rfl) dX7_measure_9 rfl rfl (fun r1 S1 h => ?_)
  obtain ⟨hqr1, h⟩ := h
  refine g_iload_n 1 (n := 13) ok dX7_measure_12 rfl rfl ?_
  refine g_iload_n 2 (n := 14) ok dX7_measure_13 rfl rfl ?_
  refine g_callVNv (n := 17) (As := [.ref (v.1 1), .ref (v.1 r1), .int p1, .int p2]) (rest := []) (c := 39) ok (c_X4_measure l v 1 rfl r1 hqr1 p1 p2 S1 _ h) cal_X4_measure tw_468 tw_470 tp_28 (lt10 rfl) (sh10 rfl _) rfl (by decide) (by decide) rfl (Nat.le_of_ble_eq_true rfl) dX7_measure_14 rfl rfl (fun S2 h => ?_)
  exact g_vret ok he h dX7_measure_17
def w_X7_standing (p1 : Int32) (p2 : Int32) (p3 : Int32) (S : Mem) (post : Int32 → Mem → Prop) : Prop := w_X7_within p3 (0 : Int32) (5 : Int32) S (fun r1 S1 => ((¬ r1 = 0 → w_X7_measure p1 p2 S1 (fun S2 => ((p3 = 0 → post (S2 39 3) S2) ∧ (¬ p3 = 0 → ((p3 = 1 → post (S2 39 5) S2) ∧ (¬ p3 = 1 → ((p3 = 2 → post (S2 39 6) S2) ∧ (¬ p3 = 2 → ((p3 = 3 → w_X4_looseBits  S2 (fun r7 S7 => post r7 S7)) ∧ (¬ p3 = 3 → ((p3 = 4 → w_X7_ruleInForce  S2 (fun r9 S9 => (kdX r9 = 7 ∧ w_X4_worth r9 S9 (fun r10 S10 => post r10 S10)))) ∧ (¬ p3 = 4 → w_X7_ruleInForce  S2 (fun r11 S11 => (kdX r11 = 7 ∧ w_X4_spills r11 S11 (fun r12 S12 => post r12 S12))))))))))))))) ∧ (r1 = 0 → post (-100000 : Int32) S1)))
set_option maxHeartbeats 4000000 in
set_option maxRecDepth 20000 in
theorem c_X7_standing (l : Launch) (v : VxT) (p1 : Int32) (p2 : Int32) (p3 : Int32) (S : Mem) (post : Int32 → Mem → Prop) (h : w_X7_standing p1 p2 p3 S post) : MI l yX7_standing cX7_standing 4 (some .int) 7 (oX v) [.ref (v.1 0), .int p1, .int p2, .int p3] S post := by
  refine met_start (by decide +kernel) (Nat.le_of_ble_eq_true rfl) (fun g ok he => ?_)
  refine g_eq (L' := [(0, .ref (v.1 0)), (1, .int p1), (2, .int p2), (3, .int p3)]) (st' := []) ?_ rfl rfl
  unfold w_X7_standing at h
  refine g_iload_n 3 (n := 1) ok dX7_standing_0 rfl rfl ?_
  refine g_iconst (v := 0) (n := 2) ok dX7_standing_1 rfl (by decide) ?_
  refine g_iconst (v := 5) (n := 3) ok dX7_standing_2 rfl (by decide) ?_
  refine g_callSi (n := 6) (As := [.int p3, .int (0 : Int32), .int (5 : Int32)]) (rest := []) ok (c_X7_within l v p3 (0 : Int32) (5 : Int32) S _ h) cal_X7_within tw_373 tw_253 (by decide) (by decide) rfl (Nat.le_of_ble_eq_true rfl) dX7_standing_3 rfl rfl (fun r1 S1 h => ?_)
  refine g_if_ne (t := 12) (n := 9) ok dX7_standing_6 (by decide) rfl (fun e13 => ?_) (fun e13 => ?_)
  · replace h := h.1 e13
    refine g_aload_n 0 (n := 13) ok dX7_standing_12 rfl rfl ?_
    refine g_iload_n 1 (n := 14) ok dX7_standing_13 rfl rfl ?_
    refine g_iload_n 2 (n := 15) ok dX7_standing_14 rfl rfl ?_
    refine g_callVv (n := 18) (As := [.int p1, .int p2]) (rest := []) (c := 0) ok (c_X7_measure l v p1 p2 S1 _ h) cal_X7_measure tw_460 tw_462 tp_26 (lt0 rfl) (sh0 rfl _) rfl (by decide) (by decide) rfl (Nat.le_of_ble_eq_true rfl) dX7_standing_15 rfl rfl (fun S2 h => ?_)
    refine g_iload_n 3 (n := 19) ok dX7_standing_18 rfl rfl ?_
    by_cases e3 : p3 = 0
    · replace h := h.1 e3
      refine g_tsIn (off := 33) (t := 52) ok dX7_standing_19 (by rw [e3]; decide) (by rw [e3]; decide) (by rw [e3]; rfl) (by decide) ?_
      refine g_aload_n 0 (n := 53) ok dX7_standing_52 rfl rfl ?_
      refine fg_X7_X7_stand (n := 56) 0 rfl ok dX7_standing_53 rfl ?_
      refine fg_X7_X4_gap (n := 59) 39 rfl ok dX7_standing_56 rfl ?_
      exact g_iret ok he h dX7_standing_59
    · replace h := h.2 e3
      by_cases e4 : p3 = 1
      · replace h := h.1 e4
        refine g_tsIn (off := 41) (t := 60) ok dX7_standing_19 (by rw [e4]; decide) (by rw [e4]; decide) (by rw [e4]; rfl) (by decide) ?_
        refine g_aload_n 0 (n := 61) ok dX7_standing_60 rfl rfl ?_
        refine fg_X7_X7_stand (n := 64) 0 rfl ok dX7_standing_61 rfl ?_
        refine fg_X7_X4_rock (n := 67) 39 rfl ok dX7_standing_64 rfl ?_
        exact g_iret ok he h dX7_standing_67
      · replace h := h.2 e4
        by_cases e5 : p3 = 2
        · replace h := h.1 e5
          refine g_tsIn (off := 49) (t := 68) ok dX7_standing_19 (by rw [e5]; decide) (by rw [e5]; decide) (by rw [e5]; rfl) (by decide) ?_
          refine g_aload_n 0 (n := 69) ok dX7_standing_68 rfl rfl ?_
          refine fg_X7_X7_stand (n := 72) 0 rfl ok dX7_standing_69 rfl ?_
          refine fg_X7_X4_lean (n := 75) 39 rfl ok dX7_standing_72 rfl ?_
          exact g_iret ok he h dX7_standing_75
        · replace h := h.2 e5
          by_cases e6 : p3 = 3
          · replace h := h.1 e6
            refine g_tsIn (off := 57) (t := 76) ok dX7_standing_19 (by rw [e6]; decide) (by rw [e6]; decide) (by rw [e6]; rfl) (by decide) ?_
            refine g_aload_n 0 (n := 77) ok dX7_standing_76 rfl rfl ?_
            refine fg_X7_X7_stand (n := 80) 0 rfl ok dX7_standing_77 rfl ?_
            refine g_callVNi (n := 83) (As := []) (rest := []) (c := 39) ok (c_X4_looseBits l v  S2 _ h) cal_X4_looseBits tw_528 tw_530 tp_38 (lt10 rfl) (sh10 rfl _) rfl (by decide) (by decide) rfl (Nat.le_of_ble_eq_true rfl) dX7_standing_80 rfl rfl (fun r7 S7 h => ?_)
            exact g_iret ok he h dX7_standing_83
          · replace h := h.2 e6
            by_cases e8 : p3 = 4
            · replace h := h.1 e8
              refine g_tsIn (off := 65) (t := 84) ok dX7_standing_19 (by rw [e8]; decide) (by rw [e8]; decide) (by rw [e8]; rfl) (by decide) ?_
              refine g_aload_n 0 (n := 85) ok dX7_standing_84 rfl rfl ?_
              refine fg_X7_X7_stand (n := 88) 0 rfl ok dX7_standing_85 rfl ?_
              refine g_aload_n 0 (n := 89) ok dX7_standing_88 rfl rfl ?_
              refine g_callVr (n := 92) (As := []) (rest := [.ref (v.1 39)]) (c := 0) ok (c_X7_ruleInForce l v  S2 _ h) cal_X7_ruleInForce tw_464 tw_466 tp_27 (lt0 rfl) (sh0 rfl _) rfl (by decide) (by decide) rfl (Nat.le_of_ble_eq_true rfl) dX7_standing_89 rfl rfl (fun r9 S9 h => ?_)
              obtain ⟨hqr9, h⟩ := h
              refine g_callVNi (n := 95) (As := [.ref (v.1 r9)]) (rest := []) (c := 39) ok (c_X4_worth l v r9 hqr9 S9 _ h) cal_X4_worth tw_532 tw_534 tp_39 (lt10 rfl) (sh10 rfl _) rfl (by decide) (by decide) rfl (Nat.le_of_ble_eq_true rfl) dX7_standing_92 rfl rfl (fun r10 S10 h => ?_)
              exact g_iret ok he h dX7_standing_95
            · replace h := h.2 e8
              refine g_tsOut (t := 96) ok dX7_standing_19 (by have q0 := lv_neT (a := 0) e3 rfl; have q1 := lv_neT (a := 1) e4 rfl; have q2 := lv_neT (a := 2) e5 rfl; have q3 := lv_neT (a := 3) e6 rfl; have q4 := lv_neT (a := 4) e8 rfl; omega) (by decide) ?_
              refine g_aload_n 0 (n := 97) ok dX7_standing_96 rfl rfl ?_
              refine fg_X7_X7_stand (n := 100) 0 rfl ok dX7_standing_97 rfl ?_
              refine g_aload_n 0 (n := 101) ok dX7_standing_100 rfl rfl ?_
              refine g_callVr (n := 104) (As := []) (rest := [.ref (v.1 39)]) (c := 0) ok (c_X7_ruleInForce l v  S2 _ h) cal_X7_ruleInForce tw_464 tw_466 tp_27 (lt0 rfl) (sh0 rfl _) rfl (by decide) (by decide) rfl (Nat.le_of_ble_eq_true rfl) dX7_standing_101 rfl rfl (fun r11 S11 h => ?_)
              obtain ⟨hqr11, h⟩ := h
              refine g_callVNi (n := 107) (As := [.ref (v.1 r11)]) (rest := []) (c := 39) ok (c_X4_spills l v r11 hqr11 S11 _ h) cal_X4_spills tw_536 tw_538 tp_40 (lt10 rfl) (sh10 rfl _) rfl (by decide) (by decide) rfl (Nat.le_of_ble_eq_true rfl) dX7_standing_104 rfl rfl (fun r12 S12 h => ?_)
              exact g_iret ok he h dX7_standing_107
  · replace h := h.2 e13
    refine g_ldc (v := -100000) (n := 11) ok dX7_standing_9 rfl tw_459 ?_
    exact g_iret ok he h dX7_standing_11
def w_X7_stands (p1 : Int32) (S : Mem) (post : Int32 → Mem → Prop) : Prop := w_X7_standing (S 1 2) (S 1 4) p1 S (fun r1 S1 => post r1 S1)
set_option maxHeartbeats 4000000 in
set_option maxRecDepth 20000 in
theorem c_X7_stands (l : Launch) (v : VxT) (p1 : Int32) (S : Mem) (post : Int32 → Mem → Prop) (h : w_X7_stands p1 S post) : MI l yX7_stands cX7_stands 2 (some .int) 8 (oX v) [.ref (v.1 0), .int p1] S post := by
  refine met_start (by decide +kernel) (Nat.le_of_ble_eq_true rfl) (fun g ok he => ?_)
  refine g_eq (L' := [(0, .ref (v.1 0)), (1, .int p1)]) (st' := []) ?_ rfl rfl
  unfold w_X7_stands at h
  refine g_aload_n 0 (n := 1) ok dX7_stands_0 rfl rfl ?_
  refine g_aload_n 0 (n := 2) ok dX7_stands_1 rfl rfl ?_
  refine fg_X7_X7_table (n := 5) 0 rfl ok dX7_stands_2 rfl ?_
  refine fg_X7_X5_place (n := 8) 1 rfl ok dX7_stands_5 rfl ?_
  refine g_aload_n 0 (n := 9) ok dX7_stands_8 rfl rfl ?_
  refine fg_X7_X7_table (n := 12) 0 rfl ok dX7_stands_9 rfl ?_
  refine fg_X7_X5_turn (n := 15) 1 rfl ok dX7_stands_12 rfl ?_
  refine g_iload_n 1 (n := 16) ok dX7_stands_15 rfl rfl ?_
  refine g_callVi (n := 19) (As := [.int (S 1 2), .int (S 1 4), .int p1]) (rest := []) (c := 0) ok (c_X7_standing l v (S 1 2) (S 1 4) p1 S _ h) cal_X7_standing tw_455 tw_457 tp_25 (lt0 rfl) (sh0 rfl _) rfl (by decide) (by decide) rfl (Nat.le_of_ble_eq_true rfl) dX7_stands_16 rfl rfl (fun r1 S1 h => ?_)
  exact g_iret ok he h dX7_stands_19
def w_X7_standsAt_20 (post : Int32 → Mem → Prop) (S : Mem) : Prop := post (-100000 : Int32) S
set_option maxHeartbeats 4000000 in
set_option maxRecDepth 20000 in
theorem b_X7_standsAt_20 {v : VxT} {l : Launch} {g : CxT} (ok : Ok l g (oX v) 4 cX7_standsAt RX7 (some .int)) {post : Int32 → Mem → Prop} (he : EndQ g (oX v) (va_Qi post (fun S1 t => BX (oX v) S1 t) (AX (oX v)))) (S : Mem) (h : w_X7_standsAt_20 post  S) : G g (oX v) 8 4 20 [] [] S := by
  unfold w_X7_standsAt_20 at h
  refine g_ldc (v := -100000) (n := 22) ok dX7_standsAt_20 rfl tw_459 ?_
  exact g_iret ok he h dX7_standsAt_22
def w_X7_standsAt (p1 : Int32) (p2 : Int32) (p3 : Int32) (S : Mem) (post : Int32 → Mem → Prop) : Prop := w_X7_within p1 (0 : Int32) (63 : Int32) S (fun r1 S1 => ((r1 = 0 → w_X7_standsAt_20 post  S1) ∧ (¬ r1 = 0 → w_X7_within p2 (0 : Int32) (7 : Int32) S1 (fun r2 S2 => ((¬ r2 = 0 → w_X7_standing p1 p2 p3 S2 (fun r3 S3 => post r3 S3)) ∧ (r2 = 0 → w_X7_standsAt_20 post  S2))))))
set_option maxHeartbeats 4000000 in
set_option maxRecDepth 20000 in
theorem c_X7_standsAt (l : Launch) (v : VxT) (p1 : Int32) (p2 : Int32) (p3 : Int32) (S : Mem) (post : Int32 → Mem → Prop) (h : w_X7_standsAt p1 p2 p3 S post) : MI l yX7_standsAt cX7_standsAt 4 (some .int) 8 (oX v) [.ref (v.1 0), .int p1, .int p2, .int p3] S post := by
  refine met_start (by decide +kernel) (Nat.le_of_ble_eq_true rfl) (fun g ok he => ?_)
  refine g_eq (L' := [(0, .ref (v.1 0)), (1, .int p1), (2, .int p2), (3, .int p3)]) (st' := []) ?_ rfl rfl
  unfold w_X7_standsAt at h
  refine g_iload_n 1 (n := 1) ok dX7_standsAt_0 rfl rfl ?_
  refine g_iconst (v := 0) (n := 2) ok dX7_standsAt_1 rfl (by decide) ?_
  refine g_bipush (v := 63) (n := 4) ok dX7_standsAt_2 rfl (by decide) ?_
  refine g_callSi (n := 7) (As := [.int p1, .int (0 : Int32), .int (63 : Int32)]) (rest := []) ok (c_X7_within l v p1 (0 : Int32) (63 : Int32) S _ h) cal_X7_within tw_373 tw_253 (by decide) (by decide) rfl (Nat.le_of_ble_eq_true rfl) dX7_standsAt_4 rfl rfl (fun r1 S1 h => ?_)
  refine g_if_eq (t := 20) (n := 10) ok dX7_standsAt_7 (by decide) rfl (fun e5 => ?_) (fun e5 => ?_)
  · replace h := h.1 e5
    exact g_sub [] rfl (b_X7_standsAt_20 ok he  S1 h)
  · replace h := h.2 e5
    refine g_iload_n 2 (n := 11) ok dX7_standsAt_10 rfl rfl ?_
    refine g_iconst (v := 0) (n := 12) ok dX7_standsAt_11 rfl (by decide) ?_
    refine g_bipush (v := 7) (n := 14) ok dX7_standsAt_12 rfl (by decide) ?_
    refine g_callSi (n := 17) (As := [.int p2, .int (0 : Int32), .int (7 : Int32)]) (rest := []) ok (c_X7_within l v p2 (0 : Int32) (7 : Int32) S1 _ h) cal_X7_within tw_373 tw_253 (by decide) (by decide) rfl (Nat.le_of_ble_eq_true rfl) dX7_standsAt_14 rfl rfl (fun r2 S2 h => ?_)
    refine g_if_ne (t := 23) (n := 20) ok dX7_standsAt_17 (by decide) rfl (fun e4 => ?_) (fun e4 => ?_)
    · replace h := h.1 e4
      refine g_aload_n 0 (n := 24) ok dX7_standsAt_23 rfl rfl ?_
      refine g_iload_n 1 (n := 25) ok dX7_standsAt_24 rfl rfl ?_
      refine g_iload_n 2 (n := 26) ok dX7_standsAt_25 rfl rfl ?_
      refine g_iload_n 3 (n := 27) ok dX7_standsAt_26 rfl rfl ?_
      refine g_callVi (n := 30) (As := [.int p1, .int p2, .int p3]) (rest := []) (c := 0) ok (c_X7_standing l v p1 p2 p3 S2 _ h) cal_X7_standing tw_455 tw_457 tp_25 (lt0 rfl) (sh0 rfl _) rfl (by decide) (by decide) rfl (Nat.le_of_ble_eq_true rfl) dX7_standsAt_27 rfl rfl (fun r3 S3 h => ?_)
      exact g_iret ok he h dX7_standsAt_30
    · replace h := h.2 e4
      exact g_sub [] rfl (b_X7_standsAt_20 ok he  S2 h)
def w_X7_isFirmAt (p1 : Int32) (p2 : Int32) (S : Mem) (post : Int32 → Mem → Prop) : Prop := w_X7_measure p1 p2 S (fun S1 => w_X4_isFirm  S1 (fun r2 S2 => (r2 = 0 ∨ r2 = 1) ∧ post r2 S2))
set_option maxHeartbeats 4000000 in
set_option maxRecDepth 20000 in
theorem c_X7_isFirmAt (l : Launch) (v : VxT) (p1 : Int32) (p2 : Int32) (S : Mem) (post : Int32 → Mem → Prop) (h : w_X7_isFirmAt p1 p2 S post) : MI l yX7_isFirmAt cX7_isFirmAt 3 (some .boolean) 7 (oX v) [.ref (v.1 0), .int p1, .int p2] S post := by
  refine met_start (by decide +kernel) (Nat.le_of_ble_eq_true rfl) (fun g ok he => ?_)
  refine g_eq (L' := [(0, .ref (v.1 0)), (1, .int p1), (2, .int p2)]) (st' := []) ?_ rfl rfl
  unfold w_X7_isFirmAt at h
  refine g_aload_n 0 (n := 1) ok dX7_isFirmAt_0 rfl rfl ?_
  refine g_iload_n 1 (n := 2) ok dX7_isFirmAt_1 rfl rfl ?_
  refine g_iload_n 2 (n := 3) ok dX7_isFirmAt_2 rfl rfl ?_
  refine g_callVv (n := 6) (As := [.int p1, .int p2]) (rest := []) (c := 0) ok (c_X7_measure l v p1 p2 S _ h) cal_X7_measure tw_460 tw_462 tp_26 (lt0 rfl) (sh0 rfl _) rfl (by decide) (by decide) rfl (Nat.le_of_ble_eq_true rfl) dX7_isFirmAt_3 rfl rfl (fun S1 h => ?_)
  refine g_aload_n 0 (n := 7) ok dX7_isFirmAt_6 rfl rfl ?_
  refine fg_X7_X7_stand (n := 10) 0 rfl ok dX7_isFirmAt_7 rfl ?_
  refine g_callVNi (n := 13) (As := []) (rest := []) (c := 39) ok (c_X4_isFirm l v  S1 _ h) cal_X4_isFirm tw_552 tw_554 tp_42 (lt10 rfl) (sh10 rfl _) rfl (by decide) (by decide) rfl (Nat.le_of_ble_eq_true rfl) dX7_isFirmAt_10 rfl rfl (fun r2 S2 h => ?_)
  exact g_zret ok he h.1 h.2 dX7_isFirmAt_13
def w_X7_firm_31 (K4 : Int32 → Int32 → Mem → Prop) (post : Int32 → Mem → Prop) (x1 : Int32) (x2 : Int32) (S : Mem) : Prop := (∀ z1 : Int32, z1 = x2 + 1 → K4 x1 z1 S)
set_option maxHeartbeats 4000000 in
set_option maxRecDepth 20000 in
theorem b_X7_firm_31 {v : VxT} {l : Launch} {g : CxT} {K4 : Int32 → Int32 → Mem → Prop} (ok : Ok l g (oX v) 3 cX7_firm RX7 (some .int)) (hK4 : ∀ (x1 : Int32) (x2 : Int32) (S : Mem), K4 x1 x2 S → G g (oX v) 8 3 4 [(0, .ref (v.1 0)), (1, .int x1), (2, .int x2)] [] S) {post : Int32 → Mem → Prop} (he : EndQ g (oX v) (va_Qi post (fun S1 t => BX (oX v) S1 t) (AX (oX v)))) (x1 : Int32) (x2 : Int32) (S : Mem) (h : w_X7_firm_31 K4 post x1 x2 S) : G g (oX v) 8 3 31 [(0, .ref (v.1 0)), (1, .int x1), (2, .int x2)] [] S := by
  unfold w_X7_firm_31 at h
  obtain ⟨z1, ez1⟩ : ∃ y : Int32, y = x2 + 1 := ⟨_, rfl⟩
  replace h := h z1 ez1
  refine g_iinc 2 [(2, .int z1), (0, .ref (v.1 0)), (1, .int x1)] (v := z1) (n := 34) ok dX7_firm_31 rfl rfl (by rw [ez1]; rfl) (by decide) rfl ?_
  refine g_goto (t := 4) ok dX7_firm_34 (by decide) ?_
  exact g_sub [1, 2, 0] rfl (hK4 x1 z1 S h)
def w_X7_firm_4 (post : Int32 → Mem → Prop) : Nat → Int32 → Int32 → Mem → Prop
  | 0, _, _, _ => False
  | n + 1, x1, x2, S => (((8 : Int32) ≤ x2 → post x1 S) ∧ (¬ (8 : Int32) ≤ x2 → w_X7_isFirmAt (S 1 2) x2 S (fun r1 S1 => ((r1 = 0 → w_X7_firm_31 (w_X7_firm_4 post n) post x1 x2 S1) ∧ (¬ r1 = 0 → (∀ z2 : Int32, z2 = x1 ||| ((1 : Int32) <<< (x2 &&& 31)) → w_X7_firm_31 (w_X7_firm_4 post n) post z2 x2 S1))))))
set_option maxHeartbeats 4000000 in
set_option maxRecDepth 20000 in
theorem b_X7_firm_4 {v : VxT} {l : Launch} {g : CxT} (ok : Ok l g (oX v) 3 cX7_firm RX7 (some .int)) {post : Int32 → Mem → Prop} (he : EndQ g (oX v) (va_Qi post (fun S1 t => BX (oX v) S1 t) (AX (oX v)))) : ∀ (n : Nat) (x1 : Int32) (x2 : Int32) (S : Mem), w_X7_firm_4 post n x1 x2 S → G g (oX v) 8 3 4 [(0, .ref (v.1 0)), (1, .int x1), (2, .int x2)] [] S := by
  intro n
  induction n with
  | zero =>
    intro x1 x2 S h
    exact h.elim
  | succ n ih =>
    intro x1 x2 S h
    rw [w_X7_firm_4] at h
    refine g_iload_n 2 (n := 5) ok dX7_firm_4 rfl rfl ?_
    refine g_bipush (v := 8) (n := 7) ok dX7_firm_5 rfl (by decide) ?_
    refine g_icmp_ge (t := 37) (n := 10) ok dX7_firm_7 (by decide) rfl (fun e4 => ?_) (fun e4 => ?_)
    · replace h := h.1 e4
      refine g_iload_n 1 (n := 38) ok dX7_firm_37 rfl rfl ?_
      exact g_iret ok he h dX7_firm_38
    · replace h := h.2 e4
      refine g_aload_n 0 (n := 11) ok dX7_firm_10 rfl rfl ?_
      refine g_aload_n 0 (n := 12) ok dX7_firm_11 rfl rfl ?_
      refine fg_X7_X7_table (n := 15) 0 rfl ok dX7_firm_12 rfl ?_
      refine fg_X7_X5_place (n := 18) 1 rfl ok dX7_firm_15 rfl ?_
      refine g_iload_n 2 (n := 19) ok dX7_firm_18 rfl rfl ?_
      refine g_callVi (n := 22) (As := [.int (S 1 2), .int x2]) (rest := []) (c := 0) ok (c_X7_isFirmAt l v (S 1 2) x2 S _ h) cal_X7_isFirmAt tw_548 tw_550 tp_41 (lt0 rfl) (sh0 rfl _) rfl (by decide) (by decide) rfl (Nat.le_of_ble_eq_true rfl) dX7_firm_19 rfl rfl (fun r1 S1 h => ?_)
      refine g_if_eq (t := 31) (n := 25) ok dX7_firm_22 (by decide) rfl (fun e3 => ?_) (fun e3 => ?_)
      · replace h := h.1 e3
        exact g_sub [0, 1, 2] rfl (b_X7_firm_31 ok ih he x1 x2 S1 h)
      · replace h := h.2 e3
        refine g_iload_n 1 (n := 26) ok dX7_firm_25 rfl rfl ?_
        refine g_iconst (v := 1) (n := 27) ok dX7_firm_26 rfl (by decide) ?_
        refine g_iload_n 2 (n := 28) ok dX7_firm_27 rfl rfl ?_
        refine g_ishl (n := 29) ok dX7_firm_28 rfl ?_
        refine g_ior (n := 30) ok dX7_firm_29 rfl ?_
        refine g_topi (fun z2 ez2 => ?_)
        replace h := h z2 ez2
        refine g_istore_n [(1, .int z2), (0, .ref (v.1 0)), (2, .int x2)] (n := 31) ok dX7_firm_30 rfl (by decide) rfl ?_
        exact g_sub [1, 0, 2] rfl (b_X7_firm_31 ok ih he z2 x2 S1 h)
def w_X7_firm (S : Mem) (post : Int32 → Mem → Prop) : Prop := ∃ n, w_X7_firm_4 post n (0 : Int32) (0 : Int32) S
set_option maxHeartbeats 4000000 in
set_option maxRecDepth 20000 in
theorem c_X7_firm (l : Launch) (v : VxT) (S : Mem) (post : Int32 → Mem → Prop) (h : w_X7_firm  S post) : MI l yX7_firm cX7_firm 3 (some .int) 8 (oX v) [.ref (v.1 0)] S post := by
  refine met_start (by decide +kernel) (Nat.le_of_ble_eq_true rfl) (fun g ok he => ?_)
  refine g_eq (L' := [(0, .ref (v.1 0))]) (st' := []) ?_ rfl rfl
  unfold w_X7_firm at h
  refine g_iconst (v := 0) (n := 1) ok dX7_firm_0 rfl (by decide) ?_
  refine g_istore_n [(1, .int (0 : Int32)), (0, .ref (v.1 0))] (n := 2) ok dX7_firm_1 rfl (by decide) rfl ?_
  refine g_iconst (v := 0) (n := 3) ok dX7_firm_2 rfl (by decide) ?_
  refine g_istore_n [(2, .int (0 : Int32)), (1, .int (0 : Int32)), (0, .ref (v.1 0))] (n := 4) ok dX7_firm_3 rfl (by decide) rfl ?_
  obtain ⟨n0, h⟩ := h
  exact g_sub [2, 1, 0] rfl (b_X7_firm_4 ok he n0 (0 : Int32) (0 : Int32) S h)
def w_X7_fewest_56 (post : Int32 → Mem → Prop) (y0 : Int32) (S : Mem) : Prop := post y0 S
set_option maxHeartbeats 4000000 in
set_option maxRecDepth 20000 in
theorem b_X7_fewest_56 {v : VxT} {l : Launch} {g : CxT} (ok : Ok l g (oX v) 5 cX7_fewest RX7 (some .int)) {post : Int32 → Mem → Prop} (he : EndQ g (oX v) (va_Qi post (fun S1 t => BX (oX v) S1 t) (AX (oX v)))) (y0 : Int32) (S : Mem) (h : w_X7_fewest_56 post y0 S) : G g (oX v) 8 5 56 [] [.int y0] S := by
  unfold w_X7_fewest_56 at h
  exact g_iret ok he h dX7_fewest_56
def w_X7_fewest_97 (post : Int32 → Mem → Prop) (y0 : Int32) (S : Mem) : Prop := post y0 S
set_option maxHeartbeats 4000000 in
set_option maxRecDepth 20000 in
theorem b_X7_fewest_97 {v : VxT} {l : Launch} {g : CxT} (ok : Ok l g (oX v) 5 cX7_fewest RX7 (some .int)) {post : Int32 → Mem → Prop} (he : EndQ g (oX v) (va_Qi post (fun S1 t => BX (oX v) S1 t) (AX (oX v)))) (y0 : Int32) (S : Mem) (h : w_X7_fewest_97 post y0 S) : G g (oX v) 8 5 97 [] [.int y0] S := by
  unfold w_X7_fewest_97 at h
  exact g_iret ok he h dX7_fewest_97
def w_X7_fewest_14 (post : Int32 → Mem → Prop) : Nat → Int32 → Int32 → Mem → Prop
  | 0, _, _, _ => False
  | n + 1, x1, x2, S => (((4 : Int32) < x2 → post (-1 : Int32) S) ∧ (¬ (4 : Int32) < x2 → w_X7_round ((S 1 4) + x2) S (fun r1 S1 => w_X7_isFirmAt (S1 1 2) r1 S1 (fun r2 S2 => ((r2 = 0 → w_X7_round ((S2 1 4) - x2) S2 (fun r3 S3 => w_X7_isFirmAt (S3 1 2) r3 S3 (fun r4 S4 => ((r4 = 0 → (∀ z5 : Int32, z5 = x2 + 1 → w_X7_fewest_14 post n x1 z5 S4)) ∧ (¬ r4 = 0 → ((¬ x1 = 0 → w_X7_fewest_97 post r3 S4) ∧ (x1 = 0 → w_X7_fewest_97 post x2 S4))))))) ∧ (¬ r2 = 0 → ((¬ x1 = 0 → w_X7_fewest_56 post r1 S2) ∧ (x1 = 0 → w_X7_fewest_56 post x2 S2))))))))
set_option maxHeartbeats 4000000 in
set_option maxRecDepth 20000 in
theorem b_X7_fewest_14 {v : VxT} {l : Launch} {g : CxT} (ok : Ok l g (oX v) 5 cX7_fewest RX7 (some .int)) {post : Int32 → Mem → Prop} (he : EndQ g (oX v) (va_Qi post (fun S1 t => BX (oX v) S1 t) (AX (oX v)))) : ∀ (n : Nat) (x1 : Int32) (x2 : Int32) (S : Mem), w_X7_fewest_14 post n x1 x2 S → G g (oX v) 8 5 14 [(0, .ref (v.1 0)), (1, .int x1), (2, .int x2)] [] S := by
  intro n
  induction n with
  | zero =>
    intro x1 x2 S h
    exact h.elim
  | succ n ih =>
    intro x1 x2 S h
    rw [w_X7_fewest_14] at h
    refine g_iload_n 2 (n := 15) ok dX7_fewest_14 rfl rfl ?_
    refine g_iconst (v := 4) (n := 16) ok dX7_fewest_15 rfl (by decide) ?_
    refine g_icmp_gt (t := 104) (n := 19) ok dX7_fewest_16 (by decide) rfl (fun e10 => ?_) (fun e10 => ?_)
    · replace h := h.1 e10
      refine g_iconst (v := -1) (n := 105) ok dX7_fewest_104 rfl (by decide) ?_
      exact g_iret ok he h dX7_fewest_105
    · replace h := h.2 e10
      refine g_aload_n 0 (n := 20) ok dX7_fewest_19 rfl rfl ?_
      refine fg_X7_X7_table (n := 23) 0 rfl ok dX7_fewest_20 rfl ?_
      refine fg_X7_X5_turn (n := 26) 1 rfl ok dX7_fewest_23 rfl ?_
      refine g_iload_n 2 (n := 27) ok dX7_fewest_26 rfl rfl ?_
      refine g_iadd (n := 28) ok dX7_fewest_27 rfl ?_
      refine g_callSi (n := 31) (As := [.int ((S 1 4) + x2)]) (rest := []) ok (c_X7_round l v ((S 1 4) + x2) S _ h) cal_X7_round tw_560 tw_424 (by decide) (by decide) rfl (Nat.le_of_ble_eq_true rfl) dX7_fewest_28 rfl rfl (fun r1 S1 h => ?_)
      refine g_istore_n [(3, .int r1), (0, .ref (v.1 0)), (1, .int x1), (2, .int x2)] (n := 32) ok dX7_fewest_31 rfl (by decide) rfl ?_
      refine g_aload_n 1 (n := 33) ok dX7_fewest_32 rfl rfl ?_
      refine g_aload_n 1 (n := 34) ok dX7_fewest_33 rfl rfl ?_
      refine fg_X7_X7_table (n := 37) 0 rfl ok dX7_fewest_34 rfl ?_
      refine fg_X7_X5_place (n := 40) 1 rfl ok dX7_fewest_37 rfl ?_
      refine g_iload_n 0 (n := 41) ok dX7_fewest_40 rfl rfl ?_
      refine g_callVi (n := 44) (As := [.int (S1 1 2), .int r1]) (rest := []) (c := 0) ok (c_X7_isFirmAt l v (S1 1 2) r1 S1 _ h) cal_X7_isFirmAt tw_548 tw_550 tp_41 (lt0 rfl) (sh0 rfl _) rfl (by decide) (by decide) rfl (Nat.le_of_ble_eq_true rfl) dX7_fewest_41 rfl rfl (fun r2 S2 h => ?_)
      refine g_if_eq (t := 57) (n := 47) ok dX7_fewest_44 (by decide) rfl (fun e9 => ?_) (fun e9 => ?_)
      · replace h := h.1 e9
        refine g_aload_n 1 (n := 58) ok dX7_fewest_57 rfl rfl ?_
        refine fg_X7_X7_table (n := 61) 0 rfl ok dX7_fewest_58 rfl ?_
        refine fg_X7_X5_turn (n := 64) 1 rfl ok dX7_fewest_61 rfl ?_
        refine g_iload_n 3 (n := 65) ok dX7_fewest_64 rfl rfl ?_
        refine g_isub (n := 66) ok dX7_fewest_65 rfl ?_
        refine g_callSi (n := 69) (As := [.int ((S2 1 4) - x2)]) (rest := []) ok (c_X7_round l v ((S2 1 4) - x2) S2 _ h) cal_X7_round tw_560 tw_424 (by decide) (by decide) rfl (Nat.le_of_ble_eq_true rfl) dX7_fewest_66 rfl rfl (fun r3 S3 h => ?_)
        refine g_istore [(4, .int r3), (3, .int r1), (0, .ref (v.1 0)), (1, .int x1), (2, .int x2)] (n := 71) ok dX7_fewest_69 rfl (by decide) rfl ?_
        refine g_aload_n 2 (n := 72) ok dX7_fewest_71 rfl rfl ?_
        refine g_aload_n 2 (n := 73) ok dX7_fewest_72 rfl rfl ?_
        refine fg_X7_X7_table (n := 76) 0 rfl ok dX7_fewest_73 rfl ?_
        refine fg_X7_X5_place (n := 79) 1 rfl ok dX7_fewest_76 rfl ?_
        refine g_iload 0 (n := 81) ok dX7_fewest_79 rfl rfl ?_
        refine g_callVi (n := 84) (As := [.int (S3 1 2), .int r3]) (rest := []) (c := 0) ok (c_X7_isFirmAt l v (S3 1 2) r3 S3 _ h) cal_X7_isFirmAt tw_548 tw_550 tp_41 (lt0 rfl) (sh0 rfl _) rfl (by decide) (by decide) rfl (Nat.le_of_ble_eq_true rfl) dX7_fewest_81 rfl rfl (fun r4 S4 h => ?_)
        refine g_if_eq (t := 98) (n := 87) ok dX7_fewest_84 (by decide) rfl (fun e7 => ?_) (fun e7 => ?_)
        · replace h := h.1 e7
          obtain ⟨z5, ez5⟩ : ∃ y : Int32, y = x2 + 1 := ⟨_, rfl⟩
          replace h := h z5 ez5
          refine g_iinc 4 [(2, .int z5), (4, .int r3), (3, .int r1), (0, .ref (v.1 0)), (1, .int x1)] (v := z5) (n := 101) ok dX7_fewest_98 rfl rfl (by rw [ez5]; rfl) (by decide) rfl ?_
          refine g_goto (t := 14) ok dX7_fewest_101 (by decide) ?_
          exact g_sub [3, 4, 0] rfl (ih x1 z5 S4 h)
        · replace h := h.2 e7
          refine g_iload_n 3 (n := 88) ok dX7_fewest_87 rfl rfl ?_
          refine g_if_ne (t := 95) (n := 91) ok dX7_fewest_88 (by decide) rfl (fun e6 => ?_) (fun e6 => ?_)
          · replace h := h.1 e6
            refine g_iload 0 (n := 97) ok dX7_fewest_95 rfl rfl ?_
            exact g_sub [] rfl (b_X7_fewest_97 ok he r3 S4 h)
          · replace h := h.2 e6
            refine g_iload_n 4 (n := 92) ok dX7_fewest_91 rfl rfl ?_
            refine g_goto (t := 97) ok dX7_fewest_92 (by decide) ?_
            exact g_sub [] rfl (b_X7_fewest_97 ok he x2 S4 h)
      · replace h := h.2 e9
        refine g_iload_n 2 (n := 48) ok dX7_fewest_47 rfl rfl ?_
        refine g_if_ne (t := 55) (n := 51) ok dX7_fewest_48 (by decide) rfl (fun e8 => ?_) (fun e8 => ?_)
        · replace h := h.1 e8
          refine g_iload_n 0 (n := 56) ok dX7_fewest_55 rfl rfl ?_
          exact g_sub [] rfl (b_X7_fewest_56 ok he r1 S2 h)
        · replace h := h.2 e8
          refine g_iload_n 3 (n := 52) ok dX7_fewest_51 rfl rfl ?_
          refine g_goto (t := 56) ok dX7_fewest_52 (by decide) ?_
          exact g_sub [] rfl (b_X7_fewest_56 ok he x2 S2 h)
def w_X7_fewest (p1 : Int32) (S : Mem) (post : Int32 → Mem → Prop) : Prop := w_X7_within p1 (0 : Int32) (1 : Int32) S (fun r1 S1 => ((¬ r1 = 0 → ∃ n, w_X7_fewest_14 post n p1 (0 : Int32) S1) ∧ (r1 = 0 → post (-2 : Int32) S1)))
set_option maxHeartbeats 4000000 in
set_option maxRecDepth 20000 in
theorem c_X7_fewest (l : Launch) (v : VxT) (p1 : Int32) (S : Mem) (post : Int32 → Mem → Prop) (h : w_X7_fewest p1 S post) : MI l yX7_fewest cX7_fewest 5 (some .int) 8 (oX v) [.ref (v.1 0), .int p1] S post := by
  refine met_start (by decide +kernel) (Nat.le_of_ble_eq_true rfl) (fun g ok he => ?_)
  refine g_eq (L' := [(0, .ref (v.1 0)), (1, .int p1)]) (st' := []) ?_ rfl rfl
  unfold w_X7_fewest at h
  refine g_iload_n 1 (n := 1) ok dX7_fewest_0 rfl rfl ?_
  refine g_iconst (v := 0) (n := 2) ok dX7_fewest_1 rfl (by decide) ?_
  refine g_iconst (v := 1) (n := 3) ok dX7_fewest_2 rfl (by decide) ?_
  refine g_callSi (n := 6) (As := [.int p1, .int (0 : Int32), .int (1 : Int32)]) (rest := []) ok (c_X7_within l v p1 (0 : Int32) (1 : Int32) S _ h) cal_X7_within tw_373 tw_253 (by decide) (by decide) rfl (Nat.le_of_ble_eq_true rfl) dX7_fewest_3 rfl rfl (fun r1 S1 h => ?_)
  refine g_if_ne (t := 12) (n := 9) ok dX7_fewest_6 (by decide) rfl (fun e2 => ?_) (fun e2 => ?_)
  · replace h := h.1 e2
    refine g_iconst (v := 0) (n := 13) ok dX7_fewest_12 rfl (by decide) ?_
    refine g_istore_n [(2, .int (0 : Int32)), (0, .ref (v.1 0)), (1, .int p1)] (n := 14) ok dX7_fewest_13 rfl (by decide) rfl ?_
    obtain ⟨n0, h⟩ := h
    exact g_sub [1, 2, 0] rfl (b_X7_fewest_14 ok he n0 p1 (0 : Int32) S1 h)
  · replace h := h.2 e2
    refine g_bipush (v := -2) (n := 11) ok dX7_fewest_9 rfl (by decide) ?_
    exact g_iret ok he h dX7_fewest_11
def w_X7_feels_117 (post : Int32 → Mem → Prop) (y0 : Int32) (S : Mem) : Prop := post y0 S
set_option maxHeartbeats 4000000 in
set_option maxRecDepth 20000 in
theorem b_X7_feels_117 {v : VxT} {l : Launch} {g : CxT} (ok : Ok l g (oX v) 4 cX7_feels RX7 (some .int)) {post : Int32 → Mem → Prop} (he : EndQ g (oX v) (va_Qi post (fun S1 t => BX (oX v) S1 t) (AX (oX v)))) (y0 : Int32) (S : Mem) (h : w_X7_feels_117 post y0 S) : G g (oX v) 7 4 117 [] [.int y0] S := by
  unfold w_X7_feels_117 at h
  exact g_iret ok he h dX7_feels_117
def w_X7_feels_96 (post : Int32 → Mem → Prop) (x1 : Int32) (x2 : Int32) (S : Mem) : Prop := ((¬ x1 = 0 → w_X4_isFirm  S (fun r1 S1 => ((r1 = 0 → w_X7_feels_117 post (0 : Int32) S1) ∧ (¬ r1 = 0 → w_X7_feels_117 post (1 : Int32) S1)))) ∧ (x1 = 0 → post x2 S))
set_option maxHeartbeats 4000000 in
set_option maxRecDepth 20000 in
theorem b_X7_feels_96 {v : VxT} {l : Launch} {g : CxT} (ok : Ok l g (oX v) 4 cX7_feels RX7 (some .int)) {post : Int32 → Mem → Prop} (he : EndQ g (oX v) (va_Qi post (fun S1 t => BX (oX v) S1 t) (AX (oX v)))) (x1 : Int32) (x2 : Int32) (S : Mem) (h : w_X7_feels_96 post x1 x2 S) : G g (oX v) 7 4 96 [(0, .ref (v.1 0)), (1, .int x1), (2, .int x2)] [] S := by
  unfold w_X7_feels_96 at h
  refine g_iload_n 1 (n := 97) ok dX7_feels_96 rfl rfl ?_
  refine g_if_ne (t := 102) (n := 100) ok dX7_feels_97 (by decide) rfl (fun e3 => ?_) (fun e3 => ?_)
  · replace h := h.1 e3
    refine g_aload_n 0 (n := 103) ok dX7_feels_102 rfl rfl ?_
    refine fg_X7_X7_stand (n := 106) 0 rfl ok dX7_feels_103 rfl ?_
    refine g_callVNi (n := 109) (As := []) (rest := []) (c := 39) ok (c_X4_isFirm l v  S _ h) cal_X4_isFirm tw_552 tw_554 tp_42 (lt10 rfl) (sh10 rfl _) rfl (by decide) (by decide) rfl (Nat.le_of_ble_eq_true rfl) dX7_feels_106 rfl rfl (fun r1 S1 h => ?_)
    refine g_if_eq (t := 116) (n := 112) ok dX7_feels_109 (by decide) rfl (fun e2 => ?_) (fun e2 => ?_)
    · replace h := h.1 e2
      refine g_iconst (v := 0) (n := 117) ok dX7_feels_116 rfl (by decide) ?_
      exact g_sub [] rfl (b_X7_feels_117 ok he (0 : Int32) S1 h)
    · replace h := h.2 e2
      refine g_iconst (v := 1) (n := 113) ok dX7_feels_112 rfl (by decide) ?_
      refine g_goto (t := 117) ok dX7_feels_113 (by decide) ?_
      exact g_sub [] rfl (b_X7_feels_117 ok he (1 : Int32) S1 h)
  · replace h := h.2 e3
    refine g_iload_n 2 (n := 101) ok dX7_feels_100 rfl rfl ?_
    exact g_iret ok he h dX7_feels_101
def w_X7_feels_40 (post : Int32 → Mem → Prop) : Nat → Int32 → Int32 → Int32 → Mem → Prop
  | 0, _, _, _, _ => False
  | n + 1, x1, x2, x3, S => (((8 : Int32) ≤ x2 → w_X7_feels_96 post x1 x2 S) ∧ (¬ (8 : Int32) ≤ x2 → w_X4_isFirm  S (fun r1 S1 => ((¬ r1 = 0 → w_X7_feels_96 post x1 x2 S1) ∧ (r1 = 0 → w_X4_firstBearing  S1 (fun r2 S2 => ((¬ r2 = x3 → w_X7_feels_96 post x1 x2 S2) ∧ (r2 = x3 → (∀ z3 : Int32, z3 = x2 + 1 → w_X7_round ((S2 1 4) + z3) S2 (fun r4 S4 => w_X7_measure (S2 1 2) r4 S4 (fun S5 => w_X7_feels_40 post n x1 z3 x3 S5)))))))))))
set_option maxHeartbeats 4000000 in
set_option maxRecDepth 20000 in
theorem b_X7_feels_40 {v : VxT} {l : Launch} {g : CxT} (ok : Ok l g (oX v) 4 cX7_feels RX7 (some .int)) {post : Int32 → Mem → Prop} (he : EndQ g (oX v) (va_Qi post (fun S1 t => BX (oX v) S1 t) (AX (oX v)))) : ∀ (n : Nat) (x1 : Int32) (x2 : Int32) (x3 : Int32) (S : Mem), w_X7_feels_40 post n x1 x2 x3 S → G g (oX v) 7 4 40 [(0, .ref (v.1 0)), (1, .int x1), (2, .int x2), (3, .int x3)] [] S := by
  intro n
  induction n with
  | zero =>
    intro x1 x2 x3 S h
    exact h.elim
  | succ n ih =>
    intro x1 x2 x3 S h
    rw [w_X7_feels_40] at h
    refine g_iload_n 2 (n := 41) ok dX7_feels_40 rfl rfl ?_
    refine g_bipush (v := 8) (n := 43) ok dX7_feels_41 rfl (by decide) ?_
    refine g_icmp_ge (t := 96) (n := 46) ok dX7_feels_43 (by decide) rfl (fun e8 => ?_) (fun e8 => ?_)
    · replace h := h.1 e8
      exact g_sub [0, 1, 2] rfl (b_X7_feels_96 ok he x1 x2 S h)
    · replace h := h.2 e8
      refine g_aload_n 0 (n := 47) ok dX7_feels_46 rfl rfl ?_
      refine fg_X7_X7_stand (n := 50) 0 rfl ok dX7_feels_47 rfl ?_
      refine g_callVNi (n := 53) (As := []) (rest := []) (c := 39) ok (c_X4_isFirm l v  S _ h) cal_X4_isFirm tw_552 tw_554 tp_42 (lt10 rfl) (sh10 rfl _) rfl (by decide) (by decide) rfl (Nat.le_of_ble_eq_true rfl) dX7_feels_50 rfl rfl (fun r1 S1 h => ?_)
      refine g_if_ne (t := 96) (n := 56) ok dX7_feels_53 (by decide) rfl (fun e7 => ?_) (fun e7 => ?_)
      · replace h := h.1 e7
        exact g_sub [0, 1, 2] rfl (b_X7_feels_96 ok he x1 x2 S1 h)
      · replace h := h.2 e7
        refine g_aload_n 0 (n := 57) ok dX7_feels_56 rfl rfl ?_
        refine fg_X7_X7_stand (n := 60) 0 rfl ok dX7_feels_57 rfl ?_
        refine g_callVNi (n := 63) (As := []) (rest := []) (c := 39) ok (c_X4_firstBearing l v  S1 _ h) cal_X4_firstBearing tw_565 tw_482 tp_30 (lt10 rfl) (sh10 rfl _) rfl (by decide) (by decide) rfl (Nat.le_of_ble_eq_true rfl) dX7_feels_60 rfl rfl (fun r2 S2 h => ?_)
        refine g_iload_n 3 (n := 64) ok dX7_feels_63 rfl rfl ?_
        refine g_icmp_ne (t := 96) (n := 67) ok dX7_feels_64 (by decide) rfl (fun e6 => ?_) (fun e6 => ?_)
        · replace h := h.1 e6
          exact g_sub [0, 1, 2] rfl (b_X7_feels_96 ok he x1 x2 S2 h)
        · replace h := h.2 e6
          obtain ⟨z3, ez3⟩ : ∃ y : Int32, y = x2 + 1 := ⟨_, rfl⟩
          replace h := h z3 ez3
          refine g_iinc 2 [(2, .int z3), (0, .ref (v.1 0)), (1, .int x1), (3, .int x3)] (v := z3) (n := 70) ok dX7_feels_67 rfl rfl (by rw [ez3]; rfl) (by decide) rfl ?_
          refine g_aload_n 1 (n := 71) ok dX7_feels_70 rfl rfl ?_
          refine g_aload_n 1 (n := 72) ok dX7_feels_71 rfl rfl ?_
          refine fg_X7_X7_table (n := 75) 0 rfl ok dX7_feels_72 rfl ?_
          refine fg_X7_X5_place (n := 78) 1 rfl ok dX7_feels_75 rfl ?_
          refine g_aload_n 1 (n := 79) ok dX7_feels_78 rfl rfl ?_
          refine fg_X7_X7_table (n := 82) 0 rfl ok dX7_feels_79 rfl ?_
          refine fg_X7_X5_turn (n := 85) 1 rfl ok dX7_feels_82 rfl ?_
          refine g_iload_n 0 (n := 86) ok dX7_feels_85 rfl rfl ?_
          refine g_iadd (n := 87) ok dX7_feels_86 rfl ?_
          refine g_callSi (n := 90) (As := [.int ((S2 1 4) + z3)]) (rest := [.int (S2 1 2), .ref (v.1 0)]) ok (c_X7_round l v ((S2 1 4) + z3) S2 _ h) cal_X7_round tw_560 tw_424 (by decide) (by decide) rfl (Nat.le_of_ble_eq_true rfl) dX7_feels_87 rfl rfl (fun r4 S4 h => ?_)
          refine g_callVv (n := 93) (As := [.int (S2 1 2), .int r4]) (rest := []) (c := 0) ok (c_X7_measure l v (S2 1 2) r4 S4 _ h) cal_X7_measure tw_460 tw_462 tp_26 (lt0 rfl) (sh0 rfl _) rfl (by decide) (by decide) rfl (Nat.le_of_ble_eq_true rfl) dX7_feels_90 rfl rfl (fun S5 h => ?_)
          refine g_goto (t := 40) ok dX7_feels_93 (by decide) ?_
          exact g_sub [1, 2, 0, 3] rfl (ih x1 z3 x3 S5 h)
def w_X7_feels (p1 : Int32) (S : Mem) (post : Int32 → Mem → Prop) : Prop := w_X7_within p1 (0 : Int32) (1 : Int32) S (fun r1 S1 => ((¬ r1 = 0 → w_X7_measure (S1 1 2) (S1 1 4) S1 (fun S2 => w_X4_firstBearing  S2 (fun r3 S3 => ∃ n, w_X7_feels_40 post n p1 (0 : Int32) r3 S3))) ∧ (r1 = 0 → post (-2 : Int32) S1)))
set_option maxHeartbeats 4000000 in
set_option maxRecDepth 20000 in
theorem c_X7_feels (l : Launch) (v : VxT) (p1 : Int32) (S : Mem) (post : Int32 → Mem → Prop) (h : w_X7_feels p1 S post) : MI l yX7_feels cX7_feels 4 (some .int) 7 (oX v) [.ref (v.1 0), .int p1] S post := by
  refine met_start (by decide +kernel) (Nat.le_of_ble_eq_true rfl) (fun g ok he => ?_)
  refine g_eq (L' := [(0, .ref (v.1 0)), (1, .int p1)]) (st' := []) ?_ rfl rfl
  unfold w_X7_feels at h
  refine g_iload_n 1 (n := 1) ok dX7_feels_0 rfl rfl ?_
  refine g_iconst (v := 0) (n := 2) ok dX7_feels_1 rfl (by decide) ?_
  refine g_iconst (v := 1) (n := 3) ok dX7_feels_2 rfl (by decide) ?_
  refine g_callSi (n := 6) (As := [.int p1, .int (0 : Int32), .int (1 : Int32)]) (rest := []) ok (c_X7_within l v p1 (0 : Int32) (1 : Int32) S _ h) cal_X7_within tw_373 tw_253 (by decide) (by decide) rfl (Nat.le_of_ble_eq_true rfl) dX7_feels_3 rfl rfl (fun r1 S1 h => ?_)
  refine g_if_ne (t := 12) (n := 9) ok dX7_feels_6 (by decide) rfl (fun e4 => ?_) (fun e4 => ?_)
  · replace h := h.1 e4
    refine g_iconst (v := 0) (n := 13) ok dX7_feels_12 rfl (by decide) ?_
    refine g_istore_n [(2, .int (0 : Int32)), (0, .ref (v.1 0)), (1, .int p1)] (n := 14) ok dX7_feels_13 rfl (by decide) rfl ?_
    refine g_aload_n 1 (n := 15) ok dX7_feels_14 rfl rfl ?_
    refine g_aload_n 1 (n := 16) ok dX7_feels_15 rfl rfl ?_
    refine fg_X7_X7_table (n := 19) 0 rfl ok dX7_feels_16 rfl ?_
    refine fg_X7_X5_place (n := 22) 1 rfl ok dX7_feels_19 rfl ?_
    refine g_aload_n 1 (n := 23) ok dX7_feels_22 rfl rfl ?_
    refine fg_X7_X7_table (n := 26) 0 rfl ok dX7_feels_23 rfl ?_
    refine fg_X7_X5_turn (n := 29) 1 rfl ok dX7_feels_26 rfl ?_
    refine g_callVv (n := 32) (As := [.int (S1 1 2), .int (S1 1 4)]) (rest := []) (c := 0) ok (c_X7_measure l v (S1 1 2) (S1 1 4) S1 _ h) cal_X7_measure tw_460 tw_462 tp_26 (lt0 rfl) (sh0 rfl _) rfl (by decide) (by decide) rfl (Nat.le_of_ble_eq_true rfl) dX7_feels_29 rfl rfl (fun S2 h => ?_)
    refine g_aload_n 1 (n := 33) ok dX7_feels_32 rfl rfl ?_
    refine fg_X7_X7_stand (n := 36) 0 rfl ok dX7_feels_33 rfl ?_
    refine g_callVNi (n := 39) (As := []) (rest := []) (c := 39) ok (c_X4_firstBearing l v  S2 _ h) cal_X4_firstBearing tw_565 tw_482 tp_30 (lt10 rfl) (sh10 rfl _) rfl (by decide) (by decide) rfl (Nat.le_of_ble_eq_true rfl) dX7_feels_36 rfl rfl (fun r3 S3 h => ?_)
    refine g_istore_n [(3, .int r3), (2, .int (0 : Int32)), (0, .ref (v.1 0)), (1, .int p1)] (n := 40) ok dX7_feels_39 rfl (by decide) rfl ?_
    obtain ⟨n0, h⟩ := h
    exact g_sub [2, 3, 1, 0] rfl (b_X7_feels_40 ok he n0 p1 (0 : Int32) r3 S3 h)
  · replace h := h.2 e4
    refine g_bipush (v := -2) (n := 11) ok dX7_feels_9 rfl (by decide) ?_
    exact g_iret ok he h dX7_feels_11
def w_X7_worthAt (p1 : Int32) (p2 : Int32) (S : Mem) (post : Int32 → Mem → Prop) : Prop := w_X7_measure p1 p2 S (fun S1 => w_X7_ruleInForce  S1 (fun r2 S2 => (kdX r2 = 7 ∧ w_X4_worth r2 S2 (fun r3 S3 => post r3 S3))))
set_option maxHeartbeats 4000000 in
set_option maxRecDepth 20000 in
theorem c_X7_worthAt (l : Launch) (v : VxT) (p1 : Int32) (p2 : Int32) (S : Mem) (post : Int32 → Mem → Prop) (h : w_X7_worthAt p1 p2 S post) : MI l yX7_worthAt cX7_worthAt 3 (some .int) 7 (oX v) [.ref (v.1 0), .int p1, .int p2] S post := by
  refine met_start (by decide +kernel) (Nat.le_of_ble_eq_true rfl) (fun g ok he => ?_)
  refine g_eq (L' := [(0, .ref (v.1 0)), (1, .int p1), (2, .int p2)]) (st' := []) ?_ rfl rfl
  unfold w_X7_worthAt at h
  refine g_aload_n 0 (n := 1) ok dX7_worthAt_0 rfl rfl ?_
  refine g_iload_n 1 (n := 2) ok dX7_worthAt_1 rfl rfl ?_
  refine g_iload_n 2 (n := 3) ok dX7_worthAt_2 rfl rfl ?_
  refine g_callVv (n := 6) (As := [.int p1, .int p2]) (rest := []) (c := 0) ok (c_X7_measure l v p1 p2 S _ h) cal_X7_measure tw_460 tw_462 tp_26 (lt0 rfl) (sh0 rfl _) rfl (by decide) (by decide) rfl (Nat.le_of_ble_eq_true rfl) dX7_worthAt_3 rfl rfl (fun S1 h => ?_)
  refine g_aload_n 0 (n := 7) ok dX7_worthAt_6 rfl rfl ?_
  refine fg_X7_X7_stand (n := 10) 0 rfl ok dX7_worthAt_7 rfl ?_
  refine g_aload_n 0 (n := 11) ok dX7_worthAt_10 rfl rfl ?_
  refine g_callVr (n := 14) (As := []) (rest := [.ref (v.1 39)]) (c := 0) ok (c_X7_ruleInForce l v  S1 _ h) cal_X7_ruleInForce tw_464 tw_466 tp_27 (lt0 rfl) (sh0 rfl _) rfl (by decide) (by decide) rfl (Nat.le_of_ble_eq_true rfl) dX7_worthAt_11 rfl rfl (fun r2 S2 h => ?_)
  obtain ⟨hqr2, h⟩ := h
  refine g_callVNi (n := 17) (As := [.ref (v.1 r2)]) (rest := []) (c := 39) ok (c_X4_worth l v r2 hqr2 S2 _ h) cal_X4_worth tw_532 tw_534 tp_39 (lt10 rfl) (sh10 rfl _) rfl (by decide) (by decide) rfl (Nat.le_of_ble_eq_true rfl) dX7_worthAt_14 rfl rfl (fun r3 S3 h => ?_)
  exact g_iret ok he h dX7_worthAt_17
