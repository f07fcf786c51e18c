def w_X7_best_60 (K24 : Int32 → Int32 → Int32 → Int32 → Mem → Prop) (post : Int32 → Mem → Prop) (x1 : Int32) (x2 : Int32) (x3 : Int32) (x4 : Int32) (S : Mem) : Prop := (∀ z1 : Int32, z1 = x4 + 1 → K24 x1 x2 x3 z1 S)
set_option maxHeartbeats 4000000 in
set_option maxRecDepth 20000 in
theorem b_X7_best_60 {v : VxT} {l : Launch} {g : CxT} {K24 : Int32 → Int32 → Int32 → Int32 → Mem → Prop} (ok : Ok l g (oX v) 6 cX7_best RX7 (some .int)) (hK24 : ∀ (x1 : Int32) (x2 : Int32) (x3 : Int32) (x4 : Int32) (S : Mem), K24 x1 x2 x3 x4 S → G g (oX v) 8 6 24 [(0, .ref (v.1 0)), (1, .int x1), (2, .int x2), (3, .int x3), (4, .int x4)] [] S) {post : Int32 → Mem → Prop} (he : EndQ g (oX v) (va_Qi post (fun S1 t => BX (oX v) S1 t) (AX (oX v)))) (x1 : Int32) (x2 : Int32) (x3 : Int32) (x4 : Int32) (S : Mem) (h : w_X7_best_60 K24 post x1 x2 x3 x4 S) : G g (oX v) 8 6 60 [(0, .ref (v.1 0)), (1, .int x1), (2, .int x2), (3, .int x3), (4, .int x4)] [] S := by
  unfold w_X7_best_60 at h
  obtain ⟨z1, ez1⟩ : ∃ y : Int32, y = x4 + 1 := ⟨_, rfl⟩
  replace h := h z1 ez1
  refine g_iinc 4 [(4, .int z1), (0, .ref (v.1 0)), (1, .int x1), (2, .int x2), (3, .int x3)] (v := z1) (n := 63) ok dX7_best_60 rfl rfl (by rw [ez1]; rfl) (by decide) rfl ?_
  refine g_goto (t := 24) ok dX7_best_63 (by decide) ?_
  exact g_sub [1, 2, 3, 4, 0] rfl (hK24 x1 x2 x3 z1 S h)
def w_X7_best_88 (post : Int32 → Mem → Prop) (y0 : Int32) (S : Mem) : Prop := post y0 S
set_option maxHeartbeats 4000000 in
set_option maxRecDepth 20000 in
theorem b_X7_best_88 {v : VxT} {l : Launch} {g : CxT} (ok : Ok l g (oX v) 6 cX7_best RX7 (some .int)) {post : Int32 → Mem → Prop} (he : EndQ g (oX v) (va_Qi post (fun S1 t => BX (oX v) S1 t) (AX (oX v)))) (y0 : Int32) (S : Mem) (h : w_X7_best_88 post y0 S) : G g (oX v) 8 6 88 [] [.int y0] S := by
  unfold w_X7_best_88 at h
  exact g_iret ok he h dX7_best_88
def w_X7_best_24 (post : Int32 → Mem → Prop) : Nat → Int32 → Int32 → Int32 → Int32 → Mem → Prop
  | 0, _, _, _, _, _ => False
  | n + 1, x1, x2, x3, x4, S => (((512 : Int32) ≤ x4 → ((¬ x1 = (2 : Int32) → ((¬ x1 = 0 → w_X7_best_88 post (jrem x2 (8 : Int32)) S) ∧ (x1 = 0 → w_X7_best_88 post (x2 / (8 : Int32)) S))) ∧ (x1 = (2 : Int32) → post x3 S))) ∧ (¬ (512 : Int32) ≤ x4 → w_X7_worthAt (x4 / (8 : Int32)) (jrem x4 (8 : Int32)) S (fun r3 S3 => ((r3 ≤ x3 → w_X7_best_60 (w_X7_best_24 post n) post x1 x2 x3 x4 S3) ∧ (¬ r3 ≤ x3 → w_X7_best_60 (w_X7_best_24 post n) post x1 x4 r3 x4 S3)))))
set_option maxHeartbeats 4000000 in
set_option maxRecDepth 20000 in
theorem b_X7_best_24 {v : VxT} {l : Launch} {g : CxT} (ok : Ok l g (oX v) 6 cX7_best RX7 (some .int)) {post : Int32 → Mem → Prop} (he : EndQ g (oX v) (va_Qi post (fun S1 t => BX (oX v) S1 t) (AX (oX v)))) : ∀ (n : Nat) (x1 : Int32) (x2 : Int32) (x3 : Int32) (x4 : Int32) (S : Mem), w_X7_best_24 post n x1 x2 x3 x4 S → G g (oX v) 8 6 24 [(0, .ref (v.1 0)), (1, .int x1), (2, .int x2), (3, .int x3), (4, .int x4)] [] S := by
  intro n
  induction n with
  | zero =>
    intro x1 x2 x3 x4 S h
    exact h.elim
  | succ n ih =>
    intro x1 x2 x3 x4 S h
    rw [w_X7_best_24] at h
    refine g_iload 4 (n := 26) ok dX7_best_24 rfl rfl ?_
    refine g_sipush (v := 512) (n := 29) ok dX7_best_26 rfl (by decide) ?_
    refine g_icmp_ge (t := 66) (n := 32) ok dX7_best_29 (by decide) rfl (fun e5 => ?_) (fun e5 => ?_)
    · replace h := h.1 e5
      refine g_iload_n 1 (n := 67) ok dX7_best_66 rfl rfl ?_
      refine g_iconst (v := 2) (n := 68) ok dX7_best_67 rfl (by decide) ?_
      refine g_icmp_ne (t := 73) (n := 71) ok dX7_best_68 (by decide) rfl (fun e2 => ?_) (fun e2 => ?_)
      · replace h := h.1 e2
        refine g_iload_n 1 (n := 74) ok dX7_best_73 rfl rfl ?_
        refine g_if_ne (t := 84) (n := 77) ok dX7_best_74 (by decide) rfl (fun e1 => ?_) (fun e1 => ?_)
        · replace h := h.1 e1
          refine g_iload_n 2 (n := 85) ok dX7_best_84 rfl rfl ?_
          refine g_bipush (v := 8) (n := 87) ok dX7_best_85 rfl (by decide) ?_
          refine g_irem (n := 88) ok dX7_best_87 rfl (by decide) ?_
          exact g_sub [] rfl (b_X7_best_88 ok he (jrem x2 (8 : Int32)) S h)
        · replace h := h.2 e1
          refine g_iload_n 2 (n := 78) ok dX7_best_77 rfl rfl ?_
          refine g_bipush (v := 8) (n := 80) ok dX7_best_78 rfl (by decide) ?_
          refine g_idiv (n := 81) ok dX7_best_80 rfl (by decide) ?_
          refine g_goto (t := 88) ok dX7_best_81 (by decide) ?_
          exact g_sub [] rfl (b_X7_best_88 ok he (x2 / (8 : Int32)) S h)
      · replace h := h.2 e2
        refine g_iload_n 3 (n := 72) ok dX7_best_71 rfl rfl ?_
        exact g_iret ok he h dX7_best_72
    · replace h := h.2 e5
      refine g_aload_n 0 (n := 33) ok dX7_best_32 rfl rfl ?_
      refine g_iload 4 (n := 35) ok dX7_best_33 rfl rfl ?_
      refine g_bipush (v := 8) (n := 37) ok dX7_best_35 rfl (by decide) ?_
      refine g_idiv (n := 38) ok dX7_best_37 rfl (by decide) ?_
      refine g_iload 4 (n := 40) ok dX7_best_38 rfl rfl ?_
      refine g_bipush (v := 8) (n := 42) ok dX7_best_40 rfl (by decide) ?_
      refine g_irem (n := 43) ok dX7_best_42 rfl (by decide) ?_
      refine g_callVi (n := 46) (As := [.int (x4 / (8 : Int32)), .int (jrem x4 (8 : Int32))]) (rest := []) (c := 0) ok (c_X7_worthAt l v (x4 / (8 : Int32)) (jrem x4 (8 : Int32)) S _ h) cal_X7_worthAt tw_570 tw_572 tp_43 (lt0 rfl) (sh0 rfl _) rfl (by decide) (by decide) rfl (Nat.le_of_ble_eq_true rfl) dX7_best_43 rfl rfl (fun r3 S3 h => ?_)
      refine g_istore [(5, .int r3), (0, .ref (v.1 0)), (1, .int x1), (2, .int x2), (3, .int x3), (4, .int x4)] (n := 48) ok dX7_best_46 rfl (by decide) rfl ?_
      refine g_iload 0 (n := 50) ok dX7_best_48 rfl rfl ?_
      refine g_iload_n 4 (n := 51) ok dX7_best_50 rfl rfl ?_
      refine g_icmp_le (t := 60) (n := 54) ok dX7_best_51 (by decide) rfl (fun e4 => ?_) (fun e4 => ?_)
      · replace h := h.1 e4
        exact g_sub [1, 2, 3, 4, 5] rfl (b_X7_best_60 ok ih he x1 x2 x3 x4 S3 h)
      · replace h := h.2 e4
        refine g_iload 0 (n := 56) ok dX7_best_54 rfl rfl ?_
        refine g_istore_n [(3, .int r3), (5, .int r3), (0, .ref (v.1 0)), (1, .int x1), (2, .int x2), (4, .int x4)] (n := 57) ok dX7_best_56 rfl (by decide) rfl ?_
        refine g_iload 5 (n := 59) ok dX7_best_57 rfl rfl ?_
        refine g_istore_n [(2, .int x4), (3, .int r3), (5, .int r3), (0, .ref (v.1 0)), (1, .int x1), (4, .int x4)] (n := 60) ok dX7_best_59 rfl (by decide) rfl ?_
        exact g_sub [3, 4, 0, 1, 5] rfl (b_X7_best_60 ok ih he x1 x4 r3 x4 S3 h)
def w_X7_best (p1 : Int32) (S : Mem) (post : Int32 → Mem → Prop) : Prop := w_X7_within p1 (0 : Int32) (2 : Int32) S (fun r1 S1 => ((¬ r1 = 0 → w_X7_worthAt (0 : Int32) (0 : Int32) S1 (fun r2 S2 => ∃ n, w_X7_best_24 post n p1 (0 : Int32) r2 (1 : Int32) S2)) ∧ (r1 = 0 → post (-100000 : Int32) S1)))
set_option maxHeartbeats 4000000 in
set_option maxRecDepth 20000 in
theorem c_X7_best (l : Launch) (v : VxT) (p1 : Int32) (S : Mem) (post : Int32 → Mem → Prop) (h : w_X7_best p1 S post) : MI l yX7_best cX7_best 6 (some .int) 8 (oX v) [.ref (v.1 0), .int p1] S post := by
  refine met_start (by decide +kernel) (Nat.le_of_ble_eq_true rfl) (fun g ok he => ?_)
  refine g_eq (L' := [(0, .ref (v.1 0)), (1, .int p1)]) (st' := []) ?_ rfl rfl
  unfold w_X7_best at h
  refine g_iload_n 1 (n := 1) ok dX7_best_0 rfl rfl ?_
  refine g_iconst (v := 0) (n := 2) ok dX7_best_1 rfl (by decide) ?_
  refine g_iconst (v := 2) (n := 3) ok dX7_best_2 rfl (by decide) ?_
  refine g_callSi (n := 6) (As := [.int p1, .int (0 : Int32), .int (2 : Int32)]) (rest := []) ok (c_X7_within l v p1 (0 : Int32) (2 : Int32) S _ h) cal_X7_within tw_373 tw_253 (by decide) (by decide) rfl (Nat.le_of_ble_eq_true rfl) dX7_best_3 rfl rfl (fun r1 S1 h => ?_)
  refine g_if_ne (t := 12) (n := 9) ok dX7_best_6 (by decide) rfl (fun e3 => ?_) (fun e3 => ?_)
  · replace h := h.1 e3
    refine g_iconst (v := 0) (n := 13) ok dX7_best_12 rfl (by decide) ?_
    refine g_istore_n [(2, .int (0 : Int32)), (0, .ref (v.1 0)), (1, .int p1)] (n := 14) ok dX7_best_13 rfl (by decide) rfl ?_
    refine g_aload_n 1 (n := 15) ok dX7_best_14 rfl rfl ?_
    refine g_iconst (v := 0) (n := 16) ok dX7_best_15 rfl (by decide) ?_
    refine g_iconst (v := 0) (n := 17) ok dX7_best_16 rfl (by decide) ?_
    refine g_callVi (n := 20) (As := [.int (0 : Int32), .int (0 : Int32)]) (rest := []) (c := 0) ok (c_X7_worthAt l v (0 : Int32) (0 : Int32) S1 _ h) cal_X7_worthAt tw_570 tw_572 tp_43 (lt0 rfl) (sh0 rfl _) rfl (by decide) (by decide) rfl (Nat.le_of_ble_eq_true rfl) dX7_best_17 rfl rfl (fun r2 S2 h => ?_)
    refine g_istore_n [(3, .int r2), (2, .int (0 : Int32)), (0, .ref (v.1 0)), (1, .int p1)] (n := 21) ok dX7_best_20 rfl (by decide) rfl ?_
    refine g_iconst (v := 1) (n := 22) ok dX7_best_21 rfl (by decide) ?_
    refine g_istore [(4, .int (1 : Int32)), (3, .int r2), (2, .int (0 : Int32)), (0, .ref (v.1 0)), (1, .int p1)] (n := 24) ok dX7_best_22 rfl (by decide) rfl ?_
    obtain ⟨n0, h⟩ := h
    exact g_sub [3, 4, 2, 1, 0] rfl (b_X7_best_24 ok he n0 p1 (0 : Int32) r2 (1 : Int32) S2 h)
  · replace h := h.2 e3
    refine g_ldc (v := -100000) (n := 11) ok dX7_best_9 rfl tw_459 ?_
    exact g_iret ok he h dX7_best_11
def w_X7_rockHere (S : Mem) (post : Int32 → Mem → Prop) : Prop := w_X7_measure (S 1 2) (S 1 4) S (fun S1 => post (S1 39 5) S1)
set_option maxHeartbeats 4000000 in
set_option maxRecDepth 20000 in
theorem c_X7_rockHere (l : Launch) (v : VxT) (S : Mem) (post : Int32 → Mem → Prop) (h : w_X7_rockHere  S post) : MI l yX7_rockHere cX7_rockHere 1 (some .int) 7 (oX v) [.ref (v.1 0)] S post := by
  refine met_start (by decide +kernel) (Nat.le_of_ble_eq_true rfl) (fun g ok he => ?_)
  refine g_eq (L' := [(0, .ref (v.1 0))]) (st' := []) ?_ rfl rfl
  unfold w_X7_rockHere at h
  refine g_aload_n 0 (n := 1) ok dX7_rockHere_0 rfl rfl ?_
  refine g_aload_n 0 (n := 2) ok dX7_rockHere_1 rfl rfl ?_
  refine fg_X7_X7_table (n := 5) 0 rfl ok dX7_rockHere_2 rfl ?_
  refine fg_X7_X5_place (n := 8) 1 rfl ok dX7_rockHere_5 rfl ?_
  refine g_aload_n 0 (n := 9) ok dX7_rockHere_8 rfl rfl ?_
  refine fg_X7_X7_table (n := 12) 0 rfl ok dX7_rockHere_9 rfl ?_
  refine fg_X7_X5_turn (n := 15) 1 rfl ok dX7_rockHere_12 rfl ?_
  refine g_callVv (n := 18) (As := [.int (S 1 2), .int (S 1 4)]) (rest := []) (c := 0) ok (c_X7_measure l v (S 1 2) (S 1 4) S _ h) cal_X7_measure tw_460 tw_462 tp_26 (lt0 rfl) (sh0 rfl _) rfl (by decide) (by decide) rfl (Nat.le_of_ble_eq_true rfl) dX7_rockHere_15 rfl rfl (fun S1 h => ?_)
  refine g_aload_n 0 (n := 19) ok dX7_rockHere_18 rfl rfl ?_
  refine fg_X7_X7_stand (n := 22) 0 rfl ok dX7_rockHere_19 rfl ?_
  refine fg_X7_X4_rock (n := 25) 39 rfl ok dX7_rockHere_22 rfl ?_
  exact g_iret ok he h dX7_rockHere_25
def w_X7_turn (p1 : Int32) (S : Mem) (post : Int32 → Mem → Prop) : Prop := w_X7_within p1 (-7 : Int32) (7 : Int32) S (fun r1 S1 => ((¬ r1 = 0 → w_X7_round ((S1 1 4) + p1) S1 (fun r2 S2 => (∀ S3 : Mem, S3 = mset S2 1 (upd (S2 1) 4 r2) → w_X7_rockHere  S3 (fun r4 S4 => post r4 S4)))) ∧ (r1 = 0 → post (-2 : Int32) S1)))
set_option maxHeartbeats 4000000 in
set_option maxRecDepth 20000 in
theorem c_X7_turn (l : Launch) (v : VxT) (p1 : Int32) (S : Mem) (post : Int32 → Mem → Prop) (h : w_X7_turn p1 S post) : MI l yX7_turn cX7_turn 2 (some .int) 8 (oX v) [.ref (v.1 0), .int p1] S post := by
  refine met_start (by decide +kernel) (Nat.le_of_ble_eq_true rfl) (fun g ok he => ?_)
  refine g_eq (L' := [(0, .ref (v.1 0)), (1, .int p1)]) (st' := []) ?_ rfl rfl
  unfold w_X7_turn at h
  refine g_iload_n 1 (n := 1) ok dX7_turn_0 rfl rfl ?_
  refine g_bipush (v := -7) (n := 3) ok dX7_turn_1 rfl (by decide) ?_
  refine g_bipush (v := 7) (n := 5) ok dX7_turn_3 rfl (by decide) ?_
  refine g_callSi (n := 8) (As := [.int p1, .int (-7 : Int32), .int (7 : Int32)]) (rest := []) ok (c_X7_within l v p1 (-7 : Int32) (7 : Int32) S _ h) cal_X7_within tw_373 tw_253 (by decide) (by decide) rfl (Nat.le_of_ble_eq_true rfl) dX7_turn_5 rfl rfl (fun r1 S1 h => ?_)
  refine g_if_ne (t := 14) (n := 11) ok dX7_turn_8 (by decide) rfl (fun e5 => ?_) (fun e5 => ?_)
  · replace h := h.1 e5
    refine g_aload_n 0 (n := 15) ok dX7_turn_14 rfl rfl ?_
    refine fg_X7_X7_table (n := 18) 0 rfl ok dX7_turn_15 rfl ?_
    refine g_aload_n 0 (n := 19) ok dX7_turn_18 rfl rfl ?_
    refine fg_X7_X7_table (n := 22) 0 rfl ok dX7_turn_19 rfl ?_
    refine fg_X7_X5_turn (n := 25) 1 rfl ok dX7_turn_22 rfl ?_
    refine g_iload_n 1 (n := 26) ok dX7_turn_25 rfl rfl ?_
    refine g_iadd (n := 27) ok dX7_turn_26 rfl ?_
    refine g_callSi (n := 30) (As := [.int ((S1 1 4) + p1)]) (rest := [.ref (v.1 1)]) ok (c_X7_round l v ((S1 1 4) + p1) S1 _ h) cal_X7_round tw_560 tw_424 (by decide) (by decide) rfl (Nat.le_of_ble_eq_true rfl) dX7_turn_27 rfl rfl (fun r2 S2 h => ?_)
    refine fp_X7_X5_turn (n := 33) 1 rfl ok dX7_turn_30 rfl ?_
    refine g_mem (fun S3 eS3 => ?_)
    replace h := h S3 eS3
    refine g_aload_n 0 (n := 34) ok dX7_turn_33 rfl rfl ?_
    refine g_callVi (n := 37) (As := []) (rest := []) (c := 0) ok (c_X7_rockHere l v  S3 _ h) cal_X7_rockHere tw_578 tw_580 tp_44 (lt0 rfl) (sh0 rfl _) rfl (by decide) (by decide) rfl (Nat.le_of_ble_eq_true rfl) dX7_turn_34 rfl rfl (fun r4 S4 h => ?_)
    exact g_iret ok he h dX7_turn_37
  · replace h := h.2 e5
    refine g_bipush (v := -2) (n := 13) ok dX7_turn_11 rfl (by decide) ?_
    exact g_iret ok he h dX7_turn_13
def w_X7_wedge (S : Mem) (post : Int32 → Mem → Prop) : Prop := w_X7_rockHere  S (fun r1 S1 => ((¬ r1 = 0 → w_X4_firstLoose  S1 (fun r2 S2 => w_X5_cellBeneath 1 r2 (S2 1 2) (S2 1 4) S2 (fun r3 S3 => (vp_in r3 64 ∧ (vp_in r3 64 ∧ (∀ S4 : Mem, S4 = mset S3 2 (upd (S3 2) r3.toNatClampNeg (jmin (99 : Int32) ((S3 2 r3.toNatClampNeg) + r1))) → post r1 S4)))))) ∧ (r1 = 0 → post (-3 : Int32) S1)))
set_option maxHeartbeats 4000000 in
set_option maxRecDepth 20000 in
theorem c_X7_wedge (l : Launch) (v : VxT) (S : Mem) (post : Int32 → Mem → Prop) (h : w_X7_wedge  S post) : MI l yX7_wedge cX7_wedge 3 (some .int) 8 (oX v) [.ref (v.1 0)] S post := by
  refine met_start (by decide +kernel) (Nat.le_of_ble_eq_true rfl) (fun g ok he => ?_)
  refine g_eq (L' := [(0, .ref (v.1 0))]) (st' := []) ?_ rfl rfl
  unfold w_X7_wedge at h
  refine g_aload_n 0 (n := 1) ok dX7_wedge_0 rfl rfl ?_
  refine g_callVi (n := 4) (As := []) (rest := []) (c := 0) ok (c_X7_rockHere l v  S _ h) cal_X7_rockHere tw_578 tw_580 tp_44 (lt0 rfl) (sh0 rfl _) rfl (by decide) (by decide) rfl (Nat.le_of_ble_eq_true rfl) dX7_wedge_1 rfl rfl (fun r1 S1 h => ?_)
  refine g_istore_n [(1, .int r1), (0, .ref (v.1 0))] (n := 5) ok dX7_wedge_4 rfl (by decide) rfl ?_
  refine g_iload_n 0 (n := 6) ok dX7_wedge_5 rfl rfl ?_
  refine g_if_ne (t := 12) (n := 9) ok dX7_wedge_6 (by decide) rfl (fun e5 => ?_) (fun e5 => ?_)
  · replace h := h.1 e5
    refine g_aload_n 1 (n := 13) ok dX7_wedge_12 rfl rfl ?_
    refine fg_X7_X7_table (n := 16) 0 rfl ok dX7_wedge_13 rfl ?_
    refine g_aload_n 1 (n := 17) ok dX7_wedge_16 rfl rfl ?_
    refine fg_X7_X7_stand (n := 20) 0 rfl ok dX7_wedge_17 rfl ?_
    refine g_callVNi (n := 23) (As := []) (rest := [.ref (v.1 1)]) (c := 39) ok (c_X4_firstLoose l v  S1 _ h) cal_X4_firstLoose tw_586 tw_494 tp_32 (lt10 rfl) (sh10 rfl _) rfl (by decide) (by decide) rfl (Nat.le_of_ble_eq_true rfl) dX7_wedge_20 rfl rfl (fun r2 S2 h => ?_)
    refine g_aload_n 1 (n := 24) ok dX7_wedge_23 rfl rfl ?_
    refine fg_X7_X7_table (n := 27) 0 rfl ok dX7_wedge_24 rfl ?_
    refine fg_X7_X5_place (n := 30) 1 rfl ok dX7_wedge_27 rfl ?_
    refine g_aload_n 1 (n := 31) ok dX7_wedge_30 rfl rfl ?_
    refine fg_X7_X7_table (n := 34) 0 rfl ok dX7_wedge_31 rfl ?_
    refine fg_X7_X5_turn (n := 37) 1 rfl ok dX7_wedge_34 rfl ?_
    refine g_callVNi (n := 40) (As := [.int r2, .int (S2 1 2), .int (S2 1 4)]) (rest := []) (c := 1) ok (c_X5_cellBeneath l v 1 rfl r2 (S2 1 2) (S2 1 4) S2 _ h) cal_X5_cellBeneath tw_419 tw_421 tp_23 (lt1 rfl) (sh1 rfl _) rfl (by decide) (by decide) rfl (Nat.le_of_ble_eq_true rfl) dX7_wedge_37 rfl rfl (fun r3 S3 h => ?_)
    refine g_istore_n [(2, .int r3), (1, .int r1), (0, .ref (v.1 0))] (n := 41) ok dX7_wedge_40 rfl (by decide) rfl ?_
    refine g_aload_n 2 (n := 42) ok dX7_wedge_41 rfl rfl ?_
    refine fg_X7_X7_table (n := 45) 0 rfl ok dX7_wedge_42 rfl ?_
    refine fg_X7_X5_heights (n := 48) 1 rfl ok dX7_wedge_45 rfl ?_
    refine g_iload_n 0 (n := 49) ok dX7_wedge_48 rfl rfl ?_
    refine g_bipush (v := 99) (n := 51) ok dX7_wedge_49 rfl (by decide) ?_
    refine g_aload_n 2 (n := 52) ok dX7_wedge_51 rfl rfl ?_
    refine fg_X7_X7_table (n := 55) 0 rfl ok dX7_wedge_52 rfl ?_
    refine fg_X7_X5_heights (n := 58) 1 rfl ok dX7_wedge_55 rfl ?_
    refine g_iload_n 0 (n := 59) ok dX7_wedge_58 rfl rfl ?_
    obtain ⟨h0, h⟩ := h
    refine g_iald (c := 2) (t0 := 0) (n := 60) ok (lt2 rfl) (sh2 rfl _) rfl h0 dX7_wedge_59 rfl ?_
    refine g_iload_n 1 (n := 61) ok dX7_wedge_60 rfl rfl ?_
    refine g_iadd (n := 62) ok dX7_wedge_61 rfl ?_
    refine g_mmin (n := 65) ok tw_587 tw_486 tw_15 tw_487 (by decide) (Nat.le_of_ble_eq_true rfl) dX7_wedge_62 rfl ?_
    obtain ⟨h0, h⟩ := h
    refine g_iast (c := 2) (t0 := 0) (n := 66) ok (lt2 rfl) (fun f => sh2 rfl f) rfl h0 dX7_wedge_65 rfl ?_
    refine g_mem (fun S4 eS4 => ?_)
    replace h := h S4 eS4
    refine g_iload_n 1 (n := 67) ok dX7_wedge_66 rfl rfl ?_
    exact g_iret ok he h dX7_wedge_67
  · replace h := h.2 e5
    refine g_bipush (v := -3) (n := 11) ok dX7_wedge_9 rfl (by decide) ?_
    exact g_iret ok he h dX7_wedge_11
def w_X7_saw (S : Mem) (post : Int32 → Mem → Prop) : Prop := w_X7_rockHere  S (fun r1 S1 => ((¬ r1 = 0 → (∀ z2 : Int32, z2 = r1 / (2 : Int32) → w_X4_firstBearing  S1 (fun r3 S3 => (vp_in r3 4 ∧ w_X0_shorten (3 + 1 + r3.toNatClampNeg) z2 S3 (fun S4 => (vp_in (r3 + (2 : Int32)) 4 ∧ w_X0_shorten (3 + 1 + (r3 + (2 : Int32)).toNatClampNeg) (r1 - z2) S4 (fun S5 => w_X7_rockHere  S5 (fun r6 S6 => post r6 S6)))))))) ∧ (r1 = 0 → post (-3 : Int32) S1)))
set_option maxHeartbeats 4000000 in
set_option maxRecDepth 20000 in
theorem c_X7_saw (l : Launch) (v : VxT) (S : Mem) (post : Int32 → Mem → Prop) (h : w_X7_saw  S post) : MI l yX7_saw cX7_saw 4 (some .int) 8 (oX v) [.ref (v.1 0)] S post := by
  refine met_start (by decide +kernel) (Nat.le_of_ble_eq_true rfl) (fun g ok he => ?_)
  refine g_eq (L' := [(0, .ref (v.1 0))]) (st' := []) ?_ rfl rfl
  unfold w_X7_saw at h
  refine g_aload_n 0 (n := 1) ok dX7_saw_0 rfl rfl ?_
  refine g_callVi (n := 4) (As := []) (rest := []) (c := 0) ok (c_X7_rockHere l v  S _ h) cal_X7_rockHere tw_578 tw_580 tp_44 (lt0 rfl) (sh0 rfl _) rfl (by decide) (by decide) rfl (Nat.le_of_ble_eq_true rfl) dX7_saw_1 rfl rfl (fun r1 S1 h => ?_)
  refine g_istore_n [(1, .int r1), (0, .ref (v.1 0))] (n := 5) ok dX7_saw_4 rfl (by decide) rfl ?_
  refine g_iload_n 0 (n := 6) ok dX7_saw_5 rfl rfl ?_
  refine g_if_ne (t := 12) (n := 9) ok dX7_saw_6 (by decide) rfl (fun e7 => ?_) (fun e7 => ?_)
  · replace h := h.1 e7
    refine g_iload_n 0 (n := 13) ok dX7_saw_12 rfl rfl ?_
    refine g_iconst (v := 2) (n := 14) ok dX7_saw_13 rfl (by decide) ?_
    refine g_idiv (n := 15) ok dX7_saw_14 rfl (by decide) ?_
    refine g_topi (fun z2 ez2 => ?_)
    replace h := h z2 ez2
    refine g_istore_n [(2, .int z2), (1, .int r1), (0, .ref (v.1 0))] (n := 16) ok dX7_saw_15 rfl (by decide) rfl ?_
    refine g_aload_n 2 (n := 17) ok dX7_saw_16 rfl rfl ?_
    refine fg_X7_X7_stand (n := 20) 0 rfl ok dX7_saw_17 rfl ?_
    refine g_callVNi (n := 23) (As := []) (rest := []) (c := 39) ok (c_X4_firstBearing l v  S1 _ h) cal_X4_firstBearing tw_565 tw_482 tp_30 (lt10 rfl) (sh10 rfl _) rfl (by decide) (by decide) rfl (Nat.le_of_ble_eq_true rfl) dX7_saw_20 rfl rfl (fun r3 S3 h => ?_)
    refine g_istore_n [(3, .int r3), (2, .int z2), (1, .int r1), (0, .ref (v.1 0))] (n := 24) ok dX7_saw_23 rfl (by decide) rfl ?_
    refine g_aload_n 3 (n := 25) ok dX7_saw_24 rfl rfl ?_
    refine fg_X7_X7_table (n := 28) 0 rfl ok dX7_saw_25 rfl ?_
    refine fg_X7_X5_legs (n := 31) 1 rfl ok dX7_saw_28 rfl ?_
    refine g_iload_n 0 (n := 32) ok dX7_saw_31 rfl rfl ?_
    obtain ⟨h32, h⟩ := h
    refine g_aald (c := 3) (t0 := 1) (a := v.1 (3 + 1 + r3.toNatClampNeg)) (n := 33) ok (lt3 rfl) (sh3 rfl _) rfl h32 rfl dX7_saw_32 rfl ?_
    refine g_iload_n 1 (n := 34) ok dX7_saw_33 rfl rfl ?_
    refine g_callVNv (n := 37) (As := [.int z2]) (rest := []) (c := (3 + 1 + r3.toNatClampNeg)) ok (c_X0_shorten l v (3 + 1 + r3.toNatClampNeg) (kdE3 rfl h32) z2 S3 _ h) cal_X0_shorten tw_592 tw_594 tp_45 (lt4 (kdE3 rfl h32)) (sh4 (kdE3 rfl h32) _) rfl (by decide) (by decide) rfl (Nat.le_of_ble_eq_true rfl) dX7_saw_34 rfl rfl (fun S4 h => ?_)
    refine g_aload_n 3 (n := 38) ok dX7_saw_37 rfl rfl ?_
    refine fg_X7_X7_table (n := 41) 0 rfl ok dX7_saw_38 rfl ?_
    refine fg_X7_X5_legs (n := 44) 1 rfl ok dX7_saw_41 rfl ?_
    refine g_iload_n 0 (n := 45) ok dX7_saw_44 rfl rfl ?_
    refine g_iconst (v := 2) (n := 46) ok dX7_saw_45 rfl (by decide) ?_
    refine g_iadd (n := 47) ok dX7_saw_46 rfl ?_
    obtain ⟨h47, h⟩ := h
    refine g_aald (c := 3) (t0 := 1) (a := v.1 (3 + 1 + (r3 + (2 : Int32)).toNatClampNeg)) (n := 48) ok (lt3 rfl) (sh3 rfl _) rfl h47 rfl dX7_saw_47 rfl ?_
    refine g_iload_n 2 (n := 49) ok dX7_saw_48 rfl rfl ?_
    refine g_iload_n 1 (n := 50) ok dX7_saw_49 rfl rfl ?_
    refine g_isub (n := 51) ok dX7_saw_50 rfl ?_
    refine g_callVNv (n := 54) (As := [.int (r1 - z2)]) (rest := []) (c := (3 + 1 + (r3 + (2 : Int32)).toNatClampNeg)) ok (c_X0_shorten l v (3 + 1 + (r3 + (2 : Int32)).toNatClampNeg) (kdE3 rfl h47) (r1 - z2) S4 _ h) cal_X0_shorten tw_592 tw_594 tp_45 (lt4 (kdE3 rfl h47)) (sh4 (kdE3 rfl h47) _) rfl (by decide) (by decide) rfl (Nat.le_of_ble_eq_true rfl) dX7_saw_51 rfl rfl (fun S5 h => ?_)
    refine g_aload_n 3 (n := 55) ok dX7_saw_54 rfl rfl ?_
    refine g_callVi (n := 58) (As := []) (rest := []) (c := 0) ok (c_X7_rockHere l v  S5 _ h) cal_X7_rockHere tw_578 tw_580 tp_44 (lt0 rfl) (sh0 rfl _) rfl (by decide) (by decide) rfl (Nat.le_of_ble_eq_true rfl) dX7_saw_55 rfl rfl (fun r6 S6 h => ?_)
    exact g_iret ok he h dX7_saw_58
  · replace h := h.2 e7
    refine g_bipush (v := -3) (n := 11) ok dX7_saw_9 rfl (by decide) ?_
    exact g_iret ok he h dX7_saw_11
def w_X7_screwStep_4 (post : Int32 → Mem → Prop) : Nat → Int32 → Int32 → Int32 → Mem → Prop
  | 0, _, _, _, _ => False
  | n + 1, x1, x2, x3, S => ((x1 ≤ x3 → post ((jrem x2 (7 : Int32)) - (3 : Int32)) S) ∧ (¬ x1 ≤ x3 → (∀ z1 : Int32, z1 = x2 / (7 : Int32) → (∀ z2 : Int32, z2 = x3 + 1 → w_X7_screwStep_4 post n x1 z1 z2 S))))
set_option maxHeartbeats 4000000 in
set_option maxRecDepth 20000 in
theorem b_X7_screwStep_4 {v : VxT} {l : Launch} {g : CxT} (ok : Ok l g (oX v) 4 cX7_screwStep RX7 (some .int)) {post : Int32 → Mem → Prop} (he : EndQ g (oX v) (va_Qi post (fun S1 t => BX (oX v) S1 t) (AX (oX v)))) : ∀ (n : Nat) (x1 : Int32) (x2 : Int32) (x3 : Int32) (S : Mem), w_X7_screwStep_4 post n x1 x2 x3 S → G g (oX v) 1 4 4 [(1, .int x1), (2, .int x2), (3, .int x3)] [] S := by
  intro n
  induction n with
  | zero =>
    intro x1 x2 x3 S h
    exact h.elim
  | succ n ih =>
    intro x1 x2 x3 S h
    rw [w_X7_screwStep_4] at h
    refine g_iload_n 2 (n := 5) ok dX7_screwStep_4 rfl rfl ?_
    refine g_iload_n 0 (n := 6) ok dX7_screwStep_5 rfl rfl ?_
    refine g_icmp_ge (t := 20) (n := 9) ok dX7_screwStep_6 (by decide) rfl (fun e3 => ?_) (fun e3 => ?_)
    · replace h := h.1 e3
      refine g_iload_n 1 (n := 21) ok dX7_screwStep_20 rfl rfl ?_
      refine g_bipush (v := 7) (n := 23) ok dX7_screwStep_21 rfl (by decide) ?_
      refine g_irem (n := 24) ok dX7_screwStep_23 rfl (by decide) ?_
      refine g_iconst (v := 3) (n := 25) ok dX7_screwStep_24 rfl (by decide) ?_
      refine g_isub (n := 26) ok dX7_screwStep_25 rfl ?_
      exact g_iret ok he h dX7_screwStep_26
    · replace h := h.2 e3
      refine g_iload_n 1 (n := 10) ok dX7_screwStep_9 rfl rfl ?_
      refine g_bipush (v := 7) (n := 12) ok dX7_screwStep_10 rfl (by decide) ?_
      refine g_idiv (n := 13) ok dX7_screwStep_12 rfl (by decide) ?_
      refine g_topi (fun z1 ez1 => ?_)
      replace h := h z1 ez1
      refine g_istore_n [(2, .int z1), (1, .int x1), (3, .int x3)] (n := 14) ok dX7_screwStep_13 rfl (by decide) rfl ?_
      obtain ⟨z2, ez2⟩ : ∃ y : Int32, y = x3 + 1 := ⟨_, rfl⟩
      replace h := h z2 ez2
      refine g_iinc 2 [(3, .int z2), (2, .int z1), (1, .int x1)] (v := z2) (n := 17) ok dX7_screwStep_14 rfl rfl (by rw [ez2]; rfl) (by decide) rfl ?_
      refine g_goto (t := 4) ok dX7_screwStep_17 (by decide) ?_
      exact g_sub [2, 1, 0] rfl (ih x1 z1 z2 S h)
def w_X7_screwStep (p0 : Int32) (p1 : Int32) (S : Mem) (post : Int32 → Mem → Prop) : Prop := ∃ n, w_X7_screwStep_4 post n p1 p0 (0 : Int32) S
set_option maxHeartbeats 4000000 in
set_option maxRecDepth 20000 in
theorem c_X7_screwStep (l : Launch) (v : VxT) (p0 : Int32) (p1 : Int32) (S : Mem) (post : Int32 → Mem → Prop) (h : w_X7_screwStep p0 p1 S post) : MI l yX7_screwStep cX7_screwStep 4 (some .int) 1 (oX v) [.int p0, .int p1] S post := by
  refine met_start (by decide +kernel) (Nat.le_of_ble_eq_true rfl) (fun g ok he => ?_)
  refine g_eq (L' := [(0, .int p0), (1, .int p1)]) (st' := []) ?_ rfl rfl
  unfold w_X7_screwStep at h
  refine g_iload_n 0 (n := 1) ok dX7_screwStep_0 rfl rfl ?_
  refine g_istore_n [(2, .int p0), (0, .int p0), (1, .int p1)] (n := 2) ok dX7_screwStep_1 rfl (by decide) rfl ?_
  refine g_iconst (v := 0) (n := 3) ok dX7_screwStep_2 rfl (by decide) ?_
  refine g_istore_n [(3, .int (0 : Int32)), (2, .int p0), (0, .int p0), (1, .int p1)] (n := 4) ok dX7_screwStep_3 rfl (by decide) rfl ?_
  obtain ⟨n0, h⟩ := h
  exact g_sub [3, 1, 0] rfl (b_X7_screwStep_4 ok he n0 p1 p0 (0 : Int32) S h)
def w_X7_screwSum_40 (K4 : Int32 → Int32 → Int32 → Mem → Prop) (post : Int32 → Mem → Prop) (x1 : Int32) (x2 : Int32) (x3 : Int32) (x4 : Int32) (S : Mem) : Prop := (∀ z1 : Int32, z1 = x2 + (jabs x4) → (∀ z2 : Int32, z2 = x3 + 1 → K4 x1 z1 z2 S))
set_option maxHeartbeats 4000000 in
set_option maxRecDepth 20000 in
theorem b_X7_screwSum_40 {v : VxT} {l : Launch} {g : CxT} {K4 : Int32 → Int32 → Int32 → Mem → Prop} (ok : Ok l g (oX v) 5 cX7_screwSum RX7 (some .int)) (hK4 : ∀ (x1 : Int32) (x2 : Int32) (x3 : Int32) (S : Mem), K4 x1 x2 x3 S → G g (oX v) 5 5 4 [(0, .ref (v.1 0)), (1, .int x1), (2, .int x2), (3, .int x3)] [] S) {post : Int32 → Mem → Prop} (he : EndQ g (oX v) (va_Qi post (fun S1 t => BX (oX v) S1 t) (AX (oX v)))) (x1 : Int32) (x2 : Int32) (x3 : Int32) (x4 : Int32) (S : Mem) (h : w_X7_screwSum_40 K4 post x1 x2 x3 x4 S) : G g (oX v) 5 5 40 [(0, .ref (v.1 0)), (1, .int x1), (2, .int x2), (3, .int x3), (4, .int x4)] [] S := by
  unfold w_X7_screwSum_40 at h
  refine g_iload_n 2 (n := 41) ok dX7_screwSum_40 rfl rfl ?_
  refine g_iload 4 (n := 43) ok dX7_screwSum_41 rfl rfl ?_
  refine g_mabs (n := 46) ok tw_619 tw_474 tw_15 tw_475 (by decide) (Nat.le_of_ble_eq_true rfl) dX7_screwSum_43 rfl ?_
  refine g_iadd (n := 47) ok dX7_screwSum_46 rfl ?_
  refine g_topi (fun z1 ez1 => ?_)
  replace h := h z1 ez1
  refine g_istore_n [(2, .int z1), (0, .ref (v.1 0)), (1, .int x1), (3, .int x3), (4, .int x4)] (n := 48) ok dX7_screwSum_47 rfl (by decide) rfl ?_
  obtain ⟨z2, ez2⟩ : ∃ y : Int32, y = x3 + 1 := ⟨_, rfl⟩
  replace h := h z2 ez2
  refine g_iinc 3 [(3, .int z2), (2, .int z1), (0, .ref (v.1 0)), (1, .int x1), (4, .int x4)] (v := z2) (n := 51) ok dX7_screwSum_48 rfl rfl (by rw [ez2]; rfl) (by decide) rfl ?_
  refine g_goto (t := 4) ok dX7_screwSum_51 (by decide) ?_
  exact g_sub [2, 3, 1, 0] rfl (hK4 x1 z1 z2 S h)
def w_X7_screwSum_64 (post : Int32 → Mem → Prop) (y0 : Int32) (S : Mem) : Prop := post y0 S
set_option maxHeartbeats 4000000 in
set_option maxRecDepth 20000 in
theorem b_X7_screwSum_64 {v : VxT} {l : Launch} {g : CxT} (ok : Ok l g (oX v) 5 cX7_screwSum RX7 (some .int)) {post : Int32 → Mem → Prop} (he : EndQ g (oX v) (va_Qi post (fun S1 t => BX (oX v) S1 t) (AX (oX v)))) (y0 : Int32) (S : Mem) (h : w_X7_screwSum_64 post y0 S) : G g (oX v) 5 5 64 [] [.int y0] S := by
  unfold w_X7_screwSum_64 at h
  exact g_iret ok he h dX7_screwSum_64
def w_X7_screwSum_4 (post : Int32 → Mem → Prop) : Nat → Int32 → Int32 → Int32 → Mem → Prop
  | 0, _, _, _, _ => False
  | n + 1, x1, x2, x3, S => (((4 : Int32) ≤ x3 → (((4 : Int32) < x2 → w_X7_screwSum_64 post (-1 : Int32) S) ∧ (¬ (4 : Int32) < x2 → w_X7_screwSum_64 post x2 S))) ∧ (¬ (4 : Int32) ≤ x3 → w_X7_screwStep x1 x3 S (fun r2 S2 => ((r2 = 0 → w_X7_screwSum_40 (w_X7_screwSum_4 post n) post x1 x2 x3 r2 S2) ∧ (¬ r2 = 0 → (vp_in x3 4 ∧ w_X0_canScrew (3 + 1 + x3.toNatClampNeg) r2 S2 (fun r3 S3 => ((¬ r3 = 0 → w_X7_screwSum_40 (w_X7_screwSum_4 post n) post x1 x2 x3 r2 S3) ∧ (r3 = 0 → post (-1 : Int32) S3)))))))))
set_option maxHeartbeats 4000000 in
set_option maxRecDepth 20000 in
theorem b_X7_screwSum_4 {v : VxT} {l : Launch} {g : CxT} (ok : Ok l g (oX v) 5 cX7_screwSum RX7 (some .int)) {post : Int32 → Mem → Prop} (he : EndQ g (oX v) (va_Qi post (fun S1 t => BX (oX v) S1 t) (AX (oX v)))) : ∀ (n : Nat) (x1 : Int32) (x2 : Int32) (x3 : Int32) (S : Mem), w_X7_screwSum_4 post n x1 x2 x3 S → G g (oX v) 5 5 4 [(0, .ref (v.1 0)), (1, .int x1), (2, .int x2), (3, .int x3)] [] S := by
  intro n
  induction n with
  | zero =>
    intro x1 x2 x3 S h
    exact h.elim
  | succ n ih =>
    intro x1 x2 x3 S h
    rw [w_X7_screwSum_4] at h
    refine g_iload_n 3 (n := 5) ok dX7_screwSum_4 rfl rfl ?_
    refine g_iconst (v := 4) (n := 6) ok dX7_screwSum_5 rfl (by decide) ?_
    refine g_icmp_ge (t := 54) (n := 9) ok dX7_screwSum_6 (by decide) rfl (fun e6 => ?_) (fun e6 => ?_)
    · replace h := h.1 e6
      refine g_iload_n 2 (n := 55) ok dX7_screwSum_54 rfl rfl ?_
      refine g_iconst (v := 4) (n := 56) ok dX7_screwSum_55 rfl (by decide) ?_
      refine g_icmp_gt (t := 63) (n := 59) ok dX7_screwSum_56 (by decide) rfl (fun e1 => ?_) (fun e1 => ?_)
      · replace h := h.1 e1
        refine g_iconst (v := -1) (n := 64) ok dX7_screwSum_63 rfl (by decide) ?_
        exact g_sub [] rfl (b_X7_screwSum_64 ok he (-1 : Int32) S h)
      · replace h := h.2 e1
        refine g_iload_n 2 (n := 60) ok dX7_screwSum_59 rfl rfl ?_
        refine g_goto (t := 64) ok dX7_screwSum_60 (by decide) ?_
        exact g_sub [] rfl (b_X7_screwSum_64 ok he x2 S h)
    · replace h := h.2 e6
      refine g_iload_n 1 (n := 10) ok dX7_screwSum_9 rfl rfl ?_
      refine g_iload_n 3 (n := 11) ok dX7_screwSum_10 rfl rfl ?_
      refine g_callSi (n := 14) (As := [.int x1, .int x3]) (rest := []) ok (c_X7_screwStep l v x1 x3 S _ h) cal_X7_screwStep tw_604 tw_605 (by decide) (by decide) rfl (Nat.le_of_ble_eq_true rfl) dX7_screwSum_11 rfl rfl (fun r2 S2 h => ?_)
      refine g_istore [(4, .int r2), (0, .ref (v.1 0)), (1, .int x1), (2, .int x2), (3, .int x3)] (n := 16) ok dX7_screwSum_14 rfl (by decide) rfl ?_
      refine g_iload 0 (n := 18) ok dX7_screwSum_16 rfl rfl ?_
      refine g_if_eq (t := 40) (n := 21) ok dX7_screwSum_18 (by decide) rfl (fun e5 => ?_) (fun e5 => ?_)
      · replace h := h.1 e5
        exact g_sub [1, 2, 3, 4, 0] rfl (b_X7_screwSum_40 ok ih he x1 x2 x3 r2 S2 h)
      · replace h := h.2 e5
        refine g_aload_n 1 (n := 22) ok dX7_screwSum_21 rfl rfl ?_
        refine fg_X7_X7_table (n := 25) 0 rfl ok dX7_screwSum_22 rfl ?_
        refine fg_X7_X5_legs (n := 28) 1 rfl ok dX7_screwSum_25 rfl ?_
        refine g_iload_n 4 (n := 29) ok dX7_screwSum_28 rfl rfl ?_
        obtain ⟨h29, h⟩ := h
        refine g_aald (c := 3) (t0 := 1) (a := v.1 (3 + 1 + x3.toNatClampNeg)) (n := 30) ok (lt3 rfl) (sh3 rfl _) rfl h29 rfl dX7_screwSum_29 rfl ?_
        refine g_iload 0 (n := 32) ok dX7_screwSum_30 rfl rfl ?_
        refine g_callVNi (n := 35) (As := [.int r2]) (rest := []) (c := (3 + 1 + x3.toNatClampNeg)) ok (c_X0_canScrew l v (3 + 1 + x3.toNatClampNeg) (kdE3 rfl h29) r2 S2 _ h) cal_X0_canScrew tw_607 tw_609 tp_47 (lt4 (kdE3 rfl h29)) (sh4 (kdE3 rfl h29) _) rfl (by decide) (by decide) rfl (Nat.le_of_ble_eq_true rfl) dX7_screwSum_32 rfl rfl (fun r3 S3 h => ?_)
        refine g_if_ne (t := 40) (n := 38) ok dX7_screwSum_35 (by decide) rfl (fun e4 => ?_) (fun e4 => ?_)
        · replace h := h.1 e4
          exact g_sub [1, 2, 3, 4, 0] rfl (b_X7_screwSum_40 ok ih he x1 x2 x3 r2 S3 h)
        · replace h := h.2 e4
          refine g_iconst (v := -1) (n := 39) ok dX7_screwSum_38 rfl (by decide) ?_
          exact g_iret ok he h dX7_screwSum_39
def w_X7_screwSum (p1 : Int32) (S : Mem) (post : Int32 → Mem → Prop) : Prop := ∃ n, w_X7_screwSum_4 post n p1 (0 : Int32) (0 : Int32) S
set_option maxHeartbeats 4000000 in
set_option maxRecDepth 20000 in
theorem c_X7_screwSum (l : Launch) (v : VxT) (p1 : Int32) (S : Mem) (post : Int32 → Mem → Prop) (h : w_X7_screwSum p1 S post) : MI l yX7_screwSum cX7_screwSum 5 (some .int) 5 (oX v) [.ref (v.1 0), .int p1] S post := by
  refine met_start (by decide +kernel) (Nat.le_of_ble_eq_true rfl) (fun g ok he => ?_)
  refine g_eq (L' := [(0, .ref (v.1 0)), (1, .int p1)]) (st' := []) ?_ rfl rfl
  unfold w_X7_screwSum at h
  refine g_iconst (v := 0) (n := 1) ok dX7_screwSum_0 rfl (by decide) ?_
  refine g_istore_n [(2, .int (0 : Int32)), (0, .ref (v.1 0)), (1, .int p1)] (n := 2) ok dX7_screwSum_1 rfl (by decide) rfl ?_
  refine g_iconst (v := 0) (n := 3) ok dX7_screwSum_2 rfl (by decide) ?_
  refine g_istore_n [(3, .int (0 : Int32)), (2, .int (0 : Int32)), (0, .ref (v.1 0)), (1, .int p1)] (n := 4) ok dX7_screwSum_3 rfl (by decide) rfl ?_
  obtain ⟨n0, h⟩ := h
  exact g_sub [2, 3, 1, 0] rfl (b_X7_screwSum_4 ok he n0 p1 (0 : Int32) (0 : Int32) S h)
def w_X7_screwAll_2 (post : Mem → Prop) : Nat → Int32 → Int32 → Int32 → Mem → Prop
  | 0, _, _, _, _ => False
  | n + 1, x1, x2, x3, S => (((4 : Int32) ≤ x3 → post S) ∧ (¬ (4 : Int32) ≤ x3 → (vp_in x3 4 ∧ w_X7_screwStep x1 x3 S (fun r1 S1 => (∀ S2 : Mem, S2 = mset S1 (3 + 1 + x3.toNatClampNeg) (upd (S1 (3 + 1 + x3.toNatClampNeg)) 2 ((S (3 + 1 + x3.toNatClampNeg) 2) + (x2 * r1))) → (∀ z3 : Int32, z3 = x3 + 1 → w_X7_screwAll_2 post n x1 x2 z3 S2))))))
set_option maxHeartbeats 4000000 in
set_option maxRecDepth 20000 in
theorem b_X7_screwAll_2 {v : VxT} {l : Launch} {g : CxT} (ok : Ok l g (oX v) 4 cX7_screwAll RX7 none) {post : Mem → Prop} (he : EndQ g (oX v) (va_Qv post (fun S1 t => BX (oX v) S1 t) (AX (oX v)))) : ∀ (n : Nat) (x1 : Int32) (x2 : Int32) (x3 : Int32) (S : Mem), w_X7_screwAll_2 post n x1 x2 x3 S → G g (oX v) 2 4 2 [(0, .ref (v.1 0)), (1, .int x1), (2, .int x2), (3, .int x3)] [] S := by
  intro n
  induction n with
  | zero =>
    intro x1 x2 x3 S h
    exact h.elim
  | succ n ih =>
    intro x1 x2 x3 S h
    rw [w_X7_screwAll_2] at h
    refine g_iload_n 3 (n := 3) ok dX7_screwAll_2 rfl rfl ?_
    refine g_iconst (v := 4) (n := 4) ok dX7_screwAll_3 rfl (by decide) ?_
    refine g_icmp_ge (t := 37) (n := 7) ok dX7_screwAll_4 (by decide) rfl (fun e4 => ?_) (fun e4 => ?_)
    · replace h := h.1 e4
      exact g_vret ok he h dX7_screwAll_37
    · replace h := h.2 e4
      refine g_aload_n 0 (n := 8) ok dX7_screwAll_7 rfl rfl ?_
      refine fg_X7_X7_table (n := 11) 0 rfl ok dX7_screwAll_8 rfl ?_
      refine fg_X7_X5_legs (n := 14) 1 rfl ok dX7_screwAll_11 rfl ?_
      refine g_iload_n 3 (n := 15) ok dX7_screwAll_14 rfl rfl ?_
      obtain ⟨h15, h⟩ := h
      refine g_aald (c := 3) (t0 := 1) (a := v.1 (3 + 1 + x3.toNatClampNeg)) (n := 16) ok (lt3 rfl) (sh3 rfl _) rfl h15 rfl dX7_screwAll_15 rfl ?_
      refine g_dup (n := 17) ok dX7_screwAll_16 rfl rfl ?_
      refine fg_X7_X0_number (n := 20) (3 + 1 + x3.toNatClampNeg) (kdE3 rfl h15) ok dX7_screwAll_17 rfl ?_
      refine g_iload_n 2 (n := 21) ok dX7_screwAll_20 rfl rfl ?_
      refine g_iload_n 1 (n := 22) ok dX7_screwAll_21 rfl rfl ?_
      refine g_iload_n 3 (n := 23) ok dX7_screwAll_22 rfl rfl ?_
      refine g_callSi (n := 26) (As := [.int x1, .int x3]) (rest := [.int x2, .int (S (3 + 1 + x3.toNatClampNeg) 2), .ref (v.1 (3 + 1 + x3.toNatClampNeg))]) ok (c_X7_screwStep l v x1 x3 S _ h) cal_X7_screwStep tw_604 tw_605 (by decide) (by decide) rfl (Nat.le_of_ble_eq_true rfl) dX7_screwAll_23 rfl rfl (fun r1 S1 h => ?_)
      refine g_imul (n := 27) ok dX7_screwAll_26 rfl ?_
      refine g_iadd (n := 28) ok dX7_screwAll_27 rfl ?_
      refine fp_X7_X0_number (n := 31) (3 + 1 + x3.toNatClampNeg) (kdE3 rfl h15) ok dX7_screwAll_28 rfl ?_
      refine g_mem (fun S2 eS2 => ?_)
      replace h := h S2 eS2
      obtain ⟨z3, ez3⟩ : ∃ y : Int32, y = x3 + 1 := ⟨_, rfl⟩
      replace h := h z3 ez3
      refine g_iinc 3 [(3, .int z3), (0, .ref (v.1 0)), (1, .int x1), (2, .int x2)] (v := z3) (n := 34) ok dX7_screwAll_31 rfl rfl (by rw [ez3]; rfl) (by decide) rfl ?_
      refine g_goto (t := 2) ok dX7_screwAll_34 (by decide) ?_
      exact g_sub [1, 2, 3, 0] rfl (ih x1 x2 z3 S2 h)
def w_X7_screwAll (p1 : Int32) (p2 : Int32) (S : Mem) (post : Mem → Prop) : Prop := ∃ n, w_X7_screwAll_2 post n p1 p2 (0 : Int32) S
set_option maxHeartbeats 4000000 in
set_option maxRecDepth 20000 in
theorem c_X7_screwAll (l : Launch) (v : VxT) (p1 : Int32) (p2 : Int32) (S : Mem) (post : Mem → Prop) (h : w_X7_screwAll p1 p2 S post) : MV l yX7_screwAll cX7_screwAll 4 none 2 (oX v) [.ref (v.1 0), .int p1, .int p2] S post := by
  refine met_start (by decide +kernel) (Nat.le_of_ble_eq_true rfl) (fun g ok he => ?_)
  refine g_eq (L' := [(0, .ref (v.1 0)), (1, .int p1), (2, .int p2)]) (st' := []) ?_ rfl rfl
  unfold w_X7_screwAll at h
  refine g_iconst (v := 0) (n := 1) ok dX7_screwAll_0 rfl (by decide) ?_
  refine g_istore_n [(3, .int (0 : Int32)), (0, .ref (v.1 0)), (1, .int p1), (2, .int p2)] (n := 2) ok dX7_screwAll_1 rfl (by decide) rfl ?_
  obtain ⟨n0, h⟩ := h
  exact g_sub [1, 2, 3, 0] rfl (b_X7_screwAll_2 ok he n0 p1 p2 (0 : Int32) S h)
def w_X7_isFirmScrewed (p1 : Int32) (S : Mem) (post : Int32 → Mem → Prop) : Prop := w_X7_screwAll p1 (1 : Int32) S (fun S1 => w_X7_measure (S1 1 2) (S1 1 4) S1 (fun S2 => w_X7_screwAll p1 (-1 : Int32) S2 (fun S3 => w_X4_isFirm  S3 (fun r4 S4 => (r4 = 0 ∨ r4 = 1) ∧ post r4 S4))))
set_option maxHeartbeats 4000000 in
set_option maxRecDepth 20000 in
theorem c_X7_isFirmScrewed (l : Launch) (v : VxT) (p1 : Int32) (S : Mem) (post : Int32 → Mem → Prop) (h : w_X7_isFirmScrewed p1 S post) : MI l yX7_isFirmScrewed cX7_isFirmScrewed 2 (some .boolean) 7 (oX v) [.ref (v.1 0), .int p1] S post := by
  refine met_start (by decide +kernel) (Nat.le_of_ble_eq_true rfl) (fun g ok he => ?_)
  refine g_eq (L' := [(0, .ref (v.1 0)), (1, .int p1)]) (st' := []) ?_ rfl rfl
  unfold w_X7_isFirmScrewed at h
  refine g_aload_n 0 (n := 1) ok dX7_isFirmScrewed_0 rfl rfl ?_
  refine g_iload_n 1 (n := 2) ok dX7_isFirmScrewed_1 rfl rfl ?_
  refine g_iconst (v := 1) (n := 3) ok dX7_isFirmScrewed_2 rfl (by decide) ?_
  refine g_callVv (n := 6) (As := [.int p1, .int (1 : Int32)]) (rest := []) (c := 0) ok (c_X7_screwAll l v p1 (1 : Int32) S _ h) cal_X7_screwAll tw_624 tw_626 tp_50 (lt0 rfl) (sh0 rfl _) rfl (by decide) (by decide) rfl (Nat.le_of_ble_eq_true rfl) dX7_isFirmScrewed_3 rfl rfl (fun S1 h => ?_)
  refine g_aload_n 0 (n := 7) ok dX7_isFirmScrewed_6 rfl rfl ?_
  refine g_aload_n 0 (n := 8) ok dX7_isFirmScrewed_7 rfl rfl ?_
  refine fg_X7_X7_table (n := 11) 0 rfl ok dX7_isFirmScrewed_8 rfl ?_
  refine fg_X7_X5_place (n := 14) 1 rfl ok dX7_isFirmScrewed_11 rfl ?_
  refine g_aload_n 0 (n := 15) ok dX7_isFirmScrewed_14 rfl rfl ?_
  refine fg_X7_X7_table (n := 18) 0 rfl ok dX7_isFirmScrewed_15 rfl ?_
  refine fg_X7_X5_turn (n := 21) 1 rfl ok dX7_isFirmScrewed_18 rfl ?_
  refine g_callVv (n := 24) (As := [.int (S1 1 2), .int (S1 1 4)]) (rest := []) (c := 0) ok (c_X7_measure l v (S1 1 2) (S1 1 4) S1 _ h) cal_X7_measure tw_460 tw_462 tp_26 (lt0 rfl) (sh0 rfl _) rfl (by decide) (by decide) rfl (Nat.le_of_ble_eq_true rfl) dX7_isFirmScrewed_21 rfl rfl (fun S2 h => ?_)
  refine g_aload_n 0 (n := 25) ok dX7_isFirmScrewed_24 rfl rfl ?_
  refine g_iload_n 1 (n := 26) ok dX7_isFirmScrewed_25 rfl rfl ?_
  refine g_iconst (v := -1) (n := 27) ok dX7_isFirmScrewed_26 rfl (by decide) ?_
  refine g_callVv (n := 30) (As := [.int p1, .int (-1 : Int32)]) (rest := []) (c := 0) ok (c_X7_screwAll l v p1 (-1 : Int32) S2 _ h) cal_X7_screwAll tw_624 tw_626 tp_50 (lt0 rfl) (sh0 rfl _) rfl (by decide) (by decide) rfl (Nat.le_of_ble_eq_true rfl) dX7_isFirmScrewed_27 rfl rfl (fun S3 h => ?_)
  refine g_aload_n 0 (n := 31) ok dX7_isFirmScrewed_30 rfl rfl ?_
  refine fg_X7_X7_stand (n := 34) 0 rfl ok dX7_isFirmScrewed_31 rfl ?_
  refine g_callVNi (n := 37) (As := []) (rest := []) (c := 39) ok (c_X4_isFirm l v  S3 _ h) cal_X4_isFirm tw_552 tw_554 tp_42 (lt10 rfl) (sh10 rfl _) rfl (by decide) (by decide) rfl (Nat.le_of_ble_eq_true rfl) dX7_isFirmScrewed_34 rfl rfl (fun r4 S4 h => ?_)
  exact g_zret ok he h.1 h.2 dX7_isFirmScrewed_37
def w_X7_screwed_54 (K4 : Int32 → Int32 → Mem → Prop) (post : Int32 → Mem → Prop) (x1 : Int32) (x2 : Int32) (S : Mem) : Prop := (∀ z1 : Int32, z1 = x2 + 1 → K4 x1 z1 S)
set_option maxHeartbeats 4000000 in
set_option maxRecDepth 20000 in
theorem b_X7_screwed_54 {v : VxT} {l : Launch} {g : CxT} {K4 : Int32 → Int32 → Mem → Prop} (ok : Ok l g (oX v) 5 cX7_screwed RX7 (some .int)) (hK4 : ∀ (x1 : Int32) (x2 : Int32) (S : Mem), K4 x1 x2 S → G g (oX v) 8 5 4 [(0, .ref (v.1 0)), (1, .int x1), (2, .int x2)] [] S) {post : Int32 → Mem → Prop} (he : EndQ g (oX v) (va_Qi post (fun S1 t => BX (oX v) S1 t) (AX (oX v)))) (x1 : Int32) (x2 : Int32) (S : Mem) (h : w_X7_screwed_54 K4 post x1 x2 S) : G g (oX v) 8 5 54 [(0, .ref (v.1 0)), (1, .int x1), (2, .int x2)] [] S := by
  unfold w_X7_screwed_54 at h
  obtain ⟨z1, ez1⟩ : ∃ y : Int32, y = x2 + 1 := ⟨_, rfl⟩
  replace h := h z1 ez1
  refine g_iinc 2 [(2, .int z1), (0, .ref (v.1 0)), (1, .int x1)] (v := z1) (n := 57) ok dX7_screwed_54 rfl rfl (by rw [ez1]; rfl) (by decide) rfl ?_
  refine g_goto (t := 4) ok dX7_screwed_57 (by decide) ?_
  exact g_sub [1, 2, 0] rfl (hK4 x1 z1 S h)
def w_X7_screwed_37 (K4 : Int32 → Int32 → Mem → Prop) (post : Int32 → Mem → Prop) (x1 : Int32) (x2 : Int32) (x3 : Int32) (y0 : Int32) (S : Mem) : Prop := ((y0 = 0 → w_X7_screwed_54 K4 post x1 x2 S) ∧ (¬ y0 = 0 → w_X7_isFirmScrewed x2 S (fun r1 S1 => ((r1 = 0 → w_X7_screwed_54 K4 post x1 x2 S1) ∧ (¬ r1 = 0 → w_X7_screwed_54 K4 post x3 x2 S1)))))
set_option maxHeartbeats 4000000 in
set_option maxRecDepth 20000 in
theorem b_X7_screwed_37 {v : VxT} {l : Launch} {g : CxT} {K4 : Int32 → Int32 → Mem → Prop} (ok : Ok l g (oX v) 5 cX7_screwed RX7 (some .int)) (hK4 : ∀ (x1 : Int32) (x2 : Int32) (S : Mem), K4 x1 x2 S → G g (oX v) 8 5 4 [(0, .ref (v.1 0)), (1, .int x1), (2, .int x2)] [] S) {post : Int32 → Mem → Prop} (he : EndQ g (oX v) (va_Qi post (fun S1 t => BX (oX v) S1 t) (AX (oX v)))) (x1 : Int32) (x2 : Int32) (x3 : Int32) (y0 : Int32) (S : Mem) (h : w_X7_screwed_37 K4 post x1 x2 x3 y0 S) : G g (oX v) 8 5 37 [(0, .ref (v.1 0)), (1, .int x1), (2, .int x2), (3, .int x3)] [.int y0] S := by
  unfold w_X7_screwed_37 at h
  refine g_istore [(4, .int y0), (0, .ref (v.1 0)), (1, .int x1), (2, .int x2), (3, .int x3)] (n := 39) ok dX7_screwed_37 rfl (by decide) rfl ?_
  refine g_iload 0 (n := 41) ok dX7_screwed_39 rfl rfl ?_
  refine g_if_eq (t := 54) (n := 44) ok dX7_screwed_41 (by decide) rfl (fun e3 => ?_) (fun e3 => ?_)
  · replace h := h.1 e3
    exact g_sub [1, 2, 3] rfl (b_X7_screwed_54 ok hK4 he x1 x2 S h)
  · replace h := h.2 e3
    refine g_aload_n 1 (n := 45) ok dX7_screwed_44 rfl rfl ?_
    refine g_iload_n 3 (n := 46) ok dX7_screwed_45 rfl rfl ?_
    refine g_callVi (n := 49) (As := [.int x2]) (rest := []) (c := 0) ok (c_X7_isFirmScrewed l v x2 S _ h) cal_X7_isFirmScrewed tw_620 tw_622 tp_49 (lt0 rfl) (sh0 rfl _) rfl (by decide) (by decide) rfl (Nat.le_of_ble_eq_true rfl) dX7_screwed_46 rfl rfl (fun r1 S1 h => ?_)
    refine g_if_eq (t := 54) (n := 52) ok dX7_screwed_49 (by decide) rfl (fun e2 => ?_) (fun e2 => ?_)
    · replace h := h.1 e2
      exact g_sub [1, 2, 3] rfl (b_X7_screwed_54 ok hK4 he x1 x2 S1 h)
    · replace h := h.2 e2
      refine g_iload_n 4 (n := 53) ok dX7_screwed_52 rfl rfl ?_
      refine g_istore_n [(1, .int x3), (4, .int y0), (0, .ref (v.1 0)), (2, .int x2), (3, .int x3)] (n := 54) ok dX7_screwed_53 rfl (by decide) rfl ?_
      exact g_sub [2, 0, 3] rfl (b_X7_screwed_54 ok hK4 he x3 x2 S1 h)
def w_X7_screwed_32 (K4 : Int32 → Int32 → Mem → Prop) (post : Int32 → Mem → Prop) (x1 : Int32) (x2 : Int32) (x3 : Int32) (S : Mem) : Prop := w_X7_screwed_37 K4 post x1 x2 x3 (1 : Int32) S
set_option maxHeartbeats 4000000 in
set_option maxRecDepth 20000 in
theorem b_X7_screwed_32 {v : VxT} {l : Launch} {g : CxT} {K4 : Int32 → Int32 → Mem → Prop} (ok : Ok l g (oX v) 5 cX7_screwed RX7 (some .int)) (hK4 : ∀ (x1 : Int32) (x2 : Int32) (S : Mem), K4 x1 x2 S → G g (oX v) 8 5 4 [(0, .ref (v.1 0)), (1, .int x1), (2, .int x2)] [] S) {post : Int32 → Mem → Prop} (he : EndQ g (oX v) (va_Qi post (fun S1 t => BX (oX v) S1 t) (AX (oX v)))) (x1 : Int32) (x2 : Int32) (x3 : Int32) (S : Mem) (h : w_X7_screwed_32 K4 post x1 x2 x3 S) : G g (oX v) 8 5 32 [(0, .ref (v.1 0)), (1, .int x1), (2, .int x2), (3, .int x3)] [] S := by
  unfold w_X7_screwed_32 at h
  refine g_iconst (v := 1) (n := 33) ok dX7_screwed_32 rfl (by decide) ?_
  refine g_goto (t := 37) ok dX7_screwed_33 (by decide) ?_
  exact g_sub [0, 1, 2, 3] rfl (b_X7_screwed_37 ok hK4 he x1 x2 x3 (1 : Int32) S h)
def w_X7_screwed_36 (K4 : Int32 → Int32 → Mem → Prop) (post : Int32 → Mem → Prop) (x1 : Int32) (x2 : Int32) (x3 : Int32) (S : Mem) : Prop := w_X7_screwed_37 K4 post x1 x2 x3 (0 : Int32) S
set_option maxHeartbeats 4000000 in
set_option maxRecDepth 20000 in
theorem b_X7_screwed_36 {v : VxT} {l : Launch} {g : CxT} {K4 : Int32 → Int32 → Mem → Prop} (ok : Ok l g (oX v) 5 cX7_screwed RX7 (some .int)) (hK4 : ∀ (x1 : Int32) (x2 : Int32) (S : Mem), K4 x1 x2 S → G g (oX v) 8 5 4 [(0, .ref (v.1 0)), (1, .int x1), (2, .int x2)] [] S) {post : Int32 → Mem → Prop} (he : EndQ g (oX v) (va_Qi post (fun S1 t => BX (oX v) S1 t) (AX (oX v)))) (x1 : Int32) (x2 : Int32) (x3 : Int32) (S : Mem) (h : w_X7_screwed_36 K4 post x1 x2 x3 S) : G g (oX v) 8 5 36 [(0, .ref (v.1 0)), (1, .int x1), (2, .int x2), (3, .int x3)] [] S := by
  unfold w_X7_screwed_36 at h
  refine g_iconst (v := 0) (n := 37) ok dX7_screwed_36 rfl (by decide) ?_
  exact g_sub [0, 1, 2, 3] rfl (b_X7_screwed_37 ok hK4 he x1 x2 x3 (0 : Int32) S h)
def w_X7_screwed_4 (post : Int32 → Mem → Prop) : Nat → Int32 → Int32 → Mem → Prop
  | 0, _, _, _ => False
  | n + 1, x1, x2, S => (((2401 : Int32) ≤ x2 → post x1 S) ∧ (¬ (2401 : Int32) ≤ x2 → w_X7_screwSum x2 S (fun r1 S1 => ((r1 = (-1 : Int32) → w_X7_screwed_36 (w_X7_screwed_4 post n) post x1 x2 r1 S1) ∧ (¬ r1 = (-1 : Int32) → ((x1 = (-1 : Int32) → w_X7_screwed_32 (w_X7_screwed_4 post n) post x1 x2 r1 S1) ∧ (¬ x1 = (-1 : Int32) → ((x1 ≤ r1 → w_X7_screwed_36 (w_X7_screwed_4 post n) post x1 x2 r1 S1) ∧ (¬ x1 ≤ r1 → w_X7_screwed_32 (w_X7_screwed_4 post n) post x1 x2 r1 S1)))))))))
set_option maxHeartbeats 4000000 in
set_option maxRecDepth 20000 in
theorem b_X7_screwed_4 {v : VxT} {l : Launch} {g : CxT} (ok : Ok l g (oX v) 5 cX7_screwed RX7 (some .int)) {post : Int32 → Mem → Prop} (he : EndQ g (oX v) (va_Qi post (fun S1 t => BX (oX v) S1 t) (AX (oX v)))) : ∀ (n : Nat) (x1 : Int32) (x2 : Int32) (S : Mem), w_X7_screwed_4 post n x1 x2 S → G g (oX v) 8 5 4 [(0, .ref (v.1 0)), (1, .int x1), (2, .int x2)] [] S := by
  intro n
  induction n with
  | zero =>
    intro x1 x2 S h
    exact h.elim
  | succ n ih =>
    intro x1 x2 S h
    rw [w_X7_screwed_4] at h
    refine g_iload_n 2 (n := 5) ok dX7_screwed_4 rfl rfl ?_
    refine g_sipush (v := 2401) (n := 8) ok dX7_screwed_5 rfl (by decide) ?_
    refine g_icmp_ge (t := 60) (n := 11) ok dX7_screwed_8 (by decide) rfl (fun e5 => ?_) (fun e5 => ?_)
    · replace h := h.1 e5
      refine g_iload_n 1 (n := 61) ok dX7_screwed_60 rfl rfl ?_
      exact g_iret ok he h dX7_screwed_61
    · replace h := h.2 e5
      refine g_aload_n 0 (n := 12) ok dX7_screwed_11 rfl rfl ?_
      refine g_iload_n 2 (n := 13) ok dX7_screwed_12 rfl rfl ?_
      refine g_callVi (n := 16) (As := [.int x2]) (rest := []) (c := 0) ok (c_X7_screwSum l v x2 S _ h) cal_X7_screwSum tw_600 tw_602 tp_46 (lt0 rfl) (sh0 rfl _) rfl (by decide) (by decide) rfl (Nat.le_of_ble_eq_true rfl) dX7_screwed_13 rfl rfl (fun r1 S1 h => ?_)
      refine g_istore_n [(3, .int r1), (0, .ref (v.1 0)), (1, .int x1), (2, .int x2)] (n := 17) ok dX7_screwed_16 rfl (by decide) rfl ?_
      refine g_iload_n 0 (n := 18) ok dX7_screwed_17 rfl rfl ?_
      refine g_iconst (v := -1) (n := 19) ok dX7_screwed_18 rfl (by decide) ?_
      refine g_icmp_eq (t := 36) (n := 22) ok dX7_screwed_19 (by decide) rfl (fun e4 => ?_) (fun e4 => ?_)
      · replace h := h.1 e4
        exact g_sub [1, 2, 3, 0] rfl (b_X7_screwed_36 ok ih he x1 x2 r1 S1 h)
      · replace h := h.2 e4
        refine g_iload_n 2 (n := 23) ok dX7_screwed_22 rfl rfl ?_
        refine g_iconst (v := -1) (n := 24) ok dX7_screwed_23 rfl (by decide) ?_
        refine g_icmp_eq (t := 32) (n := 27) ok dX7_screwed_24 (by decide) rfl (fun e3 => ?_) (fun e3 => ?_)
        · replace h := h.1 e3
          exact g_sub [1, 2, 3, 0] rfl (b_X7_screwed_32 ok ih he x1 x2 r1 S1 h)
        · replace h := h.2 e3
          refine g_iload_n 0 (n := 28) ok dX7_screwed_27 rfl rfl ?_
          refine g_iload_n 2 (n := 29) ok dX7_screwed_28 rfl rfl ?_
          refine g_icmp_ge (t := 36) (n := 32) ok dX7_screwed_29 (by decide) rfl (fun e2 => ?_) (fun e2 => ?_)
          · replace h := h.1 e2
            exact g_sub [1, 2, 3, 0] rfl (b_X7_screwed_36 ok ih he x1 x2 r1 S1 h)
          · replace h := h.2 e2
            exact g_sub [1, 2, 3, 0] rfl (b_X7_screwed_32 ok ih he x1 x2 r1 S1 h)
def w_X7_screwed (S : Mem) (post : Int32 → Mem → Prop) : Prop := ∃ n, w_X7_screwed_4 post n (-1 : Int32) (0 : Int32) S
set_option maxHeartbeats 4000000 in
set_option maxRecDepth 20000 in
theorem c_X7_screwed (l : Launch) (v : VxT) (S : Mem) (post : Int32 → Mem → Prop) (h : w_X7_screwed  S post) : MI l yX7_screwed cX7_screwed 5 (some .int) 8 (oX v) [.ref (v.1 0)] S post := by
  refine met_start (by decide +kernel) (Nat.le_of_ble_eq_true rfl) (fun g ok he => ?_)
  refine g_eq (L' := [(0, .ref (v.1 0))]) (st' := []) ?_ rfl rfl
  unfold w_X7_screwed at h
  refine g_iconst (v := -1) (n := 1) ok dX7_screwed_0 rfl (by decide) ?_
  refine g_istore_n [(1, .int (-1 : Int32)), (0, .ref (v.1 0))] (n := 2) ok dX7_screwed_1 rfl (by decide) rfl ?_
  refine g_iconst (v := 0) (n := 3) ok dX7_screwed_2 rfl (by decide) ?_
  refine g_istore_n [(2, .int (0 : Int32)), (1, .int (-1 : Int32)), (0, .ref (v.1 0))] (n := 4) ok dX7_screwed_3 rfl (by decide) rfl ?_
  obtain ⟨n0, h⟩ := h
  exact g_sub [2, 1, 0] rfl (b_X7_screwed_4 ok he n0 (-1 : Int32) (0 : Int32) S h)
def w_X7_gapAt (p1 : Int32) (S : Mem) (post : Int32 → Mem → Prop) : Prop := w_X7_measure (S 1 2) p1 S (fun S1 => post (S1 39 3) S1)
set_option maxHeartbeats 4000000 in
set_option maxRecDepth 20000 in
theorem c_X7_gapAt (l : Launch) (v : VxT) (p1 : Int32) (S : Mem) (post : Int32 → Mem → Prop) (h : w_X7_gapAt p1 S post) : MI l yX7_gapAt cX7_gapAt 2 (some .int) 7 (oX v) [.ref (v.1 0), .int p1] S post := by
  refine met_start (by decide +kernel) (Nat.le_of_ble_eq_true rfl) (fun g ok he => ?_)
  refine g_eq (L' := [(0, .ref (v.1 0)), (1, .int p1)]) (st' := []) ?_ rfl rfl
  unfold w_X7_gapAt at h
  refine g_aload_n 0 (n := 1) ok dX7_gapAt_0 rfl rfl ?_
  refine g_aload_n 0 (n := 2) ok dX7_gapAt_1 rfl rfl ?_
  refine fg_X7_X7_table (n := 5) 0 rfl ok dX7_gapAt_2 rfl ?_
  refine fg_X7_X5_place (n := 8) 1 rfl ok dX7_gapAt_5 rfl ?_
  refine g_iload_n 1 (n := 9) ok dX7_gapAt_8 rfl rfl ?_
  refine g_callVv (n := 12) (As := [.int (S 1 2), .int p1]) (rest := []) (c := 0) ok (c_X7_measure l v (S 1 2) p1 S _ h) cal_X7_measure tw_460 tw_462 tp_26 (lt0 rfl) (sh0 rfl _) rfl (by decide) (by decide) rfl (Nat.le_of_ble_eq_true rfl) dX7_gapAt_9 rfl rfl (fun S1 h => ?_)
  refine g_aload_n 0 (n := 13) ok dX7_gapAt_12 rfl rfl ?_
  refine fg_X7_X7_stand (n := 16) 0 rfl ok dX7_gapAt_13 rfl ?_
  refine fg_X7_X4_gap (n := 19) 39 rfl ok dX7_gapAt_16 rfl ?_
  exact g_iret ok he h dX7_gapAt_19
def w_X7_blame_56 (post : Int32 → Mem → Prop) (y0 : Int32) (S : Mem) : Prop := post y0 S
set_option maxHeartbeats 4000000 in
set_option maxRecDepth 20000 in
theorem b_X7_blame_56 {v : VxT} {l : Launch} {g : CxT} (ok : Ok l g (oX v) 4 cX7_blame RX7 (some .int)) {post : Int32 → Mem → Prop} (he : EndQ g (oX v) (va_Qi post (fun S1 t => BX (oX v) S1 t) (AX (oX v)))) (y0 : Int32) (S : Mem) (h : w_X7_blame_56 post y0 S) : G g (oX v) 8 4 56 [] [.int y0] S := by
  unfold w_X7_blame_56 at h
  exact g_iret ok he h dX7_blame_56
def w_X7_blame (p1 : Int32) (S : Mem) (post : Int32 → Mem → Prop) : Prop := w_X7_within p1 (0 : Int32) (1 : Int32) S (fun r1 S1 => ((¬ r1 = 0 → w_X7_gapAt (S1 1 4) S1 (fun r2 S2 => w_X7_round ((S2 1 4) + (2 : Int32)) S2 (fun r3 S3 => w_X7_gapAt r3 S3 (fun r4 S4 => (∀ z5 : Int32, z5 = (r2 + r4) / (2 : Int32) → ((¬ p1 = 0 → w_X7_blame_56 post (r2 - z5) S4) ∧ (p1 = 0 → w_X7_blame_56 post z5 S4))))))) ∧ (r1 = 0 → post (-100000 : Int32) S1)))
set_option maxHeartbeats 4000000 in
set_option maxRecDepth 20000 in
theorem c_X7_blame (l : Launch) (v : VxT) (p1 : Int32) (S : Mem) (post : Int32 → Mem → Prop) (h : w_X7_blame p1 S post) : MI l yX7_blame cX7_blame 4 (some .int) 8 (oX v) [.ref (v.1 0), .int p1] S post := by
  refine met_start (by decide +kernel) (Nat.le_of_ble_eq_true rfl) (fun g ok he => ?_)
  refine g_eq (L' := [(0, .ref (v.1 0)), (1, .int p1)]) (st' := []) ?_ rfl rfl
  unfold w_X7_blame at h
  refine g_iload_n 1 (n := 1) ok dX7_blame_0 rfl rfl ?_
  refine g_iconst (v := 0) (n := 2) ok dX7_blame_1 rfl (by decide) ?_
  refine g_iconst (v := 1) (n := 3) ok dX7_blame_2 rfl (by decide) ?_
  refine g_callSi (n := 6) (As := [.int p1, .int (0 : Int32), .int (1 : Int32)]) (rest := []) ok (c_X7_within l v p1 (0 : Int32) (1 : Int32) S _ h) cal_X7_within tw_373 tw_253 (by decide) (by decide) rfl (Nat.le_of_ble_eq_true rfl) dX7_blame_3 rfl rfl (fun r1 S1 h => ?_)
  refine g_if_ne (t := 12) (n := 9) ok dX7_blame_6 (by decide) rfl (fun e7 => ?_) (fun e7 => ?_)
  · replace h := h.1 e7
    refine g_aload_n 0 (n := 13) ok dX7_blame_12 rfl rfl ?_
    refine g_aload_n 0 (n := 14) ok dX7_blame_13 rfl rfl ?_
    refine fg_X7_X7_table (n := 17) 0 rfl ok dX7_blame_14 rfl ?_
    refine fg_X7_X5_turn (n := 20) 1 rfl ok dX7_blame_17 rfl ?_
    refine g_callVi (n := 23) (As := [.int (S1 1 4)]) (rest := []) (c := 0) ok (c_X7_gapAt l v (S1 1 4) S1 _ h) cal_X7_gapAt tw_632 tw_634 tp_51 (lt0 rfl) (sh0 rfl _) rfl (by decide) (by decide) rfl (Nat.le_of_ble_eq_true rfl) dX7_blame_20 rfl rfl (fun r2 S2 h => ?_)
    refine g_istore_n [(2, .int r2), (0, .ref (v.1 0)), (1, .int p1)] (n := 24) ok dX7_blame_23 rfl (by decide) rfl ?_
    refine g_iload_n 0 (n := 25) ok dX7_blame_24 rfl rfl ?_
    refine g_aload_n 1 (n := 26) ok dX7_blame_25 rfl rfl ?_
    refine g_aload_n 1 (n := 27) ok dX7_blame_26 rfl rfl ?_
    refine fg_X7_X7_table (n := 30) 0 rfl ok dX7_blame_27 rfl ?_
    refine fg_X7_X5_turn (n := 33) 1 rfl ok dX7_blame_30 rfl ?_
    refine g_iconst (v := 2) (n := 34) ok dX7_blame_33 rfl (by decide) ?_
    refine g_iadd (n := 35) ok dX7_blame_34 rfl ?_
    refine g_callSi (n := 38) (As := [.int ((S2 1 4) + (2 : Int32))]) (rest := [.ref (v.1 0), .int r2]) ok (c_X7_round l v ((S2 1 4) + (2 : Int32)) S2 _ h) cal_X7_round tw_560 tw_424 (by decide) (by decide) rfl (Nat.le_of_ble_eq_true rfl) dX7_blame_35 rfl rfl (fun r3 S3 h => ?_)
    refine g_callVi (n := 41) (As := [.int r3]) (rest := [.int r2]) (c := 0) ok (c_X7_gapAt l v r3 S3 _ h) cal_X7_gapAt tw_632 tw_634 tp_51 (lt0 rfl) (sh0 rfl _) rfl (by decide) (by decide) rfl (Nat.le_of_ble_eq_true rfl) dX7_blame_38 rfl rfl (fun r4 S4 h => ?_)
    refine g_iadd (n := 42) ok dX7_blame_41 rfl ?_
    refine g_iconst (v := 2) (n := 43) ok dX7_blame_42 rfl (by decide) ?_
    refine g_idiv (n := 44) ok dX7_blame_43 rfl (by decide) ?_
    refine g_topi (fun z5 ez5 => ?_)
    replace h := h z5 ez5
    refine g_istore_n [(3, .int z5), (2, .int r2), (0, .ref (v.1 0)), (1, .int p1)] (n := 45) ok dX7_blame_44 rfl (by decide) rfl ?_
    refine g_iload_n 3 (n := 46) ok dX7_blame_45 rfl rfl ?_
    refine g_if_ne (t := 53) (n := 49) ok dX7_blame_46 (by decide) rfl (fun e6 => ?_) (fun e6 => ?_)
    · replace h := h.1 e6
      refine g_iload_n 1 (n := 54) ok dX7_blame_53 rfl rfl ?_
      refine g_iload_n 0 (n := 55) ok dX7_blame_54 rfl rfl ?_
      refine g_isub (n := 56) ok dX7_blame_55 rfl ?_
      exact g_sub [] rfl (b_X7_blame_56 ok he (r2 - z5) S4 h)
    · replace h := h.2 e6
      refine g_iload_n 0 (n := 50) ok dX7_blame_49 rfl rfl ?_
      refine g_goto (t := 56) ok dX7_blame_50 (by decide) ?_
      exact g_sub [] rfl (b_X7_blame_56 ok he z5 S4 h)
  · replace h := h.2 e7
    refine g_ldc (v := -100000) (n := 11) ok dX7_blame_9 rfl tw_459 ?_
    exact g_iret ok he h dX7_blame_11
def w_X7_isApart_59 (post : Int32 → Mem → Prop) (y0 : Int32) (S : Mem) : Prop := (y0 = 0 ∨ y0 = 1) ∧ post y0 S
set_option maxHeartbeats 4000000 in
set_option maxRecDepth 20000 in
theorem b_X7_isApart_59 {v : VxT} {l : Launch} {g : CxT} (ok : Ok l g (oX v) 3 cX7_isApart RX7 (some .boolean)) {post : Int32 → Mem → Prop} (he : EndQ g (oX v) (va_Qi post (fun S1 t => BX (oX v) S1 t) (AX (oX v)))) (y0 : Int32) (S : Mem) (h : w_X7_isApart_59 post y0 S) : G g (oX v) 2 3 59 [] [.int y0] S := by
  unfold w_X7_isApart_59 at h
  exact g_zret ok he h.1 h.2 dX7_isApart_59
def w_X7_isApart_54 (post : Int32 → Mem → Prop) (S : Mem) : Prop := w_X7_isApart_59 post (1 : Int32) S
set_option maxHeartbeats 4000000 in
set_option maxRecDepth 20000 in
theorem b_X7_isApart_54 {v : VxT} {l : Launch} {g : CxT} (ok : Ok l g (oX v) 3 cX7_isApart RX7 (some .boolean)) {post : Int32 → Mem → Prop} (he : EndQ g (oX v) (va_Qi post (fun S1 t => BX (oX v) S1 t) (AX (oX v)))) (S : Mem) (h : w_X7_isApart_54 post  S) : G g (oX v) 2 3 54 [] [] S := by
  unfold w_X7_isApart_54 at h
  refine g_iconst (v := 1) (n := 55) ok dX7_isApart_54 rfl (by decide) ?_
  refine g_goto (t := 59) ok dX7_isApart_55 (by decide) ?_
  exact g_sub [] rfl (b_X7_isApart_59 ok he (1 : Int32) S h)
def w_X7_isApart (p1 : Int32) (S : Mem) (post : Int32 → Mem → Prop) : Prop := (∀ z1 : Int32, z1 = (2 : Int32) * (S 1 3) → ((z1 < (jabs ((p1 / (8 : Int32)) - ((S 1 2) / (8 : Int32)))) → w_X7_isApart_54 post  S) ∧ (¬ z1 < (jabs ((p1 / (8 : Int32)) - ((S 1 2) / (8 : Int32)))) → (((jabs ((jrem p1 (8 : Int32)) - (jrem (S 1 2) (8 : Int32)))) ≤ z1 → w_X7_isApart_59 post (0 : Int32) S) ∧ (¬ (jabs ((jrem p1 (8 : Int32)) - (jrem (S 1 2) (8 : Int32)))) ≤ z1 → w_X7_isApart_54 post  S)))))
set_option maxHeartbeats 4000000 in
set_option maxRecDepth 20000 in
theorem c_X7_isApart (l : Launch) (v : VxT) (p1 : Int32) (S : Mem) (post : Int32 → Mem → Prop) (h : w_X7_isApart p1 S post) : MI l yX7_isApart cX7_isApart 3 (some .boolean) 2 (oX v) [.ref (v.1 0), .int p1] S post := by
  refine met_start (by decide +kernel) (Nat.le_of_ble_eq_true rfl) (fun g ok he => ?_)
  refine g_eq (L' := [(0, .ref (v.1 0)), (1, .int p1)]) (st' := []) ?_ rfl rfl
  unfold w_X7_isApart at h
  refine g_iconst (v := 2) (n := 1) ok dX7_isApart_0 rfl (by decide) ?_
  refine g_aload_n 0 (n := 2) ok dX7_isApart_1 rfl rfl ?_
  refine fg_X7_X7_table (n := 5) 0 rfl ok dX7_isApart_2 rfl ?_
  refine fg_X7_X5_radius (n := 8) 1 rfl ok dX7_isApart_5 rfl ?_
  refine g_imul (n := 9) ok dX7_isApart_8 rfl ?_
  refine g_topi (fun z1 ez1 => ?_)
  replace h := h z1 ez1
  refine g_istore_n [(2, .int z1), (0, .ref (v.1 0)), (1, .int p1)] (n := 10) ok dX7_isApart_9 rfl (by decide) rfl ?_
  refine g_iload_n 2 (n := 11) ok dX7_isApart_10 rfl rfl ?_
  refine g_bipush (v := 8) (n := 13) ok dX7_isApart_11 rfl (by decide) ?_
  refine g_idiv (n := 14) ok dX7_isApart_13 rfl (by decide) ?_
  refine g_aload_n 1 (n := 15) ok dX7_isApart_14 rfl rfl ?_
  refine fg_X7_X7_table (n := 18) 0 rfl ok dX7_isApart_15 rfl ?_
  refine fg_X7_X5_place (n := 21) 1 rfl ok dX7_isApart_18 rfl ?_
  refine g_bipush (v := 8) (n := 23) ok dX7_isApart_21 rfl (by decide) ?_
  refine g_idiv (n := 24) ok dX7_isApart_23 rfl (by decide) ?_
  refine g_isub (n := 25) ok dX7_isApart_24 rfl ?_
  refine g_mabs (n := 28) ok tw_619 tw_474 tw_15 tw_475 (by decide) (Nat.le_of_ble_eq_true rfl) dX7_isApart_25 rfl ?_
  refine g_iload_n 0 (n := 29) ok dX7_isApart_28 rfl rfl ?_
  refine g_icmp_gt (t := 54) (n := 32) ok dX7_isApart_29 (by decide) rfl (fun e3 => ?_) (fun e3 => ?_)
  · replace h := h.1 e3
    exact g_sub [] rfl (b_X7_isApart_54 ok he  S h)
  · replace h := h.2 e3
    refine g_iload_n 2 (n := 33) ok dX7_isApart_32 rfl rfl ?_
    refine g_bipush (v := 8) (n := 35) ok dX7_isApart_33 rfl (by decide) ?_
    refine g_irem (n := 36) ok dX7_isApart_35 rfl (by decide) ?_
    refine g_aload_n 1 (n := 37) ok dX7_isApart_36 rfl rfl ?_
    refine fg_X7_X7_table (n := 40) 0 rfl ok dX7_isApart_37 rfl ?_
    refine fg_X7_X5_place (n := 43) 1 rfl ok dX7_isApart_40 rfl ?_
    refine g_bipush (v := 8) (n := 45) ok dX7_isApart_43 rfl (by decide) ?_
    refine g_irem (n := 46) ok dX7_isApart_45 rfl (by decide) ?_
    refine g_isub (n := 47) ok dX7_isApart_46 rfl ?_
    refine g_mabs (n := 50) ok tw_619 tw_474 tw_15 tw_475 (by decide) (Nat.le_of_ble_eq_true rfl) dX7_isApart_47 rfl ?_
    refine g_iload_n 0 (n := 51) ok dX7_isApart_50 rfl rfl ?_
    refine g_icmp_le (t := 58) (n := 54) ok dX7_isApart_51 (by decide) rfl (fun e2 => ?_) (fun e2 => ?_)
    · replace h := h.1 e2
      refine g_iconst (v := 0) (n := 59) ok dX7_isApart_58 rfl (by decide) ?_
      exact g_sub [] rfl (b_X7_isApart_59 ok he (0 : Int32) S h)
    · replace h := h.2 e2
      exact g_sub [] rfl (b_X7_isApart_54 ok he  S h)
def w_X7_beside_60 (post : Int32 → Mem → Prop) (y0 : Int32) (S : Mem) : Prop := post y0 S
set_option maxHeartbeats 4000000 in
set_option maxRecDepth 20000 in
theorem b_X7_beside_60 {v : VxT} {l : Launch} {g : CxT} (ok : Ok l g (oX v) 5 cX7_beside RX7 (some .int)) {post : Int32 → Mem → Prop} (he : EndQ g (oX v) (va_Qi post (fun S1 t => BX (oX v) S1 t) (AX (oX v)))) (y0 : Int32) (S : Mem) (h : w_X7_beside_60 post y0 S) : G g (oX v) 8 5 60 [] [.int y0] S := by
  unfold w_X7_beside_60 at h
  exact g_iret ok he h dX7_beside_60
def w_X7_beside_61 (K14 : Int32 → Int32 → Mem → Prop) (post : Int32 → Mem → Prop) (x1 : Int32) (x2 : Int32) (S : Mem) : Prop := (∀ z1 : Int32, z1 = x2 + 1 → K14 x1 z1 S)
set_option maxHeartbeats 4000000 in
set_option maxRecDepth 20000 in
theorem b_X7_beside_61 {v : VxT} {l : Launch} {g : CxT} {K14 : Int32 → Int32 → Mem → Prop} (ok : Ok l g (oX v) 5 cX7_beside RX7 (some .int)) (hK14 : ∀ (x1 : Int32) (x2 : Int32) (S : Mem), K14 x1 x2 S → G g (oX v) 8 5 14 [(0, .ref (v.1 0)), (1, .int x1), (2, .int x2)] [] S) {post : Int32 → Mem → Prop} (he : EndQ g (oX v) (va_Qi post (fun S1 t => BX (oX v) S1 t) (AX (oX v)))) (x1 : Int32) (x2 : Int32) (S : Mem) (h : w_X7_beside_61 K14 post x1 x2 S) : G g (oX v) 8 5 61 [(0, .ref (v.1 0)), (1, .int x1), (2, .int x2)] [] S := by
  unfold w_X7_beside_61 at h
  obtain ⟨z1, ez1⟩ : ∃ y : Int32, y = x2 + 1 := ⟨_, rfl⟩
  replace h := h z1 ez1
  refine g_iinc 2 [(2, .int z1), (0, .ref (v.1 0)), (1, .int x1)] (v := z1) (n := 64) ok dX7_beside_61 rfl rfl (by rw [ez1]; rfl) (by decide) rfl ?_
  refine g_goto (t := 14) ok dX7_beside_64 (by decide) ?_
  exact g_sub [1, 2, 0] rfl (hK14 x1 z1 S h)
def w_X7_beside_14 (post : Int32 → Mem → Prop) : Nat → Int32 → Int32 → Mem → Prop
  | 0, _, _, _ => False
  | n + 1, x1, x2, S => (((512 : Int32) ≤ x2 → post (-1 : Int32) S) ∧ (¬ (512 : Int32) ≤ x2 → (∀ z1 : Int32, z1 = x2 / (8 : Int32) → (∀ z2 : Int32, z2 = jrem x2 (8 : Int32) → w_X7_isApart z1 S (fun r3 S3 => ((r3 = 0 → w_X7_beside_61 (w_X7_beside_14 post n) post x1 x2 S3) ∧ (¬ r3 = 0 → w_X7_isFirmAt z1 z2 S3 (fun r4 S4 => ((r4 = 0 → w_X7_beside_61 (w_X7_beside_14 post n) post x1 x2 S4) ∧ (¬ r4 = 0 → ((¬ x1 = 0 → w_X7_beside_60 post z2 S4) ∧ (x1 = 0 → w_X7_beside_60 post z1 S4))))))))))))
set_option maxHeartbeats 4000000 in
set_option maxRecDepth 20000 in
theorem b_X7_beside_14 {v : VxT} {l : Launch} {g : CxT} (ok : Ok l g (oX v) 5 cX7_beside RX7 (some .int)) {post : Int32 → Mem → Prop} (he : EndQ g (oX v) (va_Qi post (fun S1 t => BX (oX v) S1 t) (AX (oX v)))) : ∀ (n : Nat) (x1 : Int32) (x2 : Int32) (S : Mem), w_X7_beside_14 post n x1 x2 S → G g (oX v) 8 5 14 [(0, .ref (v.1 0)), (1, .int x1), (2, .int x2)] [] S := by
  intro n
  induction n with
  | zero =>
    intro x1 x2 S h
    exact h.elim
  | succ n ih =>
    intro x1 x2 S h
    rw [w_X7_beside_14] at h
    refine g_iload_n 2 (n := 15) ok dX7_beside_14 rfl rfl ?_
    refine g_sipush (v := 512) (n := 18) ok dX7_beside_15 rfl (by decide) ?_
    refine g_icmp_ge (t := 67) (n := 21) ok dX7_beside_18 (by decide) rfl (fun e8 => ?_) (fun e8 => ?_)
    · replace h := h.1 e8
      refine g_iconst (v := -1) (n := 68) ok dX7_beside_67 rfl (by decide) ?_
      exact g_iret ok he h dX7_beside_68
    · replace h := h.2 e8
      refine g_iload_n 2 (n := 22) ok dX7_beside_21 rfl rfl ?_
      refine g_bipush (v := 8) (n := 24) ok dX7_beside_22 rfl (by decide) ?_
      refine g_idiv (n := 25) ok dX7_beside_24 rfl (by decide) ?_
      refine g_topi (fun z1 ez1 => ?_)
      replace h := h z1 ez1
      refine g_istore_n [(3, .int z1), (0, .ref (v.1 0)), (1, .int x1), (2, .int x2)] (n := 26) ok dX7_beside_25 rfl (by decide) rfl ?_
      refine g_iload_n 3 (n := 27) ok dX7_beside_26 rfl rfl ?_
      refine g_bipush (v := 8) (n := 29) ok dX7_beside_27 rfl (by decide) ?_
      refine g_irem (n := 30) ok dX7_beside_29 rfl (by decide) ?_
      refine g_topi (fun z2 ez2 => ?_)
      replace h := h z2 ez2
      refine g_istore [(4, .int z2), (3, .int z1), (0, .ref (v.1 0)), (1, .int x1), (2, .int x2)] (n := 32) ok dX7_beside_30 rfl (by decide) rfl ?_
      refine g_aload_n 2 (n := 33) ok dX7_beside_32 rfl rfl ?_
      refine g_iload_n 1 (n := 34) ok dX7_beside_33 rfl rfl ?_
      refine g_callVi (n := 37) (As := [.int z1]) (rest := []) (c := 0) ok (c_X7_isApart l v z1 S _ h) cal_X7_isApart tw_640 tw_642 tp_52 (lt0 rfl) (sh0 rfl _) rfl (by decide) (by decide) rfl (Nat.le_of_ble_eq_true rfl) dX7_beside_34 rfl rfl (fun r3 S3 h => ?_)
      refine g_if_eq (t := 61) (n := 40) ok dX7_beside_37 (by decide) rfl (fun e7 => ?_) (fun e7 => ?_)
      · replace h := h.1 e7
        exact g_sub [2, 3, 4] rfl (b_X7_beside_61 ok ih he x1 x2 S3 h)
      · replace h := h.2 e7
        refine g_aload_n 2 (n := 41) ok dX7_beside_40 rfl rfl ?_
        refine g_iload_n 1 (n := 42) ok dX7_beside_41 rfl rfl ?_
        refine g_iload 0 (n := 44) ok dX7_beside_42 rfl rfl ?_
        refine g_callVi (n := 47) (As := [.int z1, .int z2]) (rest := []) (c := 0) ok (c_X7_isFirmAt l v z1 z2 S3 _ h) cal_X7_isFirmAt tw_548 tw_550 tp_41 (lt0 rfl) (sh0 rfl _) rfl (by decide) (by decide) rfl (Nat.le_of_ble_eq_true rfl) dX7_beside_44 rfl rfl (fun r4 S4 h => ?_)
        refine g_if_eq (t := 61) (n := 50) ok dX7_beside_47 (by decide) rfl (fun e6 => ?_) (fun e6 => ?_)
        · replace h := h.1 e6
          exact g_sub [2, 3, 4] rfl (b_X7_beside_61 ok ih he x1 x2 S4 h)
        · replace h := h.2 e6
          refine g_iload_n 3 (n := 51) ok dX7_beside_50 rfl rfl ?_
          refine g_if_ne (t := 58) (n := 54) ok dX7_beside_51 (by decide) rfl (fun e5 => ?_) (fun e5 => ?_)
          · replace h := h.1 e5
            refine g_iload 0 (n := 60) ok dX7_beside_58 rfl rfl ?_
            exact g_sub [] rfl (b_X7_beside_60 ok he z2 S4 h)
          · replace h := h.2 e5
            refine g_iload_n 1 (n := 55) ok dX7_beside_54 rfl rfl ?_
            refine g_goto (t := 60) ok dX7_beside_55 (by decide) ?_
            exact g_sub [] rfl (b_X7_beside_60 ok he z1 S4 h)
def w_X7_beside (p1 : Int32) (S : Mem) (post : Int32 → Mem → Prop) : Prop := w_X7_within p1 (0 : Int32) (1 : Int32) S (fun r1 S1 => ((¬ r1 = 0 → ∃ n, w_X7_beside_14 post n p1 (0 : Int32) S1) ∧ (r1 = 0 → post (-2 : Int32) S1)))
set_option maxHeartbeats 4000000 in
set_option maxRecDepth 20000 in
theorem c_X7_beside (l : Launch) (v : VxT) (p1 : Int32) (S : Mem) (post : Int32 → Mem → Prop) (h : w_X7_beside p1 S post) : MI l yX7_beside cX7_beside 5 (some .int) 8 (oX v) [.ref (v.1 0), .int p1] S post := by
  refine met_start (by decide +kernel) (Nat.le_of_ble_eq_true rfl) (fun g ok he => ?_)
  refine g_eq (L' := [(0, .ref (v.1 0)), (1, .int p1)]) (st' := []) ?_ rfl rfl
  unfold w_X7_beside at h
  refine g_iload_n 1 (n := 1) ok dX7_beside_0 rfl rfl ?_
  refine g_iconst (v := 0) (n := 2) ok dX7_beside_1 rfl (by decide) ?_
  refine g_iconst (v := 1) (n := 3) ok dX7_beside_2 rfl (by decide) ?_
  refine g_callSi (n := 6) (As := [.int p1, .int (0 : Int32), .int (1 : Int32)]) (rest := []) ok (c_X7_within l v p1 (0 : Int32) (1 : Int32) S _ h) cal_X7_within tw_373 tw_253 (by decide) (by decide) rfl (Nat.le_of_ble_eq_true rfl) dX7_beside_3 rfl rfl (fun r1 S1 h => ?_)
  refine g_if_ne (t := 12) (n := 9) ok dX7_beside_6 (by decide) rfl (fun e2 => ?_) (fun e2 => ?_)
  · replace h := h.1 e2
    refine g_iconst (v := 0) (n := 13) ok dX7_beside_12 rfl (by decide) ?_
    refine g_istore_n [(2, .int (0 : Int32)), (0, .ref (v.1 0)), (1, .int p1)] (n := 14) ok dX7_beside_13 rfl (by decide) rfl ?_
    obtain ⟨n0, h⟩ := h
    exact g_sub [1, 2, 0] rfl (b_X7_beside_14 ok he n0 p1 (0 : Int32) S1 h)
  · replace h := h.2 e2
    refine g_bipush (v := -2) (n := 11) ok dX7_beside_9 rfl (by decide) ?_
    exact g_iret ok he h dX7_beside_11
def w_X7_sit_58 (K12 : Int32 → Int32 → Int32 → Mem → Prop) (post : Int32 → Mem → Prop) (x1 : Int32) (x2 : Int32) (x3 : Int32) (S : Mem) : Prop := (∀ z1 : Int32, z1 = x3 + 1 → K12 x1 x2 z1 S)
set_option maxHeartbeats 4000000 in
set_option maxRecDepth 20000 in
theorem b_X7_sit_58 {v : VxT} {l : Launch} {g : CxT} {K12 : Int32 → Int32 → Int32 → Mem → Prop} (ok : Ok l g (oX v) 4 cX7_sit RX7 (some .int)) (hK12 : ∀ (x1 : Int32) (x2 : Int32) (x3 : Int32) (S : Mem), K12 x1 x2 x3 S → G g (oX v) 8 4 12 [(0, .ref (v.1 0)), (1, .int x1), (2, .int x2), (3, .int x3)] [] S) {post : Int32 → Mem → Prop} (he : EndQ g (oX v) (va_Qi post (fun S1 t => BX (oX v) S1 t) (AX (oX v)))) (x1 : Int32) (x2 : Int32) (x3 : Int32) (S : Mem) (h : w_X7_sit_58 K12 post x1 x2 x3 S) : G g (oX v) 8 4 58 [(0, .ref (v.1 0)), (1, .int x1), (2, .int x2), (3, .int x3)] [] S := by
  unfold w_X7_sit_58 at h
  obtain ⟨z1, ez1⟩ : ∃ y : Int32, y = x3 + 1 := ⟨_, rfl⟩
  replace h := h z1 ez1
  refine g_iinc 3 [(3, .int z1), (0, .ref (v.1 0)), (1, .int x1), (2, .int x2)] (v := z1) (n := 61) ok dX7_sit_58 rfl rfl (by rw [ez1]; rfl) (by decide) rfl ?_
  refine g_goto (t := 12) ok dX7_sit_61 (by decide) ?_
  exact g_sub [1, 2, 3, 0] rfl (hK12 x1 x2 z1 S h)
def w_X7_sit_64 (post : Int32 → Mem → Prop) (x1 : Int32) (x2 : Int32) (S : Mem) : Prop := (∀ S1 : Mem, S1 = mset S 1 (upd (S 1) 5 x1) → post x2 S1)
set_option maxHeartbeats 4000000 in
set_option maxRecDepth 20000 in
theorem b_X7_sit_64 {v : VxT} {l : Launch} {g : CxT} (ok : Ok l g (oX v) 4 cX7_sit RX7 (some .int)) {post : Int32 → Mem → Prop} (he : EndQ g (oX v) (va_Qi post (fun S1 t => BX (oX v) S1 t) (AX (oX v)))) (x1 : Int32) (x2 : Int32) (S : Mem) (h : w_X7_sit_64 post x1 x2 S) : G g (oX v) 8 4 64 [(0, .ref (v.1 0)), (1, .int x1), (2, .int x2)] [] S := by
  unfold w_X7_sit_64 at h
  refine g_aload_n 0 (n := 65) ok dX7_sit_64 rfl rfl ?_
  refine fg_X7_X7_table (n := 68) 0 rfl ok dX7_sit_65 rfl ?_
  refine g_iload_n 1 (n := 69) ok dX7_sit_68 rfl rfl ?_
  refine fp_X7_X5_load (n := 72) 1 rfl ok dX7_sit_69 rfl ?_
  refine g_mem (fun S1 eS1 => ?_)
  replace h := h S1 eS1
  refine g_iload_n 2 (n := 73) ok dX7_sit_72 rfl rfl ?_
  exact g_iret ok he h dX7_sit_73
def w_X7_sit_12 (post : Int32 → Mem → Prop) : Nat → Int32 → Int32 → Int32 → Mem → Prop
  | 0, _, _, _, _ => False
  | n + 1, x1, x2, x3, S => ((((9 : Int32) - x1) < x3 → w_X7_sit_64 post x1 x2 S) ∧ (¬ ((9 : Int32) - x1) < x3 → ((¬ x2 = (-1 : Int32) → w_X7_sit_64 post x1 x2 S) ∧ (x2 = (-1 : Int32) → (∀ S1 : Mem, S1 = mset S 1 (upd (S 1) 5 (x1 + x3)) → w_X7_isFirmAt (S1 1 2) (S1 1 4) S1 (fun r2 S2 => ((r2 = 0 → w_X7_sit_58 (w_X7_sit_12 post n) post x1 x2 x3 S2) ∧ (¬ r2 = 0 → w_X7_sit_58 (w_X7_sit_12 post n) post x1 x3 x3 S2))))))))
set_option maxHeartbeats 4000000 in
set_option maxRecDepth 20000 in
theorem b_X7_sit_12 {v : VxT} {l : Launch} {g : CxT} (ok : Ok l g (oX v) 4 cX7_sit RX7 (some .int)) {post : Int32 → Mem → Prop} (he : EndQ g (oX v) (va_Qi post (fun S1 t => BX (oX v) S1 t) (AX (oX v)))) : ∀ (n : Nat) (x1 : Int32) (x2 : Int32) (x3 : Int32) (S : Mem), w_X7_sit_12 post n x1 x2 x3 S → G g (oX v) 8 4 12 [(0, .ref (v.1 0)), (1, .int x1), (2, .int x2), (3, .int x3)] [] S := by
  intro n
  induction n with
  | zero =>
    intro x1 x2 x3 S h
    exact h.elim
  | succ n ih =>
    intro x1 x2 x3 S h
    rw [w_X7_sit_12] at h
    refine g_iload_n 3 (n := 13) ok dX7_sit_12 rfl rfl ?_
    refine g_bipush (v := 9) (n := 15) ok dX7_sit_13 rfl (by decide) ?_
    refine g_iload_n 1 (n := 16) ok dX7_sit_15 rfl rfl ?_
    refine g_isub (n := 17) ok dX7_sit_16 rfl ?_
    refine g_icmp_gt (t := 64) (n := 20) ok dX7_sit_17 (by decide) rfl (fun e5 => ?_) (fun e5 => ?_)
    · replace h := h.1 e5
      exact g_sub [0, 1, 2] rfl (b_X7_sit_64 ok he x1 x2 S h)
    · replace h := h.2 e5
      refine g_iload_n 2 (n := 21) ok dX7_sit_20 rfl rfl ?_
      refine g_iconst (v := -1) (n := 22) ok dX7_sit_21 rfl (by decide) ?_
      refine g_icmp_ne (t := 64) (n := 25) ok dX7_sit_22 (by decide) rfl (fun e4 => ?_) (fun e4 => ?_)
      · replace h := h.1 e4
        exact g_sub [0, 1, 2] rfl (b_X7_sit_64 ok he x1 x2 S h)
      · replace h := h.2 e4
        refine g_aload_n 0 (n := 26) ok dX7_sit_25 rfl rfl ?_
        refine fg_X7_X7_table (n := 29) 0 rfl ok dX7_sit_26 rfl ?_
        refine g_iload_n 1 (n := 30) ok dX7_sit_29 rfl rfl ?_
        refine g_iload_n 3 (n := 31) ok dX7_sit_30 rfl rfl ?_
        refine g_iadd (n := 32) ok dX7_sit_31 rfl ?_
        refine fp_X7_X5_load (n := 35) 1 rfl ok dX7_sit_32 rfl ?_
        refine g_mem (fun S1 eS1 => ?_)
        replace h := h S1 eS1
        refine g_aload_n 0 (n := 36) ok dX7_sit_35 rfl rfl ?_
        refine g_aload_n 0 (n := 37) ok dX7_sit_36 rfl rfl ?_
        refine fg_X7_X7_table (n := 40) 0 rfl ok dX7_sit_37 rfl ?_
        refine fg_X7_X5_place (n := 43) 1 rfl ok dX7_sit_40 rfl ?_
        refine g_aload_n 0 (n := 44) ok dX7_sit_43 rfl rfl ?_
        refine fg_X7_X7_table (n := 47) 0 rfl ok dX7_sit_44 rfl ?_
        refine fg_X7_X5_turn (n := 50) 1 rfl ok dX7_sit_47 rfl ?_
        refine g_callVi (n := 53) (As := [.int (S1 1 2), .int (S1 1 4)]) (rest := []) (c := 0) ok (c_X7_isFirmAt l v (S1 1 2) (S1 1 4) S1 _ h) cal_X7_isFirmAt tw_548 tw_550 tp_41 (lt0 rfl) (sh0 rfl _) rfl (by decide) (by decide) rfl (Nat.le_of_ble_eq_true rfl) dX7_sit_50 rfl rfl (fun r2 S2 h => ?_)
        refine g_if_eq (t := 58) (n := 56) ok dX7_sit_53 (by decide) rfl (fun e3 => ?_) (fun e3 => ?_)
        · replace h := h.1 e3
          exact g_sub [0, 1, 2, 3] rfl (b_X7_sit_58 ok ih he x1 x2 x3 S2 h)
        · replace h := h.2 e3
          refine g_iload_n 3 (n := 57) ok dX7_sit_56 rfl rfl ?_
          refine g_istore_n [(2, .int x3), (0, .ref (v.1 0)), (1, .int x1), (3, .int x3)] (n := 58) ok dX7_sit_57 rfl (by decide) rfl ?_
          exact g_sub [1, 2, 0, 3] rfl (b_X7_sit_58 ok ih he x1 x3 x3 S2 h)
def w_X7_sit (S : Mem) (post : Int32 → Mem → Prop) : Prop := (∀ z1 : Int32, z1 = S 1 5 → ∃ n, w_X7_sit_12 post n z1 (-1 : Int32) (0 : Int32) S)
set_option maxHeartbeats 4000000 in
set_option maxRecDepth 20000 in
theorem c_X7_sit (l : Launch) (v : VxT) (S : Mem) (post : Int32 → Mem → Prop) (h : w_X7_sit  S post) : MI l yX7_sit cX7_sit 4 (some .int) 8 (oX v) [.ref (v.1 0)] S post := by
  refine met_start (by decide +kernel) (Nat.le_of_ble_eq_true rfl) (fun g ok he => ?_)
  refine g_eq (L' := [(0, .ref (v.1 0))]) (st' := []) ?_ rfl rfl
  unfold w_X7_sit at h
  refine g_aload_n 0 (n := 1) ok dX7_sit_0 rfl rfl ?_
  refine fg_X7_X7_table (n := 4) 0 rfl ok dX7_sit_1 rfl ?_
  refine fg_X7_X5_load (n := 7) 1 rfl ok dX7_sit_4 rfl ?_
  refine g_topi (fun z1 ez1 => ?_)
  replace h := h z1 ez1
  refine g_istore_n [(1, .int z1), (0, .ref (v.1 0))] (n := 8) ok dX7_sit_7 rfl (by decide) rfl ?_
  refine g_iconst (v := -1) (n := 9) ok dX7_sit_8 rfl (by decide) ?_
  refine g_istore_n [(2, .int (-1 : Int32)), (1, .int z1), (0, .ref (v.1 0))] (n := 10) ok dX7_sit_9 rfl (by decide) rfl ?_
  refine g_iconst (v := 0) (n := 11) ok dX7_sit_10 rfl (by decide) ?_
  refine g_istore_n [(3, .int (0 : Int32)), (2, .int (-1 : Int32)), (1, .int z1), (0, .ref (v.1 0))] (n := 12) ok dX7_sit_11 rfl (by decide) rfl ?_
  obtain ⟨n0, h⟩ := h
  exact g_sub [3, 2, 1, 0] rfl (b_X7_sit_12 ok he n0 z1 (-1 : Int32) (0 : Int32) S h)
def w_X7_isSheet (p0 : Int32) (S : Mem) (post : Int32 → Mem → Prop) : Prop := w_X7_within p0 (0 : Int32) (3 : Int32) S (fun r1 S1 => (r1 = 0 ∨ r1 = 1) ∧ post r1 S1)
set_option maxHeartbeats 4000000 in
set_option maxRecDepth 20000 in
theorem c_X7_isSheet (l : Launch) (v : VxT) (p0 : Int32) (S : Mem) (post : Int32 → Mem → Prop) (h : w_X7_isSheet p0 S post) : MI l yX7_isSheet cX7_isSheet 1 (some .boolean) 2 (oX v) [.int p0] S post := by
  refine met_start (by decide +kernel) (Nat.le_of_ble_eq_true rfl) (fun g ok he => ?_)
  refine g_eq (L' := [(0, .int p0)]) (st' := []) ?_ rfl rfl
  unfold w_X7_isSheet at h
  refine g_iload_n 0 (n := 1) ok dX7_isSheet_0 rfl rfl ?_
  refine g_iconst (v := 0) (n := 2) ok dX7_isSheet_1 rfl (by decide) ?_
  refine g_iconst (v := 3) (n := 3) ok dX7_isSheet_2 rfl (by decide) ?_
  refine g_callSi (n := 6) (As := [.int p0, .int (0 : Int32), .int (3 : Int32)]) (rest := []) ok (c_X7_within l v p0 (0 : Int32) (3 : Int32) S _ h) cal_X7_within tw_373 tw_253 (by decide) (by decide) rfl (Nat.le_of_ble_eq_true rfl) dX7_isSheet_3 rfl rfl (fun r1 S1 h => ?_)
  exact g_zret ok he h.1 h.2 dX7_isSheet_6
def w_X7_firstOtherwise_2 (post : Int32 → Mem → Prop) (c1 : Nat) : Nat → Int32 → Int32 → Mem → Prop
  | 0, _, _, _ => False
  | n + 1, x2, x3, S => (((S c1 1) ≤ x3 → post (-1 : Int32) S) ∧ (¬ (S c1 1) ≤ x3 → w_X7_round ((S 1 4) + x3) S (fun r1 S1 => w_X7_measure x2 r1 S1 (fun S2 => (vp_in x3 40 ∧ w_X4_knock  S2 (fun r3 S3 => (((S2 (c1 + 1) x3.toNatClampNeg) = r3 → (∀ z4 : Int32, z4 = x3 + 1 → w_X7_firstOtherwise_2 post c1 n x2 z4 S3)) ∧ (¬ (S2 (c1 + 1) x3.toNatClampNeg) = r3 → post x3 S3))))))))
set_option maxHeartbeats 4000000 in
set_option maxRecDepth 20000 in
theorem b_X7_firstOtherwise_2 {v : VxT} {l : Launch} {g : CxT} (ok : Ok l g (oX v) 4 cX7_firstOtherwise RX7 (some .int)) (c1 : Nat) (hc1 : kdX c1 = 14) {post : Int32 → Mem → Prop} (he : EndQ g (oX v) (va_Qi post (fun S1 t => BX (oX v) S1 t) (AX (oX v)))) : ∀ (n : Nat) (x2 : Int32) (x3 : Int32) (S : Mem), w_X7_firstOtherwise_2 post c1 n x2 x3 S → G g (oX v) 7 4 2 [(0, .ref (v.1 0)), (1, .ref (v.1 c1)), (2, .int x2), (3, .int x3)] [] S := by
  intro n
  induction n with
  | zero =>
    intro x2 x3 S h
    exact h.elim
  | succ n ih =>
    intro x2 x3 S h
    rw [w_X7_firstOtherwise_2] at h
    refine g_iload_n 3 (n := 3) ok dX7_firstOtherwise_2 rfl rfl ?_
    refine g_aload_n 1 (n := 4) ok dX7_firstOtherwise_3 rfl rfl ?_
    refine fg_X7_X3_size (n := 7) c1 hc1 ok dX7_firstOtherwise_4 rfl ?_
    refine g_icmp_ge (t := 51) (n := 10) ok dX7_firstOtherwise_7 (by decide) rfl (fun e6 => ?_) (fun e6 => ?_)
    · replace h := h.1 e6
      refine g_iconst (v := -1) (n := 52) ok dX7_firstOtherwise_51 rfl (by decide) ?_
      exact g_iret ok he h dX7_firstOtherwise_52
    · replace h := h.2 e6
      refine g_aload_n 0 (n := 11) ok dX7_firstOtherwise_10 rfl rfl ?_
      refine g_iload_n 2 (n := 12) ok dX7_firstOtherwise_11 rfl rfl ?_
      refine g_aload_n 0 (n := 13) ok dX7_firstOtherwise_12 rfl rfl ?_
      refine fg_X7_X7_table (n := 16) 0 rfl ok dX7_firstOtherwise_13 rfl ?_
      refine fg_X7_X5_turn (n := 19) 1 rfl ok dX7_firstOtherwise_16 rfl ?_
      refine g_iload_n 3 (n := 20) ok dX7_firstOtherwise_19 rfl rfl ?_
      refine g_iadd (n := 21) ok dX7_firstOtherwise_20 rfl ?_
      refine g_callSi (n := 24) (As := [.int ((S 1 4) + x3)]) (rest := [.int x2, .ref (v.1 0)]) ok (c_X7_round l v ((S 1 4) + x3) S _ h) cal_X7_round tw_560 tw_424 (by decide) (by decide) rfl (Nat.le_of_ble_eq_true rfl) dX7_firstOtherwise_21 rfl rfl (fun r1 S1 h => ?_)
      refine g_callVv (n := 27) (As := [.int x2, .int r1]) (rest := []) (c := 0) ok (c_X7_measure l v x2 r1 S1 _ h) cal_X7_measure tw_460 tw_462 tp_26 (lt0 rfl) (sh0 rfl _) rfl (by decide) (by decide) rfl (Nat.le_of_ble_eq_true rfl) dX7_firstOtherwise_24 rfl rfl (fun S2 h => ?_)
      refine g_aload_n 1 (n := 28) ok dX7_firstOtherwise_27 rfl rfl ?_
      refine fg_X7_X3_items (n := 31) c1 hc1 ok dX7_firstOtherwise_28 rfl ?_
      refine g_iload_n 3 (n := 32) ok dX7_firstOtherwise_31 rfl rfl ?_
      obtain ⟨h0, h⟩ := h
      refine g_iald (c := (c1 + 1)) (t0 := 0) (n := 33) ok (lt15 (kd14_items hc1)) (sh15 (kd14_items hc1) _) rfl h0 dX7_firstOtherwise_32 rfl ?_
      refine g_aload_n 0 (n := 34) ok dX7_firstOtherwise_33 rfl rfl ?_
      refine fg_X7_X7_stand (n := 37) 0 rfl ok dX7_firstOtherwise_34 rfl ?_
      refine g_callVNi (n := 40) (As := []) (rest := [.int (S2 (c1 + 1) x3.toNatClampNeg)]) (c := 39) ok (c_X4_knock l v  S2 _ h) cal_X4_knock tw_663 tw_665 tp_55 (lt10 rfl) (sh10 rfl _) rfl (by decide) (by decide) rfl (Nat.le_of_ble_eq_true rfl) dX7_firstOtherwise_37 rfl rfl (fun r3 S3 h => ?_)
      refine g_icmp_eq (t := 45) (n := 43) ok dX7_firstOtherwise_40 (by decide) rfl (fun e5 => ?_) (fun e5 => ?_)
      · replace h := h.1 e5
        obtain ⟨z4, ez4⟩ : ∃ y : Int32, y = x3 + 1 := ⟨_, rfl⟩
        replace h := h z4 ez4
        refine g_iinc 3 [(3, .int z4), (0, .ref (v.1 0)), (1, .ref (v.1 c1)), (2, .int x2)] (v := z4) (n := 48) ok dX7_firstOtherwise_45 rfl rfl (by rw [ez4]; rfl) (by decide) rfl ?_
        refine g_goto (t := 2) ok dX7_firstOtherwise_48 (by decide) ?_
        exact g_sub [1, 2, 3, 0] rfl (ih x2 z4 S3 h)
      · replace h := h.2 e5
        refine g_iload_n 3 (n := 44) ok dX7_firstOtherwise_43 rfl rfl ?_
        exact g_iret ok he h dX7_firstOtherwise_44
def w_X7_firstOtherwise (c1 : Nat) (p2 : Int32) (S : Mem) (post : Int32 → Mem → Prop) : Prop := ∃ n, w_X7_firstOtherwise_2 post c1 n p2 (0 : Int32) S
set_option maxHeartbeats 4000000 in
set_option maxRecDepth 20000 in
theorem c_X7_firstOtherwise (l : Launch) (v : VxT) (c1 : Nat) (hc1 : kdX c1 = 14) (p2 : Int32) (S : Mem) (post : Int32 → Mem → Prop) (h : w_X7_firstOtherwise c1 p2 S post) : MI l yX7_firstOtherwise cX7_firstOtherwise 4 (some .int) 7 (oX v) [.ref (v.1 0), .ref (v.1 c1), .int p2] S post := by
  refine met_start (by decide +kernel) (Nat.le_of_ble_eq_true rfl) (fun g ok he => ?_)
  refine g_eq (L' := [(0, .ref (v.1 0)), (1, .ref (v.1 c1)), (2, .int p2)]) (st' := []) ?_ rfl rfl
  unfold w_X7_firstOtherwise at h
  refine g_iconst (v := 0) (n := 1) ok dX7_firstOtherwise_0 rfl (by decide) ?_
  refine g_istore_n [(3, .int (0 : Int32)), (0, .ref (v.1 0)), (1, .ref (v.1 c1)), (2, .int p2)] (n := 2) ok dX7_firstOtherwise_1 rfl (by decide) rfl ?_
  obtain ⟨n0, h⟩ := h
  exact g_sub [1, 2, 3, 0] rfl (b_X7_firstOtherwise_2 ok c1 hc1 he n0 p2 (0 : Int32) S h)
def w_X7_judge_44 (post : Int32 → Mem → Prop) (y0 : Int32) (S : Mem) : Prop := post y0 S
set_option maxHeartbeats 4000000 in
set_option maxRecDepth 20000 in
theorem b_X7_judge_44 {v : VxT} {l : Launch} {g : CxT} (ok : Ok l g (oX v) 2 cX7_judge RX7 (some .int)) {post : Int32 → Mem → Prop} (he : EndQ g (oX v) (va_Qi post (fun S1 t => BX (oX v) S1 t) (AX (oX v)))) (y0 : Int32) (S : Mem) (h : w_X7_judge_44 post y0 S) : G g (oX v) 8 2 44 [] [.int y0] S := by
  unfold w_X7_judge_44 at h
  exact g_iret ok he h dX7_judge_44
def w_X7_judge (p1 : Int32) (S : Mem) (post : Int32 → Mem → Prop) : Prop := w_X7_isSheet p1 S (fun r1 S1 => ((¬ r1 = 0 → (vp_in p1 4 ∧ w_X3_isMissing (43 + 1 + 2 * p1.toNatClampNeg) S1 (fun r2 S2 => ((r2 = 0 → (vp_in p1 4 ∧ w_X7_firstOtherwise (43 + 1 + 2 * p1.toNatClampNeg) (S2 1 2) S2 (fun r3 S3 => w_X7_judge_44 post r3 S3))) ∧ (¬ r2 = 0 → w_X7_judge_44 post (-11 : Int32) S2))))) ∧ (r1 = 0 → post (-2 : Int32) S1)))
set_option maxHeartbeats 4000000 in
set_option maxRecDepth 20000 in
theorem c_X7_judge (l : Launch) (v : VxT) (p1 : Int32) (S : Mem) (post : Int32 → Mem → Prop) (h : w_X7_judge p1 S post) : MI l yX7_judge cX7_judge 2 (some .int) 8 (oX v) [.ref (v.1 0), .int p1] S post := by
  refine met_start (by decide +kernel) (Nat.le_of_ble_eq_true rfl) (fun g ok he => ?_)
  refine g_eq (L' := [(0, .ref (v.1 0)), (1, .int p1)]) (st' := []) ?_ rfl rfl
  unfold w_X7_judge at h
  refine g_iload_n 1 (n := 1) ok dX7_judge_0 rfl rfl ?_
  refine g_callSi (n := 4) (As := [.int p1]) (rest := []) ok (c_X7_isSheet l v p1 S _ h) cal_X7_isSheet tw_652 tw_653 (by decide) (by decide) rfl (Nat.le_of_ble_eq_true rfl) dX7_judge_1 rfl rfl (fun r1 S1 h => ?_)
  refine g_if_ne (t := 10) (n := 7) ok dX7_judge_4 (by decide) rfl (fun e5 => ?_) (fun e5 => ?_)
  · replace h := h.1 e5
    refine g_aload_n 0 (n := 11) ok dX7_judge_10 rfl rfl ?_
    refine fg_X7_X7_sheets (n := 14) 0 rfl ok dX7_judge_11 rfl ?_
    refine g_iload_n 1 (n := 15) ok dX7_judge_14 rfl rfl ?_
    obtain ⟨h15, h⟩ := h
    refine g_aald (c := 43) (t0 := 3) (a := v.1 (43 + 1 + 2 * p1.toNatClampNeg)) (n := 16) ok (lt13 rfl) (sh13 rfl _) rfl h15 rfl dX7_judge_15 rfl ?_
    refine g_callVNi (n := 19) (As := []) (rest := []) (c := (43 + 1 + 2 * p1.toNatClampNeg)) ok (c_X3_isMissing l v (43 + 1 + 2 * p1.toNatClampNeg) (kdE13 rfl h15) S1 _ h) cal_X3_isMissing tw_655 tw_657 tp_53 (lt14 (kdE13 rfl h15)) (sh14 (kdE13 rfl h15) _) rfl (by decide) (by decide) rfl (Nat.le_of_ble_eq_true rfl) dX7_judge_16 rfl rfl (fun r2 S2 h => ?_)
    refine g_if_eq (t := 27) (n := 22) ok dX7_judge_19 (by decide) rfl (fun e4 => ?_) (fun e4 => ?_)
    · replace h := h.1 e4
      refine g_aload_n 0 (n := 28) ok dX7_judge_27 rfl rfl ?_
      refine g_aload_n 0 (n := 29) ok dX7_judge_28 rfl rfl ?_
      refine fg_X7_X7_sheets (n := 32) 0 rfl ok dX7_judge_29 rfl ?_
      refine g_iload_n 1 (n := 33) ok dX7_judge_32 rfl rfl ?_
      obtain ⟨h33, h⟩ := h
      refine g_aald (c := 43) (t0 := 3) (a := v.1 (43 + 1 + 2 * p1.toNatClampNeg)) (n := 34) ok (lt13 rfl) (sh13 rfl _) rfl h33 rfl dX7_judge_33 rfl ?_
      refine g_aload_n 0 (n := 35) ok dX7_judge_34 rfl rfl ?_
      refine fg_X7_X7_table (n := 38) 0 rfl ok dX7_judge_35 rfl ?_
      refine fg_X7_X5_place (n := 41) 1 rfl ok dX7_judge_38 rfl ?_
      refine g_callVi (n := 44) (As := [.ref (v.1 (43 + 1 + 2 * p1.toNatClampNeg)), .int (S2 1 2)]) (rest := []) (c := 0) ok (c_X7_firstOtherwise l v (43 + 1 + 2 * p1.toNatClampNeg) (kdE13 rfl h33) (S2 1 2) S2 _ h) cal_X7_firstOtherwise tw_659 tw_661 tp_54 (lt0 rfl) (sh0 rfl _) rfl (by decide) (by decide) rfl (Nat.le_of_ble_eq_true rfl) dX7_judge_41 rfl rfl (fun r3 S3 h => ?_)
      exact g_sub [] rfl (b_X7_judge_44 ok he r3 S3 h)
    · replace h := h.2 e4
      refine g_bipush (v := -11) (n := 24) ok dX7_judge_22 rfl (by decide) ?_
      refine g_goto (t := 44) ok dX7_judge_24 (by decide) ?_
      exact g_sub [] rfl (b_X7_judge_44 ok he (-11 : Int32) S2 h)
  · replace h := h.2 e5
    refine g_bipush (v := -2) (n := 9) ok dX7_judge_7 rfl (by decide) ?_
    exact g_iret ok he h dX7_judge_9
def w_X7_which_19 (post : Int64 → Mem → Prop) (S : Mem) : Prop := post (-4611686018427387904 : Int64) S
set_option maxHeartbeats 4000000 in
set_option maxRecDepth 20000 in
theorem b_X7_which_19 {v : VxT} {l : Launch} {g : CxT} (ok : Ok l g (oX v) 5 cX7_which RX7 (some .long)) {post : Int64 → Mem → Prop} (he : EndQ g (oX v) (va_Ql post (fun S1 t => BX (oX v) S1 t) (AX (oX v)))) (S : Mem) (h : w_X7_which_19 post  S) : G g (oX v) 8 5 19 [] [] S := by
  unfold w_X7_which_19 at h
  refine g_ldc2 (v := -4611686018427387904) (n := 22) ok dX7_which_19 rfl tw_672 ?_
  exact g_lret ok he h dX7_which_22
def w_X7_which_58 (K28 : Int32 → Int64 → Int32 → Mem → Prop) (post : Int64 → Mem → Prop) (x1 : Int32) (x2 : Int64) (x4 : Int32) (S : Mem) : Prop := (∀ z1 : Int32, z1 = x4 + 1 → K28 x1 x2 z1 S)
set_option maxHeartbeats 4000000 in
set_option maxRecDepth 20000 in
theorem b_X7_which_58 {v : VxT} {l : Launch} {g : CxT} {K28 : Int32 → Int64 → Int32 → Mem → Prop} (ok : Ok l g (oX v) 5 cX7_which RX7 (some .long)) (hK28 : ∀ (x1 : Int32) (x2 : Int64) (x4 : Int32) (S : Mem), K28 x1 x2 x4 S → G g (oX v) 8 5 28 [(0, .ref (v.1 0)), (1, .int x1), (2, .long x2), (4, .int x4)] [] S) {post : Int64 → Mem → Prop} (he : EndQ g (oX v) (va_Ql post (fun S1 t => BX (oX v) S1 t) (AX (oX v)))) (x1 : Int32) (x2 : Int64) (x4 : Int32) (S : Mem) (h : w_X7_which_58 K28 post x1 x2 x4 S) : G g (oX v) 8 5 58 [(0, .ref (v.1 0)), (1, .int x1), (2, .long x2), (4, .int x4)] [] S := by
  unfold w_X7_which_58 at h
  obtain ⟨z1, ez1⟩ : ∃ y : Int32, y = x4 + 1 := ⟨_, rfl⟩
  replace h := h z1 ez1
  refine g_iinc 3 [(4, .int z1), (0, .ref (v.1 0)), (1, .int x1), (2, .long x2)] (v := z1) (n := 61) ok dX7_which_58 rfl rfl (by rw [ez1]; rfl) (by decide) rfl ?_
  refine g_goto (t := 28) ok dX7_which_61 (by decide) ?_
  exact g_sub [1, 2, 3, 0] rfl (hK28 x1 x2 z1 S h)
def w_X7_which_28 (post : Int64 → Mem → Prop) : Nat → Int32 → Int64 → Int32 → Mem → Prop
  | 0, _, _, _, _ => False
  | n + 1, x1, x2, x4, S => (((64 : Int32) ≤ x4 → post x2 S) ∧ (¬ (64 : Int32) ≤ x4 → (vp_in x1 4 ∧ w_X7_firstOtherwise (43 + 1 + 2 * x1.toNatClampNeg) x4 S (fun r1 S1 => ((¬ r1 = (-1 : Int32) → w_X7_which_58 (w_X7_which_28 post n) post x1 x2 x4 S1) ∧ (r1 = (-1 : Int32) → (∀ z2 : Int64, z2 = x2 ||| (jlshl (1 : Int64) x4) → w_X7_which_58 (w_X7_which_28 post n) post x1 z2 x4 S1)))))))
set_option maxHeartbeats 4000000 in
set_option maxRecDepth 20000 in
theorem b_X7_which_28 {v : VxT} {l : Launch} {g : CxT} (ok : Ok l g (oX v) 5 cX7_which RX7 (some .long)) {post : Int64 → Mem → Prop} (he : EndQ g (oX v) (va_Ql post (fun S1 t => BX (oX v) S1 t) (AX (oX v)))) : ∀ (n : Nat) (x1 : Int32) (x2 : Int64) (x4 : Int32) (S : Mem), w_X7_which_28 post n x1 x2 x4 S → G g (oX v) 8 5 28 [(0, .ref (v.1 0)), (1, .int x1), (2, .long x2), (4, .int x4)] [] S := by
  intro n
  induction n with
  | zero =>
    intro x1 x2 x4 S h
    exact h.elim
  | succ n ih =>
    intro x1 x2 x4 S h
    rw [w_X7_which_28] at h
    refine g_iload 3 (n := 30) ok dX7_which_28 rfl rfl ?_
    refine g_bipush (v := 64) (n := 32) ok dX7_which_30 rfl (by decide) ?_
    refine g_icmp_ge (t := 64) (n := 35) ok dX7_which_32 (by decide) rfl (fun e4 => ?_) (fun e4 => ?_)
    · replace h := h.1 e4
      refine g_lload_n 2 (n := 65) ok dX7_which_64 rfl rfl ?_
      exact g_lret ok he h dX7_which_65
    · replace h := h.2 e4
      refine g_aload_n 0 (n := 36) ok dX7_which_35 rfl rfl ?_
      refine g_aload_n 0 (n := 37) ok dX7_which_36 rfl rfl ?_
      refine fg_X7_X7_sheets (n := 40) 0 rfl ok dX7_which_37 rfl ?_
      refine g_iload_n 1 (n := 41) ok dX7_which_40 rfl rfl ?_
      obtain ⟨h41, h⟩ := h
      refine g_aald (c := 43) (t0 := 3) (a := v.1 (43 + 1 + 2 * x1.toNatClampNeg)) (n := 42) ok (lt13 rfl) (sh13 rfl _) rfl h41 rfl dX7_which_41 rfl ?_
      refine g_iload 3 (n := 44) ok dX7_which_42 rfl rfl ?_
      refine g_callVi (n := 47) (As := [.ref (v.1 (43 + 1 + 2 * x1.toNatClampNeg)), .int x4]) (rest := []) (c := 0) ok (c_X7_firstOtherwise l v (43 + 1 + 2 * x1.toNatClampNeg) (kdE13 rfl h41) x4 S _ h) cal_X7_firstOtherwise tw_659 tw_661 tp_54 (lt0 rfl) (sh0 rfl _) rfl (by decide) (by decide) rfl (Nat.le_of_ble_eq_true rfl) dX7_which_44 rfl rfl (fun r1 S1 h => ?_)
      refine g_iconst (v := -1) (n := 48) ok dX7_which_47 rfl (by decide) ?_
      refine g_icmp_ne (t := 58) (n := 51) ok dX7_which_48 (by decide) rfl (fun e3 => ?_) (fun e3 => ?_)
      · replace h := h.1 e3
        exact g_sub [0, 1, 2, 3] rfl (b_X7_which_58 ok ih he x1 x2 x4 S1 h)
      · replace h := h.2 e3
        refine g_lload_n 2 (n := 52) ok dX7_which_51 rfl rfl ?_
        refine g_lconst (v := 1) (n := 53) ok dX7_which_52 rfl (by decide) ?_
        refine g_iload 3 (n := 55) ok dX7_which_53 rfl rfl ?_
        refine g_lshl (n := 56) ok dX7_which_55 rfl ?_
        refine g_lor (n := 57) ok dX7_which_56 rfl ?_
        refine g_topl (fun z2 ez2 => ?_)
        replace h := h z2 ez2
        refine g_lstore_n [(2, .long z2), (0, .ref (v.1 0)), (1, .int x1), (4, .int x4)] (n := 58) ok dX7_which_57 rfl (by decide) rfl ?_
        exact g_sub [1, 2, 0, 3] rfl (b_X7_which_58 ok ih he x1 z2 x4 S1 h)
def w_X7_which (p1 : Int32) (S : Mem) (post : Int64 → Mem → Prop) : Prop := w_X7_isSheet p1 S (fun r1 S1 => ((r1 = 0 → w_X7_which_19 post  S1) ∧ (¬ r1 = 0 → (vp_in p1 4 ∧ w_X3_isMissing (43 + 1 + 2 * p1.toNatClampNeg) S1 (fun r2 S2 => ((r2 = 0 → ∃ n, w_X7_which_28 post n p1 (0 : Int64) (0 : Int32) S2) ∧ (¬ r2 = 0 → w_X7_which_19 post  S2)))))))
set_option maxHeartbeats 4000000 in
set_option maxRecDepth 20000 in
theorem c_X7_which (l : Launch) (v : VxT) (p1 : Int32) (S : Mem) (post : Int64 → Mem → Prop) (h : w_X7_which p1 S post) : ML l yX7_which cX7_which 5 (some .long) 8 (oX v) [.ref (v.1 0), .int p1] S post := by
  refine met_start (by decide +kernel) (Nat.le_of_ble_eq_true rfl) (fun g ok he => ?_)
  refine g_eq (L' := [(0, .ref (v.1 0)), (1, .int p1)]) (st' := []) ?_ rfl rfl
  unfold w_X7_which at h
  refine g_iload_n 1 (n := 1) ok dX7_which_0 rfl rfl ?_
  refine g_callSi (n := 4) (As := [.int p1]) (rest := []) ok (c_X7_isSheet l v p1 S _ h) cal_X7_isSheet tw_652 tw_653 (by decide) (by decide) rfl (Nat.le_of_ble_eq_true rfl) dX7_which_1 rfl rfl (fun r1 S1 h => ?_)
  refine g_if_eq (t := 19) (n := 7) ok dX7_which_4 (by decide) rfl (fun e4 => ?_) (fun e4 => ?_)
  · replace h := h.1 e4
    exact g_sub [] rfl (b_X7_which_19 ok he  S1 h)
  · replace h := h.2 e4
    refine g_aload_n 0 (n := 8) ok dX7_which_7 rfl rfl ?_
    refine fg_X7_X7_sheets (n := 11) 0 rfl ok dX7_which_8 rfl ?_
    refine g_iload_n 1 (n := 12) ok dX7_which_11 rfl rfl ?_
    obtain ⟨h12, h⟩ := h
    refine g_aald (c := 43) (t0 := 3) (a := v.1 (43 + 1 + 2 * p1.toNatClampNeg)) (n := 13) ok (lt13 rfl) (sh13 rfl _) rfl h12 rfl dX7_which_12 rfl ?_
    refine g_callVNi (n := 16) (As := []) (rest := []) (c := (43 + 1 + 2 * p1.toNatClampNeg)) ok (c_X3_isMissing l v (43 + 1 + 2 * p1.toNatClampNeg) (kdE13 rfl h12) S1 _ h) cal_X3_isMissing tw_655 tw_657 tp_53 (lt14 (kdE13 rfl h12)) (sh14 (kdE13 rfl h12) _) rfl (by decide) (by decide) rfl (Nat.le_of_ble_eq_true rfl) dX7_which_13 rfl rfl (fun r2 S2 h => ?_)
    refine g_if_eq (t := 23) (n := 19) ok dX7_which_16 (by decide) rfl (fun e3 => ?_) (fun e3 => ?_)
    · replace h := h.1 e3
      refine g_lconst (v := 0) (n := 24) ok dX7_which_23 rfl (by decide) ?_
      refine g_lstore_n [(2, .long (0 : Int64)), (0, .ref (v.1 0)), (1, .int p1)] (n := 25) ok dX7_which_24 rfl (by decide) rfl ?_
      refine g_iconst (v := 0) (n := 26) ok dX7_which_25 rfl (by decide) ?_
      refine g_istore [(4, .int (0 : Int32)), (2, .long (0 : Int64)), (0, .ref (v.1 0)), (1, .int p1)] (n := 28) ok dX7_which_26 rfl (by decide) rfl ?_
      obtain ⟨n0, h⟩ := h
      exact g_sub [2, 3, 1, 0] rfl (b_X7_which_28 ok he n0 p1 (0 : Int64) (0 : Int32) S2 h)
    · replace h := h.2 e3
      exact g_sub [] rfl (b_X7_which_19 ok he  S2 h)
def w_X7_nextDraw (p0 : Int32) (S : Mem) (post : Int32 → Mem → Prop) : Prop := post ((p0 * (1103515245 : Int32)) + (12345 : Int32)) S
set_option maxHeartbeats 4000000 in
set_option maxRecDepth 20000 in
theorem c_X7_nextDraw (l : Launch) (v : VxT) (p0 : Int32) (S : Mem) (post : Int32 → Mem → Prop) (h : w_X7_nextDraw p0 S post) : MI l yX7_nextDraw cX7_nextDraw 1 (some .int) 1 (oX v) [.int p0] S post := by
  refine met_start (by decide +kernel) (Nat.le_of_ble_eq_true rfl) (fun g ok he => ?_)
  refine g_eq (L' := [(0, .int p0)]) (st' := []) ?_ rfl rfl
  unfold w_X7_nextDraw at h
  refine g_iload_n 0 (n := 1) ok dX7_nextDraw_0 rfl rfl ?_
  refine g_ldc_w (v := 1103515245) (n := 4) ok dX7_nextDraw_1 rfl tw_680 ?_
  refine g_imul (n := 5) ok dX7_nextDraw_4 rfl ?_
  refine g_sipush (v := 12345) (n := 8) ok dX7_nextDraw_5 rfl (by decide) ?_
  refine g_iadd (n := 9) ok dX7_nextDraw_8 rfl ?_
  exact g_iret ok he h dX7_nextDraw_9
