def w_X7_drawn (p1 : Int32) (S : Mem) (post : Int32 → Mem → Prop) : Prop := w_X7_nextDraw p1 S (fun r1 S1 => w_X7_nextDraw r1 S1 (fun r2 S2 => w_X7_measure (jrem (jushr r1 (8 : Int32)) (64 : Int32)) (jrem (jushr r2 (10 : Int32)) (8 : Int32)) S2 (fun S3 => post (S3 39 5) S3)))
set_option maxHeartbeats 4000000 in
set_option maxRecDepth 20000 in
theorem c_X7_drawn (l : Launch) (v : VxT) (p1 : Int32) (S : Mem) (post : Int32 → Mem → Prop) (h : w_X7_drawn p1 S post) : MI l yX7_drawn cX7_drawn 4 (some .int) 7 (oX v) [.ref (v.1 0), .int p1] S post := by
  refine met_start (by decide +kernel) (Nat.le_of_ble_eq_true rfl) (fun g ok he => ?_)
  refine g_eq (L' := [(0, .ref (v.1 0)), (1, .int p1)]) (st' := []) ?_ rfl rfl
  unfold w_X7_drawn at h
  refine g_iload_n 1 (n := 1) ok dX7_drawn_0 rfl rfl ?_
  refine g_callSi (n := 4) (As := [.int p1]) (rest := []) ok (c_X7_nextDraw l v p1 S _ h) cal_X7_nextDraw tw_677 tw_678 (by decide) (by decide) rfl (Nat.le_of_ble_eq_true rfl) dX7_drawn_1 rfl rfl (fun r1 S1 h => ?_)
  refine g_istore_n [(2, .int r1), (0, .ref (v.1 0)), (1, .int p1)] (n := 5) ok dX7_drawn_4 rfl (by decide) rfl ?_
  refine g_iload_n 0 (n := 6) ok dX7_drawn_5 rfl rfl ?_
  refine g_callSi (n := 9) (As := [.int r1]) (rest := []) ok (c_X7_nextDraw l v r1 S1 _ h) cal_X7_nextDraw tw_677 tw_678 (by decide) (by decide) rfl (Nat.le_of_ble_eq_true rfl) dX7_drawn_6 rfl rfl (fun r2 S2 h => ?_)
  refine g_istore_n [(3, .int r2), (2, .int r1), (0, .ref (v.1 0)), (1, .int p1)] (n := 10) ok dX7_drawn_9 rfl (by decide) rfl ?_
  refine g_aload_n 2 (n := 11) ok dX7_drawn_10 rfl rfl ?_
  refine g_iload_n 1 (n := 12) ok dX7_drawn_11 rfl rfl ?_
  refine g_bipush (v := 8) (n := 14) ok dX7_drawn_12 rfl (by decide) ?_
  refine g_iushr (n := 15) ok dX7_drawn_14 rfl ?_
  refine g_bipush (v := 64) (n := 17) ok dX7_drawn_15 rfl (by decide) ?_
  refine g_irem (n := 18) ok dX7_drawn_17 rfl (by decide) ?_
  refine g_iload_n 0 (n := 19) ok dX7_drawn_18 rfl rfl ?_
  refine g_bipush (v := 10) (n := 21) ok dX7_drawn_19 rfl (by decide) ?_
  refine g_iushr (n := 22) ok dX7_drawn_21 rfl ?_
  refine g_bipush (v := 8) (n := 24) ok dX7_drawn_22 rfl (by decide) ?_
  refine g_irem (n := 25) ok dX7_drawn_24 rfl (by decide) ?_
  refine g_callVv (n := 28) (As := [.int (jrem (jushr r1 (8 : Int32)) (64 : Int32)), .int (jrem (jushr r2 (10 : Int32)) (8 : Int32))]) (rest := []) (c := 0) ok (c_X7_measure l v (jrem (jushr r1 (8 : Int32)) (64 : Int32)) (jrem (jushr r2 (10 : Int32)) (8 : Int32)) S2 _ h) cal_X7_measure tw_460 tw_462 tp_26 (lt0 rfl) (sh0 rfl _) rfl (by decide) (by decide) rfl (Nat.le_of_ble_eq_true rfl) dX7_drawn_25 rfl rfl (fun S3 h => ?_)
  refine g_aload_n 2 (n := 29) ok dX7_drawn_28 rfl rfl ?_
  refine fg_X7_X7_stand (n := 32) 0 rfl ok dX7_drawn_29 rfl ?_
  refine fg_X7_X4_rock (n := 35) 39 rfl ok dX7_drawn_32 rfl ?_
  exact g_iret ok he h dX7_drawn_35
def w_X7_commonDivisor_23 (K4 : Int32 → Int32 → Int32 → Int32 → Mem → Prop) (post : Int32 → Mem → Prop) (x0 : Int32) (x1 : Int32) (x2 : Int32) (x3 : Int32) (S : Mem) : Prop := (∀ z1 : Int32, z1 = x3 + 1 → K4 x0 x1 x2 z1 S)
set_option maxHeartbeats 4000000 in
set_option maxRecDepth 20000 in
theorem b_X7_commonDivisor_23 {v : VxT} {l : Launch} {g : CxT} {K4 : Int32 → Int32 → Int32 → Int32 → Mem → Prop} (ok : Ok l g (oX v) 4 cX7_commonDivisor RX7 (some .int)) (hK4 : ∀ (x0 : Int32) (x1 : Int32) (x2 : Int32) (x3 : Int32) (S : Mem), K4 x0 x1 x2 x3 S → G g (oX v) 1 4 4 [(0, .int x0), (1, .int x1), (2, .int x2), (3, .int x3)] [] S) {post : Int32 → Mem → Prop} (he : EndQ g (oX v) (va_Qi post (fun S1 t => BX (oX v) S1 t) (AX (oX v)))) (x0 : Int32) (x1 : Int32) (x2 : Int32) (x3 : Int32) (S : Mem) (h : w_X7_commonDivisor_23 K4 post x0 x1 x2 x3 S) : G g (oX v) 1 4 23 [(0, .int x0), (1, .int x1), (2, .int x2), (3, .int x3)] [] S := by
  unfold w_X7_commonDivisor_23 at h
  obtain ⟨z1, ez1⟩ : ∃ y : Int32, y = x3 + 1 := ⟨_, rfl⟩
  replace h := h z1 ez1
  refine g_iinc 3 [(3, .int z1), (0, .int x0), (1, .int x1), (2, .int x2)] (v := z1) (n := 26) ok dX7_commonDivisor_23 rfl rfl (by rw [ez1]; rfl) (by decide) rfl ?_
  refine g_goto (t := 4) ok dX7_commonDivisor_26 (by decide) ?_
  exact g_sub [1, 2, 3, 0] rfl (hK4 x0 x1 x2 z1 S h)
def w_X7_commonDivisor_4 (post : Int32 → Mem → Prop) : Nat → Int32 → Int32 → Int32 → Int32 → Mem → Prop
  | 0, _, _, _, _, _ => False
  | n + 1, x0, x1, x2, x3, S => ((x1 < x3 → post x2 S) ∧ (¬ x1 < x3 → (¬ x3 = 0 ∧ ((¬ (jrem x0 x3) = 0 → w_X7_commonDivisor_23 (w_X7_commonDivisor_4 post n) post x0 x1 x2 x3 S) ∧ ((jrem x0 x3) = 0 → (¬ x3 = 0 ∧ ((¬ (jrem x1 x3) = 0 → w_X7_commonDivisor_23 (w_X7_commonDivisor_4 post n) post x0 x1 x2 x3 S) ∧ ((jrem x1 x3) = 0 → w_X7_commonDivisor_23 (w_X7_commonDivisor_4 post n) post x0 x1 x3 x3 S))))))))
set_option maxHeartbeats 4000000 in
set_option maxRecDepth 20000 in
theorem b_X7_commonDivisor_4 {v : VxT} {l : Launch} {g : CxT} (ok : Ok l g (oX v) 4 cX7_commonDivisor RX7 (some .int)) {post : Int32 → Mem → Prop} (he : EndQ g (oX v) (va_Qi post (fun S1 t => BX (oX v) S1 t) (AX (oX v)))) : ∀ (n : Nat) (x0 : Int32) (x1 : Int32) (x2 : Int32) (x3 : Int32) (S : Mem), w_X7_commonDivisor_4 post n x0 x1 x2 x3 S → G g (oX v) 1 4 4 [(0, .int x0), (1, .int x1), (2, .int x2), (3, .int x3)] [] S := by
  intro n
  induction n with
  | zero =>
    intro x0 x1 x2 x3 S h
    exact h.elim
  | succ n ih =>
    intro x0 x1 x2 x3 S h
    rw [w_X7_commonDivisor_4] at h
    refine g_iload_n 3 (n := 5) ok dX7_commonDivisor_4 rfl rfl ?_
    refine g_iload_n 1 (n := 6) ok dX7_commonDivisor_5 rfl rfl ?_
    refine g_icmp_gt (t := 29) (n := 9) ok dX7_commonDivisor_6 (by decide) rfl (fun e3 => ?_) (fun e3 => ?_)
    · replace h := h.1 e3
      refine g_iload_n 2 (n := 30) ok dX7_commonDivisor_29 rfl rfl ?_
      exact g_iret ok he h dX7_commonDivisor_30
    · replace h := h.2 e3
      refine g_iload_n 0 (n := 10) ok dX7_commonDivisor_9 rfl rfl ?_
      refine g_iload_n 3 (n := 11) ok dX7_commonDivisor_10 rfl rfl ?_
      obtain ⟨h0, h⟩ := h
      refine g_irem (n := 12) ok dX7_commonDivisor_11 rfl h0 ?_
      refine g_if_ne (t := 23) (n := 15) ok dX7_commonDivisor_12 (by decide) rfl (fun e2 => ?_) (fun e2 => ?_)
      · replace h := h.1 e2
        exact g_sub [0, 1, 2, 3] rfl (b_X7_commonDivisor_23 ok ih he x0 x1 x2 x3 S h)
      · replace h := h.2 e2
        refine g_iload_n 1 (n := 16) ok dX7_commonDivisor_15 rfl rfl ?_
        refine g_iload_n 3 (n := 17) ok dX7_commonDivisor_16 rfl rfl ?_
        obtain ⟨h0, h⟩ := h
        refine g_irem (n := 18) ok dX7_commonDivisor_17 rfl h0 ?_
        refine g_if_ne (t := 23) (n := 21) ok dX7_commonDivisor_18 (by decide) rfl (fun e1 => ?_) (fun e1 => ?_)
        · replace h := h.1 e1
          exact g_sub [0, 1, 2, 3] rfl (b_X7_commonDivisor_23 ok ih he x0 x1 x2 x3 S h)
        · replace h := h.2 e1
          refine g_iload_n 3 (n := 22) ok dX7_commonDivisor_21 rfl rfl ?_
          refine g_istore_n [(2, .int x3), (0, .int x0), (1, .int x1), (3, .int x3)] (n := 23) ok dX7_commonDivisor_22 rfl (by decide) rfl ?_
          exact g_sub [1, 2, 0, 3] rfl (b_X7_commonDivisor_23 ok ih he x0 x1 x3 x3 S h)
def w_X7_commonDivisor (p0 : Int32) (p1 : Int32) (S : Mem) (post : Int32 → Mem → Prop) : Prop := ∃ n, w_X7_commonDivisor_4 post n p0 p1 (1 : Int32) (2 : Int32) S
set_option maxHeartbeats 4000000 in
set_option maxRecDepth 20000 in
theorem c_X7_commonDivisor (l : Launch) (v : VxT) (p0 : Int32) (p1 : Int32) (S : Mem) (post : Int32 → Mem → Prop) (h : w_X7_commonDivisor p0 p1 S post) : MI l yX7_commonDivisor cX7_commonDivisor 4 (some .int) 1 (oX v) [.int p0, .int p1] S post := by
  refine met_start (by decide +kernel) (Nat.le_of_ble_eq_true rfl) (fun g ok he => ?_)
  refine g_eq (L' := [(0, .int p0), (1, .int p1)]) (st' := []) ?_ rfl rfl
  unfold w_X7_commonDivisor at h
  refine g_iconst (v := 1) (n := 1) ok dX7_commonDivisor_0 rfl (by decide) ?_
  refine g_istore_n [(2, .int (1 : Int32)), (0, .int p0), (1, .int p1)] (n := 2) ok dX7_commonDivisor_1 rfl (by decide) rfl ?_
  refine g_iconst (v := 2) (n := 3) ok dX7_commonDivisor_2 rfl (by decide) ?_
  refine g_istore_n [(3, .int (2 : Int32)), (2, .int (1 : Int32)), (0, .int p0), (1, .int p1)] (n := 4) ok dX7_commonDivisor_3 rfl (by decide) rfl ?_
  obtain ⟨n0, h⟩ := h
  exact g_sub [2, 3, 1, 0] rfl (b_X7_commonDivisor_4 ok he n0 p0 p1 (1 : Int32) (2 : Int32) S h)
def w_X7_odds_19 (post : Int64 → Mem → Prop) (S : Mem) : Prop := post (-4611686018427387904 : Int64) S
set_option maxHeartbeats 4000000 in
set_option maxRecDepth 20000 in
theorem b_X7_odds_19 {v : VxT} {l : Launch} {g : CxT} (ok : Ok l g (oX v) 6 cX7_odds RX7 (some .long)) {post : Int64 → Mem → Prop} (he : EndQ g (oX v) (va_Ql post (fun S1 t => BX (oX v) S1 t) (AX (oX v)))) (S : Mem) (h : w_X7_odds_19 post  S) : G g (oX v) 8 6 19 [] [] S := by
  unfold w_X7_odds_19 at h
  refine g_ldc2 (v := -4611686018427387904) (n := 22) ok dX7_odds_19 rfl tw_672 ?_
  exact g_lret ok he h dX7_odds_22
def w_X7_odds_49 (K29 : Int32 → Int32 → Int32 → Int32 → Int32 → Mem → Prop) (post : Int64 → Mem → Prop) (x1 : Int32) (x2 : Int32) (x3 : Int32) (x4 : Int32) (x5 : Int32) (S : Mem) : Prop := (∀ z1 : Int32, z1 = x5 + 1 → K29 x1 x2 x3 x4 z1 S)
set_option maxHeartbeats 4000000 in
set_option maxRecDepth 20000 in
theorem b_X7_odds_49 {v : VxT} {l : Launch} {g : CxT} {K29 : Int32 → Int32 → Int32 → Int32 → Int32 → Mem → Prop} (ok : Ok l g (oX v) 6 cX7_odds RX7 (some .long)) (hK29 : ∀ (x1 : Int32) (x2 : Int32) (x3 : Int32) (x4 : Int32) (x5 : Int32) (S : Mem), K29 x1 x2 x3 x4 x5 S → G g (oX v) 8 6 29 [(0, .ref (v.1 0)), (1, .int x1), (2, .int x2), (3, .int x3), (4, .int x4), (5, .int x5)] [] S) {post : Int64 → Mem → Prop} (he : EndQ g (oX v) (va_Ql post (fun S1 t => BX (oX v) S1 t) (AX (oX v)))) (x1 : Int32) (x2 : Int32) (x3 : Int32) (x4 : Int32) (x5 : Int32) (S : Mem) (h : w_X7_odds_49 K29 post x1 x2 x3 x4 x5 S) : G g (oX v) 8 6 49 [(0, .ref (v.1 0)), (1, .int x1), (2, .int x2), (3, .int x3), (4, .int x4), (5, .int x5)] [] S := by
  unfold w_X7_odds_49 at h
  obtain ⟨z1, ez1⟩ : ∃ y : Int32, y = x5 + 1 := ⟨_, rfl⟩
  replace h := h z1 ez1
  refine g_iinc 5 [(5, .int z1), (0, .ref (v.1 0)), (1, .int x1), (2, .int x2), (3, .int x3), (4, .int x4)] (v := z1) (n := 52) ok dX7_odds_49 rfl rfl (by rw [ez1]; rfl) (by decide) rfl ?_
  refine g_goto (t := 29) ok dX7_odds_52 (by decide) ?_
  exact g_sub [1, 2, 3, 4, 5, 0] rfl (hK29 x1 x2 x3 x4 z1 S h)
def w_X7_odds_81 (post : Int64 → Mem → Prop) (y0 : Int64) (S : Mem) : Prop := post y0 S
set_option maxHeartbeats 4000000 in
set_option maxRecDepth 20000 in
theorem b_X7_odds_81 {v : VxT} {l : Launch} {g : CxT} (ok : Ok l g (oX v) 6 cX7_odds RX7 (some .long)) {post : Int64 → Mem → Prop} (he : EndQ g (oX v) (va_Ql post (fun S1 t => BX (oX v) S1 t) (AX (oX v)))) (y0 : Int64) (S : Mem) (h : w_X7_odds_81 post y0 S) : G g (oX v) 8 6 81 [] [.long y0] S := by
  unfold w_X7_odds_81 at h
  exact g_lret ok he h dX7_odds_81
def w_X7_odds_29 (post : Int64 → Mem → Prop) : Nat → Int32 → Int32 → Int32 → Int32 → Int32 → Mem → Prop
  | 0, _, _, _, _, _, _ => False
  | n + 1, x1, x2, x3, x4, x5, S => ((x2 ≤ x5 → w_X7_commonDivisor x4 x2 S (fun r1 S1 => ((¬ x3 = 0 → (¬ r1 = 0 ∧ w_X7_odds_81 post ((x2 / r1).toInt64) S1)) ∧ (x3 = 0 → (¬ r1 = 0 ∧ w_X7_odds_81 post ((x4 / r1).toInt64) S1))))) ∧ (¬ x2 ≤ x5 → w_X7_drawn (x1 + x5) S (fun r3 S3 => ((¬ r3 = 0 → w_X7_odds_49 (w_X7_odds_29 post n) post x1 x2 x3 x4 x5 S3) ∧ (r3 = 0 → (∀ z4 : Int32, z4 = x4 + 1 → w_X7_odds_49 (w_X7_odds_29 post n) post x1 x2 x3 z4 x5 S3))))))
set_option maxHeartbeats 4000000 in
set_option maxRecDepth 20000 in
theorem b_X7_odds_29 {v : VxT} {l : Launch} {g : CxT} (ok : Ok l g (oX v) 6 cX7_odds RX7 (some .long)) {post : Int64 → Mem → Prop} (he : EndQ g (oX v) (va_Ql post (fun S1 t => BX (oX v) S1 t) (AX (oX v)))) : ∀ (n : Nat) (x1 : Int32) (x2 : Int32) (x3 : Int32) (x4 : Int32) (x5 : Int32) (S : Mem), w_X7_odds_29 post n x1 x2 x3 x4 x5 S → G g (oX v) 8 6 29 [(0, .ref (v.1 0)), (1, .int x1), (2, .int x2), (3, .int x3), (4, .int x4), (5, .int x5)] [] S := by
  intro n
  induction n with
  | zero =>
    intro x1 x2 x3 x4 x5 S h
    exact h.elim
  | succ n ih =>
    intro x1 x2 x3 x4 x5 S h
    rw [w_X7_odds_29] at h
    refine g_iload 5 (n := 31) ok dX7_odds_29 rfl rfl ?_
    refine g_iload_n 2 (n := 32) ok dX7_odds_31 rfl rfl ?_
    refine g_icmp_ge (t := 55) (n := 35) ok dX7_odds_32 (by decide) rfl (fun e6 => ?_) (fun e6 => ?_)
    · replace h := h.1 e6
      refine g_iload 4 (n := 57) ok dX7_odds_55 rfl rfl ?_
      refine g_iload_n 2 (n := 58) ok dX7_odds_57 rfl rfl ?_
      refine g_callSi (n := 61) (As := [.int x4, .int x2]) (rest := []) ok (c_X7_commonDivisor l v x4 x2 S _ h) cal_X7_commonDivisor tw_686 tw_687 (by decide) (by decide) rfl (Nat.le_of_ble_eq_true rfl) dX7_odds_58 rfl rfl (fun r1 S1 h => ?_)
      refine g_istore [(5, .int r1), (0, .ref (v.1 0)), (1, .int x1), (2, .int x2), (3, .int x3), (4, .int x4)] (n := 63) ok dX7_odds_61 rfl (by decide) rfl ?_
      refine g_iload_n 4 (n := 64) ok dX7_odds_63 rfl rfl ?_
      refine g_if_ne (t := 76) (n := 67) ok dX7_odds_64 (by decide) rfl (fun e2 => ?_) (fun e2 => ?_)
      · replace h := h.1 e2
        refine g_iload_n 3 (n := 77) ok dX7_odds_76 rfl rfl ?_
        refine g_iload 0 (n := 79) ok dX7_odds_77 rfl rfl ?_
        obtain ⟨h0, h⟩ := h
        refine g_idiv (n := 80) ok dX7_odds_79 rfl h0 ?_
        refine g_i2l (n := 81) ok dX7_odds_80 rfl ?_
        exact g_sub [] rfl (b_X7_odds_81 ok he ((x2 / r1).toInt64) S1 h)
      · replace h := h.2 e2
        refine g_iload 5 (n := 69) ok dX7_odds_67 rfl rfl ?_
        refine g_iload 0 (n := 71) ok dX7_odds_69 rfl rfl ?_
        obtain ⟨h0, h⟩ := h
        refine g_idiv (n := 72) ok dX7_odds_71 rfl h0 ?_
        refine g_i2l (n := 73) ok dX7_odds_72 rfl ?_
        refine g_goto (t := 81) ok dX7_odds_73 (by decide) ?_
        exact g_sub [] rfl (b_X7_odds_81 ok he ((x4 / r1).toInt64) S1 h)
    · replace h := h.2 e6
      refine g_aload_n 0 (n := 36) ok dX7_odds_35 rfl rfl ?_
      refine g_iload_n 1 (n := 37) ok dX7_odds_36 rfl rfl ?_
      refine g_iload 5 (n := 39) ok dX7_odds_37 rfl rfl ?_
      refine g_iadd (n := 40) ok dX7_odds_39 rfl ?_
      refine g_callVi (n := 43) (As := [.int (x1 + x5)]) (rest := []) (c := 0) ok (c_X7_drawn l v (x1 + x5) S _ h) cal_X7_drawn tw_685 tw_674 tw_675 (lt0 rfl) (sh0 rfl _) rfl (by decide) (by decide) rfl (Nat.le_of_ble_eq_true rfl) dX7_odds_40 rfl rfl (fun r3 S3 h => ?_)
      refine g_if_ne (t := 49) (n := 46) ok dX7_odds_43 (by decide) rfl (fun e5 => ?_) (fun e5 => ?_)
      · replace h := h.1 e5
        exact g_sub [0, 1, 2, 3, 4, 5] rfl (b_X7_odds_49 ok ih he x1 x2 x3 x4 x5 S3 h)
      · replace h := h.2 e5
        obtain ⟨z4, ez4⟩ : ∃ y : Int32, y = x4 + 1 := ⟨_, rfl⟩
        replace h := h z4 ez4
        refine g_iinc 4 [(4, .int z4), (0, .ref (v.1 0)), (1, .int x1), (2, .int x2), (3, .int x3), (5, .int x5)] (v := z4) (n := 49) ok dX7_odds_46 rfl rfl (by rw [ez4]; rfl) (by decide) rfl ?_
        exact g_sub [1, 2, 3, 4, 0, 5] rfl (b_X7_odds_49 ok ih he x1 x2 x3 z4 x5 S3 h)
def w_X7_odds (p1 : Int32) (p2 : Int32) (p3 : Int32) (S : Mem) (post : Int64 → Mem → Prop) : Prop := w_X7_within p2 (1 : Int32) (30 : Int32) S (fun r1 S1 => ((r1 = 0 → w_X7_odds_19 post  S1) ∧ (¬ r1 = 0 → w_X7_within p3 (0 : Int32) (1 : Int32) S1 (fun r2 S2 => ((¬ r2 = 0 → ∃ n, w_X7_odds_29 post n p1 p2 p3 (0 : Int32) (0 : Int32) S2) ∧ (r2 = 0 → w_X7_odds_19 post  S2))))))
set_option maxHeartbeats 4000000 in
set_option maxRecDepth 20000 in
theorem c_X7_odds (l : Launch) (v : VxT) (p1 : Int32) (p2 : Int32) (p3 : Int32) (S : Mem) (post : Int64 → Mem → Prop) (h : w_X7_odds p1 p2 p3 S post) : ML l yX7_odds cX7_odds 6 (some .long) 8 (oX v) [.ref (v.1 0), .int p1, .int p2, .int p3] S post := by
  refine met_start (by decide +kernel) (Nat.le_of_ble_eq_true rfl) (fun g ok he => ?_)
  refine g_eq (L' := [(0, .ref (v.1 0)), (1, .int p1), (2, .int p2), (3, .int p3)]) (st' := []) ?_ rfl rfl
  unfold w_X7_odds at h
  refine g_iload_n 2 (n := 1) ok dX7_odds_0 rfl rfl ?_
  refine g_iconst (v := 1) (n := 2) ok dX7_odds_1 rfl (by decide) ?_
  refine g_bipush (v := 30) (n := 4) ok dX7_odds_2 rfl (by decide) ?_
  refine g_callSi (n := 7) (As := [.int p2, .int (1 : Int32), .int (30 : Int32)]) (rest := []) ok (c_X7_within l v p2 (1 : Int32) (30 : Int32) S _ h) cal_X7_within tw_373 tw_253 (by decide) (by decide) rfl (Nat.le_of_ble_eq_true rfl) dX7_odds_4 rfl rfl (fun r1 S1 h => ?_)
  refine g_if_eq (t := 19) (n := 10) ok dX7_odds_7 (by decide) rfl (fun e4 => ?_) (fun e4 => ?_)
  · replace h := h.1 e4
    exact g_sub [] rfl (b_X7_odds_19 ok he  S1 h)
  · replace h := h.2 e4
    refine g_iload_n 3 (n := 11) ok dX7_odds_10 rfl rfl ?_
    refine g_iconst (v := 0) (n := 12) ok dX7_odds_11 rfl (by decide) ?_
    refine g_iconst (v := 1) (n := 13) ok dX7_odds_12 rfl (by decide) ?_
    refine g_callSi (n := 16) (As := [.int p3, .int (0 : Int32), .int (1 : Int32)]) (rest := []) ok (c_X7_within l v p3 (0 : Int32) (1 : Int32) S1 _ h) cal_X7_within tw_373 tw_253 (by decide) (by decide) rfl (Nat.le_of_ble_eq_true rfl) dX7_odds_13 rfl rfl (fun r2 S2 h => ?_)
    refine g_if_ne (t := 23) (n := 19) ok dX7_odds_16 (by decide) rfl (fun e3 => ?_) (fun e3 => ?_)
    · replace h := h.1 e3
      refine g_iconst (v := 0) (n := 24) ok dX7_odds_23 rfl (by decide) ?_
      refine g_istore [(4, .int (0 : Int32)), (0, .ref (v.1 0)), (1, .int p1), (2, .int p2), (3, .int p3)] (n := 26) ok dX7_odds_24 rfl (by decide) rfl ?_
      refine g_iconst (v := 0) (n := 27) ok dX7_odds_26 rfl (by decide) ?_
      refine g_istore [(5, .int (0 : Int32)), (4, .int (0 : Int32)), (0, .ref (v.1 0)), (1, .int p1), (2, .int p2), (3, .int p3)] (n := 29) ok dX7_odds_27 rfl (by decide) rfl ?_
      obtain ⟨n0, h⟩ := h
      exact g_sub [2, 3, 4, 5, 1, 0] rfl (b_X7_odds_29 ok he n0 p1 p2 p3 (0 : Int32) (0 : Int32) S2 h)
    · replace h := h.2 e3
      exact g_sub [] rfl (b_X7_odds_19 ok he  S2 h)
def w_X7_image (S : Mem) (post : Int32 → Mem → Prop) : Prop := w_X5_becomeLike 8 1 S (fun S1 => (∀ S2 : Mem, S2 = mset S1 0 (upd (S1 0) 2 (1 : Int32)) → post (S2 1 4) S2))
set_option maxHeartbeats 4000000 in
set_option maxRecDepth 20000 in
theorem c_X7_image (l : Launch) (v : VxT) (S : Mem) (post : Int32 → Mem → Prop) (h : w_X7_image  S post) : MI l yX7_image cX7_image 1 (some .int) 2 (oX v) [.ref (v.1 0)] S post := by
  refine met_start (by decide +kernel) (Nat.le_of_ble_eq_true rfl) (fun g ok he => ?_)
  refine g_eq (L' := [(0, .ref (v.1 0))]) (st' := []) ?_ rfl rfl
  unfold w_X7_image at h
  refine g_aload_n 0 (n := 1) ok dX7_image_0 rfl rfl ?_
  refine fg_X7_X7_kept (n := 4) 0 rfl ok dX7_image_1 rfl ?_
  refine g_aload_n 0 (n := 5) ok dX7_image_4 rfl rfl ?_
  refine fg_X7_X7_table (n := 8) 0 rfl ok dX7_image_5 rfl ?_
  refine g_callVNv (n := 11) (As := [.ref (v.1 1)]) (rest := []) (c := 8) ok (c_X5_becomeLike l v 8 rfl 1 rfl S _ h) cal_X5_becomeLike tw_693 tw_695 tp_56 (lt1 rfl) (sh1 rfl _) rfl (by decide) (by decide) rfl (Nat.le_of_ble_eq_true rfl) dX7_image_8 rfl rfl (fun S1 h => ?_)
  refine g_aload_n 0 (n := 12) ok dX7_image_11 rfl rfl ?_
  refine g_iconst (v := 1) (n := 13) ok dX7_image_12 rfl (by decide) ?_
  refine fp_X7_X7_keeps (n := 16) 0 rfl ok (Or.inr rfl) dX7_image_13 rfl ?_
  refine g_mem (fun S2 eS2 => ?_)
  replace h := h S2 eS2
  refine g_aload_n 0 (n := 17) ok dX7_image_16 rfl rfl ?_
  refine fg_X7_X7_table (n := 20) 0 rfl ok dX7_image_17 rfl ?_
  refine fg_X7_X5_turn (n := 23) 1 rfl ok dX7_image_20 rfl ?_
  exact g_iret ok he h dX7_image_23
def w_X7_back (S : Mem) (post : Int32 → Mem → Prop) : Prop := ((¬ (S 0 2) = 0 → w_X5_becomeLike 1 8 S (fun S1 => post (S1 1 4) S1)) ∧ ((S 0 2) = 0 → post (-3 : Int32) S))
set_option maxHeartbeats 4000000 in
set_option maxRecDepth 20000 in
theorem c_X7_back (l : Launch) (v : VxT) (S : Mem) (post : Int32 → Mem → Prop) (h : w_X7_back  S post) : MI l yX7_back cX7_back 1 (some .int) 2 (oX v) [.ref (v.1 0)] S post := by
  refine met_start (by decide +kernel) (Nat.le_of_ble_eq_true rfl) (fun g ok he => ?_)
  refine g_eq (L' := [(0, .ref (v.1 0))]) (st' := []) ?_ rfl rfl
  unfold w_X7_back at h
  refine g_aload_n 0 (n := 1) ok dX7_back_0 rfl rfl ?_
  refine fg_X7_X7_keeps (n := 4) 0 rfl ok dX7_back_1 rfl ?_
  refine g_if_ne (t := 10) (n := 7) ok dX7_back_4 (by decide) rfl (fun e2 => ?_) (fun e2 => ?_)
  · replace h := h.1 e2
    refine g_aload_n 0 (n := 11) ok dX7_back_10 rfl rfl ?_
    refine fg_X7_X7_table (n := 14) 0 rfl ok dX7_back_11 rfl ?_
    refine g_aload_n 0 (n := 15) ok dX7_back_14 rfl rfl ?_
    refine fg_X7_X7_kept (n := 18) 0 rfl ok dX7_back_15 rfl ?_
    refine g_callVNv (n := 21) (As := [.ref (v.1 8)]) (rest := []) (c := 1) ok (c_X5_becomeLike l v 1 rfl 8 rfl S _ h) cal_X5_becomeLike tw_693 tw_695 tp_56 (lt1 rfl) (sh1 rfl _) rfl (by decide) (by decide) rfl (Nat.le_of_ble_eq_true rfl) dX7_back_18 rfl rfl (fun S1 h => ?_)
    refine g_aload_n 0 (n := 22) ok dX7_back_21 rfl rfl ?_
    refine fg_X7_X7_table (n := 25) 0 rfl ok dX7_back_22 rfl ?_
    refine fg_X7_X5_turn (n := 28) 1 rfl ok dX7_back_25 rfl ?_
    exact g_iret ok he h dX7_back_28
  · replace h := h.2 e2
    refine g_bipush (v := -3) (n := 9) ok dX7_back_7 rfl (by decide) ?_
    exact g_iret ok he h dX7_back_9
def w_X7_count (p1 : Int32) (S : Mem) (post : Int32 → Mem → Prop) : Prop := ((p1 = 0 → post (S 1 2) S) ∧ (¬ p1 = 0 → ((p1 = 1 → post (S 1 3) S) ∧ (¬ p1 = 1 → ((p1 = 2 → post (S 1 4) S) ∧ (¬ p1 = 2 → ((p1 = 3 → post (S 1 5) S) ∧ (¬ p1 = 3 → ((p1 = 4 → post (S 0 5) S) ∧ (¬ p1 = 4 → ((p1 = 5 → post (S 15 2) S) ∧ (¬ p1 = 5 → ((p1 = 6 → post (S 1 6) S) ∧ (¬ p1 = 6 → post (-2 : Int32) S))))))))))))))
set_option maxHeartbeats 4000000 in
set_option maxRecDepth 20000 in
theorem c_X7_count (l : Launch) (v : VxT) (p1 : Int32) (S : Mem) (post : Int32 → Mem → Prop) (h : w_X7_count p1 S post) : MI l yX7_count cX7_count 2 (some .int) 1 (oX v) [.ref (v.1 0), .int p1] S post := by
  refine met_start (by decide +kernel) (Nat.le_of_ble_eq_true rfl) (fun g ok he => ?_)
  refine g_eq (L' := [(0, .ref (v.1 0)), (1, .int p1)]) (st' := []) ?_ rfl rfl
  unfold w_X7_count at h
  refine g_iload_n 1 (n := 1) ok dX7_count_0 rfl rfl ?_
  by_cases e1 : p1 = 0
  · replace h := h.1 e1
    refine g_tsIn (off := 43) (t := 44) ok dX7_count_1 (by rw [e1]; decide) (by rw [e1]; decide) (by rw [e1]; rfl) (by decide) ?_
    refine g_aload_n 0 (n := 45) ok dX7_count_44 rfl rfl ?_
    refine fg_X7_X7_table (n := 48) 0 rfl ok dX7_count_45 rfl ?_
    refine fg_X7_X5_place (n := 51) 1 rfl ok dX7_count_48 rfl ?_
    exact g_iret ok he h dX7_count_51
  · replace h := h.2 e1
    by_cases e2 : p1 = 1
    · replace h := h.1 e2
      refine g_tsIn (off := 51) (t := 52) ok dX7_count_1 (by rw [e2]; decide) (by rw [e2]; decide) (by rw [e2]; rfl) (by decide) ?_
      refine g_aload_n 0 (n := 53) ok dX7_count_52 rfl rfl ?_
      refine fg_X7_X7_table (n := 56) 0 rfl ok dX7_count_53 rfl ?_
      refine fg_X7_X5_radius (n := 59) 1 rfl ok dX7_count_56 rfl ?_
      exact g_iret ok he h dX7_count_59
    · replace h := h.2 e2
      by_cases e3 : p1 = 2
      · replace h := h.1 e3
        refine g_tsIn (off := 59) (t := 60) ok dX7_count_1 (by rw [e3]; decide) (by rw [e3]; decide) (by rw [e3]; rfl) (by decide) ?_
        refine g_aload_n 0 (n := 61) ok dX7_count_60 rfl rfl ?_
        refine fg_X7_X7_table (n := 64) 0 rfl ok dX7_count_61 rfl ?_
        refine fg_X7_X5_turn (n := 67) 1 rfl ok dX7_count_64 rfl ?_
        exact g_iret ok he h dX7_count_67
      · replace h := h.2 e3
        by_cases e4 : p1 = 3
        · replace h := h.1 e4
          refine g_tsIn (off := 67) (t := 68) ok dX7_count_1 (by rw [e4]; decide) (by rw [e4]; decide) (by rw [e4]; rfl) (by decide) ?_
          refine g_aload_n 0 (n := 69) ok dX7_count_68 rfl rfl ?_
          refine fg_X7_X7_table (n := 72) 0 rfl ok dX7_count_69 rfl ?_
          refine fg_X7_X5_load (n := 75) 1 rfl ok dX7_count_72 rfl ?_
          exact g_iret ok he h dX7_count_75
        · replace h := h.2 e4
          by_cases e5 : p1 = 4
          · replace h := h.1 e5
            refine g_tsIn (off := 75) (t := 76) ok dX7_count_1 (by rw [e5]; decide) (by rw [e5]; decide) (by rw [e5]; rfl) (by decide) ?_
            refine g_aload_n 0 (n := 77) ok dX7_count_76 rfl rfl ?_
            refine fg_X7_X7_ruleCount (n := 80) 0 rfl ok dX7_count_77 rfl ?_
            exact g_iret ok he h dX7_count_80
          · replace h := h.2 e5
            by_cases e6 : p1 = 5
            · replace h := h.1 e6
              refine g_tsIn (off := 80) (t := 81) ok dX7_count_1 (by rw [e6]; decide) (by rw [e6]; decide) (by rw [e6]; rfl) (by decide) ?_
              refine g_aload_n 0 (n := 82) ok dX7_count_81 rfl rfl ?_
              refine fg_X7_X7_reader (n := 85) 0 rfl ok dX7_count_82 rfl ?_
              refine fg_X7_X1_size (n := 88) 15 rfl ok dX7_count_85 rfl ?_
              exact g_iret ok he h dX7_count_88
            · replace h := h.2 e6
              by_cases e7 : p1 = 6
              · replace h := h.1 e7
                refine g_tsIn (off := 88) (t := 89) ok dX7_count_1 (by rw [e7]; decide) (by rw [e7]; decide) (by rw [e7]; rfl) (by decide) ?_
                refine g_aload_n 0 (n := 90) ok dX7_count_89 rfl rfl ?_
                refine fg_X7_X7_table (n := 93) 0 rfl ok dX7_count_90 rfl ?_
                refine fg_X7_X5_rule (n := 96) 1 rfl ok dX7_count_93 rfl ?_
                exact g_iret ok he h dX7_count_96
              · replace h := h.2 e7
                refine g_tsOut (t := 97) ok dX7_count_1 (by have q0 := lv_neT (a := 0) e1 rfl; have q1 := lv_neT (a := 1) e2 rfl; have q2 := lv_neT (a := 2) e3 rfl; have q3 := lv_neT (a := 3) e4 rfl; have q4 := lv_neT (a := 4) e5 rfl; have q5 := lv_neT (a := 5) e6 rfl; have q6 := lv_neT (a := 6) e7 rfl; omega) (by decide) ?_
                refine g_bipush (v := -2) (n := 99) ok dX7_count_97 rfl (by decide) ?_
                exact g_iret ok he h dX7_count_99
def w_X7_sheet_16 (post : Int32 → Mem → Prop) (S : Mem) : Prop := post (-2 : Int32) S
set_option maxHeartbeats 4000000 in
set_option maxRecDepth 20000 in
theorem b_X7_sheet_16 {v : VxT} {l : Launch} {g : CxT} (ok : Ok l g (oX v) 4 cX7_sheet RX7 (some .int)) {post : Int32 → Mem → Prop} (he : EndQ g (oX v) (va_Qi post (fun S1 t => BX (oX v) S1 t) (AX (oX v)))) (S : Mem) (h : w_X7_sheet_16 post  S) : G g (oX v) 3 4 16 [] [] S := by
  unfold w_X7_sheet_16 at h
  refine g_bipush (v := -2) (n := 18) ok dX7_sheet_16 rfl (by decide) ?_
  exact g_iret ok he h dX7_sheet_18
def w_X7_sheet (p1 : Int32) (p2 : Int32) (p3 : Int32) (S : Mem) (post : Int32 → Mem → Prop) : Prop := w_X7_isSheet p1 S (fun r1 S1 => ((r1 = 0 → w_X7_sheet_16 post  S1) ∧ (¬ r1 = 0 → w_X7_within p2 (-1 : Int32) (2 : Int32) S1 (fun r2 S2 => ((¬ r2 = 0 → ((¬ p2 = (-1 : Int32) → ((p3 ≤ (40 : Int32) → ((0 ≤ p3 → (vp_in p1 4 ∧ w_X3_become (43 + 1 + 2 * p1.toNatClampNeg) p2 p3 S2 (fun S3 => post (1 : Int32) S3))) ∧ (¬ 0 ≤ p3 → post (-14 : Int32) S2))) ∧ (¬ p3 ≤ (40 : Int32) → post (-2 : Int32) S2))) ∧ (p2 = (-1 : Int32) → (vp_in p1 4 ∧ w_X3_vanish (43 + 1 + 2 * p1.toNatClampNeg) S2 (fun S6 => post (1 : Int32) S6))))) ∧ (r2 = 0 → w_X7_sheet_16 post  S2))))))
set_option maxHeartbeats 4000000 in
set_option maxRecDepth 20000 in
theorem c_X7_sheet (l : Launch) (v : VxT) (p1 : Int32) (p2 : Int32) (p3 : Int32) (S : Mem) (post : Int32 → Mem → Prop) (h : w_X7_sheet p1 p2 p3 S post) : MI l yX7_sheet cX7_sheet 4 (some .int) 3 (oX v) [.ref (v.1 0), .int p1, .int p2, .int p3] S post := by
  refine met_start (by decide +kernel) (Nat.le_of_ble_eq_true rfl) (fun g ok he => ?_)
  refine g_eq (L' := [(0, .ref (v.1 0)), (1, .int p1), (2, .int p2), (3, .int p3)]) (st' := []) ?_ rfl rfl
  unfold w_X7_sheet at h
  refine g_iload_n 1 (n := 1) ok dX7_sheet_0 rfl rfl ?_
  refine g_callSi (n := 4) (As := [.int p1]) (rest := []) ok (c_X7_isSheet l v p1 S _ h) cal_X7_isSheet tw_652 tw_653 (by decide) (by decide) rfl (Nat.le_of_ble_eq_true rfl) dX7_sheet_1 rfl rfl (fun r1 S1 h => ?_)
  refine g_if_eq (t := 16) (n := 7) ok dX7_sheet_4 (by decide) rfl (fun e9 => ?_) (fun e9 => ?_)
  · replace h := h.1 e9
    exact g_sub [] rfl (b_X7_sheet_16 ok he  S1 h)
  · replace h := h.2 e9
    refine g_iload_n 2 (n := 8) ok dX7_sheet_7 rfl rfl ?_
    refine g_iconst (v := -1) (n := 9) ok dX7_sheet_8 rfl (by decide) ?_
    refine g_iconst (v := 2) (n := 10) ok dX7_sheet_9 rfl (by decide) ?_
    refine g_callSi (n := 13) (As := [.int p2, .int (-1 : Int32), .int (2 : Int32)]) (rest := []) ok (c_X7_within l v p2 (-1 : Int32) (2 : Int32) S1 _ h) cal_X7_within tw_373 tw_253 (by decide) (by decide) rfl (Nat.le_of_ble_eq_true rfl) dX7_sheet_10 rfl rfl (fun r2 S2 h => ?_)
    refine g_if_ne (t := 19) (n := 16) ok dX7_sheet_13 (by decide) rfl (fun e8 => ?_) (fun e8 => ?_)
    · replace h := h.1 e8
      refine g_iload_n 2 (n := 20) ok dX7_sheet_19 rfl rfl ?_
      refine g_iconst (v := -1) (n := 21) ok dX7_sheet_20 rfl (by decide) ?_
      refine g_icmp_ne (t := 35) (n := 24) ok dX7_sheet_21 (by decide) rfl (fun e7 => ?_) (fun e7 => ?_)
      · replace h := h.1 e7
        refine g_iload_n 3 (n := 36) ok dX7_sheet_35 rfl rfl ?_
        refine g_bipush (v := 40) (n := 38) ok dX7_sheet_36 rfl (by decide) ?_
        refine g_icmp_le (t := 44) (n := 41) ok dX7_sheet_38 (by decide) rfl (fun e5 => ?_) (fun e5 => ?_)
        · replace h := h.1 e5
          refine g_iload_n 3 (n := 45) ok dX7_sheet_44 rfl rfl ?_
          refine g_if_ge (t := 51) (n := 48) ok dX7_sheet_45 (by decide) rfl (fun e4 => ?_) (fun e4 => ?_)
          · replace h := h.1 e4
            refine g_aload_n 0 (n := 52) ok dX7_sheet_51 rfl rfl ?_
            refine fg_X7_X7_sheets (n := 55) 0 rfl ok dX7_sheet_52 rfl ?_
            refine g_iload_n 1 (n := 56) ok dX7_sheet_55 rfl rfl ?_
            obtain ⟨h56, h⟩ := h
            refine g_aald (c := 43) (t0 := 3) (a := v.1 (43 + 1 + 2 * p1.toNatClampNeg)) (n := 57) ok (lt13 rfl) (sh13 rfl _) rfl h56 rfl dX7_sheet_56 rfl ?_
            refine g_iload_n 2 (n := 58) ok dX7_sheet_57 rfl rfl ?_
            refine g_iload_n 3 (n := 59) ok dX7_sheet_58 rfl rfl ?_
            refine g_callVNv (n := 62) (As := [.int p2, .int p3]) (rest := []) (c := (43 + 1 + 2 * p1.toNatClampNeg)) ok (c_X3_become l v (43 + 1 + 2 * p1.toNatClampNeg) (kdE13 rfl h56) p2 p3 S2 _ h) cal_X3_become tw_714 tw_716 tp_58 (lt14 (kdE13 rfl h56)) (sh14 (kdE13 rfl h56) _) rfl (by decide) (by decide) rfl (Nat.le_of_ble_eq_true rfl) dX7_sheet_59 rfl rfl (fun S3 h => ?_)
            refine g_iconst (v := 1) (n := 63) ok dX7_sheet_62 rfl (by decide) ?_
            exact g_iret ok he h dX7_sheet_63
          · replace h := h.2 e4
            refine g_bipush (v := -14) (n := 50) ok dX7_sheet_48 rfl (by decide) ?_
            exact g_iret ok he h dX7_sheet_50
        · replace h := h.2 e5
          refine g_bipush (v := -2) (n := 43) ok dX7_sheet_41 rfl (by decide) ?_
          exact g_iret ok he h dX7_sheet_43
      · replace h := h.2 e7
        refine g_aload_n 0 (n := 25) ok dX7_sheet_24 rfl rfl ?_
        refine fg_X7_X7_sheets (n := 28) 0 rfl ok dX7_sheet_25 rfl ?_
        refine g_iload_n 1 (n := 29) ok dX7_sheet_28 rfl rfl ?_
        obtain ⟨h29, h⟩ := h
        refine g_aald (c := 43) (t0 := 3) (a := v.1 (43 + 1 + 2 * p1.toNatClampNeg)) (n := 30) ok (lt13 rfl) (sh13 rfl _) rfl h29 rfl dX7_sheet_29 rfl ?_
        refine g_callVNv (n := 33) (As := []) (rest := []) (c := (43 + 1 + 2 * p1.toNatClampNeg)) ok (c_X3_vanish l v (43 + 1 + 2 * p1.toNatClampNeg) (kdE13 rfl h29) S2 _ h) cal_X3_vanish tw_710 tw_712 tp_57 (lt14 (kdE13 rfl h29)) (sh14 (kdE13 rfl h29) _) rfl (by decide) (by decide) rfl (Nat.le_of_ble_eq_true rfl) dX7_sheet_30 rfl rfl (fun S6 h => ?_)
        refine g_iconst (v := 1) (n := 34) ok dX7_sheet_33 rfl (by decide) ?_
        exact g_iret ok he h dX7_sheet_34
    · replace h := h.2 e8
      exact g_sub [] rfl (b_X7_sheet_16 ok he  S2 h)
def w_X7_cell (p1 : Int32) (p2 : Int32) (p3 : Int32) (S : Mem) (post : Int32 → Mem → Prop) : Prop := w_X7_isSheet p1 S (fun r1 S1 => ((¬ r1 = 0 → (vp_in p1 4 ∧ w_X3_isMissing (43 + 1 + 2 * p1.toNatClampNeg) S1 (fun r2 S2 => ((r2 = 0 → (vp_in p1 4 ∧ w_X3_hasItem (43 + 1 + 2 * p1.toNatClampNeg) p2 S2 (fun r3 S3 => ((¬ r3 = 0 → (vp_in p1 4 ∧ w_X3_put (43 + 1 + 2 * p1.toNatClampNeg) p2 p3 S3 (fun S4 => post (1 : Int32) S4))) ∧ (r3 = 0 → post (-12 : Int32) S3))))) ∧ (¬ r2 = 0 → post (-11 : Int32) S2))))) ∧ (r1 = 0 → post (-2 : Int32) S1)))
set_option maxHeartbeats 4000000 in
set_option maxRecDepth 20000 in
theorem c_X7_cell (l : Launch) (v : VxT) (p1 : Int32) (p2 : Int32) (p3 : Int32) (S : Mem) (post : Int32 → Mem → Prop) (h : w_X7_cell p1 p2 p3 S post) : MI l yX7_cell cX7_cell 4 (some .int) 3 (oX v) [.ref (v.1 0), .int p1, .int p2, .int p3] S post := by
  refine met_start (by decide +kernel) (Nat.le_of_ble_eq_true rfl) (fun g ok he => ?_)
  refine g_eq (L' := [(0, .ref (v.1 0)), (1, .int p1), (2, .int p2), (3, .int p3)]) (st' := []) ?_ rfl rfl
  unfold w_X7_cell at h
  refine g_iload_n 1 (n := 1) ok dX7_cell_0 rfl rfl ?_
  refine g_callSi (n := 4) (As := [.int p1]) (rest := []) ok (c_X7_isSheet l v p1 S _ h) cal_X7_isSheet tw_652 tw_653 (by decide) (by decide) rfl (Nat.le_of_ble_eq_true rfl) dX7_cell_1 rfl rfl (fun r1 S1 h => ?_)
  refine g_if_ne (t := 10) (n := 7) ok dX7_cell_4 (by decide) rfl (fun e7 => ?_) (fun e7 => ?_)
  · replace h := h.1 e7
    refine g_aload_n 0 (n := 11) ok dX7_cell_10 rfl rfl ?_
    refine fg_X7_X7_sheets (n := 14) 0 rfl ok dX7_cell_11 rfl ?_
    refine g_iload_n 1 (n := 15) ok dX7_cell_14 rfl rfl ?_
    obtain ⟨h15, h⟩ := h
    refine g_aald (c := 43) (t0 := 3) (a := v.1 (43 + 1 + 2 * p1.toNatClampNeg)) (n := 16) ok (lt13 rfl) (sh13 rfl _) rfl h15 rfl dX7_cell_15 rfl ?_
    refine g_callVNi (n := 19) (As := []) (rest := []) (c := (43 + 1 + 2 * p1.toNatClampNeg)) ok (c_X3_isMissing l v (43 + 1 + 2 * p1.toNatClampNeg) (kdE13 rfl h15) S1 _ h) cal_X3_isMissing tw_655 tw_657 tp_53 (lt14 (kdE13 rfl h15)) (sh14 (kdE13 rfl h15) _) rfl (by decide) (by decide) rfl (Nat.le_of_ble_eq_true rfl) dX7_cell_16 rfl rfl (fun r2 S2 h => ?_)
    refine g_if_eq (t := 25) (n := 22) ok dX7_cell_19 (by decide) rfl (fun e6 => ?_) (fun e6 => ?_)
    · replace h := h.1 e6
      refine g_aload_n 0 (n := 26) ok dX7_cell_25 rfl rfl ?_
      refine fg_X7_X7_sheets (n := 29) 0 rfl ok dX7_cell_26 rfl ?_
      refine g_iload_n 1 (n := 30) ok dX7_cell_29 rfl rfl ?_
      obtain ⟨h30, h⟩ := h
      refine g_aald (c := 43) (t0 := 3) (a := v.1 (43 + 1 + 2 * p1.toNatClampNeg)) (n := 31) ok (lt13 rfl) (sh13 rfl _) rfl h30 rfl dX7_cell_30 rfl ?_
      refine g_iload_n 2 (n := 32) ok dX7_cell_31 rfl rfl ?_
      refine g_callVNi (n := 35) (As := [.int p2]) (rest := []) (c := (43 + 1 + 2 * p1.toNatClampNeg)) ok (c_X3_hasItem l v (43 + 1 + 2 * p1.toNatClampNeg) (kdE13 rfl h30) p2 S2 _ h) cal_X3_hasItem tw_723 tw_725 tp_59 (lt14 (kdE13 rfl h30)) (sh14 (kdE13 rfl h30) _) rfl (by decide) (by decide) rfl (Nat.le_of_ble_eq_true rfl) dX7_cell_32 rfl rfl (fun r3 S3 h => ?_)
      refine g_if_ne (t := 41) (n := 38) ok dX7_cell_35 (by decide) rfl (fun e5 => ?_) (fun e5 => ?_)
      · replace h := h.1 e5
        refine g_aload_n 0 (n := 42) ok dX7_cell_41 rfl rfl ?_
        refine fg_X7_X7_sheets (n := 45) 0 rfl ok dX7_cell_42 rfl ?_
        refine g_iload_n 1 (n := 46) ok dX7_cell_45 rfl rfl ?_
        obtain ⟨h46, h⟩ := h
        refine g_aald (c := 43) (t0 := 3) (a := v.1 (43 + 1 + 2 * p1.toNatClampNeg)) (n := 47) ok (lt13 rfl) (sh13 rfl _) rfl h46 rfl dX7_cell_46 rfl ?_
        refine g_iload_n 2 (n := 48) ok dX7_cell_47 rfl rfl ?_
        refine g_iload_n 3 (n := 49) ok dX7_cell_48 rfl rfl ?_
        refine g_callVNv (n := 52) (As := [.int p2, .int p3]) (rest := []) (c := (43 + 1 + 2 * p1.toNatClampNeg)) ok (c_X3_put l v (43 + 1 + 2 * p1.toNatClampNeg) (kdE13 rfl h46) p2 p3 S3 _ h) cal_X3_put tw_727 tw_729 tp_60 (lt14 (kdE13 rfl h46)) (sh14 (kdE13 rfl h46) _) rfl (by decide) (by decide) rfl (Nat.le_of_ble_eq_true rfl) dX7_cell_49 rfl rfl (fun S4 h => ?_)
        refine g_iconst (v := 1) (n := 53) ok dX7_cell_52 rfl (by decide) ?_
        exact g_iret ok he h dX7_cell_53
      · replace h := h.2 e5
        refine g_bipush (v := -12) (n := 40) ok dX7_cell_38 rfl (by decide) ?_
        exact g_iret ok he h dX7_cell_40
    · replace h := h.2 e6
      refine g_bipush (v := -11) (n := 24) ok dX7_cell_22 rfl (by decide) ?_
      exact g_iret ok he h dX7_cell_24
  · replace h := h.2 e7
    refine g_bipush (v := -2) (n := 9) ok dX7_cell_7 rfl (by decide) ?_
    exact g_iret ok he h dX7_cell_9
def w_X7_copy_14 (post : Int32 → Mem → Prop) (S : Mem) : Prop := post (-2 : Int32) S
set_option maxHeartbeats 4000000 in
set_option maxRecDepth 20000 in
theorem b_X7_copy_14 {v : VxT} {l : Launch} {g : CxT} (ok : Ok l g (oX v) 8 cX7_copy RX7 (some .int)) {post : Int32 → Mem → Prop} (he : EndQ g (oX v) (va_Qi post (fun S1 t => BX (oX v) S1 t) (AX (oX v)))) (S : Mem) (h : w_X7_copy_14 post  S) : G g (oX v) 3 8 14 [] [] S := by
  unfold w_X7_copy_14 at h
  refine g_bipush (v := -2) (n := 16) ok dX7_copy_14 rfl (by decide) ?_
  exact g_iret ok he h dX7_copy_16
def w_X7_copy_49 (post : Int32 → Mem → Prop) (S : Mem) : Prop := post (-11 : Int32) S
set_option maxHeartbeats 4000000 in
set_option maxRecDepth 20000 in
theorem b_X7_copy_49 {v : VxT} {l : Launch} {g : CxT} (ok : Ok l g (oX v) 8 cX7_copy RX7 (some .int)) {post : Int32 → Mem → Prop} (he : EndQ g (oX v) (va_Qi post (fun S1 t => BX (oX v) S1 t) (AX (oX v)))) (S : Mem) (h : w_X7_copy_49 post  S) : G g (oX v) 3 8 49 [] [] S := by
  unfold w_X7_copy_49 at h
  refine g_bipush (v := -11) (n := 51) ok dX7_copy_49 rfl (by decide) ?_
  exact g_iret ok he h dX7_copy_51
def w_X7_copy_91 (post : Int32 → Mem → Prop) (S : Mem) : Prop := post (-12 : Int32) S
set_option maxHeartbeats 4000000 in
set_option maxRecDepth 20000 in
theorem b_X7_copy_91 {v : VxT} {l : Launch} {g : CxT} (ok : Ok l g (oX v) 8 cX7_copy RX7 (some .int)) {post : Int32 → Mem → Prop} (he : EndQ g (oX v) (va_Qi post (fun S1 t => BX (oX v) S1 t) (AX (oX v)))) (S : Mem) (h : w_X7_copy_91 post  S) : G g (oX v) 3 8 91 [] [] S := by
  unfold w_X7_copy_91 at h
  refine g_bipush (v := -12) (n := 93) ok dX7_copy_91 rfl (by decide) ?_
  exact g_iret ok he h dX7_copy_93
def w_X7_copy (p1 : Int32) (p2 : Int32) (p3 : Int32) (p4 : Int32) (p5 : Int32) (S : Mem) (post : Int32 → Mem → Prop) : Prop := w_X7_isSheet p1 S (fun r1 S1 => ((r1 = 0 → w_X7_copy_14 post  S1) ∧ (¬ r1 = 0 → w_X7_isSheet p3 S1 (fun r2 S2 => ((¬ r2 = 0 → (vp_in p1 4 ∧ (vp_in p3 4 ∧ w_X3_isMissing (43 + 1 + 2 * p1.toNatClampNeg) S2 (fun r3 S3 => ((¬ r3 = 0 → w_X7_copy_49 post  S3) ∧ (r3 = 0 → w_X3_isMissing (43 + 1 + 2 * p3.toNatClampNeg) S3 (fun r4 S4 => ((r4 = 0 → (((S4 (43 + 1 + 2 * p1.toNatClampNeg) 0) = (S4 (43 + 1 + 2 * p3.toNatClampNeg) 0) → w_X3_hasItems (43 + 1 + 2 * p1.toNatClampNeg) p2 p5 S4 (fun r5 S5 => ((r5 = 0 → w_X7_copy_91 post  S5) ∧ (¬ r5 = 0 → w_X3_hasItems (43 + 1 + 2 * p3.toNatClampNeg) p4 p5 S5 (fun r6 S6 => ((¬ r6 = 0 → ((¬ p2 < 0 ∧ ¬ p4 < 0 ∧ ¬ p5 < 0 ∧ p2.toNatClampNeg + p5.toNatClampNeg ≤ 40 ∧ p4.toNatClampNeg + p5.toNatClampNeg ≤ 40) ∧ (∀ S7 : Mem, S7 = mset S6 (43 + 1 + 2 * p3.toNatClampNeg + 1) (va_cpy (S6 (43 + 1 + 2 * p1.toNatClampNeg + 1)) (S6 (43 + 1 + 2 * p3.toNatClampNeg + 1)) p2.toNatClampNeg p4.toNatClampNeg p5.toNatClampNeg) → post p5 S7))) ∧ (r6 = 0 → w_X7_copy_91 post  S6))))))) ∧ (¬ (S4 (43 + 1 + 2 * p1.toNatClampNeg) 0) = (S4 (43 + 1 + 2 * p3.toNatClampNeg) 0) → post (-13 : Int32) S4))) ∧ (¬ r4 = 0 → w_X7_copy_49 post  S4))))))))) ∧ (r2 = 0 → w_X7_copy_14 post  S2))))))
set_option maxHeartbeats 4000000 in
set_option maxRecDepth 20000 in
theorem c_X7_copy (l : Launch) (v : VxT) (p1 : Int32) (p2 : Int32) (p3 : Int32) (p4 : Int32) (p5 : Int32) (S : Mem) (post : Int32 → Mem → Prop) (h : w_X7_copy p1 p2 p3 p4 p5 S post) : MI l yX7_copy cX7_copy 8 (some .int) 3 (oX v) [.ref (v.1 0), .int p1, .int p2, .int p3, .int p4, .int p5] S post := by
  refine met_start (by decide +kernel) (Nat.le_of_ble_eq_true rfl) (fun g ok he => ?_)
  refine g_eq (L' := [(0, .ref (v.1 0)), (1, .int p1), (2, .int p2), (3, .int p3), (4, .int p4), (5, .int p5)]) (st' := []) ?_ rfl rfl
  unfold w_X7_copy at h
  refine g_iload_n 1 (n := 1) ok dX7_copy_0 rfl rfl ?_
  refine g_callSi (n := 4) (As := [.int p1]) (rest := []) ok (c_X7_isSheet l v p1 S _ h) cal_X7_isSheet tw_652 tw_653 (by decide) (by decide) rfl (Nat.le_of_ble_eq_true rfl) dX7_copy_1 rfl rfl (fun r1 S1 h => ?_)
  refine g_if_eq (t := 14) (n := 7) ok dX7_copy_4 (by decide) rfl (fun e14 => ?_) (fun e14 => ?_)
  · replace h := h.1 e14
    exact g_sub [] rfl (b_X7_copy_14 ok he  S1 h)
  · replace h := h.2 e14
    refine g_iload_n 3 (n := 8) ok dX7_copy_7 rfl rfl ?_
    refine g_callSi (n := 11) (As := [.int p3]) (rest := []) ok (c_X7_isSheet l v p3 S1 _ h) cal_X7_isSheet tw_652 tw_653 (by decide) (by decide) rfl (Nat.le_of_ble_eq_true rfl) dX7_copy_8 rfl rfl (fun r2 S2 h => ?_)
    refine g_if_ne (t := 17) (n := 14) ok dX7_copy_11 (by decide) rfl (fun e13 => ?_) (fun e13 => ?_)
    · replace h := h.1 e13
      refine g_aload_n 0 (n := 18) ok dX7_copy_17 rfl rfl ?_
      refine fg_X7_X7_sheets (n := 21) 0 rfl ok dX7_copy_18 rfl ?_
      refine g_iload_n 1 (n := 22) ok dX7_copy_21 rfl rfl ?_
      obtain ⟨h22, h⟩ := h
      refine g_aald (c := 43) (t0 := 3) (a := v.1 (43 + 1 + 2 * p1.toNatClampNeg)) (n := 23) ok (lt13 rfl) (sh13 rfl _) rfl h22 rfl dX7_copy_22 rfl ?_
      refine g_astore [(6, .ref (v.1 (43 + 1 + 2 * p1.toNatClampNeg))), (0, .ref (v.1 0)), (1, .int p1), (2, .int p2), (3, .int p3), (4, .int p4), (5, .int p5)] (n := 25) ok dX7_copy_23 rfl (by decide) rfl ?_
      refine g_aload_n 1 (n := 26) ok dX7_copy_25 rfl rfl ?_
      refine fg_X7_X7_sheets (n := 29) 0 rfl ok dX7_copy_26 rfl ?_
      refine g_iload_n 4 (n := 30) ok dX7_copy_29 rfl rfl ?_
      obtain ⟨h30, h⟩ := h
      refine g_aald (c := 43) (t0 := 3) (a := v.1 (43 + 1 + 2 * p3.toNatClampNeg)) (n := 31) ok (lt13 rfl) (sh13 rfl _) rfl h30 rfl dX7_copy_30 rfl ?_
      refine g_astore [(7, .ref (v.1 (43 + 1 + 2 * p3.toNatClampNeg))), (6, .ref (v.1 (43 + 1 + 2 * p1.toNatClampNeg))), (0, .ref (v.1 0)), (1, .int p1), (2, .int p2), (3, .int p3), (4, .int p4), (5, .int p5)] (n := 33) ok dX7_copy_31 rfl (by decide) rfl ?_
      refine g_aload 1 (n := 35) ok dX7_copy_33 rfl rfl ?_
      refine g_callVNi (n := 38) (As := []) (rest := []) (c := (43 + 1 + 2 * p1.toNatClampNeg)) ok (c_X3_isMissing l v (43 + 1 + 2 * p1.toNatClampNeg) (kdE13 rfl h22) S2 _ h) cal_X3_isMissing tw_655 tw_657 tp_53 (lt14 (kdE13 rfl h22)) (sh14 (kdE13 rfl h22) _) rfl (by decide) (by decide) rfl (Nat.le_of_ble_eq_true rfl) dX7_copy_35 rfl rfl (fun r3 S3 h => ?_)
      refine g_if_ne (t := 49) (n := 41) ok dX7_copy_38 (by decide) rfl (fun e12 => ?_) (fun e12 => ?_)
      · replace h := h.1 e12
        exact g_sub [] rfl (b_X7_copy_49 ok he  S3 h)
      · replace h := h.2 e12
        refine g_aload 0 (n := 43) ok dX7_copy_41 rfl rfl ?_
        refine g_callVNi (n := 46) (As := []) (rest := []) (c := (43 + 1 + 2 * p3.toNatClampNeg)) ok (c_X3_isMissing l v (43 + 1 + 2 * p3.toNatClampNeg) (kdE13 rfl h30) S3 _ h) cal_X3_isMissing tw_655 tw_657 tp_53 (lt14 (kdE13 rfl h30)) (sh14 (kdE13 rfl h30) _) rfl (by decide) (by decide) rfl (Nat.le_of_ble_eq_true rfl) dX7_copy_43 rfl rfl (fun r4 S4 h => ?_)
        refine g_if_eq (t := 52) (n := 49) ok dX7_copy_46 (by decide) rfl (fun e11 => ?_) (fun e11 => ?_)
        · replace h := h.1 e11
          refine g_aload 1 (n := 54) ok dX7_copy_52 rfl rfl ?_
          refine fg_X7_X3_sort (n := 57) (43 + 1 + 2 * p1.toNatClampNeg) (kdE13 rfl h22) ok dX7_copy_54 rfl ?_
          refine g_aload 0 (n := 59) ok dX7_copy_57 rfl rfl ?_
          refine fg_X7_X3_sort (n := 62) (43 + 1 + 2 * p3.toNatClampNeg) (kdE13 rfl h30) ok dX7_copy_59 rfl ?_
          refine g_icmp_eq (t := 68) (n := 65) ok dX7_copy_62 (by decide) rfl (fun e10 => ?_) (fun e10 => ?_)
          · replace h := h.1 e10
            refine g_aload 1 (n := 70) ok dX7_copy_68 rfl rfl ?_
            refine g_iload_n 4 (n := 71) ok dX7_copy_70 rfl rfl ?_
            refine g_iload 7 (n := 73) ok dX7_copy_71 rfl rfl ?_
            refine g_callVNi (n := 76) (As := [.int p2, .int p5]) (rest := []) (c := (43 + 1 + 2 * p1.toNatClampNeg)) ok (c_X3_hasItems l v (43 + 1 + 2 * p1.toNatClampNeg) (kdE13 rfl h22) p2 p5 S4 _ h) cal_X3_hasItems tw_736 tw_738 tp_61 (lt14 (kdE13 rfl h22)) (sh14 (kdE13 rfl h22) _) rfl (by decide) (by decide) rfl (Nat.le_of_ble_eq_true rfl) dX7_copy_73 rfl rfl (fun r5 S5 h => ?_)
            refine g_if_eq (t := 91) (n := 79) ok dX7_copy_76 (by decide) rfl (fun e9 => ?_) (fun e9 => ?_)
            · replace h := h.1 e9
              exact g_sub [] rfl (b_X7_copy_91 ok he  S5 h)
            · replace h := h.2 e9
              refine g_aload 0 (n := 81) ok dX7_copy_79 rfl rfl ?_
              refine g_iload 6 (n := 83) ok dX7_copy_81 rfl rfl ?_
              refine g_iload 7 (n := 85) ok dX7_copy_83 rfl rfl ?_
              refine g_callVNi (n := 88) (As := [.int p4, .int p5]) (rest := []) (c := (43 + 1 + 2 * p3.toNatClampNeg)) ok (c_X3_hasItems l v (43 + 1 + 2 * p3.toNatClampNeg) (kdE13 rfl h30) p4 p5 S5 _ h) cal_X3_hasItems tw_736 tw_738 tp_61 (lt14 (kdE13 rfl h30)) (sh14 (kdE13 rfl h30) _) rfl (by decide) (by decide) rfl (Nat.le_of_ble_eq_true rfl) dX7_copy_85 rfl rfl (fun r6 S6 h => ?_)
              refine g_if_ne (t := 94) (n := 91) ok dX7_copy_88 (by decide) rfl (fun e8 => ?_) (fun e8 => ?_)
              · replace h := h.1 e8
                refine g_aload 1 (n := 96) ok dX7_copy_94 rfl rfl ?_
                refine fg_X7_X3_items (n := 99) (43 + 1 + 2 * p1.toNatClampNeg) (kdE13 rfl h22) ok dX7_copy_96 rfl ?_
                refine g_iload_n 4 (n := 100) ok dX7_copy_99 rfl rfl ?_
                refine g_aload 0 (n := 102) ok dX7_copy_100 rfl rfl ?_
                refine fg_X7_X3_items (n := 105) (43 + 1 + 2 * p3.toNatClampNeg) (kdE13 rfl h30) ok dX7_copy_102 rfl ?_
                refine g_iload 6 (n := 107) ok dX7_copy_105 rfl rfl ?_
                refine g_iload 7 (n := 109) ok dX7_copy_107 rfl rfl ?_
                obtain ⟨h0, h⟩ := h
                refine g_copy (c0 := (43 + 1 + 2 * p1.toNatClampNeg + 1)) (c1 := (43 + 1 + 2 * p3.toNatClampNeg + 1)) (t0 := 0) (n := 112) ok tw_740 tw_342 tw_341 tw_13 (lt15 (kd14_items (kdE13 rfl h22))) (fun f => sh15 (kd14_items (kdE13 rfl h22)) f) (lt15 (kd14_items (kdE13 rfl h30))) (fun f => sh15 (kd14_items (kdE13 rfl h30)) f) rfl h0 (by decide) (Nat.le_of_ble_eq_true rfl) dX7_copy_109 rfl ?_
                refine g_mem (fun S7 eS7 => ?_)
                replace h := h S7 eS7
                refine g_iload 7 (n := 114) ok dX7_copy_112 rfl rfl ?_
                exact g_iret ok he h dX7_copy_114
              · replace h := h.2 e8
                exact g_sub [] rfl (b_X7_copy_91 ok he  S6 h)
          · replace h := h.2 e10
            refine g_bipush (v := -13) (n := 67) ok dX7_copy_65 rfl (by decide) ?_
            exact g_iret ok he h dX7_copy_67
        · replace h := h.2 e11
          exact g_sub [] rfl (b_X7_copy_49 ok he  S4 h)
    · replace h := h.2 e13
      exact g_sub [] rfl (b_X7_copy_14 ok he  S2 h)
def w_X7_floors_27 (post : Int32 → Mem → Prop) (S : Mem) : Prop := post (-2 : Int32) S
set_option maxHeartbeats 4000000 in
set_option maxRecDepth 20000 in
theorem b_X7_floors_27 {v : VxT} {l : Launch} {g : CxT} (ok : Ok l g (oX v) 9 cX7_floors RX7 (some .int)) {post : Int32 → Mem → Prop} (he : EndQ g (oX v) (va_Qi post (fun S1 t => BX (oX v) S1 t) (AX (oX v)))) (S : Mem) (h : w_X7_floors_27 post  S) : G g (oX v) 3 9 27 [] [] S := by
  unfold w_X7_floors_27 at h
  refine g_bipush (v := -2) (n := 29) ok dX7_floors_27 rfl (by decide) ?_
  exact g_iret ok he h dX7_floors_29
def w_X7_floors_126 (K67 : Int32 → Int32 → Nat → Int32 → Int32 → Mem → Prop) (post : Int32 → Mem → Prop) (x3 : Int32) (x4 : Int32) (dx5 : Nat) (x6 : Int32) (x7 : Int32) (S : Mem) : Prop := (∀ z1 : Int32, z1 = x7 + 1 → K67 x3 x4 dx5 x6 z1 S)
set_option maxHeartbeats 4000000 in
set_option maxRecDepth 20000 in
theorem b_X7_floors_126 {v : VxT} {l : Launch} {g : CxT} {K67 : Int32 → Int32 → Nat → Int32 → Int32 → Mem → Prop} (ok : Ok l g (oX v) 9 cX7_floors RX7 (some .int)) (hK67 : ∀ (x3 : Int32) (x4 : Int32) (dx5 : Nat) (x6 : Int32) (x7 : Int32) (S : Mem), kdX dx5 = 14 → K67 x3 x4 dx5 x6 x7 S → G g (oX v) 3 9 67 [(0, .ref (v.1 0)), (3, .int x3), (4, .int x4), (5, .ref (v.1 dx5)), (6, .int x6), (7, .int x7)] [] S) {post : Int32 → Mem → Prop} (he : EndQ g (oX v) (va_Qi post (fun S1 t => BX (oX v) S1 t) (AX (oX v)))) (x3 : Int32) (x4 : Int32) (dx5 : Nat) (x6 : Int32) (x7 : Int32) (S : Mem) (hdx5 : kdX dx5 = 14) (h : w_X7_floors_126 K67 post x3 x4 dx5 x6 x7 S) : G g (oX v) 3 9 126 [(0, .ref (v.1 0)), (3, .int x3), (4, .int x4), (5, .ref (v.1 dx5)), (6, .int x6), (7, .int x7)] [] S := by
  unfold w_X7_floors_126 at h
  obtain ⟨z1, ez1⟩ : ∃ y : Int32, y = x7 + 1 := ⟨_, rfl⟩
  replace h := h z1 ez1
  refine g_iinc 5 [(7, .int z1), (0, .ref (v.1 0)), (3, .int x3), (4, .int x4), (5, .ref (v.1 dx5)), (6, .int x6)] (v := z1) (n := 129) ok dX7_floors_126 rfl rfl (by rw [ez1]; rfl) (by decide) rfl ?_
  refine g_goto (t := 67) ok dX7_floors_129 (by decide) ?_
  exact g_sub [1, 2, 3, 4, 5, 0] rfl (hK67 x3 x4 dx5 x6 z1 S hdx5 h)
def w_X7_floors_67 (post : Int32 → Mem → Prop) : Nat → Int32 → Int32 → Nat → Int32 → Int32 → Mem → Prop
  | 0, _, _, _, _, _, _ => False
  | n + 1, x3, x4, dx5, x6, x7, S => ((x4 ≤ x7 → post x6 S) ∧ (¬ x4 ≤ x7 → (∀ z1 : Int32, z1 = x3 + ((2 : Int32) * x7) → w_X3_hasItems dx5 z1 (2 : Int32) S (fun r2 S2 => ((¬ r2 = 0 → (vp_in z1 40 ∧ (vp_in (z1 + (1 : Int32)) 40 ∧ w_X7_floor (S2 (dx5 + 1) z1.toNatClampNeg) (S2 (dx5 + 1) (z1 + (1 : Int32)).toNatClampNeg) S2 (fun r3 S3 => ((r3 = (-2 : Int32) → w_X7_floors_126 (w_X7_floors_67 post n) post x3 x4 dx5 x6 x7 S3) ∧ (¬ r3 = (-2 : Int32) → (∀ z4 : Int32, z4 = x6 + 1 → w_X7_floors_126 (w_X7_floors_67 post n) post x3 x4 dx5 z4 x7 S3))))))) ∧ (r2 = 0 → post (-12 : Int32) S2))))))
set_option maxHeartbeats 4000000 in
set_option maxRecDepth 20000 in
theorem b_X7_floors_67 {v : VxT} {l : Launch} {g : CxT} (ok : Ok l g (oX v) 9 cX7_floors RX7 (some .int)) {post : Int32 → Mem → Prop} (he : EndQ g (oX v) (va_Qi post (fun S1 t => BX (oX v) S1 t) (AX (oX v)))) : ∀ (n : Nat) (x3 : Int32) (x4 : Int32) (dx5 : Nat) (x6 : Int32) (x7 : Int32) (S : Mem), kdX dx5 = 14 → w_X7_floors_67 post n x3 x4 dx5 x6 x7 S → G g (oX v) 3 9 67 [(0, .ref (v.1 0)), (3, .int x3), (4, .int x4), (5, .ref (v.1 dx5)), (6, .int x6), (7, .int x7)] [] S := by
  intro n
  induction n with
  | zero =>
    intro x3 x4 dx5 x6 x7 S hdx5 h
    exact h.elim
  | succ n ih =>
    intro x3 x4 dx5 x6 x7 S hdx5 h
    rw [w_X7_floors_67] at h
    refine g_iload 5 (n := 69) ok dX7_floors_67 rfl rfl ?_
    refine g_iload 2 (n := 71) ok dX7_floors_69 rfl rfl ?_
    refine g_icmp_ge (t := 132) (n := 74) ok dX7_floors_71 (by decide) rfl (fun e7 => ?_) (fun e7 => ?_)
    · replace h := h.1 e7
      refine g_iload 4 (n := 134) ok dX7_floors_132 rfl rfl ?_
      exact g_iret ok he h dX7_floors_134
    · replace h := h.2 e7
      refine g_iload_n 1 (n := 75) ok dX7_floors_74 rfl rfl ?_
      refine g_iconst (v := 2) (n := 76) ok dX7_floors_75 rfl (by decide) ?_
      refine g_iload 5 (n := 78) ok dX7_floors_76 rfl rfl ?_
      refine g_imul (n := 79) ok dX7_floors_78 rfl ?_
      refine g_iadd (n := 80) ok dX7_floors_79 rfl ?_
      refine g_topi (fun z1 ez1 => ?_)
      replace h := h z1 ez1
      refine g_istore [(8, .int z1), (0, .ref (v.1 0)), (3, .int x3), (4, .int x4), (5, .ref (v.1 dx5)), (6, .int x6), (7, .int x7)] (n := 82) ok dX7_floors_80 rfl (by decide) rfl ?_
      refine g_aload 4 (n := 84) ok dX7_floors_82 rfl rfl ?_
      refine g_iload 0 (n := 86) ok dX7_floors_84 rfl rfl ?_
      refine g_iconst (v := 2) (n := 87) ok dX7_floors_86 rfl (by decide) ?_
      refine g_callVNi (n := 90) (As := [.int z1, .int (2 : Int32)]) (rest := []) (c := dx5) ok (c_X3_hasItems l v dx5 hdx5 z1 (2 : Int32) S _ h) cal_X3_hasItems tw_736 tw_738 tp_61 (lt14 hdx5) (sh14 hdx5 _) rfl (by decide) (by decide) rfl (Nat.le_of_ble_eq_true rfl) dX7_floors_87 rfl rfl (fun r2 S2 h => ?_)
      refine g_if_ne (t := 96) (n := 93) ok dX7_floors_90 (by decide) rfl (fun e6 => ?_) (fun e6 => ?_)
      · replace h := h.1 e6
        refine g_aload_n 1 (n := 97) ok dX7_floors_96 rfl rfl ?_
        refine g_aload 4 (n := 99) ok dX7_floors_97 rfl rfl ?_
        refine fg_X7_X3_items (n := 102) dx5 hdx5 ok dX7_floors_99 rfl ?_
        refine g_iload 0 (n := 104) ok dX7_floors_102 rfl rfl ?_
        obtain ⟨h0, h⟩ := h
        refine g_iald (c := (dx5 + 1)) (t0 := 0) (n := 105) ok (lt15 (kd14_items hdx5)) (sh15 (kd14_items hdx5) _) rfl h0 dX7_floors_104 rfl ?_
        refine g_aload 4 (n := 107) ok dX7_floors_105 rfl rfl ?_
        refine fg_X7_X3_items (n := 110) dx5 hdx5 ok dX7_floors_107 rfl ?_
        refine g_iload 0 (n := 112) ok dX7_floors_110 rfl rfl ?_
        refine g_iconst (v := 1) (n := 113) ok dX7_floors_112 rfl (by decide) ?_
        refine g_iadd (n := 114) ok dX7_floors_113 rfl ?_
        obtain ⟨h0, h⟩ := h
        refine g_iald (c := (dx5 + 1)) (t0 := 0) (n := 115) ok (lt15 (kd14_items hdx5)) (sh15 (kd14_items hdx5) _) rfl h0 dX7_floors_114 rfl ?_
        refine g_callVi (n := 118) (As := [.int (S2 (dx5 + 1) z1.toNatClampNeg), .int (S2 (dx5 + 1) (z1 + (1 : Int32)).toNatClampNeg)]) (rest := []) (c := 0) ok (c_X7_floor l v (S2 (dx5 + 1) z1.toNatClampNeg) (S2 (dx5 + 1) (z1 + (1 : Int32)).toNatClampNeg) S2 _ h) cal_X7_floor tw_745 tw_370 tw_371 (lt0 rfl) (sh0 rfl _) rfl (by decide) (by decide) rfl (Nat.le_of_ble_eq_true rfl) dX7_floors_115 rfl rfl (fun r3 S3 h => ?_)
        refine g_bipush (v := -2) (n := 120) ok dX7_floors_118 rfl (by decide) ?_
        refine g_icmp_eq (t := 126) (n := 123) ok dX7_floors_120 (by decide) rfl (fun e5 => ?_) (fun e5 => ?_)
        · replace h := h.1 e5
          exact g_sub [1, 2, 3, 4, 5, 6] rfl (b_X7_floors_126 ok ih he x3 x4 dx5 x6 x7 S3 hdx5 h)
        · replace h := h.2 e5
          obtain ⟨z4, ez4⟩ : ∃ y : Int32, y = x6 + 1 := ⟨_, rfl⟩
          replace h := h z4 ez4
          refine g_iinc 5 [(6, .int z4), (8, .int z1), (0, .ref (v.1 0)), (3, .int x3), (4, .int x4), (5, .ref (v.1 dx5)), (7, .int x7)] (v := z4) (n := 126) ok dX7_floors_123 rfl rfl (by rw [ez4]; rfl) (by decide) rfl ?_
          exact g_sub [2, 3, 4, 5, 0, 6] rfl (b_X7_floors_126 ok ih he x3 x4 dx5 z4 x7 S3 hdx5 h)
      · replace h := h.2 e6
        refine g_bipush (v := -12) (n := 95) ok dX7_floors_93 rfl (by decide) ?_
        exact g_iret ok he h dX7_floors_95
def w_X7_floors (p1 : Int32) (p2 : Int32) (p3 : Int32) (p4 : Int32) (S : Mem) (post : Int32 → Mem → Prop) : Prop := w_X7_isSheet p1 S (fun r1 S1 => ((r1 = 0 → w_X7_floors_27 post  S1) ∧ (¬ r1 = 0 → w_X7_within p2 (0 : Int32) (2 : Int32) S1 (fun r2 S2 => ((r2 = 0 → w_X7_floors_27 post  S2) ∧ (¬ r2 = 0 → w_X7_within p4 (0 : Int32) (20 : Int32) S2 (fun r3 S3 => ((¬ r3 = 0 → (vp_in p1 4 ∧ w_X3_isMissing (43 + 1 + 2 * p1.toNatClampNeg) S3 (fun r4 S4 => ((r4 = 0 → (((S4 (43 + 1 + 2 * p1.toNatClampNeg) 0) = p2 → ∃ n, w_X7_floors_67 post n p3 p4 (43 + 1 + 2 * p1.toNatClampNeg) (0 : Int32) (0 : Int32) S4) ∧ (¬ (S4 (43 + 1 + 2 * p1.toNatClampNeg) 0) = p2 → post (-13 : Int32) S4))) ∧ (¬ r4 = 0 → post (-11 : Int32) S4))))) ∧ (r3 = 0 → w_X7_floors_27 post  S3)))))))))
set_option maxHeartbeats 4000000 in
set_option maxRecDepth 20000 in
theorem c_X7_floors (l : Launch) (v : VxT) (p1 : Int32) (p2 : Int32) (p3 : Int32) (p4 : Int32) (S : Mem) (post : Int32 → Mem → Prop) (h : w_X7_floors p1 p2 p3 p4 S post) : MI l yX7_floors cX7_floors 9 (some .int) 3 (oX v) [.ref (v.1 0), .int p1, .int p2, .int p3, .int p4] S post := by
  refine met_start (by decide +kernel) (Nat.le_of_ble_eq_true rfl) (fun g ok he => ?_)
  refine g_eq (L' := [(0, .ref (v.1 0)), (1, .int p1), (2, .int p2), (3, .int p3), (4, .int p4)]) (st' := []) ?_ rfl rfl
  unfold w_X7_floors at h
  refine g_iload_n 1 (n := 1) ok dX7_floors_0 rfl rfl ?_
  refine g_callSi (n := 4) (As := [.int p1]) (rest := []) ok (c_X7_isSheet l v p1 S _ h) cal_X7_isSheet tw_652 tw_653 (by decide) (by decide) rfl (Nat.le_of_ble_eq_true rfl) dX7_floors_1 rfl rfl (fun r1 S1 h => ?_)
  refine g_if_eq (t := 27) (n := 7) ok dX7_floors_4 (by decide) rfl (fun e9 => ?_) (fun e9 => ?_)
  · replace h := h.1 e9
    exact g_sub [] rfl (b_X7_floors_27 ok he  S1 h)
  · replace h := h.2 e9
    refine g_iload_n 2 (n := 8) ok dX7_floors_7 rfl rfl ?_
    refine g_iconst (v := 0) (n := 9) ok dX7_floors_8 rfl (by decide) ?_
    refine g_iconst (v := 2) (n := 10) ok dX7_floors_9 rfl (by decide) ?_
    refine g_callSi (n := 13) (As := [.int p2, .int (0 : Int32), .int (2 : Int32)]) (rest := []) ok (c_X7_within l v p2 (0 : Int32) (2 : Int32) S1 _ h) cal_X7_within tw_373 tw_253 (by decide) (by decide) rfl (Nat.le_of_ble_eq_true rfl) dX7_floors_10 rfl rfl (fun r2 S2 h => ?_)
    refine g_if_eq (t := 27) (n := 16) ok dX7_floors_13 (by decide) rfl (fun e8 => ?_) (fun e8 => ?_)
    · replace h := h.1 e8
      exact g_sub [] rfl (b_X7_floors_27 ok he  S2 h)
    · replace h := h.2 e8
      refine g_iload 4 (n := 18) ok dX7_floors_16 rfl rfl ?_
      refine g_iconst (v := 0) (n := 19) ok dX7_floors_18 rfl (by decide) ?_
      refine g_bipush (v := 20) (n := 21) ok dX7_floors_19 rfl (by decide) ?_
      refine g_callSi (n := 24) (As := [.int p4, .int (0 : Int32), .int (20 : Int32)]) (rest := []) ok (c_X7_within l v p4 (0 : Int32) (20 : Int32) S2 _ h) cal_X7_within tw_373 tw_253 (by decide) (by decide) rfl (Nat.le_of_ble_eq_true rfl) dX7_floors_21 rfl rfl (fun r3 S3 h => ?_)
      refine g_if_ne (t := 30) (n := 27) ok dX7_floors_24 (by decide) rfl (fun e7 => ?_) (fun e7 => ?_)
      · replace h := h.1 e7
        refine g_aload_n 0 (n := 31) ok dX7_floors_30 rfl rfl ?_
        refine fg_X7_X7_sheets (n := 34) 0 rfl ok dX7_floors_31 rfl ?_
        refine g_iload_n 1 (n := 35) ok dX7_floors_34 rfl rfl ?_
        obtain ⟨h35, h⟩ := h
        refine g_aald (c := 43) (t0 := 3) (a := v.1 (43 + 1 + 2 * p1.toNatClampNeg)) (n := 36) ok (lt13 rfl) (sh13 rfl _) rfl h35 rfl dX7_floors_35 rfl ?_
        refine g_astore [(5, .ref (v.1 (43 + 1 + 2 * p1.toNatClampNeg))), (0, .ref (v.1 0)), (1, .int p1), (2, .int p2), (3, .int p3), (4, .int p4)] (n := 38) ok dX7_floors_36 rfl (by decide) rfl ?_
        refine g_aload 0 (n := 40) ok dX7_floors_38 rfl rfl ?_
        refine g_callVNi (n := 43) (As := []) (rest := []) (c := (43 + 1 + 2 * p1.toNatClampNeg)) ok (c_X3_isMissing l v (43 + 1 + 2 * p1.toNatClampNeg) (kdE13 rfl h35) S3 _ h) cal_X3_isMissing tw_655 tw_657 tp_53 (lt14 (kdE13 rfl h35)) (sh14 (kdE13 rfl h35) _) rfl (by decide) (by decide) rfl (Nat.le_of_ble_eq_true rfl) dX7_floors_40 rfl rfl (fun r4 S4 h => ?_)
        refine g_if_eq (t := 49) (n := 46) ok dX7_floors_43 (by decide) rfl (fun e6 => ?_) (fun e6 => ?_)
        · replace h := h.1 e6
          refine g_aload 0 (n := 51) ok dX7_floors_49 rfl rfl ?_
          refine fg_X7_X3_sort (n := 54) (43 + 1 + 2 * p1.toNatClampNeg) (kdE13 rfl h35) ok dX7_floors_51 rfl ?_
          refine g_iload_n 3 (n := 55) ok dX7_floors_54 rfl rfl ?_
          refine g_icmp_eq (t := 61) (n := 58) ok dX7_floors_55 (by decide) rfl (fun e5 => ?_) (fun e5 => ?_)
          · replace h := h.1 e5
            refine g_iconst (v := 0) (n := 62) ok dX7_floors_61 rfl (by decide) ?_
            refine g_istore [(6, .int (0 : Int32)), (5, .ref (v.1 (43 + 1 + 2 * p1.toNatClampNeg))), (0, .ref (v.1 0)), (1, .int p1), (2, .int p2), (3, .int p3), (4, .int p4)] (n := 64) ok dX7_floors_62 rfl (by decide) rfl ?_
            refine g_iconst (v := 0) (n := 65) ok dX7_floors_64 rfl (by decide) ?_
            refine g_istore [(7, .int (0 : Int32)), (6, .int (0 : Int32)), (5, .ref (v.1 (43 + 1 + 2 * p1.toNatClampNeg))), (0, .ref (v.1 0)), (1, .int p1), (2, .int p2), (3, .int p3), (4, .int p4)] (n := 67) ok dX7_floors_65 rfl (by decide) rfl ?_
            obtain ⟨n0, h⟩ := h
            exact g_sub [3, 6, 7, 2, 1, 0] rfl (b_X7_floors_67 ok he n0 p3 p4 (43 + 1 + 2 * p1.toNatClampNeg) (0 : Int32) (0 : Int32) S4 (kdE13 rfl h35) h)
          · replace h := h.2 e5
            refine g_bipush (v := -13) (n := 60) ok dX7_floors_58 rfl (by decide) ?_
            exact g_iret ok he h dX7_floors_60
        · replace h := h.2 e6
          refine g_bipush (v := -11) (n := 48) ok dX7_floors_46 rfl (by decide) ?_
          exact g_iret ok he h dX7_floors_48
      · replace h := h.2 e7
        exact g_sub [] rfl (b_X7_floors_27 ok he  S3 h)
def w_X7_taken_53 (post : Int32 → Mem → Prop) (y0 : Int32) (S : Mem) : Prop := post y0 S
set_option maxHeartbeats 4000000 in
set_option maxRecDepth 20000 in
theorem b_X7_taken_53 {v : VxT} {l : Launch} {g : CxT} (ok : Ok l g (oX v) 3 cX7_taken RX7 (some .int)) {post : Int32 → Mem → Prop} (he : EndQ g (oX v) (va_Qi post (fun S1 t => BX (oX v) S1 t) (AX (oX v)))) (y0 : Int32) (S : Mem) (h : w_X7_taken_53 post y0 S) : G g (oX v) 4 3 53 [] [.int y0] S := by
  unfold w_X7_taken_53 at h
  exact g_iret ok he h dX7_taken_53
def w_X7_taken (p1 : Int32) (p2 : Int32) (S : Mem) (post : Int32 → Mem → Prop) : Prop := w_X7_isKind p2 S (fun r1 S1 => ((¬ r1 = 0 → w_X7_isLeg p1 S1 (fun r2 S2 => ((¬ r2 = 0 → (vp_in p1 4 ∧ w_X0_isOne (3 + 1 + p1.toNatClampNeg) p2 S2 (fun r3 S3 => ((r3 = 0 → w_X7_taken_53 post (-13 : Int32) S3) ∧ (¬ r3 = 0 → (vp_in p1 4 ∧ w_X7_taken_53 post (S3 (3 + 1 + p1.toNatClampNeg) 1) S3)))))) ∧ (r2 = 0 → post (-11 : Int32) S2)))) ∧ (r1 = 0 → post (-2 : Int32) S1)))
set_option maxHeartbeats 4000000 in
set_option maxRecDepth 20000 in
theorem c_X7_taken (l : Launch) (v : VxT) (p1 : Int32) (p2 : Int32) (S : Mem) (post : Int32 → Mem → Prop) (h : w_X7_taken p1 p2 S post) : MI l yX7_taken cX7_taken 3 (some .int) 4 (oX v) [.ref (v.1 0), .int p1, .int p2] S post := by
  refine met_start (by decide +kernel) (Nat.le_of_ble_eq_true rfl) (fun g ok he => ?_)
  refine g_eq (L' := [(0, .ref (v.1 0)), (1, .int p1), (2, .int p2)]) (st' := []) ?_ rfl rfl
  unfold w_X7_taken at h
  refine g_iload_n 2 (n := 1) ok dX7_taken_0 rfl rfl ?_
  refine g_callSi (n := 4) (As := [.int p2]) (rest := []) ok (c_X7_isKind l v p2 S _ h) cal_X7_isKind tw_385 tw_386 (by decide) (by decide) rfl (Nat.le_of_ble_eq_true rfl) dX7_taken_1 rfl rfl (fun r1 S1 h => ?_)
  refine g_if_ne (t := 10) (n := 7) ok dX7_taken_4 (by decide) rfl (fun e6 => ?_) (fun e6 => ?_)
  · replace h := h.1 e6
    refine g_iload_n 1 (n := 11) ok dX7_taken_10 rfl rfl ?_
    refine g_callSi (n := 14) (As := [.int p1]) (rest := []) ok (c_X7_isLeg l v p1 S1 _ h) cal_X7_isLeg tw_382 tw_383 (by decide) (by decide) rfl (Nat.le_of_ble_eq_true rfl) dX7_taken_11 rfl rfl (fun r2 S2 h => ?_)
    refine g_if_ne (t := 20) (n := 17) ok dX7_taken_14 (by decide) rfl (fun e5 => ?_) (fun e5 => ?_)
    · replace h := h.1 e5
      refine g_aload_n 0 (n := 21) ok dX7_taken_20 rfl rfl ?_
      refine fg_X7_X7_table (n := 24) 0 rfl ok dX7_taken_21 rfl ?_
      refine fg_X7_X5_legs (n := 27) 1 rfl ok dX7_taken_24 rfl ?_
      refine g_iload_n 1 (n := 28) ok dX7_taken_27 rfl rfl ?_
      obtain ⟨h28, h⟩ := h
      refine g_aald (c := 3) (t0 := 1) (a := v.1 (3 + 1 + p1.toNatClampNeg)) (n := 29) ok (lt3 rfl) (sh3 rfl _) rfl h28 rfl dX7_taken_28 rfl ?_
      refine g_iload_n 2 (n := 30) ok dX7_taken_29 rfl rfl ?_
      refine g_callVNi (n := 33) (As := [.int p2]) (rest := []) (c := (3 + 1 + p1.toNatClampNeg)) ok (c_X0_isOne l v (3 + 1 + p1.toNatClampNeg) (kdE3 rfl h28) p2 S2 _ h) cal_X0_isOne tw_750 tw_613 tp_48 (lt4 (kdE3 rfl h28)) (sh4 (kdE3 rfl h28) _) rfl (by decide) (by decide) rfl (Nat.le_of_ble_eq_true rfl) dX7_taken_30 rfl rfl (fun r3 S3 h => ?_)
      refine g_if_eq (t := 51) (n := 36) ok dX7_taken_33 (by decide) rfl (fun e4 => ?_) (fun e4 => ?_)
      · replace h := h.1 e4
        refine g_bipush (v := -13) (n := 53) ok dX7_taken_51 rfl (by decide) ?_
        exact g_sub [] rfl (b_X7_taken_53 ok he (-13 : Int32) S3 h)
      · replace h := h.2 e4
        refine g_aload_n 0 (n := 37) ok dX7_taken_36 rfl rfl ?_
        refine fg_X7_X7_table (n := 40) 0 rfl ok dX7_taken_37 rfl ?_
        refine fg_X7_X5_legs (n := 43) 1 rfl ok dX7_taken_40 rfl ?_
        refine g_iload_n 1 (n := 44) ok dX7_taken_43 rfl rfl ?_
        obtain ⟨h44, h⟩ := h
        refine g_aald (c := 3) (t0 := 1) (a := v.1 (3 + 1 + p1.toNatClampNeg)) (n := 45) ok (lt3 rfl) (sh3 rfl _) rfl h44 rfl dX7_taken_44 rfl ?_
        refine fg_X7_X0_length (n := 48) (3 + 1 + p1.toNatClampNeg) (kdE3 rfl h44) ok dX7_taken_45 rfl ?_
        refine g_goto (t := 53) ok dX7_taken_48 (by decide) ?_
        exact g_sub [] rfl (b_X7_taken_53 ok he (S3 (3 + 1 + p1.toNatClampNeg) 1) S3 h)
    · replace h := h.2 e5
      refine g_bipush (v := -11) (n := 19) ok dX7_taken_17 rfl (by decide) ?_
      exact g_iret ok he h dX7_taken_19
  · replace h := h.2 e6
    refine g_bipush (v := -2) (n := 9) ok dX7_taken_7 rfl (by decide) ?_
    exact g_iret ok he h dX7_taken_9
