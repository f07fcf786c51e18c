def w_X8_odds_27 (post : Int64 → Mem → Prop) (S : Mem) : Prop := post (-4611686018427387904 : Int64) S
set_option maxHeartbeats 4000000 in
set_option maxRecDepth 20000 in
theorem b_X8_odds_27 {v : VmT} {l : Launch} {g : CxT} (ok : Ok l g (oM v) 8 cX8_odds RX8 (some .long)) {post : Int64 → Mem → Prop} (he : EndQ g (oM v) (va_Ql post (fun S1 t => BX (oM v) S1 t) (AX (oM v)))) (S : Mem) (h : w_X8_odds_27 post  S) : G g (oM v) 5 8 27 [] [] S := by
  unfold w_X8_odds_27 at h
  refine g_ldc2 (v := -4611686018427387904) (n := 30) ok dX8_odds_27 rfl tw_1120 ?_
  exact g_lret ok he h dX8_odds_30
def w_X8_odds_61 (K37 : Int32 → Int32 → Int32 → Int32 → Int32 → Mem → Prop) (post : Int64 → Mem → Prop) (x1 : Int32) (x2 : Int32) (x3 : Int32) (x5 : Int32) (y0 : Int32) (y1 : Int32) (S : Mem) : Prop := (∀ z1 : Int32, z1 = y1 + y0 → (∀ z2 : Int32, z2 = x5 + 1 → K37 x1 x2 x3 z1 z2 S))
set_option maxHeartbeats 4000000 in
set_option maxRecDepth 20000 in
theorem b_X8_odds_61 {v : VmT} {l : Launch} {g : CxT} {K37 : Int32 → Int32 → Int32 → Int32 → Int32 → Mem → Prop} (ok : Ok l g (oM v) 8 cX8_odds RX8 (some .long)) (hK37 : ∀ (x1 : Int32) (x2 : Int32) (x3 : Int32) (x4 : Int32) (x5 : Int32) (S : Mem), K37 x1 x2 x3 x4 x5 S → G g (oM v) 5 8 37 [(0, .ref (v.1 0)), (1, .int x1), (2, .int x2), (3, .int x3), (4, .int x4), (5, .int x5)] [] S) {post : Int64 → Mem → Prop} (he : EndQ g (oM v) (va_Ql post (fun S1 t => BX (oM v) S1 t) (AX (oM v)))) (x1 : Int32) (x2 : Int32) (x3 : Int32) (x5 : Int32) (y0 : Int32) (y1 : Int32) (S : Mem) (h : w_X8_odds_61 K37 post x1 x2 x3 x5 y0 y1 S) : G g (oM v) 5 8 61 [(0, .ref (v.1 0)), (1, .int x1), (2, .int x2), (3, .int x3), (5, .int x5)] [.int y0, .int y1] S := by
  unfold w_X8_odds_61 at h
  refine g_iadd (n := 62) ok dX8_odds_61 rfl ?_
  refine g_topi (fun z1 ez1 => ?_)
  replace h := h z1 ez1
  refine g_istore [(4, .int z1), (0, .ref (v.1 0)), (1, .int x1), (2, .int x2), (3, .int x3), (5, .int x5)] (n := 64) ok dX8_odds_62 rfl (by decide) rfl ?_
  obtain ⟨z2, ez2⟩ : ∃ y : Int32, y = x5 + 1 := ⟨_, rfl⟩
  replace h := h z2 ez2
  refine g_iinc 5 [(5, .int z2), (4, .int z1), (0, .ref (v.1 0)), (1, .int x1), (2, .int x2), (3, .int x3)] (v := z2) (n := 67) ok dX8_odds_64 rfl rfl (by rw [ez2]; rfl) (by decide) rfl ?_
  refine g_goto (t := 37) ok dX8_odds_67 (by decide) ?_
  exact g_sub [2, 3, 4, 5, 1, 0] rfl (hK37 x1 x2 x3 z1 z2 S h)
def w_X8_odds_118 (post : Int64 → Mem → Prop) (y0 : Int64) (S : Mem) : Prop := post y0 S
set_option maxHeartbeats 4000000 in
set_option maxRecDepth 20000 in
theorem b_X8_odds_118 {v : VmT} {l : Launch} {g : CxT} (ok : Ok l g (oM v) 8 cX8_odds RX8 (some .long)) {post : Int64 → Mem → Prop} (he : EndQ g (oM v) (va_Ql post (fun S1 t => BX (oM v) S1 t) (AX (oM v)))) (y0 : Int64) (S : Mem) (h : w_X8_odds_118 post y0 S) : G g (oM v) 5 8 118 [] [.long y0] S := by
  unfold w_X8_odds_118 at h
  exact g_lret ok he h dX8_odds_118
def w_X8_odds_77 (post : Int64 → Mem → Prop) : Nat → Int32 → Int32 → Int32 → Int32 → Int32 → Mem → Prop
  | 0, _, _, _, _, _, _ => False
  | n + 1, x2, x3, x4, x5, x6, S => ((x6 = 0 → ((¬ x3 = 0 → (¬ x5 = 0 ∧ w_X8_odds_118 post ((x2 / x5).toInt64) S)) ∧ (x3 = 0 → (¬ x5 = 0 ∧ w_X8_odds_118 post ((x4 / x5).toInt64) S)))) ∧ (¬ x6 = 0 → (¬ x6 = 0 ∧ (∀ z2 : Int32, z2 = jrem x5 x6 → w_X8_odds_77 post n x2 x3 x4 x6 z2 S))))
set_option maxHeartbeats 4000000 in
set_option maxRecDepth 20000 in
theorem b_X8_odds_77 {v : VmT} {l : Launch} {g : CxT} (ok : Ok l g (oM v) 8 cX8_odds RX8 (some .long)) {post : Int64 → Mem → Prop} (he : EndQ g (oM v) (va_Ql post (fun S1 t => BX (oM v) S1 t) (AX (oM v)))) : ∀ (n : Nat) (x2 : Int32) (x3 : Int32) (x4 : Int32) (x5 : Int32) (x6 : Int32) (S : Mem), w_X8_odds_77 post n x2 x3 x4 x5 x6 S → G g (oM v) 5 8 77 [(2, .int x2), (3, .int x3), (4, .int x4), (5, .int x5), (6, .int x6)] [] S := by
  intro n
  induction n with
  | zero =>
    intro x2 x3 x4 x5 x6 S h
    exact h.elim
  | succ n ih =>
    intro x2 x3 x4 x5 x6 S h
    rw [w_X8_odds_77] at h
    refine g_iload 4 (n := 79) ok dX8_odds_77 rfl rfl ?_
    refine g_if_eq (t := 100) (n := 82) ok dX8_odds_79 (by decide) rfl (fun e3 => ?_) (fun e3 => ?_)
    · replace h := h.1 e3
      refine g_iload_n 1 (n := 101) ok dX8_odds_100 rfl rfl ?_
      refine g_if_ne (t := 113) (n := 104) ok dX8_odds_101 (by decide) rfl (fun e1 => ?_) (fun e1 => ?_)
      · replace h := h.1 e1
        refine g_iload_n 0 (n := 114) ok dX8_odds_113 rfl rfl ?_
        refine g_iload 3 (n := 116) ok dX8_odds_114 rfl rfl ?_
        obtain ⟨h0, h⟩ := h
        refine g_idiv (n := 117) ok dX8_odds_116 rfl h0 ?_
        refine g_i2l (n := 118) ok dX8_odds_117 rfl ?_
        exact g_sub [] rfl (b_X8_odds_118 ok he ((x2 / x5).toInt64) S h)
      · replace h := h.2 e1
        refine g_iload 2 (n := 106) ok dX8_odds_104 rfl rfl ?_
        refine g_iload 3 (n := 108) ok dX8_odds_106 rfl rfl ?_
        obtain ⟨h0, h⟩ := h
        refine g_idiv (n := 109) ok dX8_odds_108 rfl h0 ?_
        refine g_i2l (n := 110) ok dX8_odds_109 rfl ?_
        refine g_goto (t := 118) ok dX8_odds_110 (by decide) ?_
        exact g_sub [] rfl (b_X8_odds_118 ok he ((x4 / x5).toInt64) S h)
    · replace h := h.2 e3
      refine g_iload 3 (n := 84) ok dX8_odds_82 rfl rfl ?_
      refine g_iload 4 (n := 86) ok dX8_odds_84 rfl rfl ?_
      obtain ⟨h0, h⟩ := h
      refine g_irem (n := 87) ok dX8_odds_86 rfl h0 ?_
      refine g_topi (fun z2 ez2 => ?_)
      replace h := h z2 ez2
      refine g_istore [(7, .int z2), (2, .int x2), (3, .int x3), (4, .int x4), (5, .int x5), (6, .int x6)] (n := 89) ok dX8_odds_87 rfl (by decide) rfl ?_
      refine g_iload 5 (n := 91) ok dX8_odds_89 rfl rfl ?_
      refine g_istore [(5, .int x6), (7, .int z2), (2, .int x2), (3, .int x3), (4, .int x4), (6, .int x6)] (n := 93) ok dX8_odds_91 rfl (by decide) rfl ?_
      refine g_iload 1 (n := 95) ok dX8_odds_93 rfl rfl ?_
      refine g_istore [(6, .int z2), (5, .int x6), (7, .int z2), (2, .int x2), (3, .int x3), (4, .int x4)] (n := 97) ok dX8_odds_95 rfl (by decide) rfl ?_
      refine g_goto (t := 77) ok dX8_odds_97 (by decide) ?_
      exact g_sub [3, 4, 5, 1, 0] rfl (ih x2 x3 x4 x6 z2 S h)
def w_X8_odds_37 (post : Int64 → Mem → Prop) : Nat → Int32 → Int32 → Int32 → Int32 → Int32 → Mem → Prop
  | 0, _, _, _, _, _, _ => False
  | n + 1, x1, x2, x3, x4, x5, S => ((x2 ≤ x5 → ∃ n, w_X8_odds_77 post n x2 x3 x4 x4 x2 S) ∧ (¬ x2 ≤ x5 → w_X8_rockBy (x1 + x5) S (fun r1 S1 => ((¬ r1 = 0 → w_X8_odds_61 (w_X8_odds_37 post n) post x1 x2 x3 x5 (0 : Int32) x4 S1) ∧ (r1 = 0 → w_X8_odds_61 (w_X8_odds_37 post n) post x1 x2 x3 x5 (1 : Int32) x4 S1)))))
set_option maxHeartbeats 4000000 in
set_option maxRecDepth 20000 in
theorem b_X8_odds_37 {v : VmT} {l : Launch} {g : CxT} (ok : Ok l g (oM v) 8 cX8_odds RX8 (some .long)) {post : Int64 → Mem → Prop} (he : EndQ g (oM v) (va_Ql post (fun S1 t => BX (oM v) S1 t) (AX (oM v)))) : ∀ (n : Nat) (x1 : Int32) (x2 : Int32) (x3 : Int32) (x4 : Int32) (x5 : Int32) (S : Mem), w_X8_odds_37 post n x1 x2 x3 x4 x5 S → G g (oM v) 5 8 37 [(0, .ref (v.1 0)), (1, .int x1), (2, .int x2), (3, .int x3), (4, .int x4), (5, .int x5)] [] S := by
  intro n
  induction n with
  | zero =>
    intro x1 x2 x3 x4 x5 S h
    exact h.elim
  | succ n ih =>
    intro x1 x2 x3 x4 x5 S h
    rw [w_X8_odds_37] at h
    refine g_iload 5 (n := 39) ok dX8_odds_37 rfl rfl ?_
    refine g_iload_n 2 (n := 40) ok dX8_odds_39 rfl rfl ?_
    refine g_icmp_ge (t := 70) (n := 43) ok dX8_odds_40 (by decide) rfl (fun e3 => ?_) (fun e3 => ?_)
    · replace h := h.1 e3
      refine g_iload 4 (n := 72) ok dX8_odds_70 rfl rfl ?_
      refine g_istore [(5, .int x4), (0, .ref (v.1 0)), (1, .int x1), (2, .int x2), (3, .int x3), (4, .int x4)] (n := 74) ok dX8_odds_72 rfl (by decide) rfl ?_
      refine g_iload_n 3 (n := 75) ok dX8_odds_74 rfl rfl ?_
      refine g_istore [(6, .int x2), (5, .int x4), (0, .ref (v.1 0)), (1, .int x1), (2, .int x2), (3, .int x3), (4, .int x4)] (n := 77) ok dX8_odds_75 rfl (by decide) rfl ?_
      obtain ⟨n0, h⟩ := h
      exact g_sub [4, 5, 6, 1, 0] rfl (b_X8_odds_77 ok he n0 x2 x3 x4 x4 x2 S h)
    · replace h := h.2 e3
      refine g_iload 4 (n := 45) ok dX8_odds_43 rfl rfl ?_
      refine g_aload_n 0 (n := 46) ok dX8_odds_45 rfl rfl ?_
      refine g_iload_n 1 (n := 47) ok dX8_odds_46 rfl rfl ?_
      refine g_iload 5 (n := 49) ok dX8_odds_47 rfl rfl ?_
      refine g_iadd (n := 50) ok dX8_odds_49 rfl ?_
      refine g_callVi (n := 53) (As := [.int (x1 + x5)]) (rest := [.int x4]) (c := 0) ok (c_X8_rockBy l v (x1 + x5) S _ h) cal_X8_rockBy tw_1125 tw_1127 tp_93 (Nat.le_of_ble_eq_true rfl) rfl rfl (by decide) (by decide) rfl (Nat.le_of_ble_eq_true rfl) dX8_odds_50 rfl rfl (fun r1 S1 h => ?_)
      refine g_if_ne (t := 60) (n := 56) ok dX8_odds_53 (by decide) rfl (fun e2 => ?_) (fun e2 => ?_)
      · replace h := h.1 e2
        refine g_iconst (v := 0) (n := 61) ok dX8_odds_60 rfl (by decide) ?_
        exact g_sub [0, 1, 2, 3, 5] rfl (b_X8_odds_61 ok ih he x1 x2 x3 x5 (0 : Int32) x4 S1 h)
      · replace h := h.2 e2
        refine g_iconst (v := 1) (n := 57) ok dX8_odds_56 rfl (by decide) ?_
        refine g_goto (t := 61) ok dX8_odds_57 (by decide) ?_
        exact g_sub [0, 1, 2, 3, 5] rfl (b_X8_odds_61 ok ih he x1 x2 x3 x5 (1 : Int32) x4 S1 h)
def w_X8_odds (p1 : Int32) (p2 : Int32) (p3 : Int32) (S : Mem) (post : Int64 → Mem → Prop) : Prop := (∀ S1 : Mem, S1 = mset S 0 (upd (S 0) 8 (0 : Int32)) → w_X8_in p2.toInt64 (1 : Int64) (30 : Int64) S1 (fun r2 S2 => ((r2 = 0 → w_X8_odds_27 post  S2) ∧ (¬ r2 = 0 → w_X8_in p3.toInt64 (0 : Int64) (1 : Int64) S2 (fun r3 S3 => ((¬ r3 = 0 → ∃ n, w_X8_odds_37 post n p1 p2 p3 (0 : Int32) (0 : Int32) S3) ∧ (r3 = 0 → w_X8_odds_27 post  S3)))))))
set_option maxHeartbeats 4000000 in
set_option maxRecDepth 20000 in
theorem c_X8_odds (l : Launch) (v : VmT) (p1 : Int32) (p2 : Int32) (p3 : Int32) (S : Mem) (post : Int64 → Mem → Prop) (h : w_X8_odds p1 p2 p3 S post) : ML l yX8_odds cX8_odds 8 (some .long) 5 (oM v) [.ref (v.1 0), .int p1, .int p2, .int p3] S post := by
  refine met_start (by decide +kernel) (Nat.le_of_ble_eq_true rfl) (fun g ok he => ?_)
  refine g_eq (L' := [(0, .ref (v.1 0)), (1, .int p1), (2, .int p2), (3, .int p3)]) (st' := []) ?_ rfl rfl
  unfold w_X8_odds at h
  refine g_aload_n 0 (n := 1) ok dX8_odds_0 rfl rfl ?_
  refine g_iconst (v := 0) (n := 2) ok dX8_odds_1 rfl (by decide) ?_
  refine fp_X8_X8_thrown (n := 5) ok dX8_odds_2 rfl ?_
  refine g_mem (fun S1 eS1 => ?_)
  replace h := h S1 eS1
  refine g_iload_n 2 (n := 6) ok dX8_odds_5 rfl rfl ?_
  refine g_i2l (n := 7) ok dX8_odds_6 rfl ?_
  refine g_lconst (v := 1) (n := 8) ok dX8_odds_7 rfl (by decide) ?_
  refine g_ldc2 (v := 30) (n := 11) ok dX8_odds_8 rfl tw_1134 ?_
  refine g_callSi (n := 14) (As := [.long p2.toInt64, .long (1 : Int64), .long (30 : Int64)]) (rest := []) ok (c_X8_in l v p2.toInt64 (1 : Int64) (30 : Int64) S1 _ h) cal_X8_in tw_771 tw_772 (by decide) (by decide) rfl (Nat.le_of_ble_eq_true rfl) dX8_odds_11 rfl rfl (fun r2 S2 h => ?_)
  refine g_if_eq (t := 27) (n := 17) ok dX8_odds_14 (by decide) rfl (fun e5 => ?_) (fun e5 => ?_)
  · replace h := h.1 e5
    exact g_sub [] rfl (b_X8_odds_27 ok he  S2 h)
  · replace h := h.2 e5
    refine g_iload_n 3 (n := 18) ok dX8_odds_17 rfl rfl ?_
    refine g_i2l (n := 19) ok dX8_odds_18 rfl ?_
    refine g_lconst (v := 0) (n := 20) ok dX8_odds_19 rfl (by decide) ?_
    refine g_lconst (v := 1) (n := 21) ok dX8_odds_20 rfl (by decide) ?_
    refine g_callSi (n := 24) (As := [.long p3.toInt64, .long (0 : Int64), .long (1 : Int64)]) (rest := []) ok (c_X8_in l v p3.toInt64 (0 : Int64) (1 : Int64) S2 _ h) cal_X8_in tw_771 tw_772 (by decide) (by decide) rfl (Nat.le_of_ble_eq_true rfl) dX8_odds_21 rfl rfl (fun r3 S3 h => ?_)
    refine g_if_ne (t := 31) (n := 27) ok dX8_odds_24 (by decide) rfl (fun e4 => ?_) (fun e4 => ?_)
    · replace h := h.1 e4
      refine g_iconst (v := 0) (n := 32) ok dX8_odds_31 rfl (by decide) ?_
      refine g_istore [(4, .int (0 : Int32)), (0, .ref (v.1 0)), (1, .int p1), (2, .int p2), (3, .int p3)] (n := 34) ok dX8_odds_32 rfl (by decide) rfl ?_
      refine g_iconst (v := 0) (n := 35) ok dX8_odds_34 rfl (by decide) ?_
      refine g_istore [(5, .int (0 : Int32)), (4, .int (0 : Int32)), (0, .ref (v.1 0)), (1, .int p1), (2, .int p2), (3, .int p3)] (n := 37) ok dX8_odds_35 rfl (by decide) rfl ?_
      obtain ⟨n0, h⟩ := h
      exact g_sub [2, 3, 4, 5, 1, 0] rfl (b_X8_odds_37 ok he n0 p1 p2 p3 (0 : Int32) (0 : Int32) S3 h)
    · replace h := h.2 e4
      exact g_sub [] rfl (b_X8_odds_27 ok he  S3 h)
def w_X8_floor_29 (post : Int32 → Mem → Prop) (S : Mem) : Prop := post (-2 : Int32) S
set_option maxHeartbeats 4000000 in
set_option maxRecDepth 20000 in
theorem b_X8_floor_29 {v : VmT} {l : Launch} {g : CxT} (ok : Ok l g (oM v) 4 cX8_floor RX8 (some .int)) {post : Int32 → Mem → Prop} (he : EndQ g (oM v) (va_Qi post (fun S1 t => BX (oM v) S1 t) (AX (oM v)))) (S : Mem) (h : w_X8_floor_29 post  S) : G g (oM v) 2 4 29 [] [] S := by
  unfold w_X8_floor_29 at h
  refine g_bipush (v := -2) (n := 31) ok dX8_floor_29 rfl (by decide) ?_
  exact g_iret ok he h dX8_floor_31
def w_X8_floor (p1 : Int32) (p2 : Int32) (S : Mem) (post : Int32 → Mem → Prop) : Prop := (∀ S1 : Mem, S1 = mset S 0 (upd (S 0) 8 (0 : Int32)) → w_X8_in p1.toInt64 (0 : Int64) (63 : Int64) S1 (fun r2 S2 => ((r2 = 0 → w_X8_floor_29 post  S2) ∧ (¬ r2 = 0 → w_X8_in p2.toInt64 (0 : Int64) (99 : Int64) S2 (fun r3 S3 => ((¬ r3 = 0 → (vp_in p1 64 ∧ (∀ z4 : Int32, z4 = S3 1 p1.toNatClampNeg → (vp_in p1 64 ∧ (∀ S5 : Mem, S5 = mset S3 1 (upd (S3 1) p1.toNatClampNeg p2) → post z4 S5))))) ∧ (r3 = 0 → w_X8_floor_29 post  S3)))))))
set_option maxHeartbeats 4000000 in
set_option maxRecDepth 20000 in
theorem c_X8_floor (l : Launch) (v : VmT) (p1 : Int32) (p2 : Int32) (S : Mem) (post : Int32 → Mem → Prop) (h : w_X8_floor p1 p2 S post) : MI l yX8_floor cX8_floor 4 (some .int) 2 (oM v) [.ref (v.1 0), .int p1, .int p2] S post := by
  refine met_start (by decide +kernel) (Nat.le_of_ble_eq_true rfl) (fun g ok he => ?_)
  refine g_eq (L' := [(0, .ref (v.1 0)), (1, .int p1), (2, .int p2)]) (st' := []) ?_ rfl rfl
  unfold w_X8_floor at h
  refine g_aload_n 0 (n := 1) ok dX8_floor_0 rfl rfl ?_
  refine g_iconst (v := 0) (n := 2) ok dX8_floor_1 rfl (by decide) ?_
  refine fp_X8_X8_thrown (n := 5) ok dX8_floor_2 rfl ?_
  refine g_mem (fun S1 eS1 => ?_)
  replace h := h S1 eS1
  refine g_iload_n 1 (n := 6) ok dX8_floor_5 rfl rfl ?_
  refine g_i2l (n := 7) ok dX8_floor_6 rfl ?_
  refine g_lconst (v := 0) (n := 8) ok dX8_floor_7 rfl (by decide) ?_
  refine g_ldc2 (v := 63) (n := 11) ok dX8_floor_8 rfl tw_1039 ?_
  refine g_callSi (n := 14) (As := [.long p1.toInt64, .long (0 : Int64), .long (63 : Int64)]) (rest := []) ok (c_X8_in l v p1.toInt64 (0 : Int64) (63 : Int64) S1 _ h) cal_X8_in tw_771 tw_772 (by decide) (by decide) rfl (Nat.le_of_ble_eq_true rfl) dX8_floor_11 rfl rfl (fun r2 S2 h => ?_)
  refine g_if_eq (t := 29) (n := 17) ok dX8_floor_14 (by decide) rfl (fun e7 => ?_) (fun e7 => ?_)
  · replace h := h.1 e7
    exact g_sub [] rfl (b_X8_floor_29 ok he  S2 h)
  · replace h := h.2 e7
    refine g_iload_n 2 (n := 18) ok dX8_floor_17 rfl rfl ?_
    refine g_i2l (n := 19) ok dX8_floor_18 rfl ?_
    refine g_lconst (v := 0) (n := 20) ok dX8_floor_19 rfl (by decide) ?_
    refine g_ldc2 (v := 99) (n := 23) ok dX8_floor_20 rfl tw_1139 ?_
    refine g_callSi (n := 26) (As := [.long p2.toInt64, .long (0 : Int64), .long (99 : Int64)]) (rest := []) ok (c_X8_in l v p2.toInt64 (0 : Int64) (99 : Int64) S2 _ h) cal_X8_in tw_771 tw_772 (by decide) (by decide) rfl (Nat.le_of_ble_eq_true rfl) dX8_floor_23 rfl rfl (fun r3 S3 h => ?_)
    refine g_if_ne (t := 32) (n := 29) ok dX8_floor_26 (by decide) rfl (fun e6 => ?_) (fun e6 => ?_)
    · replace h := h.1 e6
      refine g_aload_n 0 (n := 33) ok dX8_floor_32 rfl rfl ?_
      refine fg_X8_X8_heights (n := 36) ok dX8_floor_33 rfl ?_
      refine g_iload_n 1 (n := 37) ok dX8_floor_36 rfl rfl ?_
      obtain ⟨h0, h⟩ := h
      refine g_iald (c := 1) (t0 := 0) (n := 38) ok (Nat.le_of_ble_eq_true rfl) rfl rfl h0 dX8_floor_37 rfl ?_
      refine g_topi (fun z4 ez4 => ?_)
      replace h := h z4 ez4
      refine g_istore_n [(3, .int z4), (0, .ref (v.1 0)), (1, .int p1), (2, .int p2)] (n := 39) ok dX8_floor_38 rfl (by decide) rfl ?_
      refine g_aload_n 1 (n := 40) ok dX8_floor_39 rfl rfl ?_
      refine fg_X8_X8_heights (n := 43) ok dX8_floor_40 rfl ?_
      refine g_iload_n 2 (n := 44) ok dX8_floor_43 rfl rfl ?_
      refine g_iload_n 3 (n := 45) ok dX8_floor_44 rfl rfl ?_
      obtain ⟨h0, h⟩ := h
      refine g_iast (c := 1) (t0 := 0) (n := 46) ok (Nat.le_of_ble_eq_true rfl) (fun _ => rfl) rfl h0 dX8_floor_45 rfl ?_
      refine g_mem (fun S5 eS5 => ?_)
      replace h := h S5 eS5
      refine g_iload_n 0 (n := 47) ok dX8_floor_46 rfl rfl ?_
      exact g_iret ok he h dX8_floor_47
    · replace h := h.2 e6
      exact g_sub [] rfl (b_X8_floor_29 ok he  S3 h)
def w_X8_wave_41 (post : Int32 → Mem → Prop) (S : Mem) : Prop := post (-2 : Int32) S
set_option maxHeartbeats 4000000 in
set_option maxRecDepth 20000 in
theorem b_X8_wave_41 {v : VmT} {l : Launch} {g : CxT} (ok : Ok l g (oM v) 6 cX8_wave RX8 (some .int)) {post : Int32 → Mem → Prop} (he : EndQ g (oM v) (va_Qi post (fun S1 t => BX (oM v) S1 t) (AX (oM v)))) (S : Mem) (h : w_X8_wave_41 post  S) : G g (oM v) 2 6 41 [] [] S := by
  unfold w_X8_wave_41 at h
  refine g_bipush (v := -2) (n := 43) ok dX8_wave_41 rfl (by decide) ?_
  exact g_iret ok he h dX8_wave_43
def w_X8_wave_50 (post : Int32 → Mem → Prop) : Nat → Int32 → Int32 → Int32 → Int32 → Int32 → Mem → Prop
  | 0, _, _, _, _, _, _ => False
  | n + 1, x1, x2, x3, x4, x5, S => (((64 : Int32) ≤ x5 → post x4 S) ∧ (¬ (64 : Int32) ≤ x5 → (vp_in x5 64 ∧ (∀ S1 : Mem, S1 = mset S 1 (upd (S 1) x5.toNatClampNeg (jrem ((((x5 / (8 : Int32)) * x1) + ((jrem x5 (8 : Int32)) * x2)) + (((x5 / (8 : Int32)) * (jrem x5 (8 : Int32))) * x3)) (100 : Int32))) → (vp_in x5 64 ∧ (∀ z2 : Int32, z2 = x4 + (S1 1 x5.toNatClampNeg) → (∀ z3 : Int32, z3 = x5 + 1 → w_X8_wave_50 post n x1 x2 x3 z2 z3 S1)))))))
set_option maxHeartbeats 4000000 in
set_option maxRecDepth 20000 in
theorem b_X8_wave_50 {v : VmT} {l : Launch} {g : CxT} (ok : Ok l g (oM v) 6 cX8_wave RX8 (some .int)) {post : Int32 → Mem → Prop} (he : EndQ g (oM v) (va_Qi post (fun S1 t => BX (oM v) S1 t) (AX (oM v)))) : ∀ (n : Nat) (x1 : Int32) (x2 : Int32) (x3 : Int32) (x4 : Int32) (x5 : Int32) (S : Mem), w_X8_wave_50 post n x1 x2 x3 x4 x5 S → G g (oM v) 2 6 50 [(0, .ref (v.1 0)), (1, .int x1), (2, .int x2), (3, .int x3), (4, .int x4), (5, .int x5)] [] S := by
  intro n
  induction n with
  | zero =>
    intro x1 x2 x3 x4 x5 S h
    exact h.elim
  | succ n ih =>
    intro x1 x2 x3 x4 x5 S h
    rw [w_X8_wave_50] at h
    refine g_iload 5 (n := 52) ok dX8_wave_50 rfl rfl ?_
    refine g_bipush (v := 64) (n := 54) ok dX8_wave_52 rfl (by decide) ?_
    refine g_icmp_ge (t := 114) (n := 57) ok dX8_wave_54 (by decide) rfl (fun e4 => ?_) (fun e4 => ?_)
    · replace h := h.1 e4
      refine g_iload 4 (n := 116) ok dX8_wave_114 rfl rfl ?_
      exact g_iret ok he h dX8_wave_116
    · replace h := h.2 e4
      refine g_aload_n 0 (n := 58) ok dX8_wave_57 rfl rfl ?_
      refine fg_X8_X8_heights (n := 61) ok dX8_wave_58 rfl ?_
      refine g_iload 5 (n := 63) ok dX8_wave_61 rfl rfl ?_
      refine g_iload 5 (n := 65) ok dX8_wave_63 rfl rfl ?_
      refine g_bipush (v := 8) (n := 67) ok dX8_wave_65 rfl (by decide) ?_
      refine g_idiv (n := 68) ok dX8_wave_67 rfl (by decide) ?_
      refine g_iload_n 1 (n := 69) ok dX8_wave_68 rfl rfl ?_
      refine g_imul (n := 70) ok dX8_wave_69 rfl ?_
      refine g_iload 5 (n := 72) ok dX8_wave_70 rfl rfl ?_
      refine g_bipush (v := 8) (n := 74) ok dX8_wave_72 rfl (by decide) ?_
      refine g_irem (n := 75) ok dX8_wave_74 rfl (by decide) ?_
      refine g_iload_n 2 (n := 76) ok dX8_wave_75 rfl rfl ?_
      refine g_imul (n := 77) ok dX8_wave_76 rfl ?_
      refine g_iadd (n := 78) ok dX8_wave_77 rfl ?_
      refine g_iload 5 (n := 80) ok dX8_wave_78 rfl rfl ?_
      refine g_bipush (v := 8) (n := 82) ok dX8_wave_80 rfl (by decide) ?_
      refine g_idiv (n := 83) ok dX8_wave_82 rfl (by decide) ?_
      refine g_iload 5 (n := 85) ok dX8_wave_83 rfl rfl ?_
      refine g_bipush (v := 8) (n := 87) ok dX8_wave_85 rfl (by decide) ?_
      refine g_irem (n := 88) ok dX8_wave_87 rfl (by decide) ?_
      refine g_imul (n := 89) ok dX8_wave_88 rfl ?_
      refine g_iload_n 3 (n := 90) ok dX8_wave_89 rfl rfl ?_
      refine g_imul (n := 91) ok dX8_wave_90 rfl ?_
      refine g_iadd (n := 92) ok dX8_wave_91 rfl ?_
      refine g_bipush (v := 100) (n := 94) ok dX8_wave_92 rfl (by decide) ?_
      refine g_irem (n := 95) ok dX8_wave_94 rfl (by decide) ?_
      obtain ⟨h0, h⟩ := h
      refine g_iast (c := 1) (t0 := 0) (n := 96) ok (Nat.le_of_ble_eq_true rfl) (fun _ => rfl) rfl h0 dX8_wave_95 rfl ?_
      refine g_mem (fun S1 eS1 => ?_)
      replace h := h S1 eS1
      refine g_iload 4 (n := 98) ok dX8_wave_96 rfl rfl ?_
      refine g_aload_n 0 (n := 99) ok dX8_wave_98 rfl rfl ?_
      refine fg_X8_X8_heights (n := 102) ok dX8_wave_99 rfl ?_
      refine g_iload 5 (n := 104) ok dX8_wave_102 rfl rfl ?_
      obtain ⟨h0, h⟩ := h
      refine g_iald (c := 1) (t0 := 0) (n := 105) ok (Nat.le_of_ble_eq_true rfl) rfl rfl h0 dX8_wave_104 rfl ?_
      refine g_iadd (n := 106) ok dX8_wave_105 rfl ?_
      refine g_topi (fun z2 ez2 => ?_)
      replace h := h z2 ez2
      refine g_istore [(4, .int z2), (0, .ref (v.1 0)), (1, .int x1), (2, .int x2), (3, .int x3), (5, .int x5)] (n := 108) ok dX8_wave_106 rfl (by decide) rfl ?_
      obtain ⟨z3, ez3⟩ : ∃ y : Int32, y = x5 + 1 := ⟨_, rfl⟩
      replace h := h z3 ez3
      refine g_iinc 5 [(5, .int z3), (4, .int z2), (0, .ref (v.1 0)), (1, .int x1), (2, .int x2), (3, .int x3)] (v := z3) (n := 111) ok dX8_wave_108 rfl rfl (by rw [ez3]; rfl) (by decide) rfl ?_
      refine g_goto (t := 50) ok dX8_wave_111 (by decide) ?_
      exact g_sub [2, 3, 4, 5, 1, 0] rfl (ih x1 x2 x3 z2 z3 S1 h)
def w_X8_wave (p1 : Int32) (p2 : Int32) (p3 : Int32) (S : Mem) (post : Int32 → Mem → Prop) : Prop := (∀ S1 : Mem, S1 = mset S 0 (upd (S 0) 8 (0 : Int32)) → w_X8_in p1.toInt64 (0 : Int64) (99 : Int64) S1 (fun r2 S2 => ((r2 = 0 → w_X8_wave_41 post  S2) ∧ (¬ r2 = 0 → w_X8_in p2.toInt64 (0 : Int64) (99 : Int64) S2 (fun r3 S3 => ((r3 = 0 → w_X8_wave_41 post  S3) ∧ (¬ r3 = 0 → w_X8_in p3.toInt64 (0 : Int64) (99 : Int64) S3 (fun r4 S4 => ((¬ r4 = 0 → ∃ n, w_X8_wave_50 post n p1 p2 p3 (0 : Int32) (0 : Int32) S4) ∧ (r4 = 0 → w_X8_wave_41 post  S4))))))))))
set_option maxHeartbeats 4000000 in
set_option maxRecDepth 20000 in
theorem c_X8_wave (l : Launch) (v : VmT) (p1 : Int32) (p2 : Int32) (p3 : Int32) (S : Mem) (post : Int32 → Mem → Prop) (h : w_X8_wave p1 p2 p3 S post) : MI l yX8_wave cX8_wave 6 (some .int) 2 (oM v) [.ref (v.1 0), .int p1, .int p2, .int p3] S post := by
  refine met_start (by decide +kernel) (Nat.le_of_ble_eq_true rfl) (fun g ok he => ?_)
  refine g_eq (L' := [(0, .ref (v.1 0)), (1, .int p1), (2, .int p2), (3, .int p3)]) (st' := []) ?_ rfl rfl
  unfold w_X8_wave at h
  refine g_aload_n 0 (n := 1) ok dX8_wave_0 rfl rfl ?_
  refine g_iconst (v := 0) (n := 2) ok dX8_wave_1 rfl (by decide) ?_
  refine fp_X8_X8_thrown (n := 5) ok dX8_wave_2 rfl ?_
  refine g_mem (fun S1 eS1 => ?_)
  replace h := h S1 eS1
  refine g_iload_n 1 (n := 6) ok dX8_wave_5 rfl rfl ?_
  refine g_i2l (n := 7) ok dX8_wave_6 rfl ?_
  refine g_lconst (v := 0) (n := 8) ok dX8_wave_7 rfl (by decide) ?_
  refine g_ldc2 (v := 99) (n := 11) ok dX8_wave_8 rfl tw_1139 ?_
  refine g_callSi (n := 14) (As := [.long p1.toInt64, .long (0 : Int64), .long (99 : Int64)]) (rest := []) ok (c_X8_in l v p1.toInt64 (0 : Int64) (99 : Int64) S1 _ h) cal_X8_in tw_771 tw_772 (by decide) (by decide) rfl (Nat.le_of_ble_eq_true rfl) dX8_wave_11 rfl rfl (fun r2 S2 h => ?_)
  refine g_if_eq (t := 41) (n := 17) ok dX8_wave_14 (by decide) rfl (fun e7 => ?_) (fun e7 => ?_)
  · replace h := h.1 e7
    exact g_sub [] rfl (b_X8_wave_41 ok he  S2 h)
  · replace h := h.2 e7
    refine g_iload_n 2 (n := 18) ok dX8_wave_17 rfl rfl ?_
    refine g_i2l (n := 19) ok dX8_wave_18 rfl ?_
    refine g_lconst (v := 0) (n := 20) ok dX8_wave_19 rfl (by decide) ?_
    refine g_ldc2 (v := 99) (n := 23) ok dX8_wave_20 rfl tw_1139 ?_
    refine g_callSi (n := 26) (As := [.long p2.toInt64, .long (0 : Int64), .long (99 : Int64)]) (rest := []) ok (c_X8_in l v p2.toInt64 (0 : Int64) (99 : Int64) S2 _ h) cal_X8_in tw_771 tw_772 (by decide) (by decide) rfl (Nat.le_of_ble_eq_true rfl) dX8_wave_23 rfl rfl (fun r3 S3 h => ?_)
    refine g_if_eq (t := 41) (n := 29) ok dX8_wave_26 (by decide) rfl (fun e6 => ?_) (fun e6 => ?_)
    · replace h := h.1 e6
      exact g_sub [] rfl (b_X8_wave_41 ok he  S3 h)
    · replace h := h.2 e6
      refine g_iload_n 3 (n := 30) ok dX8_wave_29 rfl rfl ?_
      refine g_i2l (n := 31) ok dX8_wave_30 rfl ?_
      refine g_lconst (v := 0) (n := 32) ok dX8_wave_31 rfl (by decide) ?_
      refine g_ldc2 (v := 99) (n := 35) ok dX8_wave_32 rfl tw_1139 ?_
      refine g_callSi (n := 38) (As := [.long p3.toInt64, .long (0 : Int64), .long (99 : Int64)]) (rest := []) ok (c_X8_in l v p3.toInt64 (0 : Int64) (99 : Int64) S3 _ h) cal_X8_in tw_771 tw_772 (by decide) (by decide) rfl (Nat.le_of_ble_eq_true rfl) dX8_wave_35 rfl rfl (fun r4 S4 h => ?_)
      refine g_if_ne (t := 44) (n := 41) ok dX8_wave_38 (by decide) rfl (fun e5 => ?_) (fun e5 => ?_)
      · replace h := h.1 e5
        refine g_iconst (v := 0) (n := 45) ok dX8_wave_44 rfl (by decide) ?_
        refine g_istore [(4, .int (0 : Int32)), (0, .ref (v.1 0)), (1, .int p1), (2, .int p2), (3, .int p3)] (n := 47) ok dX8_wave_45 rfl (by decide) rfl ?_
        refine g_iconst (v := 0) (n := 48) ok dX8_wave_47 rfl (by decide) ?_
        refine g_istore [(5, .int (0 : Int32)), (4, .int (0 : Int32)), (0, .ref (v.1 0)), (1, .int p1), (2, .int p2), (3, .int p3)] (n := 50) ok dX8_wave_48 rfl (by decide) rfl ?_
        obtain ⟨n0, h⟩ := h
        exact g_sub [2, 3, 4, 5, 1, 0] rfl (b_X8_wave_50 ok he n0 p1 p2 p3 (0 : Int32) (0 : Int32) S4 h)
      · replace h := h.2 e5
        exact g_sub [] rfl (b_X8_wave_41 ok he  S4 h)
def w_X8_leg_41 (post : Int32 → Mem → Prop) (S : Mem) : Prop := post (-2 : Int32) S
set_option maxHeartbeats 4000000 in
set_option maxRecDepth 20000 in
theorem b_X8_leg_41 {v : VmT} {l : Launch} {g : CxT} (ok : Ok l g (oM v) 5 cX8_leg RX8 (some .int)) {post : Int32 → Mem → Prop} (he : EndQ g (oM v) (va_Qi post (fun S1 t => BX (oM v) S1 t) (AX (oM v)))) (S : Mem) (h : w_X8_leg_41 post  S) : G g (oM v) 2 5 41 [] [] S := by
  unfold w_X8_leg_41 at h
  refine g_bipush (v := -2) (n := 43) ok dX8_leg_41 rfl (by decide) ?_
  exact g_iret ok he h dX8_leg_43
def w_X8_leg (p1 : Int32) (p2 : Int32) (p3 : Int32) (S : Mem) (post : Int32 → Mem → Prop) : Prop := (∀ S1 : Mem, S1 = mset S 0 (upd (S 0) 8 (0 : Int32)) → w_X8_in p1.toInt64 (0 : Int64) (3 : Int64) S1 (fun r2 S2 => ((r2 = 0 → w_X8_leg_41 post  S2) ∧ (¬ r2 = 0 → w_X8_in p2.toInt64 (0 : Int64) (5 : Int64) S2 (fun r3 S3 => ((r3 = 0 → w_X8_leg_41 post  S3) ∧ (¬ r3 = 0 → w_X8_in p3.toInt64 (0 : Int64) (9 : Int64) S3 (fun r4 S4 => ((¬ r4 = 0 → (vp_in p1 4 ∧ (∀ z5 : Int32, z5 = S4 2 p1.toNatClampNeg → (vp_in p1 4 ∧ (∀ S6 : Mem, S6 = mset S4 2 (upd (S4 2) p1.toNatClampNeg p2) → (vp_in p1 4 ∧ (∀ S7 : Mem, S7 = mset S6 4 (upd (S6 4) p1.toNatClampNeg p3) → post z5 S7))))))) ∧ (r4 = 0 → w_X8_leg_41 post  S4))))))))))
set_option maxHeartbeats 4000000 in
set_option maxRecDepth 20000 in
theorem c_X8_leg (l : Launch) (v : VmT) (p1 : Int32) (p2 : Int32) (p3 : Int32) (S : Mem) (post : Int32 → Mem → Prop) (h : w_X8_leg p1 p2 p3 S post) : MI l yX8_leg cX8_leg 5 (some .int) 2 (oM v) [.ref (v.1 0), .int p1, .int p2, .int p3] S post := by
  refine met_start (by decide +kernel) (Nat.le_of_ble_eq_true rfl) (fun g ok he => ?_)
  refine g_eq (L' := [(0, .ref (v.1 0)), (1, .int p1), (2, .int p2), (3, .int p3)]) (st' := []) ?_ rfl rfl
  unfold w_X8_leg at h
  refine g_aload_n 0 (n := 1) ok dX8_leg_0 rfl rfl ?_
  refine g_iconst (v := 0) (n := 2) ok dX8_leg_1 rfl (by decide) ?_
  refine fp_X8_X8_thrown (n := 5) ok dX8_leg_2 rfl ?_
  refine g_mem (fun S1 eS1 => ?_)
  replace h := h S1 eS1
  refine g_iload_n 1 (n := 6) ok dX8_leg_5 rfl rfl ?_
  refine g_i2l (n := 7) ok dX8_leg_6 rfl ?_
  refine g_lconst (v := 0) (n := 8) ok dX8_leg_7 rfl (by decide) ?_
  refine g_ldc2 (v := 3) (n := 11) ok dX8_leg_8 rfl tw_1111 ?_
  refine g_callSi (n := 14) (As := [.long p1.toInt64, .long (0 : Int64), .long (3 : Int64)]) (rest := []) ok (c_X8_in l v p1.toInt64 (0 : Int64) (3 : Int64) S1 _ h) cal_X8_in tw_771 tw_772 (by decide) (by decide) rfl (Nat.le_of_ble_eq_true rfl) dX8_leg_11 rfl rfl (fun r2 S2 h => ?_)
  refine g_if_eq (t := 41) (n := 17) ok dX8_leg_14 (by decide) rfl (fun e10 => ?_) (fun e10 => ?_)
  · replace h := h.1 e10
    exact g_sub [] rfl (b_X8_leg_41 ok he  S2 h)
  · replace h := h.2 e10
    refine g_iload_n 2 (n := 18) ok dX8_leg_17 rfl rfl ?_
    refine g_i2l (n := 19) ok dX8_leg_18 rfl ?_
    refine g_lconst (v := 0) (n := 20) ok dX8_leg_19 rfl (by decide) ?_
    refine g_ldc2 (v := 5) (n := 23) ok dX8_leg_20 rfl tw_995 ?_
    refine g_callSi (n := 26) (As := [.long p2.toInt64, .long (0 : Int64), .long (5 : Int64)]) (rest := []) ok (c_X8_in l v p2.toInt64 (0 : Int64) (5 : Int64) S2 _ h) cal_X8_in tw_771 tw_772 (by decide) (by decide) rfl (Nat.le_of_ble_eq_true rfl) dX8_leg_23 rfl rfl (fun r3 S3 h => ?_)
    refine g_if_eq (t := 41) (n := 29) ok dX8_leg_26 (by decide) rfl (fun e9 => ?_) (fun e9 => ?_)
    · replace h := h.1 e9
      exact g_sub [] rfl (b_X8_leg_41 ok he  S3 h)
    · replace h := h.2 e9
      refine g_iload_n 3 (n := 30) ok dX8_leg_29 rfl rfl ?_
      refine g_i2l (n := 31) ok dX8_leg_30 rfl ?_
      refine g_lconst (v := 0) (n := 32) ok dX8_leg_31 rfl (by decide) ?_
      refine g_ldc2 (v := 9) (n := 35) ok dX8_leg_32 rfl tw_1091 ?_
      refine g_callSi (n := 38) (As := [.long p3.toInt64, .long (0 : Int64), .long (9 : Int64)]) (rest := []) ok (c_X8_in l v p3.toInt64 (0 : Int64) (9 : Int64) S3 _ h) cal_X8_in tw_771 tw_772 (by decide) (by decide) rfl (Nat.le_of_ble_eq_true rfl) dX8_leg_35 rfl rfl (fun r4 S4 h => ?_)
      refine g_if_ne (t := 44) (n := 41) ok dX8_leg_38 (by decide) rfl (fun e8 => ?_) (fun e8 => ?_)
      · replace h := h.1 e8
        refine g_aload_n 0 (n := 45) ok dX8_leg_44 rfl rfl ?_
        refine fg_X8_X8_kinds (n := 48) ok dX8_leg_45 rfl ?_
        refine g_iload_n 1 (n := 49) ok dX8_leg_48 rfl rfl ?_
        obtain ⟨h0, h⟩ := h
        refine g_iald (c := 2) (t0 := 0) (n := 50) ok (Nat.le_of_ble_eq_true rfl) rfl rfl h0 dX8_leg_49 rfl ?_
        refine g_topi (fun z5 ez5 => ?_)
        replace h := h z5 ez5
        refine g_istore [(4, .int z5), (0, .ref (v.1 0)), (1, .int p1), (2, .int p2), (3, .int p3)] (n := 52) ok dX8_leg_50 rfl (by decide) rfl ?_
        refine g_aload_n 1 (n := 53) ok dX8_leg_52 rfl rfl ?_
        refine fg_X8_X8_kinds (n := 56) ok dX8_leg_53 rfl ?_
        refine g_iload_n 2 (n := 57) ok dX8_leg_56 rfl rfl ?_
        refine g_iload_n 3 (n := 58) ok dX8_leg_57 rfl rfl ?_
        obtain ⟨h0, h⟩ := h
        refine g_iast (c := 2) (t0 := 0) (n := 59) ok (Nat.le_of_ble_eq_true rfl) (fun _ => rfl) rfl h0 dX8_leg_58 rfl ?_
        refine g_mem (fun S6 eS6 => ?_)
        replace h := h S6 eS6
        refine g_aload_n 1 (n := 60) ok dX8_leg_59 rfl rfl ?_
        refine fg_X8_X8_numbers (n := 63) ok dX8_leg_60 rfl ?_
        refine g_iload_n 2 (n := 64) ok dX8_leg_63 rfl rfl ?_
        refine g_iload_n 4 (n := 65) ok dX8_leg_64 rfl rfl ?_
        obtain ⟨h0, h⟩ := h
        refine g_iast (c := 4) (t0 := 0) (n := 66) ok (Nat.le_of_ble_eq_true rfl) (fun _ => rfl) rfl h0 dX8_leg_65 rfl ?_
        refine g_mem (fun S7 eS7 => ?_)
        replace h := h S7 eS7
        refine g_iload 0 (n := 68) ok dX8_leg_66 rfl rfl ?_
        exact g_iret ok he h dX8_leg_68
      · replace h := h.2 e8
        exact g_sub [] rfl (b_X8_leg_41 ok he  S4 h)
def w_X8_became_157 (post : Int32 → Mem → Prop) (x4 : Int32) (y0 : Int32) (S : Mem) : Prop := (∀ S1 : Mem, S1 = mset S 0 (upd (S 0) 7 y0) → post x4 S1)
set_option maxHeartbeats 4000000 in
set_option maxRecDepth 20000 in
theorem b_X8_became_157 {v : VmT} {l : Launch} {g : CxT} (ok : Ok l g (oM v) 5 cX8_became RX8 (some .int)) {post : Int32 → Mem → Prop} (he : EndQ g (oM v) (va_Qi post (fun S1 t => BX (oM v) S1 t) (AX (oM v)))) (x4 : Int32) (y0 : Int32) (S : Mem) (h : w_X8_became_157 post x4 y0 S) : G g (oM v) 1 5 157 [(4, .int x4)] [.int y0, .ref (v.1 0)] S := by
  unfold w_X8_became_157 at h
  refine fp_X8_X8_load (n := 160) ok dX8_became_157 rfl ?_
  refine g_mem (fun S1 eS1 => ?_)
  replace h := h S1 eS1
  refine g_iload 0 (n := 162) ok dX8_became_160 rfl rfl ?_
  exact g_iret ok he h dX8_became_162
def w_X8_became_140 (post : Int32 → Mem → Prop) (x1 : Int32) (x3 : Int32) (x4 : Int32) (y0 : Int32) (S : Mem) : Prop := (∀ S1 : Mem, S1 = mset S 0 (upd (S 0) 6 y0) → ((¬ x1 = (5 : Int32) → w_X8_became_157 post x4 (S1 0 7) S1) ∧ (x1 = (5 : Int32) → w_X8_became_157 post x4 x3 S1)))
set_option maxHeartbeats 4000000 in
set_option maxRecDepth 20000 in
theorem b_X8_became_140 {v : VmT} {l : Launch} {g : CxT} (ok : Ok l g (oM v) 5 cX8_became RX8 (some .int)) {post : Int32 → Mem → Prop} (he : EndQ g (oM v) (va_Qi post (fun S1 t => BX (oM v) S1 t) (AX (oM v)))) (x1 : Int32) (x3 : Int32) (x4 : Int32) (y0 : Int32) (S : Mem) (h : w_X8_became_140 post x1 x3 x4 y0 S) : G g (oM v) 1 5 140 [(0, .ref (v.1 0)), (1, .int x1), (3, .int x3), (4, .int x4)] [.int y0, .ref (v.1 0)] S := by
  unfold w_X8_became_140 at h
  refine fp_X8_X8_turned (n := 143) ok dX8_became_140 rfl ?_
  refine g_mem (fun S1 eS1 => ?_)
  replace h := h S1 eS1
  refine g_aload_n 0 (n := 144) ok dX8_became_143 rfl rfl ?_
  refine g_iload_n 1 (n := 145) ok dX8_became_144 rfl rfl ?_
  refine g_iconst (v := 5) (n := 146) ok dX8_became_145 rfl (by decide) ?_
  refine g_icmp_ne (t := 153) (n := 149) ok dX8_became_146 (by decide) rfl (fun e2 => ?_) (fun e2 => ?_)
  · replace h := h.1 e2
    refine g_aload_n 0 (n := 154) ok dX8_became_153 rfl rfl ?_
    refine fg_X8_X8_load (n := 157) ok dX8_became_154 rfl ?_
    exact g_sub [3] rfl (b_X8_became_157 ok he x4 (S1 0 7) S1 h)
  · replace h := h.2 e2
    refine g_iload_n 2 (n := 150) ok dX8_became_149 rfl rfl ?_
    refine g_goto (t := 157) ok dX8_became_150 (by decide) ?_
    exact g_sub [3] rfl (b_X8_became_157 ok he x4 x3 S1 h)
def w_X8_became_123 (post : Int32 → Mem → Prop) (x1 : Int32) (x3 : Int32) (x4 : Int32) (y0 : Int32) (S : Mem) : Prop := (∀ S1 : Mem, S1 = mset S 0 (upd (S 0) 5 y0) → ((¬ x1 = (4 : Int32) → w_X8_became_140 post x1 x3 x4 (S1 0 6) S1) ∧ (x1 = (4 : Int32) → w_X8_became_140 post x1 x3 x4 x3 S1)))
set_option maxHeartbeats 4000000 in
set_option maxRecDepth 20000 in
theorem b_X8_became_123 {v : VmT} {l : Launch} {g : CxT} (ok : Ok l g (oM v) 5 cX8_became RX8 (some .int)) {post : Int32 → Mem → Prop} (he : EndQ g (oM v) (va_Qi post (fun S1 t => BX (oM v) S1 t) (AX (oM v)))) (x1 : Int32) (x3 : Int32) (x4 : Int32) (y0 : Int32) (S : Mem) (h : w_X8_became_123 post x1 x3 x4 y0 S) : G g (oM v) 1 5 123 [(0, .ref (v.1 0)), (1, .int x1), (3, .int x3), (4, .int x4)] [.int y0, .ref (v.1 0)] S := by
  unfold w_X8_became_123 at h
  refine fp_X8_X8_radius (n := 126) ok dX8_became_123 rfl ?_
  refine g_mem (fun S1 eS1 => ?_)
  replace h := h S1 eS1
  refine g_aload_n 0 (n := 127) ok dX8_became_126 rfl rfl ?_
  refine g_iload_n 1 (n := 128) ok dX8_became_127 rfl rfl ?_
  refine g_iconst (v := 4) (n := 129) ok dX8_became_128 rfl (by decide) ?_
  refine g_icmp_ne (t := 136) (n := 132) ok dX8_became_129 (by decide) rfl (fun e2 => ?_) (fun e2 => ?_)
  · replace h := h.1 e2
    refine g_aload_n 0 (n := 137) ok dX8_became_136 rfl rfl ?_
    refine fg_X8_X8_turned (n := 140) ok dX8_became_137 rfl ?_
    exact g_sub [0, 1, 2, 3] rfl (b_X8_became_140 ok he x1 x3 x4 (S1 0 6) S1 h)
  · replace h := h.2 e2
    refine g_iload_n 2 (n := 133) ok dX8_became_132 rfl rfl ?_
    refine g_goto (t := 140) ok dX8_became_133 (by decide) ?_
    exact g_sub [0, 1, 2, 3] rfl (b_X8_became_140 ok he x1 x3 x4 x3 S1 h)
def w_X8_became_106 (post : Int32 → Mem → Prop) (x1 : Int32) (x3 : Int32) (x4 : Int32) (y0 : Int32) (S : Mem) : Prop := (∀ S1 : Mem, S1 = mset S 0 (upd (S 0) 4 y0) → ((¬ x1 = (3 : Int32) → w_X8_became_123 post x1 x3 x4 (S1 0 5) S1) ∧ (x1 = (3 : Int32) → w_X8_became_123 post x1 x3 x4 x3 S1)))
set_option maxHeartbeats 4000000 in
set_option maxRecDepth 20000 in
theorem b_X8_became_106 {v : VmT} {l : Launch} {g : CxT} (ok : Ok l g (oM v) 5 cX8_became RX8 (some .int)) {post : Int32 → Mem → Prop} (he : EndQ g (oM v) (va_Qi post (fun S1 t => BX (oM v) S1 t) (AX (oM v)))) (x1 : Int32) (x3 : Int32) (x4 : Int32) (y0 : Int32) (S : Mem) (h : w_X8_became_106 post x1 x3 x4 y0 S) : G g (oM v) 1 5 106 [(0, .ref (v.1 0)), (1, .int x1), (3, .int x3), (4, .int x4)] [.int y0, .ref (v.1 0)] S := by
  unfold w_X8_became_106 at h
  refine fp_X8_X8_place (n := 109) ok dX8_became_106 rfl ?_
  refine g_mem (fun S1 eS1 => ?_)
  replace h := h S1 eS1
  refine g_aload_n 0 (n := 110) ok dX8_became_109 rfl rfl ?_
  refine g_iload_n 1 (n := 111) ok dX8_became_110 rfl rfl ?_
  refine g_iconst (v := 3) (n := 112) ok dX8_became_111 rfl (by decide) ?_
  refine g_icmp_ne (t := 119) (n := 115) ok dX8_became_112 (by decide) rfl (fun e2 => ?_) (fun e2 => ?_)
  · replace h := h.1 e2
    refine g_aload_n 0 (n := 120) ok dX8_became_119 rfl rfl ?_
    refine fg_X8_X8_radius (n := 123) ok dX8_became_120 rfl ?_
    exact g_sub [0, 1, 2, 3] rfl (b_X8_became_123 ok he x1 x3 x4 (S1 0 5) S1 h)
  · replace h := h.2 e2
    refine g_iload_n 2 (n := 116) ok dX8_became_115 rfl rfl ?_
    refine g_goto (t := 123) ok dX8_became_116 (by decide) ?_
    exact g_sub [0, 1, 2, 3] rfl (b_X8_became_123 ok he x1 x3 x4 x3 S1 h)
def w_X8_became_92 (post : Int32 → Mem → Prop) (x1 : Int32) (x3 : Int32) (x4 : Int32) (S : Mem) : Prop := ((¬ x1 = (2 : Int32) → w_X8_became_106 post x1 x3 x4 (S 0 4) S) ∧ (x1 = (2 : Int32) → w_X8_became_106 post x1 x3 x4 x3 S))
set_option maxHeartbeats 4000000 in
set_option maxRecDepth 20000 in
theorem b_X8_became_92 {v : VmT} {l : Launch} {g : CxT} (ok : Ok l g (oM v) 5 cX8_became RX8 (some .int)) {post : Int32 → Mem → Prop} (he : EndQ g (oM v) (va_Qi post (fun S1 t => BX (oM v) S1 t) (AX (oM v)))) (x1 : Int32) (x3 : Int32) (x4 : Int32) (S : Mem) (h : w_X8_became_92 post x1 x3 x4 S) : G g (oM v) 1 5 92 [(0, .ref (v.1 0)), (1, .int x1), (3, .int x3), (4, .int x4)] [] S := by
  unfold w_X8_became_92 at h
  refine g_aload_n 0 (n := 93) ok dX8_became_92 rfl rfl ?_
  refine g_iload_n 1 (n := 94) ok dX8_became_93 rfl rfl ?_
  refine g_iconst (v := 2) (n := 95) ok dX8_became_94 rfl (by decide) ?_
  refine g_icmp_ne (t := 102) (n := 98) ok dX8_became_95 (by decide) rfl (fun e1 => ?_) (fun e1 => ?_)
  · replace h := h.1 e1
    refine g_aload_n 0 (n := 103) ok dX8_became_102 rfl rfl ?_
    refine fg_X8_X8_place (n := 106) ok dX8_became_103 rfl ?_
    exact g_sub [0, 1, 2, 3] rfl (b_X8_became_106 ok he x1 x3 x4 (S 0 4) S h)
  · replace h := h.2 e1
    refine g_iload_n 2 (n := 99) ok dX8_became_98 rfl rfl ?_
    refine g_goto (t := 106) ok dX8_became_99 (by decide) ?_
    exact g_sub [0, 1, 2, 3] rfl (b_X8_became_106 ok he x1 x3 x4 x3 S h)
def w_X8_became_80 (post : Int32 → Mem → Prop) (x1 : Int32) (x2 : Int32) (x3 : Int32) (x4 : Int32) (S : Mem) : Prop := ((¬ x1 = (1 : Int32) → w_X8_became_92 post x1 x3 x4 S) ∧ (x1 = (1 : Int32) → (vp_in x2 4 ∧ (∀ S1 : Mem, S1 = mset S 4 (upd (S 4) x2.toNatClampNeg x3) → w_X8_became_92 post x1 x3 x4 S1))))
set_option maxHeartbeats 4000000 in
set_option maxRecDepth 20000 in
theorem b_X8_became_80 {v : VmT} {l : Launch} {g : CxT} (ok : Ok l g (oM v) 5 cX8_became RX8 (some .int)) {post : Int32 → Mem → Prop} (he : EndQ g (oM v) (va_Qi post (fun S1 t => BX (oM v) S1 t) (AX (oM v)))) (x1 : Int32) (x2 : Int32) (x3 : Int32) (x4 : Int32) (S : Mem) (h : w_X8_became_80 post x1 x2 x3 x4 S) : G g (oM v) 1 5 80 [(0, .ref (v.1 0)), (1, .int x1), (2, .int x2), (3, .int x3), (4, .int x4)] [] S := by
  unfold w_X8_became_80 at h
  refine g_iload_n 1 (n := 81) ok dX8_became_80 rfl rfl ?_
  refine g_iconst (v := 1) (n := 82) ok dX8_became_81 rfl (by decide) ?_
  refine g_icmp_ne (t := 92) (n := 85) ok dX8_became_82 (by decide) rfl (fun e2 => ?_) (fun e2 => ?_)
  · replace h := h.1 e2
    exact g_sub [0, 1, 3, 4] rfl (b_X8_became_92 ok he x1 x3 x4 S h)
  · replace h := h.2 e2
    refine g_aload_n 0 (n := 86) ok dX8_became_85 rfl rfl ?_
    refine fg_X8_X8_numbers (n := 89) ok dX8_became_86 rfl ?_
    refine g_iload_n 2 (n := 90) ok dX8_became_89 rfl rfl ?_
    refine g_iload_n 3 (n := 91) ok dX8_became_90 rfl rfl ?_
    obtain ⟨h0, h⟩ := h
    refine g_iast (c := 4) (t0 := 0) (n := 92) ok (Nat.le_of_ble_eq_true rfl) (fun _ => rfl) rfl h0 dX8_became_91 rfl ?_
    refine g_mem (fun S1 eS1 => ?_)
    replace h := h S1 eS1
    exact g_sub [0, 1, 3, 4] rfl (b_X8_became_92 ok he x1 x3 x4 S1 h)
def w_X8_became_67 (post : Int32 → Mem → Prop) (x1 : Int32) (x2 : Int32) (x3 : Int32) (y0 : Int32) (S : Mem) : Prop := ((¬ x1 = 0 → w_X8_became_80 post x1 x2 x3 y0 S) ∧ (x1 = 0 → (vp_in x2 4 ∧ (∀ S1 : Mem, S1 = mset S 3 (upd (S 3) x2.toNatClampNeg x3) → w_X8_became_80 post x1 x2 x3 y0 S1))))
set_option maxHeartbeats 4000000 in
set_option maxRecDepth 20000 in
theorem b_X8_became_67 {v : VmT} {l : Launch} {g : CxT} (ok : Ok l g (oM v) 5 cX8_became RX8 (some .int)) {post : Int32 → Mem → Prop} (he : EndQ g (oM v) (va_Qi post (fun S1 t => BX (oM v) S1 t) (AX (oM v)))) (x1 : Int32) (x2 : Int32) (x3 : Int32) (y0 : Int32) (S : Mem) (h : w_X8_became_67 post x1 x2 x3 y0 S) : G g (oM v) 1 5 67 [(0, .ref (v.1 0)), (1, .int x1), (2, .int x2), (3, .int x3)] [.int y0] S := by
  unfold w_X8_became_67 at h
  refine g_istore [(4, .int y0), (0, .ref (v.1 0)), (1, .int x1), (2, .int x2), (3, .int x3)] (n := 69) ok dX8_became_67 rfl (by decide) rfl ?_
  refine g_iload_n 2 (n := 70) ok dX8_became_69 rfl rfl ?_
  refine g_if_ne (t := 80) (n := 73) ok dX8_became_70 (by decide) rfl (fun e2 => ?_) (fun e2 => ?_)
  · replace h := h.1 e2
    exact g_sub [1, 2, 3, 4, 0] rfl (b_X8_became_80 ok he x1 x2 x3 y0 S h)
  · replace h := h.2 e2
    refine g_aload_n 1 (n := 74) ok dX8_became_73 rfl rfl ?_
    refine fg_X8_X8_longs (n := 77) ok dX8_became_74 rfl ?_
    refine g_iload_n 3 (n := 78) ok dX8_became_77 rfl rfl ?_
    refine g_iload_n 4 (n := 79) ok dX8_became_78 rfl rfl ?_
    obtain ⟨h0, h⟩ := h
    refine g_iast (c := 3) (t0 := 0) (n := 80) ok (Nat.le_of_ble_eq_true rfl) (fun _ => rfl) rfl h0 dX8_became_79 rfl ?_
    refine g_mem (fun S1 eS1 => ?_)
    replace h := h S1 eS1
    exact g_sub [1, 2, 3, 4, 0] rfl (b_X8_became_80 ok he x1 x2 x3 y0 S1 h)
def w_X8_became (p1 : Int32) (p2 : Int32) (p3 : Int32) (S : Mem) (post : Int32 → Mem → Prop) : Prop := ((¬ p1 = 0 → ((¬ p1 = (1 : Int32) → ((¬ p1 = (2 : Int32) → ((¬ p1 = (3 : Int32) → ((¬ p1 = (4 : Int32) → w_X8_became_67 post p1 p2 p3 (S 0 7) S) ∧ (p1 = (4 : Int32) → w_X8_became_67 post p1 p2 p3 (S 0 6) S))) ∧ (p1 = (3 : Int32) → w_X8_became_67 post p1 p2 p3 (S 0 5) S))) ∧ (p1 = (2 : Int32) → w_X8_became_67 post p1 p2 p3 (S 0 4) S))) ∧ (p1 = (1 : Int32) → (vp_in p2 4 ∧ w_X8_became_67 post p1 p2 p3 (S 4 p2.toNatClampNeg) S)))) ∧ (p1 = 0 → (vp_in p2 4 ∧ w_X8_became_67 post p1 p2 p3 (S 3 p2.toNatClampNeg) S)))
set_option maxHeartbeats 4000000 in
set_option maxRecDepth 20000 in
theorem c_X8_became (l : Launch) (v : VmT) (p1 : Int32) (p2 : Int32) (p3 : Int32) (S : Mem) (post : Int32 → Mem → Prop) (h : w_X8_became p1 p2 p3 S post) : MI l yX8_became cX8_became 5 (some .int) 1 (oM v) [.ref (v.1 0), .int p1, .int p2, .int p3] S post := by
  refine met_start (by decide +kernel) (Nat.le_of_ble_eq_true rfl) (fun g ok he => ?_)
  refine g_eq (L' := [(0, .ref (v.1 0)), (1, .int p1), (2, .int p2), (3, .int p3)]) (st' := []) ?_ rfl rfl
  unfold w_X8_became at h
  refine g_iload_n 1 (n := 1) ok dX8_became_0 rfl rfl ?_
  refine g_if_ne (t := 13) (n := 4) ok dX8_became_1 (by decide) rfl (fun e5 => ?_) (fun e5 => ?_)
  · replace h := h.1 e5
    refine g_iload_n 1 (n := 14) ok dX8_became_13 rfl rfl ?_
    refine g_iconst (v := 1) (n := 15) ok dX8_became_14 rfl (by decide) ?_
    refine g_icmp_ne (t := 27) (n := 18) ok dX8_became_15 (by decide) rfl (fun e4 => ?_) (fun e4 => ?_)
    · replace h := h.1 e4
      refine g_iload_n 1 (n := 28) ok dX8_became_27 rfl rfl ?_
      refine g_iconst (v := 2) (n := 29) ok dX8_became_28 rfl (by decide) ?_
      refine g_icmp_ne (t := 39) (n := 32) ok dX8_became_29 (by decide) rfl (fun e3 => ?_) (fun e3 => ?_)
      · replace h := h.1 e3
        refine g_iload_n 1 (n := 40) ok dX8_became_39 rfl rfl ?_
        refine g_iconst (v := 3) (n := 41) ok dX8_became_40 rfl (by decide) ?_
        refine g_icmp_ne (t := 51) (n := 44) ok dX8_became_41 (by decide) rfl (fun e2 => ?_) (fun e2 => ?_)
        · replace h := h.1 e2
          refine g_iload_n 1 (n := 52) ok dX8_became_51 rfl rfl ?_
          refine g_iconst (v := 4) (n := 53) ok dX8_became_52 rfl (by decide) ?_
          refine g_icmp_ne (t := 63) (n := 56) ok dX8_became_53 (by decide) rfl (fun e1 => ?_) (fun e1 => ?_)
          · replace h := h.1 e1
            refine g_aload_n 0 (n := 64) ok dX8_became_63 rfl rfl ?_
            refine fg_X8_X8_load (n := 67) ok dX8_became_64 rfl ?_
            exact g_sub [0, 1, 2, 3] rfl (b_X8_became_67 ok he p1 p2 p3 (S 0 7) S h)
          · replace h := h.2 e1
            refine g_aload_n 0 (n := 57) ok dX8_became_56 rfl rfl ?_
            refine fg_X8_X8_turned (n := 60) ok dX8_became_57 rfl ?_
            refine g_goto (t := 67) ok dX8_became_60 (by decide) ?_
            exact g_sub [0, 1, 2, 3] rfl (b_X8_became_67 ok he p1 p2 p3 (S 0 6) S h)
        · replace h := h.2 e2
          refine g_aload_n 0 (n := 45) ok dX8_became_44 rfl rfl ?_
          refine fg_X8_X8_radius (n := 48) ok dX8_became_45 rfl ?_
          refine g_goto (t := 67) ok dX8_became_48 (by decide) ?_
          exact g_sub [0, 1, 2, 3] rfl (b_X8_became_67 ok he p1 p2 p3 (S 0 5) S h)
      · replace h := h.2 e3
        refine g_aload_n 0 (n := 33) ok dX8_became_32 rfl rfl ?_
        refine fg_X8_X8_place (n := 36) ok dX8_became_33 rfl ?_
        refine g_goto (t := 67) ok dX8_became_36 (by decide) ?_
        exact g_sub [0, 1, 2, 3] rfl (b_X8_became_67 ok he p1 p2 p3 (S 0 4) S h)
    · replace h := h.2 e4
      refine g_aload_n 0 (n := 19) ok dX8_became_18 rfl rfl ?_
      refine fg_X8_X8_numbers (n := 22) ok dX8_became_19 rfl ?_
      refine g_iload_n 2 (n := 23) ok dX8_became_22 rfl rfl ?_
      obtain ⟨h0, h⟩ := h
      refine g_iald (c := 4) (t0 := 0) (n := 24) ok (Nat.le_of_ble_eq_true rfl) rfl rfl h0 dX8_became_23 rfl ?_
      refine g_goto (t := 67) ok dX8_became_24 (by decide) ?_
      exact g_sub [0, 1, 2, 3] rfl (b_X8_became_67 ok he p1 p2 p3 (S 4 p2.toNatClampNeg) S h)
  · replace h := h.2 e5
    refine g_aload_n 0 (n := 5) ok dX8_became_4 rfl rfl ?_
    refine fg_X8_X8_longs (n := 8) ok dX8_became_5 rfl ?_
    refine g_iload_n 2 (n := 9) ok dX8_became_8 rfl rfl ?_
    obtain ⟨h0, h⟩ := h
    refine g_iald (c := 3) (t0 := 0) (n := 10) ok (Nat.le_of_ble_eq_true rfl) rfl rfl h0 dX8_became_9 rfl ?_
    refine g_goto (t := 67) ok dX8_became_10 (by decide) ?_
    exact g_sub [0, 1, 2, 3] rfl (b_X8_became_67 ok he p1 p2 p3 (S 3 p2.toNatClampNeg) S h)
def w_X8_set_126 (post : Int32 → Mem → Prop) (y0 : Int32) (S : Mem) : Prop := post y0 S
set_option maxHeartbeats 4000000 in
set_option maxRecDepth 20000 in
theorem b_X8_set_126 {v : VmT} {l : Launch} {g : CxT} (ok : Ok l g (oM v) 6 cX8_set RX8 (some .int)) {post : Int32 → Mem → Prop} (he : EndQ g (oM v) (va_Qi post (fun S1 t => BX (oM v) S1 t) (AX (oM v)))) (y0 : Int32) (S : Mem) (h : w_X8_set_126 post y0 S) : G g (oM v) 2 6 126 [] [.int y0] S := by
  unfold w_X8_set_126 at h
  exact g_iret ok he h dX8_set_126
def w_X8_set_107 (post : Int32 → Mem → Prop) (x1 : Int32) (x2 : Int32) (x3 : Int32) (y0 : Int32) (S : Mem) : Prop := ((y0 = 0 → w_X8_set_126 post (-2 : Int32) S) ∧ (¬ y0 = 0 → w_X8_became x1 x2 x3 S (fun r1 S1 => w_X8_set_126 post r1 S1)))
set_option maxHeartbeats 4000000 in
set_option maxRecDepth 20000 in
theorem b_X8_set_107 {v : VmT} {l : Launch} {g : CxT} (ok : Ok l g (oM v) 6 cX8_set RX8 (some .int)) {post : Int32 → Mem → Prop} (he : EndQ g (oM v) (va_Qi post (fun S1 t => BX (oM v) S1 t) (AX (oM v)))) (x1 : Int32) (x2 : Int32) (x3 : Int32) (y0 : Int32) (S : Mem) (h : w_X8_set_107 post x1 x2 x3 y0 S) : G g (oM v) 2 6 107 [(0, .ref (v.1 0)), (1, .int x1), (2, .int x2), (3, .int x3)] [.int y0] S := by
  unfold w_X8_set_107 at h
  refine g_istore [(5, .int y0), (0, .ref (v.1 0)), (1, .int x1), (2, .int x2), (3, .int x3)] (n := 109) ok dX8_set_107 rfl (by decide) rfl ?_
  refine g_iload 0 (n := 111) ok dX8_set_109 rfl rfl ?_
  refine g_if_eq (t := 124) (n := 114) ok dX8_set_111 (by decide) rfl (fun e2 => ?_) (fun e2 => ?_)
  · replace h := h.1 e2
    refine g_bipush (v := -2) (n := 126) ok dX8_set_124 rfl (by decide) ?_
    exact g_sub [] rfl (b_X8_set_126 ok he (-2 : Int32) S h)
  · replace h := h.2 e2
    refine g_aload_n 1 (n := 115) ok dX8_set_114 rfl rfl ?_
    refine g_iload_n 2 (n := 116) ok dX8_set_115 rfl rfl ?_
    refine g_iload_n 3 (n := 117) ok dX8_set_116 rfl rfl ?_
    refine g_iload_n 4 (n := 118) ok dX8_set_117 rfl rfl ?_
    refine g_callVi (n := 121) (As := [.int x1, .int x2, .int x3]) (rest := []) (c := 0) ok (c_X8_became l v x1 x2 x3 S _ h) cal_X8_became tw_1152 tw_1154 tp_94 (Nat.le_of_ble_eq_true rfl) rfl rfl (by decide) (by decide) rfl (Nat.le_of_ble_eq_true rfl) dX8_set_118 rfl rfl (fun r1 S1 h => ?_)
    refine g_goto (t := 126) ok dX8_set_121 (by decide) ?_
    exact g_sub [] rfl (b_X8_set_126 ok he r1 S1 h)
def w_X8_set_102 (post : Int32 → Mem → Prop) (x1 : Int32) (x2 : Int32) (x3 : Int32) (S : Mem) : Prop := w_X8_set_107 post x1 x2 x3 (1 : Int32) S
set_option maxHeartbeats 4000000 in
set_option maxRecDepth 20000 in
theorem b_X8_set_102 {v : VmT} {l : Launch} {g : CxT} (ok : Ok l g (oM v) 6 cX8_set RX8 (some .int)) {post : Int32 → Mem → Prop} (he : EndQ g (oM v) (va_Qi post (fun S1 t => BX (oM v) S1 t) (AX (oM v)))) (x1 : Int32) (x2 : Int32) (x3 : Int32) (S : Mem) (h : w_X8_set_102 post x1 x2 x3 S) : G g (oM v) 2 6 102 [(0, .ref (v.1 0)), (1, .int x1), (2, .int x2), (3, .int x3)] [] S := by
  unfold w_X8_set_102 at h
  refine g_iconst (v := 1) (n := 103) ok dX8_set_102 rfl (by decide) ?_
  refine g_goto (t := 107) ok dX8_set_103 (by decide) ?_
  exact g_sub [0, 1, 2, 3] rfl (b_X8_set_107 ok he x1 x2 x3 (1 : Int32) S h)
def w_X8_set_106 (post : Int32 → Mem → Prop) (x1 : Int32) (x2 : Int32) (x3 : Int32) (S : Mem) : Prop := w_X8_set_107 post x1 x2 x3 (0 : Int32) S
set_option maxHeartbeats 4000000 in
set_option maxRecDepth 20000 in
theorem b_X8_set_106 {v : VmT} {l : Launch} {g : CxT} (ok : Ok l g (oM v) 6 cX8_set RX8 (some .int)) {post : Int32 → Mem → Prop} (he : EndQ g (oM v) (va_Qi post (fun S1 t => BX (oM v) S1 t) (AX (oM v)))) (x1 : Int32) (x2 : Int32) (x3 : Int32) (S : Mem) (h : w_X8_set_106 post x1 x2 x3 S) : G g (oM v) 2 6 106 [(0, .ref (v.1 0)), (1, .int x1), (2, .int x2), (3, .int x3)] [] S := by
  unfold w_X8_set_106 at h
  refine g_iconst (v := 0) (n := 107) ok dX8_set_106 rfl (by decide) ?_
  exact g_sub [0, 1, 2, 3] rfl (b_X8_set_107 ok he x1 x2 x3 (0 : Int32) S h)
def w_X8_set_76 (post : Int32 → Mem → Prop) (x1 : Int32) (x2 : Int32) (x3 : Int32) (x4 : Int32) (y0 : Int64) (y1 : Int64) (S : Mem) : Prop := w_X8_in y1 y0 x4.toInt64 S (fun r1 S1 => ((r1 = 0 → w_X8_set_106 post x1 x2 x3 S1) ∧ (¬ r1 = 0 → (((1 : Int32) < x1 → w_X8_set_102 post x1 x2 x3 S1) ∧ (¬ (1 : Int32) < x1 → w_X8_in x2.toInt64 (0 : Int64) (3 : Int64) S1 (fun r2 S2 => ((r2 = 0 → w_X8_set_106 post x1 x2 x3 S2) ∧ (¬ r2 = 0 → w_X8_set_102 post x1 x2 x3 S2))))))))
set_option maxHeartbeats 4000000 in
set_option maxRecDepth 20000 in
theorem b_X8_set_76 {v : VmT} {l : Launch} {g : CxT} (ok : Ok l g (oM v) 6 cX8_set RX8 (some .int)) {post : Int32 → Mem → Prop} (he : EndQ g (oM v) (va_Qi post (fun S1 t => BX (oM v) S1 t) (AX (oM v)))) (x1 : Int32) (x2 : Int32) (x3 : Int32) (x4 : Int32) (y0 : Int64) (y1 : Int64) (S : Mem) (h : w_X8_set_76 post x1 x2 x3 x4 y0 y1 S) : G g (oM v) 2 6 76 [(0, .ref (v.1 0)), (1, .int x1), (2, .int x2), (3, .int x3), (4, .int x4)] [.long y0, .long y1] S := by
  unfold w_X8_set_76 at h
  refine g_iload 4 (n := 78) ok dX8_set_76 rfl rfl ?_
  refine g_i2l (n := 79) ok dX8_set_78 rfl ?_
  refine g_callSi (n := 82) (As := [.long y1, .long y0, .long x4.toInt64]) (rest := []) ok (c_X8_in l v y1 y0 x4.toInt64 S _ h) cal_X8_in tw_771 tw_772 (by decide) (by decide) rfl (Nat.le_of_ble_eq_true rfl) dX8_set_79 rfl rfl (fun r1 S1 h => ?_)
  refine g_if_eq (t := 106) (n := 85) ok dX8_set_82 (by decide) rfl (fun e5 => ?_) (fun e5 => ?_)
  · replace h := h.1 e5
    exact g_sub [0, 1, 2, 3] rfl (b_X8_set_106 ok he x1 x2 x3 S1 h)
  · replace h := h.2 e5
    refine g_iload_n 1 (n := 86) ok dX8_set_85 rfl rfl ?_
    refine g_iconst (v := 1) (n := 87) ok dX8_set_86 rfl (by decide) ?_
    refine g_icmp_gt (t := 102) (n := 90) ok dX8_set_87 (by decide) rfl (fun e4 => ?_) (fun e4 => ?_)
    · replace h := h.1 e4
      exact g_sub [0, 1, 2, 3] rfl (b_X8_set_102 ok he x1 x2 x3 S1 h)
    · replace h := h.2 e4
      refine g_iload_n 2 (n := 91) ok dX8_set_90 rfl rfl ?_
      refine g_i2l (n := 92) ok dX8_set_91 rfl ?_
      refine g_lconst (v := 0) (n := 93) ok dX8_set_92 rfl (by decide) ?_
      refine g_ldc2 (v := 3) (n := 96) ok dX8_set_93 rfl tw_1111 ?_
      refine g_callSi (n := 99) (As := [.long x2.toInt64, .long (0 : Int64), .long (3 : Int64)]) (rest := []) ok (c_X8_in l v x2.toInt64 (0 : Int64) (3 : Int64) S1 _ h) cal_X8_in tw_771 tw_772 (by decide) (by decide) rfl (Nat.le_of_ble_eq_true rfl) dX8_set_96 rfl rfl (fun r2 S2 h => ?_)
      refine g_if_eq (t := 106) (n := 102) ok dX8_set_99 (by decide) rfl (fun e3 => ?_) (fun e3 => ?_)
      · replace h := h.1 e3
        exact g_sub [0, 1, 2, 3] rfl (b_X8_set_106 ok he x1 x2 x3 S2 h)
      · replace h := h.2 e3
        exact g_sub [0, 1, 2, 3] rfl (b_X8_set_102 ok he x1 x2 x3 S2 h)
def w_X8_set_50 (post : Int32 → Mem → Prop) (x1 : Int32) (x2 : Int32) (x3 : Int32) (y0 : Int32) (S : Mem) : Prop := w_X8_in x1.toInt64 (0 : Int64) (5 : Int64) S (fun r1 S1 => ((r1 = 0 → w_X8_set_106 post x1 x2 x3 S1) ∧ (¬ r1 = 0 → ((¬ x1 = (3 : Int32) → w_X8_set_76 post x1 x2 x3 y0 (0 : Int64) x3.toInt64 S1) ∧ (x1 = (3 : Int32) → w_X8_set_76 post x1 x2 x3 y0 (1 : Int64) x3.toInt64 S1)))))
set_option maxHeartbeats 4000000 in
set_option maxRecDepth 20000 in
theorem b_X8_set_50 {v : VmT} {l : Launch} {g : CxT} (ok : Ok l g (oM v) 6 cX8_set RX8 (some .int)) {post : Int32 → Mem → Prop} (he : EndQ g (oM v) (va_Qi post (fun S1 t => BX (oM v) S1 t) (AX (oM v)))) (x1 : Int32) (x2 : Int32) (x3 : Int32) (y0 : Int32) (S : Mem) (h : w_X8_set_50 post x1 x2 x3 y0 S) : G g (oM v) 2 6 50 [(0, .ref (v.1 0)), (1, .int x1), (2, .int x2), (3, .int x3)] [.int y0] S := by
  unfold w_X8_set_50 at h
  refine g_istore [(4, .int y0), (0, .ref (v.1 0)), (1, .int x1), (2, .int x2), (3, .int x3)] (n := 52) ok dX8_set_50 rfl (by decide) rfl ?_
  refine g_iload_n 2 (n := 53) ok dX8_set_52 rfl rfl ?_
  refine g_i2l (n := 54) ok dX8_set_53 rfl ?_
  refine g_lconst (v := 0) (n := 55) ok dX8_set_54 rfl (by decide) ?_
  refine g_ldc2 (v := 5) (n := 58) ok dX8_set_55 rfl tw_995 ?_
  refine g_callSi (n := 61) (As := [.long x1.toInt64, .long (0 : Int64), .long (5 : Int64)]) (rest := []) ok (c_X8_in l v x1.toInt64 (0 : Int64) (5 : Int64) S _ h) cal_X8_in tw_771 tw_772 (by decide) (by decide) rfl (Nat.le_of_ble_eq_true rfl) dX8_set_58 rfl rfl (fun r1 S1 h => ?_)
  refine g_if_eq (t := 106) (n := 64) ok dX8_set_61 (by decide) rfl (fun e3 => ?_) (fun e3 => ?_)
  · replace h := h.1 e3
    exact g_sub [1, 2, 3, 4] rfl (b_X8_set_106 ok he x1 x2 x3 S1 h)
  · replace h := h.2 e3
    refine g_iload_n 4 (n := 65) ok dX8_set_64 rfl rfl ?_
    refine g_i2l (n := 66) ok dX8_set_65 rfl ?_
    refine g_iload_n 2 (n := 67) ok dX8_set_66 rfl rfl ?_
    refine g_iconst (v := 3) (n := 68) ok dX8_set_67 rfl (by decide) ?_
    refine g_icmp_ne (t := 75) (n := 71) ok dX8_set_68 (by decide) rfl (fun e2 => ?_) (fun e2 => ?_)
    · replace h := h.1 e2
      refine g_lconst (v := 0) (n := 76) ok dX8_set_75 rfl (by decide) ?_
      exact g_sub [1, 2, 3, 4, 0] rfl (b_X8_set_76 ok he x1 x2 x3 y0 (0 : Int64) x3.toInt64 S1 h)
    · replace h := h.2 e2
      refine g_lconst (v := 1) (n := 72) ok dX8_set_71 rfl (by decide) ?_
      refine g_goto (t := 76) ok dX8_set_72 (by decide) ?_
      exact g_sub [1, 2, 3, 4, 0] rfl (b_X8_set_76 ok he x1 x2 x3 y0 (1 : Int64) x3.toInt64 S1 h)
def w_X8_set_24 (post : Int32 → Mem → Prop) (x1 : Int32) (x2 : Int32) (x3 : Int32) (S : Mem) : Prop := w_X8_set_50 post x1 x2 x3 (9 : Int32) S
set_option maxHeartbeats 4000000 in
set_option maxRecDepth 20000 in
theorem b_X8_set_24 {v : VmT} {l : Launch} {g : CxT} (ok : Ok l g (oM v) 6 cX8_set RX8 (some .int)) {post : Int32 → Mem → Prop} (he : EndQ g (oM v) (va_Qi post (fun S1 t => BX (oM v) S1 t) (AX (oM v)))) (x1 : Int32) (x2 : Int32) (x3 : Int32) (S : Mem) (h : w_X8_set_24 post x1 x2 x3 S) : G g (oM v) 2 6 24 [(0, .ref (v.1 0)), (1, .int x1), (2, .int x2), (3, .int x3)] [] S := by
  unfold w_X8_set_24 at h
  refine g_bipush (v := 9) (n := 26) ok dX8_set_24 rfl (by decide) ?_
  refine g_goto (t := 50) ok dX8_set_26 (by decide) ?_
  exact g_sub [0, 1, 2, 3] rfl (b_X8_set_50 ok he x1 x2 x3 (9 : Int32) S h)
def w_X8_set (p1 : Int32) (p2 : Int32) (p3 : Int32) (S : Mem) (post : Int32 → Mem → Prop) : Prop := (∀ S1 : Mem, S1 = mset S 0 (upd (S 0) 8 (0 : Int32)) → ((¬ p1 = 0 → ((p1 = (1 : Int32) → w_X8_set_24 post p1 p2 p3 S1) ∧ (¬ p1 = (1 : Int32) → ((¬ p1 = (5 : Int32) → ((¬ p1 = (2 : Int32) → ((¬ p1 = (3 : Int32) → w_X8_set_50 post p1 p2 p3 (7 : Int32) S1) ∧ (p1 = (3 : Int32) → w_X8_set_50 post p1 p2 p3 (3 : Int32) S1))) ∧ (p1 = (2 : Int32) → w_X8_set_50 post p1 p2 p3 (63 : Int32) S1))) ∧ (p1 = (5 : Int32) → w_X8_set_24 post p1 p2 p3 S1))))) ∧ (p1 = 0 → w_X8_set_50 post p1 p2 p3 (99 : Int32) S1)))
set_option maxHeartbeats 4000000 in
set_option maxRecDepth 20000 in
theorem c_X8_set (l : Launch) (v : VmT) (p1 : Int32) (p2 : Int32) (p3 : Int32) (S : Mem) (post : Int32 → Mem → Prop) (h : w_X8_set p1 p2 p3 S post) : MI l yX8_set cX8_set 6 (some .int) 2 (oM v) [.ref (v.1 0), .int p1, .int p2, .int p3] S post := by
  refine met_start (by decide +kernel) (Nat.le_of_ble_eq_true rfl) (fun g ok he => ?_)
  refine g_eq (L' := [(0, .ref (v.1 0)), (1, .int p1), (2, .int p2), (3, .int p3)]) (st' := []) ?_ rfl rfl
  unfold w_X8_set at h
  refine g_aload_n 0 (n := 1) ok dX8_set_0 rfl rfl ?_
  refine g_iconst (v := 0) (n := 2) ok dX8_set_1 rfl (by decide) ?_
  refine fp_X8_X8_thrown (n := 5) ok dX8_set_2 rfl ?_
  refine g_mem (fun S1 eS1 => ?_)
  replace h := h S1 eS1
  refine g_iload_n 1 (n := 6) ok dX8_set_5 rfl rfl ?_
  refine g_if_ne (t := 14) (n := 9) ok dX8_set_6 (by decide) rfl (fun e6 => ?_) (fun e6 => ?_)
  · replace h := h.1 e6
    refine g_iload_n 1 (n := 15) ok dX8_set_14 rfl rfl ?_
    refine g_iconst (v := 1) (n := 16) ok dX8_set_15 rfl (by decide) ?_
    refine g_icmp_eq (t := 24) (n := 19) ok dX8_set_16 (by decide) rfl (fun e5 => ?_) (fun e5 => ?_)
    · replace h := h.1 e5
      exact g_sub [0, 1, 2, 3] rfl (b_X8_set_24 ok he p1 p2 p3 S1 h)
    · replace h := h.2 e5
      refine g_iload_n 1 (n := 20) ok dX8_set_19 rfl rfl ?_
      refine g_iconst (v := 5) (n := 21) ok dX8_set_20 rfl (by decide) ?_
      refine g_icmp_ne (t := 29) (n := 24) ok dX8_set_21 (by decide) rfl (fun e4 => ?_) (fun e4 => ?_)
      · replace h := h.1 e4
        refine g_iload_n 1 (n := 30) ok dX8_set_29 rfl rfl ?_
        refine g_iconst (v := 2) (n := 31) ok dX8_set_30 rfl (by decide) ?_
        refine g_icmp_ne (t := 39) (n := 34) ok dX8_set_31 (by decide) rfl (fun e3 => ?_) (fun e3 => ?_)
        · replace h := h.1 e3
          refine g_iload_n 1 (n := 40) ok dX8_set_39 rfl rfl ?_
          refine g_iconst (v := 3) (n := 41) ok dX8_set_40 rfl (by decide) ?_
          refine g_icmp_ne (t := 48) (n := 44) ok dX8_set_41 (by decide) rfl (fun e2 => ?_) (fun e2 => ?_)
          · replace h := h.1 e2
            refine g_bipush (v := 7) (n := 50) ok dX8_set_48 rfl (by decide) ?_
            exact g_sub [0, 1, 2, 3] rfl (b_X8_set_50 ok he p1 p2 p3 (7 : Int32) S1 h)
          · replace h := h.2 e2
            refine g_iconst (v := 3) (n := 45) ok dX8_set_44 rfl (by decide) ?_
            refine g_goto (t := 50) ok dX8_set_45 (by decide) ?_
            exact g_sub [0, 1, 2, 3] rfl (b_X8_set_50 ok he p1 p2 p3 (3 : Int32) S1 h)
        · replace h := h.2 e3
          refine g_bipush (v := 63) (n := 36) ok dX8_set_34 rfl (by decide) ?_
          refine g_goto (t := 50) ok dX8_set_36 (by decide) ?_
          exact g_sub [0, 1, 2, 3] rfl (b_X8_set_50 ok he p1 p2 p3 (63 : Int32) S1 h)
      · replace h := h.2 e4
        exact g_sub [0, 1, 2, 3] rfl (b_X8_set_24 ok he p1 p2 p3 S1 h)
  · replace h := h.2 e6
    refine g_bipush (v := 99) (n := 11) ok dX8_set_9 rfl (by decide) ?_
    refine g_goto (t := 50) ok dX8_set_11 (by decide) ?_
    exact g_sub [0, 1, 2, 3] rfl (b_X8_set_50 ok he p1 p2 p3 (99 : Int32) S1 h)
def w_X8_told_41 (post : Int32 → Mem → Prop) (S : Mem) : Prop := post (-2 : Int32) S
set_option maxHeartbeats 4000000 in
set_option maxRecDepth 20000 in
theorem b_X8_told_41 {v : VmT} {l : Launch} {g : CxT} (ok : Ok l g (oM v) 3 cX8_told RX8 (some .int)) {post : Int32 → Mem → Prop} (he : EndQ g (oM v) (va_Qi post (fun S1 t => BX (oM v) S1 t) (AX (oM v)))) (S : Mem) (h : w_X8_told_41 post  S) : G g (oM v) 3 3 41 [] [] S := by
  unfold w_X8_told_41 at h
  refine g_bipush (v := -2) (n := 43) ok dX8_told_41 rfl (by decide) ?_
  exact g_iret ok he h dX8_told_43
def w_X8_told_35 (post : Int32 → Mem → Prop) (x1 : Int32) (x2 : Int32) (y0 : Int64) (y1 : Int64) (y2 : Int64) (S : Mem) : Prop := w_X8_in y2 y1 y0 S (fun r1 S1 => ((¬ r1 = 0 → ((x2 = 0 → (vp_in x1 4 ∧ post (S1 2 x1.toNatClampNeg) S1)) ∧ (¬ x2 = 0 → ((x2 = 1 → (vp_in x1 4 ∧ post (S1 3 x1.toNatClampNeg) S1)) ∧ (¬ x2 = 1 → ((x2 = 2 → (vp_in x1 4 ∧ post (S1 4 x1.toNatClampNeg) S1)) ∧ (¬ x2 = 2 → ((x2 = 3 → w_X8_tallOf x1 (S1 0 7) S1 (fun r6 S6 => post r6 S6)) ∧ (¬ x2 = 3 → ((x2 = 4 → w_X8_cellOf x1 (S1 0 4) (S1 0 6) S1 (fun r8 S8 => post r8 S8)) ∧ (¬ x2 = 4 → ((x2 = 5 → w_X8_cellOf x1 (S1 0 4) (S1 0 6) S1 (fun r10 S10 => (vp_in r10 64 ∧ w_X8_tallOf x1 (S10 0 7) S10 (fun r11 S11 => post ((S10 1 r10.toNatClampNeg) + r11) S11)))) ∧ (¬ x2 = 5 → (vp_in x1 64 ∧ post (S1 1 x1.toNatClampNeg) S1)))))))))))))) ∧ (r1 = 0 → w_X8_told_41 post  S1)))
set_option maxHeartbeats 4000000 in
set_option maxRecDepth 20000 in
theorem b_X8_told_35 {v : VmT} {l : Launch} {g : CxT} (ok : Ok l g (oM v) 3 cX8_told RX8 (some .int)) {post : Int32 → Mem → Prop} (he : EndQ g (oM v) (va_Qi post (fun S1 t => BX (oM v) S1 t) (AX (oM v)))) (x1 : Int32) (x2 : Int32) (y0 : Int64) (y1 : Int64) (y2 : Int64) (S : Mem) (h : w_X8_told_35 post x1 x2 y0 y1 y2 S) : G g (oM v) 3 3 35 [(0, .ref (v.1 0)), (1, .int x1), (2, .int x2)] [.long y0, .long y1, .long y2] S := by
  unfold w_X8_told_35 at h
  refine g_callSi (n := 38) (As := [.long y2, .long y1, .long y0]) (rest := []) ok (c_X8_in l v y2 y1 y0 S _ h) cal_X8_in tw_771 tw_772 (by decide) (by decide) rfl (Nat.le_of_ble_eq_true rfl) dX8_told_35 rfl rfl (fun r1 S1 h => ?_)
  refine g_if_ne (t := 44) (n := 41) ok dX8_told_38 (by decide) rfl (fun e12 => ?_) (fun e12 => ?_)
  · replace h := h.1 e12
    refine g_iload_n 2 (n := 45) ok dX8_told_44 rfl rfl ?_
    by_cases e2 : x2 = 0
    · replace h := h.1 e2
      refine g_tsIn (off := 39) (t := 84) ok dX8_told_45 (by rw [e2]; decide) (by rw [e2]; decide) (by rw [e2]; rfl) (by decide) ?_
      refine g_aload_n 0 (n := 85) ok dX8_told_84 rfl rfl ?_
      refine fg_X8_X8_kinds (n := 88) ok dX8_told_85 rfl ?_
      refine g_iload_n 1 (n := 89) ok dX8_told_88 rfl rfl ?_
      obtain ⟨h0, h⟩ := h
      refine g_iald (c := 2) (t0 := 0) (n := 90) ok (Nat.le_of_ble_eq_true rfl) rfl rfl h0 dX8_told_89 rfl ?_
      exact g_iret ok he h dX8_told_90
    · replace h := h.2 e2
      by_cases e3 : x2 = 1
      · replace h := h.1 e3
        refine g_tsIn (off := 46) (t := 91) ok dX8_told_45 (by rw [e3]; decide) (by rw [e3]; decide) (by rw [e3]; rfl) (by decide) ?_
        refine g_aload_n 0 (n := 92) ok dX8_told_91 rfl rfl ?_
        refine fg_X8_X8_longs (n := 95) ok dX8_told_92 rfl ?_
        refine g_iload_n 1 (n := 96) ok dX8_told_95 rfl rfl ?_
        obtain ⟨h0, h⟩ := h
        refine g_iald (c := 3) (t0 := 0) (n := 97) ok (Nat.le_of_ble_eq_true rfl) rfl rfl h0 dX8_told_96 rfl ?_
        exact g_iret ok he h dX8_told_97
      · replace h := h.2 e3
        by_cases e4 : x2 = 2
        · replace h := h.1 e4
          refine g_tsIn (off := 53) (t := 98) ok dX8_told_45 (by rw [e4]; decide) (by rw [e4]; decide) (by rw [e4]; rfl) (by decide) ?_
          refine g_aload_n 0 (n := 99) ok dX8_told_98 rfl rfl ?_
          refine fg_X8_X8_numbers (n := 102) ok dX8_told_99 rfl ?_
          refine g_iload_n 1 (n := 103) ok dX8_told_102 rfl rfl ?_
          obtain ⟨h0, h⟩ := h
          refine g_iald (c := 4) (t0 := 0) (n := 104) ok (Nat.le_of_ble_eq_true rfl) rfl rfl h0 dX8_told_103 rfl ?_
          exact g_iret ok he h dX8_told_104
        · replace h := h.2 e4
          by_cases e5 : x2 = 3
          · replace h := h.1 e5
            refine g_tsIn (off := 60) (t := 105) ok dX8_told_45 (by rw [e5]; decide) (by rw [e5]; decide) (by rw [e5]; rfl) (by decide) ?_
            refine g_aload_n 0 (n := 106) ok dX8_told_105 rfl rfl ?_
            refine g_iload_n 1 (n := 107) ok dX8_told_106 rfl rfl ?_
            refine g_aload_n 0 (n := 108) ok dX8_told_107 rfl rfl ?_
            refine fg_X8_X8_load (n := 111) ok dX8_told_108 rfl ?_
            refine g_callVi (n := 114) (As := [.int x1, .int (S1 0 7)]) (rest := []) (c := 0) ok (c_X8_tallOf l v x1 (S1 0 7) S1 _ h) cal_X8_tallOf tw_1012 tw_1014 tp_83 (Nat.le_of_ble_eq_true rfl) rfl rfl (by decide) (by decide) rfl (Nat.le_of_ble_eq_true rfl) dX8_told_111 rfl rfl (fun r6 S6 h => ?_)
            exact g_iret ok he h dX8_told_114
          · replace h := h.2 e5
            by_cases e7 : x2 = 4
            · replace h := h.1 e7
              refine g_tsIn (off := 70) (t := 115) ok dX8_told_45 (by rw [e7]; decide) (by rw [e7]; decide) (by rw [e7]; rfl) (by decide) ?_
              refine g_aload_n 0 (n := 116) ok dX8_told_115 rfl rfl ?_
              refine g_iload_n 1 (n := 117) ok dX8_told_116 rfl rfl ?_
              refine g_aload_n 0 (n := 118) ok dX8_told_117 rfl rfl ?_
              refine fg_X8_X8_place (n := 121) ok dX8_told_118 rfl ?_
              refine g_aload_n 0 (n := 122) ok dX8_told_121 rfl rfl ?_
              refine fg_X8_X8_turned (n := 125) ok dX8_told_122 rfl ?_
              refine g_callVi (n := 128) (As := [.int x1, .int (S1 0 4), .int (S1 0 6)]) (rest := []) (c := 0) ok (c_X8_cellOf l v x1 (S1 0 4) (S1 0 6) S1 _ h) cal_X8_cellOf tw_1005 tw_1007 tp_82 (Nat.le_of_ble_eq_true rfl) rfl rfl (by decide) (by decide) rfl (Nat.le_of_ble_eq_true rfl) dX8_told_125 rfl rfl (fun r8 S8 h => ?_)
              exact g_iret ok he h dX8_told_128
            · replace h := h.2 e7
              by_cases e9 : x2 = 5
              · replace h := h.1 e9
                refine g_tsIn (off := 84) (t := 129) ok dX8_told_45 (by rw [e9]; decide) (by rw [e9]; decide) (by rw [e9]; rfl) (by decide) ?_
                refine g_aload_n 0 (n := 130) ok dX8_told_129 rfl rfl ?_
                refine fg_X8_X8_heights (n := 133) ok dX8_told_130 rfl ?_
                refine g_aload_n 0 (n := 134) ok dX8_told_133 rfl rfl ?_
                refine g_iload_n 1 (n := 135) ok dX8_told_134 rfl rfl ?_
                refine g_aload_n 0 (n := 136) ok dX8_told_135 rfl rfl ?_
                refine fg_X8_X8_place (n := 139) ok dX8_told_136 rfl ?_
                refine g_aload_n 0 (n := 140) ok dX8_told_139 rfl rfl ?_
                refine fg_X8_X8_turned (n := 143) ok dX8_told_140 rfl ?_
                refine g_callVi (n := 146) (As := [.int x1, .int (S1 0 4), .int (S1 0 6)]) (rest := [.ref (v.1 1)]) (c := 0) ok (c_X8_cellOf l v x1 (S1 0 4) (S1 0 6) S1 _ h) cal_X8_cellOf tw_1005 tw_1007 tp_82 (Nat.le_of_ble_eq_true rfl) rfl rfl (by decide) (by decide) rfl (Nat.le_of_ble_eq_true rfl) dX8_told_143 rfl rfl (fun r10 S10 h => ?_)
                obtain ⟨h0, h⟩ := h
                refine g_iald (c := 1) (t0 := 0) (n := 147) ok (Nat.le_of_ble_eq_true rfl) rfl rfl h0 dX8_told_146 rfl ?_
                refine g_aload_n 0 (n := 148) ok dX8_told_147 rfl rfl ?_
                refine g_iload_n 1 (n := 149) ok dX8_told_148 rfl rfl ?_
                refine g_aload_n 0 (n := 150) ok dX8_told_149 rfl rfl ?_
                refine fg_X8_X8_load (n := 153) ok dX8_told_150 rfl ?_
                refine g_callVi (n := 156) (As := [.int x1, .int (S10 0 7)]) (rest := [.int (S10 1 r10.toNatClampNeg)]) (c := 0) ok (c_X8_tallOf l v x1 (S10 0 7) S10 _ h) cal_X8_tallOf tw_1012 tw_1014 tp_83 (Nat.le_of_ble_eq_true rfl) rfl rfl (by decide) (by decide) rfl (Nat.le_of_ble_eq_true rfl) dX8_told_153 rfl rfl (fun r11 S11 h => ?_)
                refine g_iadd (n := 157) ok dX8_told_156 rfl ?_
                exact g_iret ok he h dX8_told_157
              · replace h := h.2 e9
                refine g_tsOut (t := 158) ok dX8_told_45 (by have q0 := lv_neT (a := 0) e2 rfl; have q1 := lv_neT (a := 1) e3 rfl; have q2 := lv_neT (a := 2) e4 rfl; have q3 := lv_neT (a := 3) e5 rfl; have q4 := lv_neT (a := 4) e7 rfl; have q5 := lv_neT (a := 5) e9 rfl; omega) (by decide) ?_
                refine g_aload_n 0 (n := 159) ok dX8_told_158 rfl rfl ?_
                refine fg_X8_X8_heights (n := 162) ok dX8_told_159 rfl ?_
                refine g_iload_n 1 (n := 163) ok dX8_told_162 rfl rfl ?_
                obtain ⟨h0, h⟩ := h
                refine g_iald (c := 1) (t0 := 0) (n := 164) ok (Nat.le_of_ble_eq_true rfl) rfl rfl h0 dX8_told_163 rfl ?_
                exact g_iret ok he h dX8_told_164
  · replace h := h.2 e12
    exact g_sub [] rfl (b_X8_told_41 ok he  S1 h)
def w_X8_told (p1 : Int32) (p2 : Int32) (S : Mem) (post : Int32 → Mem → Prop) : Prop := (∀ S1 : Mem, S1 = mset S 0 (upd (S 0) 8 (0 : Int32)) → w_X8_in p2.toInt64 (0 : Int64) (6 : Int64) S1 (fun r2 S2 => ((r2 = 0 → w_X8_told_41 post  S2) ∧ (¬ r2 = 0 → ((¬ p2 = (6 : Int32) → w_X8_told_35 post p1 p2 (3 : Int64) (0 : Int64) p1.toInt64 S2) ∧ (p2 = (6 : Int32) → w_X8_told_35 post p1 p2 (63 : Int64) (0 : Int64) p1.toInt64 S2))))))
set_option maxHeartbeats 4000000 in
set_option maxRecDepth 20000 in
theorem c_X8_told (l : Launch) (v : VmT) (p1 : Int32) (p2 : Int32) (S : Mem) (post : Int32 → Mem → Prop) (h : w_X8_told p1 p2 S post) : MI l yX8_told cX8_told 3 (some .int) 3 (oM v) [.ref (v.1 0), .int p1, .int p2] S post := by
  refine met_start (by decide +kernel) (Nat.le_of_ble_eq_true rfl) (fun g ok he => ?_)
  refine g_eq (L' := [(0, .ref (v.1 0)), (1, .int p1), (2, .int p2)]) (st' := []) ?_ rfl rfl
  unfold w_X8_told at h
  refine g_aload_n 0 (n := 1) ok dX8_told_0 rfl rfl ?_
  refine g_iconst (v := 0) (n := 2) ok dX8_told_1 rfl (by decide) ?_
  refine fp_X8_X8_thrown (n := 5) ok dX8_told_2 rfl ?_
  refine g_mem (fun S1 eS1 => ?_)
  replace h := h S1 eS1
  refine g_iload_n 2 (n := 6) ok dX8_told_5 rfl rfl ?_
  refine g_i2l (n := 7) ok dX8_told_6 rfl ?_
  refine g_lconst (v := 0) (n := 8) ok dX8_told_7 rfl (by decide) ?_
  refine g_ldc2 (v := 6) (n := 11) ok dX8_told_8 rfl tw_1160 ?_
  refine g_callSi (n := 14) (As := [.long p2.toInt64, .long (0 : Int64), .long (6 : Int64)]) (rest := []) ok (c_X8_in l v p2.toInt64 (0 : Int64) (6 : Int64) S1 _ h) cal_X8_in tw_771 tw_772 (by decide) (by decide) rfl (Nat.le_of_ble_eq_true rfl) dX8_told_11 rfl rfl (fun r2 S2 h => ?_)
  refine g_if_eq (t := 41) (n := 17) ok dX8_told_14 (by decide) rfl (fun e4 => ?_) (fun e4 => ?_)
  · replace h := h.1 e4
    exact g_sub [] rfl (b_X8_told_41 ok he  S2 h)
  · replace h := h.2 e4
    refine g_iload_n 1 (n := 18) ok dX8_told_17 rfl rfl ?_
    refine g_i2l (n := 19) ok dX8_told_18 rfl ?_
    refine g_lconst (v := 0) (n := 20) ok dX8_told_19 rfl (by decide) ?_
    refine g_iload_n 2 (n := 21) ok dX8_told_20 rfl rfl ?_
    refine g_bipush (v := 6) (n := 23) ok dX8_told_21 rfl (by decide) ?_
    refine g_icmp_ne (t := 32) (n := 26) ok dX8_told_23 (by decide) rfl (fun e3 => ?_) (fun e3 => ?_)
    · replace h := h.1 e3
      refine g_ldc2 (v := 3) (n := 35) ok dX8_told_32 rfl tw_1111 ?_
      exact g_sub [0, 1, 2] rfl (b_X8_told_35 ok he p1 p2 (3 : Int64) (0 : Int64) p1.toInt64 S2 h)
    · replace h := h.2 e3
      refine g_ldc2 (v := 63) (n := 29) ok dX8_told_26 rfl tw_1039 ?_
      refine g_goto (t := 35) ok dX8_told_29 (by decide) ?_
      exact g_sub [0, 1, 2] rfl (b_X8_told_35 ok he p1 p2 (63 : Int64) (0 : Int64) p1.toInt64 S2 h)
def w_X8_carry_17 (post : Int32 → Mem → Prop) (S : Mem) : Prop := (∀ S1 : Mem, S1 = mset S 0 (upd (S 0) 40 ((S 0 40) + (1 : Int32))) → (vp_in ((S1 0 40) - (1 : Int32)) 77 ∧ post (S1 16 ((S1 0 40) - (1 : Int32)).toNatClampNeg) S1))
set_option maxHeartbeats 4000000 in
set_option maxRecDepth 20000 in
theorem b_X8_carry_17 {v : VmT} {l : Launch} {g : CxT} (ok : Ok l g (oM v) 2 cX8_carry RX8 (some .int)) {post : Int32 → Mem → Prop} (he : EndQ g (oM v) (va_Qi post (fun S1 t => BX (oM v) S1 t) (AX (oM v)))) (S : Mem) (h : w_X8_carry_17 post  S) : G g (oM v) 1 2 17 [(0, .ref (v.1 0))] [] S := by
  unfold w_X8_carry_17 at h
  refine g_aload_n 0 (n := 18) ok dX8_carry_17 rfl rfl ?_
  refine g_dup (n := 19) ok dX8_carry_18 rfl rfl ?_
  refine fg_X8_X8_imageAt (n := 22) ok dX8_carry_19 rfl ?_
  refine g_iconst (v := 1) (n := 23) ok dX8_carry_22 rfl (by decide) ?_
  refine g_iadd (n := 24) ok dX8_carry_23 rfl ?_
  refine fp_X8_X8_imageAt (n := 27) ok dX8_carry_24 rfl ?_
  refine g_mem (fun S1 eS1 => ?_)
  replace h := h S1 eS1
  refine g_aload_n 0 (n := 28) ok dX8_carry_27 rfl rfl ?_
  refine fg_X8_X8_imaged (n := 31) ok dX8_carry_28 rfl ?_
  refine g_aload_n 0 (n := 32) ok dX8_carry_31 rfl rfl ?_
  refine fg_X8_X8_imageAt (n := 35) ok dX8_carry_32 rfl ?_
  refine g_iconst (v := 1) (n := 36) ok dX8_carry_35 rfl (by decide) ?_
  refine g_isub (n := 37) ok dX8_carry_36 rfl ?_
  obtain ⟨h0, h⟩ := h
  refine g_iald (c := 16) (t0 := 0) (n := 38) ok (Nat.le_of_ble_eq_true rfl) rfl rfl h0 dX8_carry_37 rfl ?_
  exact g_iret ok he h dX8_carry_38
def w_X8_carry (p1 : Int32) (S : Mem) (post : Int32 → Mem → Prop) : Prop := (((S 0 41) = 0 → w_X8_carry_17 post  S) ∧ (¬ (S 0 41) = 0 → (vp_in (S 0 40) 77 ∧ (∀ S1 : Mem, S1 = mset S 16 (upd (S 16) (S 0 40).toNatClampNeg p1) → w_X8_carry_17 post  S1))))
set_option maxHeartbeats 4000000 in
set_option maxRecDepth 20000 in
theorem c_X8_carry (l : Launch) (v : VmT) (p1 : Int32) (S : Mem) (post : Int32 → Mem → Prop) (h : w_X8_carry p1 S post) : MI l yX8_carry cX8_carry 2 (some .int) 1 (oM v) [.ref (v.1 0), .int p1] S post := by
  refine met_start (by decide +kernel) (Nat.le_of_ble_eq_true rfl) (fun g ok he => ?_)
  refine g_eq (L' := [(0, .ref (v.1 0)), (1, .int p1)]) (st' := []) ?_ rfl rfl
  unfold w_X8_carry at h
  refine g_aload_n 0 (n := 1) ok dX8_carry_0 rfl rfl ?_
  refine fg_X8_X8_isTaking (n := 4) ok dX8_carry_1 rfl ?_
  refine g_if_eq (t := 17) (n := 7) ok dX8_carry_4 (by decide) rfl (fun e2 => ?_) (fun e2 => ?_)
  · replace h := h.1 e2
    exact g_sub [0] rfl (b_X8_carry_17 ok he  S h)
  · replace h := h.2 e2
    refine g_aload_n 0 (n := 8) ok dX8_carry_7 rfl rfl ?_
    refine fg_X8_X8_imaged (n := 11) ok dX8_carry_8 rfl ?_
    refine g_aload_n 0 (n := 12) ok dX8_carry_11 rfl rfl ?_
    refine fg_X8_X8_imageAt (n := 15) ok dX8_carry_12 rfl ?_
    refine g_iload_n 1 (n := 16) ok dX8_carry_15 rfl rfl ?_
    obtain ⟨h0, h⟩ := h
    refine g_iast (c := 16) (t0 := 0) (n := 17) ok (Nat.le_of_ble_eq_true rfl) (fun _ => rfl) rfl h0 dX8_carry_16 rfl ?_
    refine g_mem (fun S1 eS1 => ?_)
    replace h := h S1 eS1
    exact g_sub [0] rfl (b_X8_carry_17 ok he  S1 h)
def w_X8_carryAll_112 (post : Mem → Prop) : Nat → Int32 → Mem → Prop
  | 0, _, _ => False
  | n + 1, x1, S => (((64 : Int32) ≤ x1 → post S) ∧ (¬ (64 : Int32) ≤ x1 → (vp_in x1 64 ∧ w_X8_carry (S 1 x1.toNatClampNeg) S (fun r1 S1 => (vp_in x1 64 ∧ (∀ S2 : Mem, S2 = mset S1 1 (upd (S1 1) x1.toNatClampNeg r1) → (∀ z3 : Int32, z3 = x1 + 1 → w_X8_carryAll_112 post n z3 S2)))))))
set_option maxHeartbeats 4000000 in
set_option maxRecDepth 20000 in
theorem b_X8_carryAll_112 {v : VmT} {l : Launch} {g : CxT} (ok : Ok l g (oM v) 2 cX8_carryAll RX8 none) {post : Mem → Prop} (he : EndQ g (oM v) (va_Qv post (fun S1 t => BX (oM v) S1 t) (AX (oM v)))) : ∀ (n : Nat) (x1 : Int32) (S : Mem), w_X8_carryAll_112 post n x1 S → G g (oM v) 2 2 112 [(0, .ref (v.1 0)), (1, .int x1)] [] S := by
  intro n
  induction n with
  | zero =>
    intro x1 S h
    exact h.elim
  | succ n ih =>
    intro x1 S h
    rw [w_X8_carryAll_112] at h
    refine g_iload_n 1 (n := 113) ok dX8_carryAll_112 rfl rfl ?_
    refine g_bipush (v := 64) (n := 115) ok dX8_carryAll_113 rfl (by decide) ?_
    refine g_icmp_ge (t := 140) (n := 118) ok dX8_carryAll_115 (by decide) rfl (fun e4 => ?_) (fun e4 => ?_)
    · replace h := h.1 e4
      exact g_vret ok he h dX8_carryAll_140
    · replace h := h.2 e4
      refine g_aload_n 0 (n := 119) ok dX8_carryAll_118 rfl rfl ?_
      refine fg_X8_X8_heights (n := 122) ok dX8_carryAll_119 rfl ?_
      refine g_iload_n 1 (n := 123) ok dX8_carryAll_122 rfl rfl ?_
      refine g_aload_n 0 (n := 124) ok dX8_carryAll_123 rfl rfl ?_
      refine g_aload_n 0 (n := 125) ok dX8_carryAll_124 rfl rfl ?_
      refine fg_X8_X8_heights (n := 128) ok dX8_carryAll_125 rfl ?_
      refine g_iload_n 1 (n := 129) ok dX8_carryAll_128 rfl rfl ?_
      obtain ⟨h0, h⟩ := h
      refine g_iald (c := 1) (t0 := 0) (n := 130) ok (Nat.le_of_ble_eq_true rfl) rfl rfl h0 dX8_carryAll_129 rfl ?_
      refine g_callVi (n := 133) (As := [.int (S 1 x1.toNatClampNeg)]) (rest := [.int x1, .ref (v.1 1)]) (c := 0) ok (c_X8_carry l v (S 1 x1.toNatClampNeg) S _ h) cal_X8_carry tw_1169 tw_1171 tp_96 (Nat.le_of_ble_eq_true rfl) rfl rfl (by decide) (by decide) rfl (Nat.le_of_ble_eq_true rfl) dX8_carryAll_130 rfl rfl (fun r1 S1 h => ?_)
      obtain ⟨h0, h⟩ := h
      refine g_iast (c := 1) (t0 := 0) (n := 134) ok (Nat.le_of_ble_eq_true rfl) (fun _ => rfl) rfl h0 dX8_carryAll_133 rfl ?_
      refine g_mem (fun S2 eS2 => ?_)
      replace h := h S2 eS2
      obtain ⟨z3, ez3⟩ : ∃ y : Int32, y = x1 + 1 := ⟨_, rfl⟩
      replace h := h z3 ez3
      refine g_iinc 1 [(1, .int z3), (0, .ref (v.1 0))] (v := z3) (n := 137) ok dX8_carryAll_134 rfl rfl (by rw [ez3]; rfl) (by decide) rfl ?_
      refine g_goto (t := 112) ok dX8_carryAll_137 (by decide) ?_
      exact g_sub [1, 0] rfl (ih z3 S2 h)
def w_X8_carryAll_67 (post : Mem → Prop) : Nat → Int32 → Mem → Prop
  | 0, _, _ => False
  | n + 1, x1, S => (((4 : Int32) ≤ x1 → ∃ n, w_X8_carryAll_112 post n (0 : Int32) S) ∧ (¬ (4 : Int32) ≤ x1 → (vp_in x1 4 ∧ w_X8_carry (S 3 x1.toNatClampNeg) S (fun r1 S1 => (vp_in x1 4 ∧ (∀ S2 : Mem, S2 = mset S1 3 (upd (S1 3) x1.toNatClampNeg r1) → (vp_in x1 4 ∧ w_X8_carry (S2 4 x1.toNatClampNeg) S2 (fun r3 S3 => (vp_in x1 4 ∧ (∀ S4 : Mem, S4 = mset S3 4 (upd (S3 4) x1.toNatClampNeg r3) → (∀ z5 : Int32, z5 = x1 + 1 → w_X8_carryAll_67 post n z5 S4)))))))))))
set_option maxHeartbeats 4000000 in
set_option maxRecDepth 20000 in
theorem b_X8_carryAll_67 {v : VmT} {l : Launch} {g : CxT} (ok : Ok l g (oM v) 2 cX8_carryAll RX8 none) {post : Mem → Prop} (he : EndQ g (oM v) (va_Qv post (fun S1 t => BX (oM v) S1 t) (AX (oM v)))) : ∀ (n : Nat) (x1 : Int32) (S : Mem), w_X8_carryAll_67 post n x1 S → G g (oM v) 2 2 67 [(0, .ref (v.1 0)), (1, .int x1)] [] S := by
  intro n
  induction n with
  | zero =>
    intro x1 S h
    exact h.elim
  | succ n ih =>
    intro x1 S h
    rw [w_X8_carryAll_67] at h
    refine g_iload_n 1 (n := 68) ok dX8_carryAll_67 rfl rfl ?_
    refine g_iconst (v := 4) (n := 69) ok dX8_carryAll_68 rfl (by decide) ?_
    refine g_icmp_ge (t := 110) (n := 72) ok dX8_carryAll_69 (by decide) rfl (fun e6 => ?_) (fun e6 => ?_)
    · replace h := h.1 e6
      refine g_iconst (v := 0) (n := 111) ok dX8_carryAll_110 rfl (by decide) ?_
      refine g_istore_n [(1, .int (0 : Int32)), (0, .ref (v.1 0))] (n := 112) ok dX8_carryAll_111 rfl (by decide) rfl ?_
      obtain ⟨n0, h⟩ := h
      exact g_sub [1, 0] rfl (b_X8_carryAll_112 ok he n0 (0 : Int32) S h)
    · replace h := h.2 e6
      refine g_aload_n 0 (n := 73) ok dX8_carryAll_72 rfl rfl ?_
      refine fg_X8_X8_longs (n := 76) ok dX8_carryAll_73 rfl ?_
      refine g_iload_n 1 (n := 77) ok dX8_carryAll_76 rfl rfl ?_
      refine g_aload_n 0 (n := 78) ok dX8_carryAll_77 rfl rfl ?_
      refine g_aload_n 0 (n := 79) ok dX8_carryAll_78 rfl rfl ?_
      refine fg_X8_X8_longs (n := 82) ok dX8_carryAll_79 rfl ?_
      refine g_iload_n 1 (n := 83) ok dX8_carryAll_82 rfl rfl ?_
      obtain ⟨h0, h⟩ := h
      refine g_iald (c := 3) (t0 := 0) (n := 84) ok (Nat.le_of_ble_eq_true rfl) rfl rfl h0 dX8_carryAll_83 rfl ?_
      refine g_callVi (n := 87) (As := [.int (S 3 x1.toNatClampNeg)]) (rest := [.int x1, .ref (v.1 3)]) (c := 0) ok (c_X8_carry l v (S 3 x1.toNatClampNeg) S _ h) cal_X8_carry tw_1169 tw_1171 tp_96 (Nat.le_of_ble_eq_true rfl) rfl rfl (by decide) (by decide) rfl (Nat.le_of_ble_eq_true rfl) dX8_carryAll_84 rfl rfl (fun r1 S1 h => ?_)
      obtain ⟨h0, h⟩ := h
      refine g_iast (c := 3) (t0 := 0) (n := 88) ok (Nat.le_of_ble_eq_true rfl) (fun _ => rfl) rfl h0 dX8_carryAll_87 rfl ?_
      refine g_mem (fun S2 eS2 => ?_)
      replace h := h S2 eS2
      refine g_aload_n 0 (n := 89) ok dX8_carryAll_88 rfl rfl ?_
      refine fg_X8_X8_numbers (n := 92) ok dX8_carryAll_89 rfl ?_
      refine g_iload_n 1 (n := 93) ok dX8_carryAll_92 rfl rfl ?_
      refine g_aload_n 0 (n := 94) ok dX8_carryAll_93 rfl rfl ?_
      refine g_aload_n 0 (n := 95) ok dX8_carryAll_94 rfl rfl ?_
      refine fg_X8_X8_numbers (n := 98) ok dX8_carryAll_95 rfl ?_
      refine g_iload_n 1 (n := 99) ok dX8_carryAll_98 rfl rfl ?_
      obtain ⟨h0, h⟩ := h
      refine g_iald (c := 4) (t0 := 0) (n := 100) ok (Nat.le_of_ble_eq_true rfl) rfl rfl h0 dX8_carryAll_99 rfl ?_
      refine g_callVi (n := 103) (As := [.int (S2 4 x1.toNatClampNeg)]) (rest := [.int x1, .ref (v.1 4)]) (c := 0) ok (c_X8_carry l v (S2 4 x1.toNatClampNeg) S2 _ h) cal_X8_carry tw_1169 tw_1171 tp_96 (Nat.le_of_ble_eq_true rfl) rfl rfl (by decide) (by decide) rfl (Nat.le_of_ble_eq_true rfl) dX8_carryAll_100 rfl rfl (fun r3 S3 h => ?_)
      obtain ⟨h0, h⟩ := h
      refine g_iast (c := 4) (t0 := 0) (n := 104) ok (Nat.le_of_ble_eq_true rfl) (fun _ => rfl) rfl h0 dX8_carryAll_103 rfl ?_
      refine g_mem (fun S4 eS4 => ?_)
      replace h := h S4 eS4
      obtain ⟨z5, ez5⟩ : ∃ y : Int32, y = x1 + 1 := ⟨_, rfl⟩
      replace h := h z5 ez5
      refine g_iinc 1 [(1, .int z5), (0, .ref (v.1 0))] (v := z5) (n := 107) ok dX8_carryAll_104 rfl rfl (by rw [ez5]; rfl) (by decide) rfl ?_
      refine g_goto (t := 67) ok dX8_carryAll_107 (by decide) ?_
      exact g_sub [1, 0] rfl (ih z5 S4 h)
def w_X8_carryAll (S : Mem) (post : Mem → Prop) : Prop := (∀ S1 : Mem, S1 = mset S 0 (upd (S 0) 40 (0 : Int32)) → w_X8_carry (S1 0 4) S1 (fun r2 S2 => (∀ S3 : Mem, S3 = mset S2 0 (upd (S2 0) 4 r2) → w_X8_carry (S3 0 5) S3 (fun r4 S4 => (∀ S5 : Mem, S5 = mset S4 0 (upd (S4 0) 5 r4) → w_X8_carry (S5 0 6) S5 (fun r6 S6 => (∀ S7 : Mem, S7 = mset S6 0 (upd (S6 0) 6 r6) → w_X8_carry (S7 0 7) S7 (fun r8 S8 => (∀ S9 : Mem, S9 = mset S8 0 (upd (S8 0) 7 r8) → w_X8_carry (S9 0 15) S9 (fun r10 S10 => (∀ S11 : Mem, S11 = mset S10 0 (upd (S10 0) 15 r10) → ∃ n, w_X8_carryAll_67 post n (0 : Int32) S11)))))))))))
set_option maxHeartbeats 4000000 in
set_option maxRecDepth 20000 in
theorem c_X8_carryAll (l : Launch) (v : VmT) (S : Mem) (post : Mem → Prop) (h : w_X8_carryAll  S post) : MV l yX8_carryAll cX8_carryAll 2 none 2 (oM v) [.ref (v.1 0)] S post := by
  refine met_start (by decide +kernel) (Nat.le_of_ble_eq_true rfl) (fun g ok he => ?_)
  refine g_eq (L' := [(0, .ref (v.1 0))]) (st' := []) ?_ rfl rfl
  unfold w_X8_carryAll at h
  refine g_aload_n 0 (n := 1) ok dX8_carryAll_0 rfl rfl ?_
  refine g_iconst (v := 0) (n := 2) ok dX8_carryAll_1 rfl (by decide) ?_
  refine fp_X8_X8_imageAt (n := 5) ok dX8_carryAll_2 rfl ?_
  refine g_mem (fun S1 eS1 => ?_)
  replace h := h S1 eS1
  refine g_aload_n 0 (n := 6) ok dX8_carryAll_5 rfl rfl ?_
  refine g_aload_n 0 (n := 7) ok dX8_carryAll_6 rfl rfl ?_
  refine g_aload_n 0 (n := 8) ok dX8_carryAll_7 rfl rfl ?_
  refine fg_X8_X8_place (n := 11) ok dX8_carryAll_8 rfl ?_
  refine g_callVi (n := 14) (As := [.int (S1 0 4)]) (rest := [.ref (v.1 0)]) (c := 0) ok (c_X8_carry l v (S1 0 4) S1 _ h) cal_X8_carry tw_1169 tw_1171 tp_96 (Nat.le_of_ble_eq_true rfl) rfl rfl (by decide) (by decide) rfl (Nat.le_of_ble_eq_true rfl) dX8_carryAll_11 rfl rfl (fun r2 S2 h => ?_)
  refine fp_X8_X8_place (n := 17) ok dX8_carryAll_14 rfl ?_
  refine g_mem (fun S3 eS3 => ?_)
  replace h := h S3 eS3
  refine g_aload_n 0 (n := 18) ok dX8_carryAll_17 rfl rfl ?_
  refine g_aload_n 0 (n := 19) ok dX8_carryAll_18 rfl rfl ?_
  refine g_aload_n 0 (n := 20) ok dX8_carryAll_19 rfl rfl ?_
  refine fg_X8_X8_radius (n := 23) ok dX8_carryAll_20 rfl ?_
  refine g_callVi (n := 26) (As := [.int (S3 0 5)]) (rest := [.ref (v.1 0)]) (c := 0) ok (c_X8_carry l v (S3 0 5) S3 _ h) cal_X8_carry tw_1169 tw_1171 tp_96 (Nat.le_of_ble_eq_true rfl) rfl rfl (by decide) (by decide) rfl (Nat.le_of_ble_eq_true rfl) dX8_carryAll_23 rfl rfl (fun r4 S4 h => ?_)
  refine fp_X8_X8_radius (n := 29) ok dX8_carryAll_26 rfl ?_
  refine g_mem (fun S5 eS5 => ?_)
  replace h := h S5 eS5
  refine g_aload_n 0 (n := 30) ok dX8_carryAll_29 rfl rfl ?_
  refine g_aload_n 0 (n := 31) ok dX8_carryAll_30 rfl rfl ?_
  refine g_aload_n 0 (n := 32) ok dX8_carryAll_31 rfl rfl ?_
  refine fg_X8_X8_turned (n := 35) ok dX8_carryAll_32 rfl ?_
  refine g_callVi (n := 38) (As := [.int (S5 0 6)]) (rest := [.ref (v.1 0)]) (c := 0) ok (c_X8_carry l v (S5 0 6) S5 _ h) cal_X8_carry tw_1169 tw_1171 tp_96 (Nat.le_of_ble_eq_true rfl) rfl rfl (by decide) (by decide) rfl (Nat.le_of_ble_eq_true rfl) dX8_carryAll_35 rfl rfl (fun r6 S6 h => ?_)
  refine fp_X8_X8_turned (n := 41) ok dX8_carryAll_38 rfl ?_
  refine g_mem (fun S7 eS7 => ?_)
  replace h := h S7 eS7
  refine g_aload_n 0 (n := 42) ok dX8_carryAll_41 rfl rfl ?_
  refine g_aload_n 0 (n := 43) ok dX8_carryAll_42 rfl rfl ?_
  refine g_aload_n 0 (n := 44) ok dX8_carryAll_43 rfl rfl ?_
  refine fg_X8_X8_load (n := 47) ok dX8_carryAll_44 rfl ?_
  refine g_callVi (n := 50) (As := [.int (S7 0 7)]) (rest := [.ref (v.1 0)]) (c := 0) ok (c_X8_carry l v (S7 0 7) S7 _ h) cal_X8_carry tw_1169 tw_1171 tp_96 (Nat.le_of_ble_eq_true rfl) rfl rfl (by decide) (by decide) rfl (Nat.le_of_ble_eq_true rfl) dX8_carryAll_47 rfl rfl (fun r8 S8 h => ?_)
  refine fp_X8_X8_load (n := 53) ok dX8_carryAll_50 rfl ?_
  refine g_mem (fun S9 eS9 => ?_)
  replace h := h S9 eS9
  refine g_aload_n 0 (n := 54) ok dX8_carryAll_53 rfl rfl ?_
  refine g_aload_n 0 (n := 55) ok dX8_carryAll_54 rfl rfl ?_
  refine g_aload_n 0 (n := 56) ok dX8_carryAll_55 rfl rfl ?_
  refine fg_X8_X8_rule (n := 59) ok dX8_carryAll_56 rfl ?_
  refine g_callVi (n := 62) (As := [.int (S9 0 15)]) (rest := [.ref (v.1 0)]) (c := 0) ok (c_X8_carry l v (S9 0 15) S9 _ h) cal_X8_carry tw_1169 tw_1171 tp_96 (Nat.le_of_ble_eq_true rfl) rfl rfl (by decide) (by decide) rfl (Nat.le_of_ble_eq_true rfl) dX8_carryAll_59 rfl rfl (fun r10 S10 h => ?_)
  refine fp_X8_X8_rule (n := 65) ok dX8_carryAll_62 rfl ?_
  refine g_mem (fun S11 eS11 => ?_)
  replace h := h S11 eS11
  refine g_iconst (v := 0) (n := 66) ok dX8_carryAll_65 rfl (by decide) ?_
  refine g_istore_n [(1, .int (0 : Int32)), (0, .ref (v.1 0))] (n := 67) ok dX8_carryAll_66 rfl (by decide) rfl ?_
  obtain ⟨n0, h⟩ := h
  exact g_sub [1, 0] rfl (b_X8_carryAll_67 ok he n0 (0 : Int32) S11 h)
def w_X8_image (S : Mem) (post : Int32 → Mem → Prop) : Prop := (∀ S1 : Mem, S1 = mset S 0 (upd (S 0) 8 (0 : Int32)) → (∀ S2 : Mem, S2 = mset S1 0 (upd (S1 0) 38 (1 : Int32)) → (∀ S3 : Mem, S3 = mset S2 0 (upd (S2 0) 41 (1 : Int32)) → w_X8_carryAll  S3 (fun S4 => post (S4 0 6) S4))))
set_option maxHeartbeats 4000000 in
set_option maxRecDepth 20000 in
theorem c_X8_image (l : Launch) (v : VmT) (S : Mem) (post : Int32 → Mem → Prop) (h : w_X8_image  S post) : MI l yX8_image cX8_image 1 (some .int) 3 (oM v) [.ref (v.1 0)] S post := by
  refine met_start (by decide +kernel) (Nat.le_of_ble_eq_true rfl) (fun g ok he => ?_)
  refine g_eq (L' := [(0, .ref (v.1 0))]) (st' := []) ?_ rfl rfl
  unfold w_X8_image at h
  refine g_aload_n 0 (n := 1) ok dX8_image_0 rfl rfl ?_
  refine g_iconst (v := 0) (n := 2) ok dX8_image_1 rfl (by decide) ?_
  refine fp_X8_X8_thrown (n := 5) ok dX8_image_2 rfl ?_
  refine g_mem (fun S1 eS1 => ?_)
  replace h := h S1 eS1
  refine g_aload_n 0 (n := 6) ok dX8_image_5 rfl rfl ?_
  refine g_iconst (v := 1) (n := 7) ok dX8_image_6 rfl (by decide) ?_
  refine fp_X8_X8_hasImage (n := 10) ok (Or.inr rfl) dX8_image_7 rfl ?_
  refine g_mem (fun S2 eS2 => ?_)
  replace h := h S2 eS2
  refine g_aload_n 0 (n := 11) ok dX8_image_10 rfl rfl ?_
  refine g_iconst (v := 1) (n := 12) ok dX8_image_11 rfl (by decide) ?_
  refine fp_X8_X8_isTaking (n := 15) ok (Or.inr rfl) dX8_image_12 rfl ?_
  refine g_mem (fun S3 eS3 => ?_)
  replace h := h S3 eS3
  refine g_aload_n 0 (n := 16) ok dX8_image_15 rfl rfl ?_
  refine g_callVv (n := 19) (As := []) (rest := []) (c := 0) ok (c_X8_carryAll l v  S3 _ h) cal_X8_carryAll tw_1165 tw_1167 tp_95 (Nat.le_of_ble_eq_true rfl) rfl rfl (by decide) (by decide) rfl (Nat.le_of_ble_eq_true rfl) dX8_image_16 rfl rfl (fun S4 h => ?_)
  refine g_aload_n 0 (n := 20) ok dX8_image_19 rfl rfl ?_
  refine fg_X8_X8_turned (n := 23) ok dX8_image_20 rfl ?_
  exact g_iret ok he h dX8_image_23
