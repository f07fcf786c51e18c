def w_X8_hasCompared_84 (K11 : Int32 → Int32 → Int32 → Mem → Prop) (post : Int32 → Mem → Prop) (x1 : Int32) (x3 : Int32) (y0 : Int32) (S : Mem) : Prop := (∀ z1 : Int32, z1 = x3 + (-1) → K11 x1 y0 z1 S)
set_option maxHeartbeats 4000000 in
set_option maxRecDepth 20000 in
theorem b_X8_hasCompared_84 {v : VmT} {l : Launch} {g : CxT} {K11 : Int32 → Int32 → Int32 → Mem → Prop} (ok : Ok l g (oM v) 5 cX8_hasCompared RX8 (some .boolean)) (hK11 : ∀ (x1 : Int32) (x2 : Int32) (x3 : Int32) (S : Mem), K11 x1 x2 x3 S → G g (oM v) 1 5 11 [(0, .ref (v.1 0)), (1, .int x1), (2, .int x2), (3, .int x3)] [] S) {post : Int32 → Mem → Prop} (he : EndQ g (oM v) (va_Qi post (fun S1 t => BX (oM v) S1 t) (AX (oM v)))) (x1 : Int32) (x3 : Int32) (y0 : Int32) (S : Mem) (h : w_X8_hasCompared_84 K11 post x1 x3 y0 S) : G g (oM v) 1 5 84 [(0, .ref (v.1 0)), (1, .int x1), (3, .int x3)] [.int y0] S := by
  unfold w_X8_hasCompared_84 at h
  refine g_istore_n [(2, .int y0), (0, .ref (v.1 0)), (1, .int x1), (3, .int x3)] (n := 85) ok dX8_hasCompared_84 rfl (by decide) rfl ?_
  obtain ⟨z1, ez1⟩ : ∃ y : Int32, y = x3 + (-1) := ⟨_, rfl⟩
  replace h := h z1 ez1
  refine g_iinc 3 [(3, .int z1), (2, .int y0), (0, .ref (v.1 0)), (1, .int x1)] (v := z1) (n := 88) ok dX8_hasCompared_85 rfl rfl (by rw [ez1]; rfl) (by decide) rfl ?_
  refine g_goto (t := 11) ok dX8_hasCompared_88 (by decide) ?_
  exact g_sub [2, 3, 1, 0] rfl (hK11 x1 y0 z1 S h)
def w_X8_hasCompared_83 (K11 : Int32 → Int32 → Int32 → Mem → Prop) (post : Int32 → Mem → Prop) (x1 : Int32) (x3 : Int32) (S : Mem) : Prop := w_X8_hasCompared_84 K11 post x1 x3 (0 : Int32) S
set_option maxHeartbeats 4000000 in
set_option maxRecDepth 20000 in
theorem b_X8_hasCompared_83 {v : VmT} {l : Launch} {g : CxT} {K11 : Int32 → Int32 → Int32 → Mem → Prop} (ok : Ok l g (oM v) 5 cX8_hasCompared RX8 (some .boolean)) (hK11 : ∀ (x1 : Int32) (x2 : Int32) (x3 : Int32) (S : Mem), K11 x1 x2 x3 S → G g (oM v) 1 5 11 [(0, .ref (v.1 0)), (1, .int x1), (2, .int x2), (3, .int x3)] [] S) {post : Int32 → Mem → Prop} (he : EndQ g (oM v) (va_Qi post (fun S1 t => BX (oM v) S1 t) (AX (oM v)))) (x1 : Int32) (x3 : Int32) (S : Mem) (h : w_X8_hasCompared_83 K11 post x1 x3 S) : G g (oM v) 1 5 83 [(0, .ref (v.1 0)), (1, .int x1), (3, .int x3)] [] S := by
  unfold w_X8_hasCompared_83 at h
  refine g_iconst (v := 0) (n := 84) ok dX8_hasCompared_83 rfl (by decide) ?_
  exact g_sub [0, 1, 2] rfl (b_X8_hasCompared_84 ok hK11 he x1 x3 (0 : Int32) S h)
def w_X8_hasCompared_50 (K11 : Int32 → Int32 → Int32 → Mem → Prop) (post : Int32 → Mem → Prop) (x3 : Int32) (x4 : Int32) (y0 : Int32) (S : Mem) : Prop := ((x4 = (19 : Int32) → w_X8_hasCompared_83 K11 post y0 x3 S) ∧ (¬ x4 = (19 : Int32) → ((x4 = (10 : Int32) → w_X8_hasCompared_83 K11 post y0 x3 S) ∧ (¬ x4 = (10 : Int32) → ((x4 = (11 : Int32) → w_X8_hasCompared_83 K11 post y0 x3 S) ∧ (¬ x4 = (11 : Int32) → ((x4 = (12 : Int32) → w_X8_hasCompared_83 K11 post y0 x3 S) ∧ (¬ x4 = (12 : Int32) → w_X8_hasCompared_84 K11 post y0 x3 (1 : Int32) S))))))))
set_option maxHeartbeats 4000000 in
set_option maxRecDepth 20000 in
theorem b_X8_hasCompared_50 {v : VmT} {l : Launch} {g : CxT} {K11 : Int32 → Int32 → Int32 → Mem → Prop} (ok : Ok l g (oM v) 5 cX8_hasCompared RX8 (some .boolean)) (hK11 : ∀ (x1 : Int32) (x2 : Int32) (x3 : Int32) (S : Mem), K11 x1 x2 x3 S → G g (oM v) 1 5 11 [(0, .ref (v.1 0)), (1, .int x1), (2, .int x2), (3, .int x3)] [] S) {post : Int32 → Mem → Prop} (he : EndQ g (oM v) (va_Qi post (fun S1 t => BX (oM v) S1 t) (AX (oM v)))) (x3 : Int32) (x4 : Int32) (y0 : Int32) (S : Mem) (h : w_X8_hasCompared_50 K11 post x3 x4 y0 S) : G g (oM v) 1 5 50 [(0, .ref (v.1 0)), (3, .int x3), (4, .int x4)] [.int y0] S := by
  unfold w_X8_hasCompared_50 at h
  refine g_istore_n [(1, .int y0), (0, .ref (v.1 0)), (3, .int x3), (4, .int x4)] (n := 51) ok dX8_hasCompared_50 rfl (by decide) rfl ?_
  refine g_iload 3 (n := 53) ok dX8_hasCompared_51 rfl rfl ?_
  refine g_bipush (v := 19) (n := 55) ok dX8_hasCompared_53 rfl (by decide) ?_
  refine g_icmp_eq (t := 83) (n := 58) ok dX8_hasCompared_55 (by decide) rfl (fun e4 => ?_) (fun e4 => ?_)
  · replace h := h.1 e4
    exact g_sub [1, 0, 2] rfl (b_X8_hasCompared_83 ok hK11 he y0 x3 S h)
  · replace h := h.2 e4
    refine g_iload 3 (n := 60) ok dX8_hasCompared_58 rfl rfl ?_
    refine g_bipush (v := 10) (n := 62) ok dX8_hasCompared_60 rfl (by decide) ?_
    refine g_icmp_eq (t := 83) (n := 65) ok dX8_hasCompared_62 (by decide) rfl (fun e3 => ?_) (fun e3 => ?_)
    · replace h := h.1 e3
      exact g_sub [1, 0, 2] rfl (b_X8_hasCompared_83 ok hK11 he y0 x3 S h)
    · replace h := h.2 e3
      refine g_iload 3 (n := 67) ok dX8_hasCompared_65 rfl rfl ?_
      refine g_bipush (v := 11) (n := 69) ok dX8_hasCompared_67 rfl (by decide) ?_
      refine g_icmp_eq (t := 83) (n := 72) ok dX8_hasCompared_69 (by decide) rfl (fun e2 => ?_) (fun e2 => ?_)
      · replace h := h.1 e2
        exact g_sub [1, 0, 2] rfl (b_X8_hasCompared_83 ok hK11 he y0 x3 S h)
      · replace h := h.2 e2
        refine g_iload 3 (n := 74) ok dX8_hasCompared_72 rfl rfl ?_
        refine g_bipush (v := 12) (n := 76) ok dX8_hasCompared_74 rfl (by decide) ?_
        refine g_icmp_eq (t := 83) (n := 79) ok dX8_hasCompared_76 (by decide) rfl (fun e1 => ?_) (fun e1 => ?_)
        · replace h := h.1 e1
          exact g_sub [1, 0, 2] rfl (b_X8_hasCompared_83 ok hK11 he y0 x3 S h)
        · replace h := h.2 e1
          refine g_iconst (v := 1) (n := 80) ok dX8_hasCompared_79 rfl (by decide) ?_
          refine g_goto (t := 84) ok dX8_hasCompared_80 (by decide) ?_
          exact g_sub [1, 0, 2] rfl (b_X8_hasCompared_84 ok hK11 he y0 x3 (1 : Int32) S h)
def w_X8_hasCompared_45 (K11 : Int32 → Int32 → Int32 → Mem → Prop) (post : Int32 → Mem → Prop) (x3 : Int32) (x4 : Int32) (S : Mem) : Prop := w_X8_hasCompared_50 K11 post x3 x4 (1 : Int32) S
set_option maxHeartbeats 4000000 in
set_option maxRecDepth 20000 in
theorem b_X8_hasCompared_45 {v : VmT} {l : Launch} {g : CxT} {K11 : Int32 → Int32 → Int32 → Mem → Prop} (ok : Ok l g (oM v) 5 cX8_hasCompared RX8 (some .boolean)) (hK11 : ∀ (x1 : Int32) (x2 : Int32) (x3 : Int32) (S : Mem), K11 x1 x2 x3 S → G g (oM v) 1 5 11 [(0, .ref (v.1 0)), (1, .int x1), (2, .int x2), (3, .int x3)] [] S) {post : Int32 → Mem → Prop} (he : EndQ g (oM v) (va_Qi post (fun S1 t => BX (oM v) S1 t) (AX (oM v)))) (x3 : Int32) (x4 : Int32) (S : Mem) (h : w_X8_hasCompared_45 K11 post x3 x4 S) : G g (oM v) 1 5 45 [(0, .ref (v.1 0)), (3, .int x3), (4, .int x4)] [] S := by
  unfold w_X8_hasCompared_45 at h
  refine g_iconst (v := 1) (n := 46) ok dX8_hasCompared_45 rfl (by decide) ?_
  refine g_goto (t := 50) ok dX8_hasCompared_46 (by decide) ?_
  exact g_sub [0, 1, 2] rfl (b_X8_hasCompared_50 ok hK11 he x3 x4 (1 : Int32) S h)
def w_X8_hasCompared_91 (post : Int32 → Mem → Prop) (x1 : Int32) (S : Mem) : Prop := (x1 = 0 ∨ x1 = 1) ∧ post x1 S
set_option maxHeartbeats 4000000 in
set_option maxRecDepth 20000 in
theorem b_X8_hasCompared_91 {v : VmT} {l : Launch} {g : CxT} (ok : Ok l g (oM v) 5 cX8_hasCompared RX8 (some .boolean)) {post : Int32 → Mem → Prop} (he : EndQ g (oM v) (va_Qi post (fun S1 t => BX (oM v) S1 t) (AX (oM v)))) (x1 : Int32) (S : Mem) (h : w_X8_hasCompared_91 post x1 S) : G g (oM v) 1 5 91 [(1, .int x1)] [] S := by
  unfold w_X8_hasCompared_91 at h
  refine g_iload_n 0 (n := 92) ok dX8_hasCompared_91 rfl rfl ?_
  exact g_zret ok he h.1 h.2 dX8_hasCompared_92
def w_X8_hasCompared_11 (post : Int32 → Mem → Prop) : Nat → Int32 → Int32 → Int32 → Mem → Prop
  | 0, _, _, _, _ => False
  | n + 1, x1, x2, x3, S => ((x3 < 0 → w_X8_hasCompared_91 post x1 S) ∧ (¬ x3 < 0 → ((x2 = 0 → w_X8_hasCompared_91 post x1 S) ∧ (¬ x2 = 0 → (vp_in x3 170 ∧ (∀ z1 : Int32, z1 = S 11 x3.toNatClampNeg → ((¬ x1 = 0 → w_X8_hasCompared_45 (w_X8_hasCompared_11 post n) post x3 z1 S) ∧ (x1 = 0 → ((z1 = (13 : Int32) → w_X8_hasCompared_45 (w_X8_hasCompared_11 post n) post x3 z1 S) ∧ (¬ z1 = (13 : Int32) → ((¬ z1 = (14 : Int32) → w_X8_hasCompared_50 (w_X8_hasCompared_11 post n) post x3 z1 (0 : Int32) S) ∧ (z1 = (14 : Int32) → w_X8_hasCompared_45 (w_X8_hasCompared_11 post n) post x3 z1 S))))))))))))
set_option maxHeartbeats 4000000 in
set_option maxRecDepth 20000 in
theorem b_X8_hasCompared_11 {v : VmT} {l : Launch} {g : CxT} (ok : Ok l g (oM v) 5 cX8_hasCompared RX8 (some .boolean)) {post : Int32 → Mem → Prop} (he : EndQ g (oM v) (va_Qi post (fun S1 t => BX (oM v) S1 t) (AX (oM v)))) : ∀ (n : Nat) (x1 : Int32) (x2 : Int32) (x3 : Int32) (S : Mem), w_X8_hasCompared_11 post n x1 x2 x3 S → G g (oM v) 1 5 11 [(0, .ref (v.1 0)), (1, .int x1), (2, .int x2), (3, .int x3)] [] S := by
  intro n
  induction n with
  | zero =>
    intro x1 x2 x3 S h
    exact h.elim
  | succ n ih =>
    intro x1 x2 x3 S h
    rw [w_X8_hasCompared_11] at h
    refine g_iload_n 3 (n := 12) ok dX8_hasCompared_11 rfl rfl ?_
    refine g_if_lt (t := 91) (n := 15) ok dX8_hasCompared_12 (by decide) rfl (fun e6 => ?_) (fun e6 => ?_)
    · replace h := h.1 e6
      exact g_sub [1] rfl (b_X8_hasCompared_91 ok he x1 S h)
    · replace h := h.2 e6
      refine g_iload_n 2 (n := 16) ok dX8_hasCompared_15 rfl rfl ?_
      refine g_if_eq (t := 91) (n := 19) ok dX8_hasCompared_16 (by decide) rfl (fun e5 => ?_) (fun e5 => ?_)
      · replace h := h.1 e5
        exact g_sub [1] rfl (b_X8_hasCompared_91 ok he x1 S h)
      · replace h := h.2 e5
        refine g_aload_n 0 (n := 20) ok dX8_hasCompared_19 rfl rfl ?_
        refine fg_X8_X8_waiting (n := 23) ok dX8_hasCompared_20 rfl ?_
        refine g_iload_n 3 (n := 24) ok dX8_hasCompared_23 rfl rfl ?_
        obtain ⟨h0, h⟩ := h
        refine g_iald (c := 11) (t0 := 0) (n := 25) ok (Nat.le_of_ble_eq_true rfl) rfl rfl h0 dX8_hasCompared_24 rfl ?_
        refine g_topi (fun z1 ez1 => ?_)
        replace h := h z1 ez1
        refine g_istore [(4, .int z1), (0, .ref (v.1 0)), (1, .int x1), (2, .int x2), (3, .int x3)] (n := 27) ok dX8_hasCompared_25 rfl (by decide) rfl ?_
        refine g_iload_n 2 (n := 28) ok dX8_hasCompared_27 rfl rfl ?_
        refine g_if_ne (t := 45) (n := 31) ok dX8_hasCompared_28 (by decide) rfl (fun e4 => ?_) (fun e4 => ?_)
        · replace h := h.1 e4
          exact g_sub [1, 4, 0] rfl (b_X8_hasCompared_45 ok ih he x3 z1 S h)
        · replace h := h.2 e4
          refine g_iload 0 (n := 33) ok dX8_hasCompared_31 rfl rfl ?_
          refine g_bipush (v := 13) (n := 35) ok dX8_hasCompared_33 rfl (by decide) ?_
          refine g_icmp_eq (t := 45) (n := 38) ok dX8_hasCompared_35 (by decide) rfl (fun e3 => ?_) (fun e3 => ?_)
          · replace h := h.1 e3
            exact g_sub [1, 4, 0] rfl (b_X8_hasCompared_45 ok ih he x3 z1 S h)
          · replace h := h.2 e3
            refine g_iload 0 (n := 40) ok dX8_hasCompared_38 rfl rfl ?_
            refine g_bipush (v := 14) (n := 42) ok dX8_hasCompared_40 rfl (by decide) ?_
            refine g_icmp_ne (t := 49) (n := 45) ok dX8_hasCompared_42 (by decide) rfl (fun e2 => ?_) (fun e2 => ?_)
            · replace h := h.1 e2
              refine g_iconst (v := 0) (n := 50) ok dX8_hasCompared_49 rfl (by decide) ?_
              exact g_sub [1, 4, 0] rfl (b_X8_hasCompared_50 ok ih he x3 z1 (0 : Int32) S h)
            · replace h := h.2 e2
              exact g_sub [1, 4, 0] rfl (b_X8_hasCompared_45 ok ih he x3 z1 S h)
def w_X8_hasCompared (S : Mem) (post : Int32 → Mem → Prop) : Prop := (∀ z1 : Int32, z1 = (S 0 24) - (1 : Int32) → ∃ n, w_X8_hasCompared_11 post n (0 : Int32) (1 : Int32) z1 S)
set_option maxHeartbeats 4000000 in
set_option maxRecDepth 20000 in
theorem c_X8_hasCompared (l : Launch) (v : VmT) (S : Mem) (post : Int32 → Mem → Prop) (h : w_X8_hasCompared  S post) : MI l yX8_hasCompared cX8_hasCompared 5 (some .boolean) 1 (oM v) [.ref (v.1 0)] S post := by
  refine met_start (by decide +kernel) (Nat.le_of_ble_eq_true rfl) (fun g ok he => ?_)
  refine g_eq (L' := [(0, .ref (v.1 0))]) (st' := []) ?_ rfl rfl
  unfold w_X8_hasCompared at h
  refine g_iconst (v := 0) (n := 1) ok dX8_hasCompared_0 rfl (by decide) ?_
  refine g_istore_n [(1, .int (0 : Int32)), (0, .ref (v.1 0))] (n := 2) ok dX8_hasCompared_1 rfl (by decide) rfl ?_
  refine g_iconst (v := 1) (n := 3) ok dX8_hasCompared_2 rfl (by decide) ?_
  refine g_istore_n [(2, .int (1 : Int32)), (1, .int (0 : Int32)), (0, .ref (v.1 0))] (n := 4) ok dX8_hasCompared_3 rfl (by decide) rfl ?_
  refine g_aload_n 2 (n := 5) ok dX8_hasCompared_4 rfl rfl ?_
  refine fg_X8_X8_waitMany (n := 8) ok dX8_hasCompared_5 rfl ?_
  refine g_iconst (v := 1) (n := 9) ok dX8_hasCompared_8 rfl (by decide) ?_
  refine g_isub (n := 10) ok dX8_hasCompared_9 rfl ?_
  refine g_topi (fun z1 ez1 => ?_)
  replace h := h z1 ez1
  refine g_istore_n [(3, .int z1), (2, .int (1 : Int32)), (1, .int (0 : Int32)), (0, .ref (v.1 0))] (n := 11) ok dX8_hasCompared_10 rfl (by decide) rfl ?_
  obtain ⟨n0, h⟩ := h
  exact g_sub [3, 2, 1, 0] rfl (b_X8_hasCompared_11 ok he n0 (0 : Int32) (1 : Int32) z1 S h)
def w_X8_await (p1 : Int32) (S : Mem) (post : Mem → Prop) : Prop := (vp_in (S 0 24) 170 ∧ (∀ S1 : Mem, S1 = mset S 11 (upd (S 11) (S 0 24).toNatClampNeg p1) → (∀ S2 : Mem, S2 = mset S1 0 (upd (S1 0) 24 ((S1 0 24) + (1 : Int32))) → post S2)))
set_option maxHeartbeats 4000000 in
set_option maxRecDepth 20000 in
theorem c_X8_await (l : Launch) (v : VmT) (p1 : Int32) (S : Mem) (post : Mem → Prop) (h : w_X8_await p1 S post) : MV l yX8_await cX8_await 2 none 1 (oM v) [.ref (v.1 0), .int p1] S post := by
  refine met_start (by decide +kernel) (Nat.le_of_ble_eq_true rfl) (fun g ok he => ?_)
  refine g_eq (L' := [(0, .ref (v.1 0)), (1, .int p1)]) (st' := []) ?_ rfl rfl
  unfold w_X8_await at h
  refine g_aload_n 0 (n := 1) ok dX8_await_0 rfl rfl ?_
  refine fg_X8_X8_waiting (n := 4) ok dX8_await_1 rfl ?_
  refine g_aload_n 0 (n := 5) ok dX8_await_4 rfl rfl ?_
  refine fg_X8_X8_waitMany (n := 8) ok dX8_await_5 rfl ?_
  refine g_iload_n 1 (n := 9) ok dX8_await_8 rfl rfl ?_
  obtain ⟨h0, h⟩ := h
  refine g_iast (c := 11) (t0 := 0) (n := 10) ok (Nat.le_of_ble_eq_true rfl) (fun _ => rfl) rfl h0 dX8_await_9 rfl ?_
  refine g_mem (fun S1 eS1 => ?_)
  replace h := h S1 eS1
  refine g_aload_n 0 (n := 11) ok dX8_await_10 rfl rfl ?_
  refine g_dup (n := 12) ok dX8_await_11 rfl rfl ?_
  refine fg_X8_X8_waitMany (n := 15) ok dX8_await_12 rfl ?_
  refine g_iconst (v := 1) (n := 16) ok dX8_await_15 rfl (by decide) ?_
  refine g_iadd (n := 17) ok dX8_await_16 rfl ?_
  refine fp_X8_X8_waitMany (n := 20) ok dX8_await_17 rfl ?_
  refine g_mem (fun S2 eS2 => ?_)
  replace h := h S2 eS2
  exact g_vret ok he h dX8_await_20
def w_X8_begins_38 (post : Int32 → Mem → Prop) (y0 : Int32) (S : Mem) : Prop := w_X8_step y0 S (fun S1 => w_X8_letGo (7 : Int32) S1 (fun S2 => (∀ S3 : Mem, S3 = mset S2 0 (upd (S2 0) 26 (0 : Int32)) → post (1 : Int32) S3)))
set_option maxHeartbeats 4000000 in
set_option maxRecDepth 20000 in
theorem b_X8_begins_38 {v : VmT} {l : Launch} {g : CxT} (ok : Ok l g (oM v) 2 cX8_begins RX8 (some .boolean)) {post : Int32 → Mem → Prop} (he : EndQ g (oM v) (va_Qi post (fun S1 t => BX (oM v) S1 t) (AX (oM v)))) (y0 : Int32) (S : Mem) (h : w_X8_begins_38 post y0 S) : G g (oM v) 3 2 38 [(0, .ref (v.1 0))] [.int y0, .ref (v.1 0)] S := by
  unfold w_X8_begins_38 at h
  refine g_callVv (n := 41) (As := [.int y0]) (rest := []) (c := 0) ok (c_X8_step l v y0 S _ h) cal_X8_step tw_800 tw_802 tp_71 (Nat.le_of_ble_eq_true rfl) rfl rfl (by decide) (by decide) rfl (Nat.le_of_ble_eq_true rfl) dX8_begins_38 rfl rfl (fun S1 h => ?_)
  refine g_aload_n 0 (n := 42) ok dX8_begins_41 rfl rfl ?_
  refine g_bipush (v := 7) (n := 44) ok dX8_begins_42 rfl (by decide) ?_
  refine g_callVv (n := 47) (As := [.int (7 : Int32)]) (rest := []) (c := 0) ok (c_X8_letGo l v (7 : Int32) S1 _ h) cal_X8_letGo tw_804 tw_806 tp_72 (Nat.le_of_ble_eq_true rfl) rfl rfl (by decide) (by decide) rfl (Nat.le_of_ble_eq_true rfl) dX8_begins_44 rfl rfl (fun S2 h => ?_)
  refine g_aload_n 0 (n := 48) ok dX8_begins_47 rfl rfl ?_
  refine g_iconst (v := 0) (n := 49) ok dX8_begins_48 rfl (by decide) ?_
  refine fp_X8_X8_wantsOne (n := 52) ok (Or.inl rfl) dX8_begins_49 rfl ?_
  refine g_mem (fun S3 eS3 => ?_)
  replace h := h S3 eS3
  refine g_iconst (v := 1) (n := 53) ok dX8_begins_52 rfl (by decide) ?_
  exact g_zret ok he (Or.inr rfl) h dX8_begins_53
def w_X8_begins_16 (post : Int32 → Mem → Prop) (S : Mem) : Prop := ((¬ (S 0 16) = (1 : Int32) → w_X8_begins_38 post (S 0 18) S) ∧ ((S 0 16) = (1 : Int32) → w_X8_begins_38 post ((-1 : Int32) - (S 0 18)) S))
set_option maxHeartbeats 4000000 in
set_option maxRecDepth 20000 in
theorem b_X8_begins_16 {v : VmT} {l : Launch} {g : CxT} (ok : Ok l g (oM v) 2 cX8_begins RX8 (some .boolean)) {post : Int32 → Mem → Prop} (he : EndQ g (oM v) (va_Qi post (fun S1 t => BX (oM v) S1 t) (AX (oM v)))) (S : Mem) (h : w_X8_begins_16 post  S) : G g (oM v) 3 2 16 [(0, .ref (v.1 0))] [] S := by
  unfold w_X8_begins_16 at h
  refine g_aload_n 0 (n := 17) ok dX8_begins_16 rfl rfl ?_
  refine g_aload_n 0 (n := 18) ok dX8_begins_17 rfl rfl ?_
  refine fg_X8_X8_token (n := 21) ok dX8_begins_18 rfl ?_
  refine g_iconst (v := 1) (n := 22) ok dX8_begins_21 rfl (by decide) ?_
  refine g_icmp_ne (t := 34) (n := 25) ok dX8_begins_22 (by decide) rfl (fun e1 => ?_) (fun e1 => ?_)
  · replace h := h.1 e1
    refine g_aload_n 0 (n := 35) ok dX8_begins_34 rfl rfl ?_
    refine fg_X8_X8_tokenValue (n := 38) ok dX8_begins_35 rfl ?_
    exact g_sub [0] rfl (b_X8_begins_38 ok he (S 0 18) S h)
  · replace h := h.2 e1
    refine g_iconst (v := -1) (n := 26) ok dX8_begins_25 rfl (by decide) ?_
    refine g_aload_n 0 (n := 27) ok dX8_begins_26 rfl rfl ?_
    refine fg_X8_X8_tokenValue (n := 30) ok dX8_begins_27 rfl ?_
    refine g_isub (n := 31) ok dX8_begins_30 rfl ?_
    refine g_goto (t := 38) ok dX8_begins_31 (by decide) ?_
    exact g_sub [0] rfl (b_X8_begins_38 ok he ((-1 : Int32) - (S 0 18)) S h)
def w_X8_begins_106 (post : Int32 → Mem → Prop) (S : Mem) : Prop := post (0 : Int32) S
set_option maxHeartbeats 4000000 in
set_option maxRecDepth 20000 in
theorem b_X8_begins_106 {v : VmT} {l : Launch} {g : CxT} (ok : Ok l g (oM v) 2 cX8_begins RX8 (some .boolean)) {post : Int32 → Mem → Prop} (he : EndQ g (oM v) (va_Qi post (fun S1 t => BX (oM v) S1 t) (AX (oM v)))) (S : Mem) (h : w_X8_begins_106 post  S) : G g (oM v) 3 2 106 [] [] S := by
  unfold w_X8_begins_106 at h
  refine g_iconst (v := 0) (n := 107) ok dX8_begins_106 rfl (by decide) ?_
  exact g_zret ok he (Or.inl rfl) h dX8_begins_107
def w_X8_begins_156 (post : Int32 → Mem → Prop) (y0 : Int32) (S : Mem) : Prop := ((y0 = 0 ∨ y0 = 1) ∧ (∀ S1 : Mem, S1 = mset S 0 (upd (S 0) 27 y0) → post (1 : Int32) S1))
set_option maxHeartbeats 4000000 in
set_option maxRecDepth 20000 in
theorem b_X8_begins_156 {v : VmT} {l : Launch} {g : CxT} (ok : Ok l g (oM v) 2 cX8_begins RX8 (some .boolean)) {post : Int32 → Mem → Prop} (he : EndQ g (oM v) (va_Qi post (fun S1 t => BX (oM v) S1 t) (AX (oM v)))) (y0 : Int32) (S : Mem) (h : w_X8_begins_156 post y0 S) : G g (oM v) 3 2 156 [] [.int y0, .ref (v.1 0)] S := by
  unfold w_X8_begins_156 at h
  obtain ⟨h0, h⟩ := h
  refine fp_X8_X8_mayNot (n := 159) ok h0 dX8_begins_156 rfl ?_
  refine g_mem (fun S1 eS1 => ?_)
  replace h := h S1 eS1
  refine g_iconst (v := 1) (n := 160) ok dX8_begins_159 rfl (by decide) ?_
  exact g_zret ok he (Or.inr rfl) h dX8_begins_160
def w_X8_begins_151 (post : Int32 → Mem → Prop) (S : Mem) : Prop := w_X8_begins_156 post (1 : Int32) S
set_option maxHeartbeats 4000000 in
set_option maxRecDepth 20000 in
theorem b_X8_begins_151 {v : VmT} {l : Launch} {g : CxT} (ok : Ok l g (oM v) 2 cX8_begins RX8 (some .boolean)) {post : Int32 → Mem → Prop} (he : EndQ g (oM v) (va_Qi post (fun S1 t => BX (oM v) S1 t) (AX (oM v)))) (S : Mem) (h : w_X8_begins_151 post  S) : G g (oM v) 3 2 151 [] [.ref (v.1 0)] S := by
  unfold w_X8_begins_151 at h
  refine g_iconst (v := 1) (n := 152) ok dX8_begins_151 rfl (by decide) ?_
  refine g_goto (t := 156) ok dX8_begins_152 (by decide) ?_
  exact g_sub [] rfl (b_X8_begins_156 ok he (1 : Int32) S h)
def w_X8_begins_134 (post : Int32 → Mem → Prop) (x1 : Int32) (y0 : Int32) (S : Mem) : Prop := w_X8_await y0 S (fun S1 => ((¬ x1 = 0 → w_X8_begins_151 post  S1) ∧ (x1 = 0 → w_X8_isSign (40 : Int32) S1 (fun r2 S2 => ((r2 = 0 → w_X8_begins_156 post (0 : Int32) S2) ∧ (¬ r2 = 0 → w_X8_begins_151 post  S2))))))
set_option maxHeartbeats 4000000 in
set_option maxRecDepth 20000 in
theorem b_X8_begins_134 {v : VmT} {l : Launch} {g : CxT} (ok : Ok l g (oM v) 2 cX8_begins RX8 (some .boolean)) {post : Int32 → Mem → Prop} (he : EndQ g (oM v) (va_Qi post (fun S1 t => BX (oM v) S1 t) (AX (oM v)))) (x1 : Int32) (y0 : Int32) (S : Mem) (h : w_X8_begins_134 post x1 y0 S) : G g (oM v) 3 2 134 [(0, .ref (v.1 0)), (1, .int x1)] [.int y0, .ref (v.1 0)] S := by
  unfold w_X8_begins_134 at h
  refine g_callVv (n := 137) (As := [.int y0]) (rest := []) (c := 0) ok (c_X8_await l v y0 S _ h) cal_X8_await tw_819 tw_821 tp_75 (Nat.le_of_ble_eq_true rfl) rfl rfl (by decide) (by decide) rfl (Nat.le_of_ble_eq_true rfl) dX8_begins_134 rfl rfl (fun S1 h => ?_)
  refine g_aload_n 0 (n := 138) ok dX8_begins_137 rfl rfl ?_
  refine g_iload_n 1 (n := 139) ok dX8_begins_138 rfl rfl ?_
  refine g_if_ne (t := 151) (n := 142) ok dX8_begins_139 (by decide) rfl (fun e4 => ?_) (fun e4 => ?_)
  · replace h := h.1 e4
    exact g_sub [] rfl (b_X8_begins_151 ok he  S1 h)
  · replace h := h.2 e4
    refine g_aload_n 0 (n := 143) ok dX8_begins_142 rfl rfl ?_
    refine g_bipush (v := 40) (n := 145) ok dX8_begins_143 rfl (by decide) ?_
    refine g_callVi (n := 148) (As := [.int (40 : Int32)]) (rest := [.ref (v.1 0)]) (c := 0) ok (c_X8_isSign l v (40 : Int32) S1 _ h) cal_X8_isSign tw_811 tw_813 tp_73 (Nat.le_of_ble_eq_true rfl) rfl rfl (by decide) (by decide) rfl (Nat.le_of_ble_eq_true rfl) dX8_begins_145 rfl rfl (fun r2 S2 h => ?_)
    refine g_if_eq (t := 155) (n := 151) ok dX8_begins_148 (by decide) rfl (fun e3 => ?_) (fun e3 => ?_)
    · replace h := h.1 e3
      refine g_iconst (v := 0) (n := 156) ok dX8_begins_155 rfl (by decide) ?_
      exact g_sub [] rfl (b_X8_begins_156 ok he (0 : Int32) S2 h)
    · replace h := h.2 e3
      exact g_sub [] rfl (b_X8_begins_151 ok he  S2 h)
def w_X8_begins_98 (post : Int32 → Mem → Prop) (x1 : Int32) (S : Mem) : Prop := w_X8_opened  S (fun r1 S1 => ((¬ r1 = (5 : Int32) → ((x1 = 0 → w_X8_isSign (40 : Int32) S1 (fun r2 S2 => ((r2 = 0 → w_X8_begins_134 post x1 (18 : Int32) S2) ∧ (¬ r2 = 0 → w_X8_begins_134 post x1 (19 : Int32) S2)))) ∧ (¬ x1 = 0 → w_X8_begins_134 post x1 (12 : Int32) S1))) ∧ (r1 = (5 : Int32) → w_X8_begins_106 post  S1)))
set_option maxHeartbeats 4000000 in
set_option maxRecDepth 20000 in
theorem b_X8_begins_98 {v : VmT} {l : Launch} {g : CxT} (ok : Ok l g (oM v) 2 cX8_begins RX8 (some .boolean)) {post : Int32 → Mem → Prop} (he : EndQ g (oM v) (va_Qi post (fun S1 t => BX (oM v) S1 t) (AX (oM v)))) (x1 : Int32) (S : Mem) (h : w_X8_begins_98 post x1 S) : G g (oM v) 3 2 98 [(0, .ref (v.1 0)), (1, .int x1)] [] S := by
  unfold w_X8_begins_98 at h
  refine g_aload_n 0 (n := 99) ok dX8_begins_98 rfl rfl ?_
  refine g_callVi (n := 102) (As := []) (rest := []) (c := 0) ok (c_X8_opened l v  S _ h) cal_X8_opened tw_815 tw_817 tp_74 (Nat.le_of_ble_eq_true rfl) rfl rfl (by decide) (by decide) rfl (Nat.le_of_ble_eq_true rfl) dX8_begins_99 rfl rfl (fun r1 S1 h => ?_)
  refine g_iconst (v := 5) (n := 103) ok dX8_begins_102 rfl (by decide) ?_
  refine g_icmp_ne (t := 108) (n := 106) ok dX8_begins_103 (by decide) rfl (fun e5 => ?_) (fun e5 => ?_)
  · replace h := h.1 e5
    refine g_aload_n 0 (n := 109) ok dX8_begins_108 rfl rfl ?_
    refine g_iload_n 1 (n := 110) ok dX8_begins_109 rfl rfl ?_
    refine g_if_eq (t := 118) (n := 113) ok dX8_begins_110 (by decide) rfl (fun e4 => ?_) (fun e4 => ?_)
    · replace h := h.1 e4
      refine g_aload_n 0 (n := 119) ok dX8_begins_118 rfl rfl ?_
      refine g_bipush (v := 40) (n := 121) ok dX8_begins_119 rfl (by decide) ?_
      refine g_callVi (n := 124) (As := [.int (40 : Int32)]) (rest := [.ref (v.1 0)]) (c := 0) ok (c_X8_isSign l v (40 : Int32) S1 _ h) cal_X8_isSign tw_811 tw_813 tp_73 (Nat.le_of_ble_eq_true rfl) rfl rfl (by decide) (by decide) rfl (Nat.le_of_ble_eq_true rfl) dX8_begins_121 rfl rfl (fun r2 S2 h => ?_)
      refine g_if_eq (t := 132) (n := 127) ok dX8_begins_124 (by decide) rfl (fun e3 => ?_) (fun e3 => ?_)
      · replace h := h.1 e3
        refine g_bipush (v := 18) (n := 134) ok dX8_begins_132 rfl (by decide) ?_
        exact g_sub [0, 1] rfl (b_X8_begins_134 ok he x1 (18 : Int32) S2 h)
      · replace h := h.2 e3
        refine g_bipush (v := 19) (n := 129) ok dX8_begins_127 rfl (by decide) ?_
        refine g_goto (t := 134) ok dX8_begins_129 (by decide) ?_
        exact g_sub [0, 1] rfl (b_X8_begins_134 ok he x1 (19 : Int32) S2 h)
    · replace h := h.2 e4
      refine g_bipush (v := 12) (n := 115) ok dX8_begins_113 rfl (by decide) ?_
      refine g_goto (t := 134) ok dX8_begins_115 (by decide) ?_
      exact g_sub [0, 1] rfl (b_X8_begins_134 ok he x1 (12 : Int32) S1 h)
  · replace h := h.2 e5
    exact g_sub [] rfl (b_X8_begins_106 ok he  S1 h)
def w_X8_begins_75 (post : Int32 → Mem → Prop) (y0 : Int32) (S : Mem) : Prop := ((¬ y0 = 0 → w_X8_begins_98 post y0 S) ∧ (y0 = 0 → w_X8_isSign (40 : Int32) S (fun r1 S1 => ((¬ r1 = 0 → w_X8_begins_98 post y0 S1) ∧ (r1 = 0 → w_X8_isSign (45 : Int32) S1 (fun r2 S2 => ((r2 = 0 → w_X8_begins_106 post  S2) ∧ (¬ r2 = 0 → w_X8_begins_98 post y0 S2))))))))
set_option maxHeartbeats 4000000 in
set_option maxRecDepth 20000 in
theorem b_X8_begins_75 {v : VmT} {l : Launch} {g : CxT} (ok : Ok l g (oM v) 2 cX8_begins RX8 (some .boolean)) {post : Int32 → Mem → Prop} (he : EndQ g (oM v) (va_Qi post (fun S1 t => BX (oM v) S1 t) (AX (oM v)))) (y0 : Int32) (S : Mem) (h : w_X8_begins_75 post y0 S) : G g (oM v) 3 2 75 [(0, .ref (v.1 0))] [.int y0] S := by
  unfold w_X8_begins_75 at h
  refine g_istore_n [(1, .int y0), (0, .ref (v.1 0))] (n := 76) ok dX8_begins_75 rfl (by decide) rfl ?_
  refine g_iload_n 0 (n := 77) ok dX8_begins_76 rfl rfl ?_
  refine g_if_ne (t := 98) (n := 80) ok dX8_begins_77 (by decide) rfl (fun e5 => ?_) (fun e5 => ?_)
  · replace h := h.1 e5
    exact g_sub [1, 0] rfl (b_X8_begins_98 ok he y0 S h)
  · replace h := h.2 e5
    refine g_aload_n 1 (n := 81) ok dX8_begins_80 rfl rfl ?_
    refine g_bipush (v := 40) (n := 83) ok dX8_begins_81 rfl (by decide) ?_
    refine g_callVi (n := 86) (As := [.int (40 : Int32)]) (rest := []) (c := 0) ok (c_X8_isSign l v (40 : Int32) S _ h) cal_X8_isSign tw_811 tw_813 tp_73 (Nat.le_of_ble_eq_true rfl) rfl rfl (by decide) (by decide) rfl (Nat.le_of_ble_eq_true rfl) dX8_begins_83 rfl rfl (fun r1 S1 h => ?_)
    refine g_if_ne (t := 98) (n := 89) ok dX8_begins_86 (by decide) rfl (fun e4 => ?_) (fun e4 => ?_)
    · replace h := h.1 e4
      exact g_sub [1, 0] rfl (b_X8_begins_98 ok he y0 S1 h)
    · replace h := h.2 e4
      refine g_aload_n 1 (n := 90) ok dX8_begins_89 rfl rfl ?_
      refine g_bipush (v := 45) (n := 92) ok dX8_begins_90 rfl (by decide) ?_
      refine g_callVi (n := 95) (As := [.int (45 : Int32)]) (rest := []) (c := 0) ok (c_X8_isSign l v (45 : Int32) S1 _ h) cal_X8_isSign tw_811 tw_813 tp_73 (Nat.le_of_ble_eq_true rfl) rfl rfl (by decide) (by decide) rfl (Nat.le_of_ble_eq_true rfl) dX8_begins_92 rfl rfl (fun r2 S2 h => ?_)
      refine g_if_eq (t := 106) (n := 98) ok dX8_begins_95 (by decide) rfl (fun e3 => ?_) (fun e3 => ?_)
      · replace h := h.1 e3
        exact g_sub [] rfl (b_X8_begins_106 ok he  S2 h)
      · replace h := h.2 e3
        exact g_sub [1, 0] rfl (b_X8_begins_98 ok he y0 S2 h)
def w_X8_begins_74 (post : Int32 → Mem → Prop) (S : Mem) : Prop := w_X8_begins_75 post (0 : Int32) S
set_option maxHeartbeats 4000000 in
set_option maxRecDepth 20000 in
theorem b_X8_begins_74 {v : VmT} {l : Launch} {g : CxT} (ok : Ok l g (oM v) 2 cX8_begins RX8 (some .boolean)) {post : Int32 → Mem → Prop} (he : EndQ g (oM v) (va_Qi post (fun S1 t => BX (oM v) S1 t) (AX (oM v)))) (S : Mem) (h : w_X8_begins_74 post  S) : G g (oM v) 3 2 74 [(0, .ref (v.1 0))] [] S := by
  unfold w_X8_begins_74 at h
  refine g_iconst (v := 0) (n := 75) ok dX8_begins_74 rfl (by decide) ?_
  exact g_sub [0] rfl (b_X8_begins_75 ok he (0 : Int32) S h)
def w_X8_begins (S : Mem) (post : Int32 → Mem → Prop) : Prop := (((S 0 16) = (1 : Int32) → w_X8_begins_16 post  S) ∧ (¬ (S 0 16) = (1 : Int32) → ((¬ (S 0 16) = (2 : Int32) → w_X8_isKey (11 : Int32) S (fun r1 S1 => ((r1 = 0 → w_X8_begins_74 post  S1) ∧ (¬ r1 = 0 → (((S1 0 27) = 0 → w_X8_begins_74 post  S1) ∧ (¬ (S1 0 27) = 0 → w_X8_begins_75 post (1 : Int32) S1)))))) ∧ ((S 0 16) = (2 : Int32) → w_X8_begins_16 post  S))))
set_option maxHeartbeats 4000000 in
set_option maxRecDepth 20000 in
theorem c_X8_begins (l : Launch) (v : VmT) (S : Mem) (post : Int32 → Mem → Prop) (h : w_X8_begins  S post) : MI l yX8_begins cX8_begins 2 (some .boolean) 3 (oM v) [.ref (v.1 0)] S post := by
  refine met_start (by decide +kernel) (Nat.le_of_ble_eq_true rfl) (fun g ok he => ?_)
  refine g_eq (L' := [(0, .ref (v.1 0))]) (st' := []) ?_ rfl rfl
  unfold w_X8_begins at h
  refine g_aload_n 0 (n := 1) ok dX8_begins_0 rfl rfl ?_
  refine fg_X8_X8_token (n := 4) ok dX8_begins_1 rfl ?_
  refine g_iconst (v := 1) (n := 5) ok dX8_begins_4 rfl (by decide) ?_
  refine g_icmp_eq (t := 16) (n := 8) ok dX8_begins_5 (by decide) rfl (fun e5 => ?_) (fun e5 => ?_)
  · replace h := h.1 e5
    exact g_sub [0] rfl (b_X8_begins_16 ok he  S h)
  · replace h := h.2 e5
    refine g_aload_n 0 (n := 9) ok dX8_begins_8 rfl rfl ?_
    refine fg_X8_X8_token (n := 12) ok dX8_begins_9 rfl ?_
    refine g_iconst (v := 2) (n := 13) ok dX8_begins_12 rfl (by decide) ?_
    refine g_icmp_ne (t := 54) (n := 16) ok dX8_begins_13 (by decide) rfl (fun e4 => ?_) (fun e4 => ?_)
    · replace h := h.1 e4
      refine g_aload_n 0 (n := 55) ok dX8_begins_54 rfl rfl ?_
      refine g_bipush (v := 11) (n := 57) ok dX8_begins_55 rfl (by decide) ?_
      refine g_callVi (n := 60) (As := [.int (11 : Int32)]) (rest := []) (c := 0) ok (c_X8_isKey l v (11 : Int32) S _ h) cal_X8_isKey tw_788 tw_790 tp_68 (Nat.le_of_ble_eq_true rfl) rfl rfl (by decide) (by decide) rfl (Nat.le_of_ble_eq_true rfl) dX8_begins_57 rfl rfl (fun r1 S1 h => ?_)
      refine g_if_eq (t := 74) (n := 63) ok dX8_begins_60 (by decide) rfl (fun e3 => ?_) (fun e3 => ?_)
      · replace h := h.1 e3
        exact g_sub [0] rfl (b_X8_begins_74 ok he  S1 h)
      · replace h := h.2 e3
        refine g_aload_n 0 (n := 64) ok dX8_begins_63 rfl rfl ?_
        refine fg_X8_X8_mayNot (n := 67) ok dX8_begins_64 rfl ?_
        refine g_if_eq (t := 74) (n := 70) ok dX8_begins_67 (by decide) rfl (fun e2 => ?_) (fun e2 => ?_)
        · replace h := h.1 e2
          exact g_sub [0] rfl (b_X8_begins_74 ok he  S1 h)
        · replace h := h.2 e2
          refine g_iconst (v := 1) (n := 71) ok dX8_begins_70 rfl (by decide) ?_
          refine g_goto (t := 75) ok dX8_begins_71 (by decide) ?_
          exact g_sub [0] rfl (b_X8_begins_75 ok he (1 : Int32) S1 h)
    · replace h := h.2 e4
      exact g_sub [0] rfl (b_X8_begins_16 ok he  S h)
def w_X8_goOn_30 (post : Mem → Prop) (y0 : Int32) (S : Mem) : Prop := ((y0 = 0 ∨ y0 = 1) ∧ (∀ S1 : Mem, S1 = mset S 0 (upd (S 0) 27 y0) → post S1))
set_option maxHeartbeats 4000000 in
set_option maxRecDepth 20000 in
theorem b_X8_goOn_30 {v : VmT} {l : Launch} {g : CxT} (ok : Ok l g (oM v) 2 cX8_goOn RX8 none) {post : Mem → Prop} (he : EndQ g (oM v) (va_Qv post (fun S1 t => BX (oM v) S1 t) (AX (oM v)))) (y0 : Int32) (S : Mem) (h : w_X8_goOn_30 post y0 S) : G g (oM v) 3 2 30 [] [.int y0, .ref (v.1 0)] S := by
  unfold w_X8_goOn_30 at h
  obtain ⟨h0, h⟩ := h
  refine fp_X8_X8_mayNot (n := 33) ok h0 dX8_goOn_30 rfl ?_
  refine g_mem (fun S1 eS1 => ?_)
  replace h := h S1 eS1
  exact g_vret ok he h dX8_goOn_33
def w_X8_goOn (p1 : Int32) (S : Mem) (post : Mem → Prop) : Prop := w_X8_rank p1 S (fun r1 S1 => w_X8_letGo r1 S1 (fun S2 => w_X8_await p1 S2 (fun S3 => (∀ S4 : Mem, S4 = mset S3 0 (upd (S3 0) 26 (1 : Int32)) → (((12 : Int32) ≤ p1 → w_X8_goOn_30 post (0 : Int32) S4) ∧ (¬ (12 : Int32) ≤ p1 → w_X8_goOn_30 post (1 : Int32) S4))))))
set_option maxHeartbeats 4000000 in
set_option maxRecDepth 20000 in
theorem c_X8_goOn (l : Launch) (v : VmT) (p1 : Int32) (S : Mem) (post : Mem → Prop) (h : w_X8_goOn p1 S post) : MV l yX8_goOn cX8_goOn 2 none 3 (oM v) [.ref (v.1 0), .int p1] S post := by
  refine met_start (by decide +kernel) (Nat.le_of_ble_eq_true rfl) (fun g ok he => ?_)
  refine g_eq (L' := [(0, .ref (v.1 0)), (1, .int p1)]) (st' := []) ?_ rfl rfl
  unfold w_X8_goOn at h
  refine g_aload_n 0 (n := 1) ok dX8_goOn_0 rfl rfl ?_
  refine g_iload_n 1 (n := 2) ok dX8_goOn_1 rfl rfl ?_
  refine g_callSi (n := 5) (As := [.int p1]) (rest := [.ref (v.1 0)]) ok (c_X8_rank l v p1 S _ h) cal_X8_rank tw_808 tw_809 (by decide) (by decide) rfl (Nat.le_of_ble_eq_true rfl) dX8_goOn_2 rfl rfl (fun r1 S1 h => ?_)
  refine g_callVv (n := 8) (As := [.int r1]) (rest := []) (c := 0) ok (c_X8_letGo l v r1 S1 _ h) cal_X8_letGo tw_804 tw_806 tp_72 (Nat.le_of_ble_eq_true rfl) rfl rfl (by decide) (by decide) rfl (Nat.le_of_ble_eq_true rfl) dX8_goOn_5 rfl rfl (fun S2 h => ?_)
  refine g_aload_n 0 (n := 9) ok dX8_goOn_8 rfl rfl ?_
  refine g_iload_n 1 (n := 10) ok dX8_goOn_9 rfl rfl ?_
  refine g_callVv (n := 13) (As := [.int p1]) (rest := []) (c := 0) ok (c_X8_await l v p1 S2 _ h) cal_X8_await tw_819 tw_821 tp_75 (Nat.le_of_ble_eq_true rfl) rfl rfl (by decide) (by decide) rfl (Nat.le_of_ble_eq_true rfl) dX8_goOn_10 rfl rfl (fun S3 h => ?_)
  refine g_aload_n 0 (n := 14) ok dX8_goOn_13 rfl rfl ?_
  refine g_iconst (v := 1) (n := 15) ok dX8_goOn_14 rfl (by decide) ?_
  refine fp_X8_X8_wantsOne (n := 18) ok (Or.inr rfl) dX8_goOn_15 rfl ?_
  refine g_mem (fun S4 eS4 => ?_)
  replace h := h S4 eS4
  refine g_aload_n 0 (n := 19) ok dX8_goOn_18 rfl rfl ?_
  refine g_iload_n 1 (n := 20) ok dX8_goOn_19 rfl rfl ?_
  refine g_bipush (v := 12) (n := 22) ok dX8_goOn_20 rfl (by decide) ?_
  refine g_icmp_ge (t := 29) (n := 25) ok dX8_goOn_22 (by decide) rfl (fun e5 => ?_) (fun e5 => ?_)
  · replace h := h.1 e5
    refine g_iconst (v := 0) (n := 30) ok dX8_goOn_29 rfl (by decide) ?_
    exact g_sub [] rfl (b_X8_goOn_30 ok he (0 : Int32) S4 h)
  · replace h := h.2 e5
    refine g_iconst (v := 1) (n := 26) ok dX8_goOn_25 rfl (by decide) ?_
    refine g_goto (t := 30) ok dX8_goOn_26 (by decide) ?_
    exact g_sub [] rfl (b_X8_goOn_30 ok he (1 : Int32) S4 h)
def w_X8_follows_35 (post : Int32 → Mem → Prop) (y0 : Int32) (S : Mem) : Prop := w_X8_goOn y0 S (fun S1 => post (1 : Int32) S1)
set_option maxHeartbeats 4000000 in
set_option maxRecDepth 20000 in
theorem b_X8_follows_35 {v : VmT} {l : Launch} {g : CxT} (ok : Ok l g (oM v) 2 cX8_follows RX8 (some .boolean)) {post : Int32 → Mem → Prop} (he : EndQ g (oM v) (va_Qi post (fun S1 t => BX (oM v) S1 t) (AX (oM v)))) (y0 : Int32) (S : Mem) (h : w_X8_follows_35 post y0 S) : G g (oM v) 4 2 35 [] [.int y0, .ref (v.1 0)] S := by
  unfold w_X8_follows_35 at h
  refine g_callVv (n := 38) (As := [.int y0]) (rest := []) (c := 0) ok (c_X8_goOn l v y0 S _ h) cal_X8_goOn tw_827 tw_829 tp_77 (Nat.le_of_ble_eq_true rfl) rfl rfl (by decide) (by decide) rfl (Nat.le_of_ble_eq_true rfl) dX8_follows_35 rfl rfl (fun S1 h => ?_)
  refine g_iconst (v := 1) (n := 39) ok dX8_follows_38 rfl (by decide) ?_
  exact g_zret ok he (Or.inr rfl) h dX8_follows_39
def w_X8_follows_18 (post : Int32 → Mem → Prop) (S : Mem) : Prop := w_X8_isKey (9 : Int32) S (fun r1 S1 => ((r1 = 0 → w_X8_follows_35 post (11 : Int32) S1) ∧ (¬ r1 = 0 → w_X8_follows_35 post (10 : Int32) S1)))
set_option maxHeartbeats 4000000 in
set_option maxRecDepth 20000 in
theorem b_X8_follows_18 {v : VmT} {l : Launch} {g : CxT} (ok : Ok l g (oM v) 2 cX8_follows RX8 (some .boolean)) {post : Int32 → Mem → Prop} (he : EndQ g (oM v) (va_Qi post (fun S1 t => BX (oM v) S1 t) (AX (oM v)))) (S : Mem) (h : w_X8_follows_18 post  S) : G g (oM v) 4 2 18 [(0, .ref (v.1 0))] [] S := by
  unfold w_X8_follows_18 at h
  refine g_aload_n 0 (n := 19) ok dX8_follows_18 rfl rfl ?_
  refine g_aload_n 0 (n := 20) ok dX8_follows_19 rfl rfl ?_
  refine g_bipush (v := 9) (n := 22) ok dX8_follows_20 rfl (by decide) ?_
  refine g_callVi (n := 25) (As := [.int (9 : Int32)]) (rest := [.ref (v.1 0)]) (c := 0) ok (c_X8_isKey l v (9 : Int32) S _ h) cal_X8_isKey tw_788 tw_790 tp_68 (Nat.le_of_ble_eq_true rfl) rfl rfl (by decide) (by decide) rfl (Nat.le_of_ble_eq_true rfl) dX8_follows_22 rfl rfl (fun r1 S1 h => ?_)
  refine g_if_eq (t := 33) (n := 28) ok dX8_follows_25 (by decide) rfl (fun e2 => ?_) (fun e2 => ?_)
  · replace h := h.1 e2
    refine g_bipush (v := 11) (n := 35) ok dX8_follows_33 rfl (by decide) ?_
    exact g_sub [] rfl (b_X8_follows_35 ok he (11 : Int32) S1 h)
  · replace h := h.2 e2
    refine g_bipush (v := 10) (n := 30) ok dX8_follows_28 rfl (by decide) ?_
    refine g_goto (t := 35) ok dX8_follows_30 (by decide) ?_
    exact g_sub [] rfl (b_X8_follows_35 ok he (10 : Int32) S1 h)
def w_X8_follows_98 (post : Int32 → Mem → Prop) (y0 : Int32) (S : Mem) : Prop := w_X8_goOn y0 S (fun S1 => post (1 : Int32) S1)
set_option maxHeartbeats 4000000 in
set_option maxRecDepth 20000 in
theorem b_X8_follows_98 {v : VmT} {l : Launch} {g : CxT} (ok : Ok l g (oM v) 2 cX8_follows RX8 (some .boolean)) {post : Int32 → Mem → Prop} (he : EndQ g (oM v) (va_Qi post (fun S1 t => BX (oM v) S1 t) (AX (oM v)))) (y0 : Int32) (S : Mem) (h : w_X8_follows_98 post y0 S) : G g (oM v) 4 2 98 [] [.int y0, .ref (v.1 0)] S := by
  unfold w_X8_follows_98 at h
  refine g_callVv (n := 101) (As := [.int y0]) (rest := []) (c := 0) ok (c_X8_goOn l v y0 S _ h) cal_X8_goOn tw_827 tw_829 tp_77 (Nat.le_of_ble_eq_true rfl) rfl rfl (by decide) (by decide) rfl (Nat.le_of_ble_eq_true rfl) dX8_follows_98 rfl rfl (fun S1 h => ?_)
  refine g_iconst (v := 1) (n := 102) ok dX8_follows_101 rfl (by decide) ?_
  exact g_zret ok he (Or.inr rfl) h dX8_follows_102
def w_X8_follows_67 (post : Int32 → Mem → Prop) (S : Mem) : Prop := w_X8_isSign (43 : Int32) S (fun r1 S1 => ((r1 = 0 → w_X8_isSign (45 : Int32) S1 (fun r2 S2 => ((r2 = 0 → w_X8_follows_98 post (17 : Int32) S2) ∧ (¬ r2 = 0 → w_X8_follows_98 post (16 : Int32) S2)))) ∧ (¬ r1 = 0 → w_X8_follows_98 post (15 : Int32) S1)))
set_option maxHeartbeats 4000000 in
set_option maxRecDepth 20000 in
theorem b_X8_follows_67 {v : VmT} {l : Launch} {g : CxT} (ok : Ok l g (oM v) 2 cX8_follows RX8 (some .boolean)) {post : Int32 → Mem → Prop} (he : EndQ g (oM v) (va_Qi post (fun S1 t => BX (oM v) S1 t) (AX (oM v)))) (S : Mem) (h : w_X8_follows_67 post  S) : G g (oM v) 4 2 67 [(0, .ref (v.1 0))] [] S := by
  unfold w_X8_follows_67 at h
  refine g_aload_n 0 (n := 68) ok dX8_follows_67 rfl rfl ?_
  refine g_aload_n 0 (n := 69) ok dX8_follows_68 rfl rfl ?_
  refine g_bipush (v := 43) (n := 71) ok dX8_follows_69 rfl (by decide) ?_
  refine g_callVi (n := 74) (As := [.int (43 : Int32)]) (rest := [.ref (v.1 0)]) (c := 0) ok (c_X8_isSign l v (43 : Int32) S _ h) cal_X8_isSign tw_811 tw_813 tp_73 (Nat.le_of_ble_eq_true rfl) rfl rfl (by decide) (by decide) rfl (Nat.le_of_ble_eq_true rfl) dX8_follows_71 rfl rfl (fun r1 S1 h => ?_)
  refine g_if_eq (t := 82) (n := 77) ok dX8_follows_74 (by decide) rfl (fun e4 => ?_) (fun e4 => ?_)
  · replace h := h.1 e4
    refine g_aload_n 0 (n := 83) ok dX8_follows_82 rfl rfl ?_
    refine g_bipush (v := 45) (n := 85) ok dX8_follows_83 rfl (by decide) ?_
    refine g_callVi (n := 88) (As := [.int (45 : Int32)]) (rest := [.ref (v.1 0)]) (c := 0) ok (c_X8_isSign l v (45 : Int32) S1 _ h) cal_X8_isSign tw_811 tw_813 tp_73 (Nat.le_of_ble_eq_true rfl) rfl rfl (by decide) (by decide) rfl (Nat.le_of_ble_eq_true rfl) dX8_follows_85 rfl rfl (fun r2 S2 h => ?_)
    refine g_if_eq (t := 96) (n := 91) ok dX8_follows_88 (by decide) rfl (fun e3 => ?_) (fun e3 => ?_)
    · replace h := h.1 e3
      refine g_bipush (v := 17) (n := 98) ok dX8_follows_96 rfl (by decide) ?_
      exact g_sub [] rfl (b_X8_follows_98 ok he (17 : Int32) S2 h)
    · replace h := h.2 e3
      refine g_bipush (v := 16) (n := 93) ok dX8_follows_91 rfl (by decide) ?_
      refine g_goto (t := 98) ok dX8_follows_93 (by decide) ?_
      exact g_sub [] rfl (b_X8_follows_98 ok he (16 : Int32) S2 h)
  · replace h := h.2 e4
    refine g_bipush (v := 15) (n := 79) ok dX8_follows_77 rfl (by decide) ?_
    refine g_goto (t := 98) ok dX8_follows_79 (by decide) ?_
    exact g_sub [] rfl (b_X8_follows_98 ok he (15 : Int32) S1 h)
def w_X8_follows_158 (post : Int32 → Mem → Prop) (x1 : Int32) (S : Mem) : Prop := (x1 = 0 ∨ x1 = 1) ∧ post x1 S
set_option maxHeartbeats 4000000 in
set_option maxRecDepth 20000 in
theorem b_X8_follows_158 {v : VmT} {l : Launch} {g : CxT} (ok : Ok l g (oM v) 2 cX8_follows RX8 (some .boolean)) {post : Int32 → Mem → Prop} (he : EndQ g (oM v) (va_Qi post (fun S1 t => BX (oM v) S1 t) (AX (oM v)))) (x1 : Int32) (S : Mem) (h : w_X8_follows_158 post x1 S) : G g (oM v) 4 2 158 [(1, .int x1)] [] S := by
  unfold w_X8_follows_158 at h
  refine g_iload_n 0 (n := 159) ok dX8_follows_158 rfl rfl ?_
  exact g_zret ok he h.1 h.2 dX8_follows_159
def w_X8_follows_155 (post : Int32 → Mem → Prop) (x1 : Int32) (y0 : Int32) (S : Mem) : Prop := w_X8_goOn y0 S (fun S1 => w_X8_follows_158 post x1 S1)
set_option maxHeartbeats 4000000 in
set_option maxRecDepth 20000 in
theorem b_X8_follows_155 {v : VmT} {l : Launch} {g : CxT} (ok : Ok l g (oM v) 2 cX8_follows RX8 (some .boolean)) {post : Int32 → Mem → Prop} (he : EndQ g (oM v) (va_Qi post (fun S1 t => BX (oM v) S1 t) (AX (oM v)))) (x1 : Int32) (y0 : Int32) (S : Mem) (h : w_X8_follows_155 post x1 y0 S) : G g (oM v) 4 2 155 [(1, .int x1)] [.int y0, .ref (v.1 0)] S := by
  unfold w_X8_follows_155 at h
  refine g_callVv (n := 158) (As := [.int y0]) (rest := []) (c := 0) ok (c_X8_goOn l v y0 S _ h) cal_X8_goOn tw_827 tw_829 tp_77 (Nat.le_of_ble_eq_true rfl) rfl rfl (by decide) (by decide) rfl (Nat.le_of_ble_eq_true rfl) dX8_follows_155 rfl rfl (fun S1 h => ?_)
  exact g_sub [0] rfl (b_X8_follows_158 ok he x1 S1 h)
def w_X8_follows_133 (post : Int32 → Mem → Prop) (y0 : Int32) (S : Mem) : Prop := ((y0 = 0 → w_X8_follows_158 post y0 S) ∧ (¬ y0 = 0 → w_X8_isSign (60 : Int32) S (fun r1 S1 => ((r1 = 0 → w_X8_follows_155 post y0 (14 : Int32) S1) ∧ (¬ r1 = 0 → w_X8_follows_155 post y0 (13 : Int32) S1)))))
set_option maxHeartbeats 4000000 in
set_option maxRecDepth 20000 in
theorem b_X8_follows_133 {v : VmT} {l : Launch} {g : CxT} (ok : Ok l g (oM v) 2 cX8_follows RX8 (some .boolean)) {post : Int32 → Mem → Prop} (he : EndQ g (oM v) (va_Qi post (fun S1 t => BX (oM v) S1 t) (AX (oM v)))) (y0 : Int32) (S : Mem) (h : w_X8_follows_133 post y0 S) : G g (oM v) 4 2 133 [(0, .ref (v.1 0))] [.int y0] S := by
  unfold w_X8_follows_133 at h
  refine g_istore_n [(1, .int y0), (0, .ref (v.1 0))] (n := 134) ok dX8_follows_133 rfl (by decide) rfl ?_
  refine g_iload_n 0 (n := 135) ok dX8_follows_134 rfl rfl ?_
  refine g_if_eq (t := 158) (n := 138) ok dX8_follows_135 (by decide) rfl (fun e3 => ?_) (fun e3 => ?_)
  · replace h := h.1 e3
    exact g_sub [0] rfl (b_X8_follows_158 ok he y0 S h)
  · replace h := h.2 e3
    refine g_aload_n 1 (n := 139) ok dX8_follows_138 rfl rfl ?_
    refine g_aload_n 1 (n := 140) ok dX8_follows_139 rfl rfl ?_
    refine g_bipush (v := 60) (n := 142) ok dX8_follows_140 rfl (by decide) ?_
    refine g_callVi (n := 145) (As := [.int (60 : Int32)]) (rest := [.ref (v.1 0)]) (c := 0) ok (c_X8_isSign l v (60 : Int32) S _ h) cal_X8_isSign tw_811 tw_813 tp_73 (Nat.le_of_ble_eq_true rfl) rfl rfl (by decide) (by decide) rfl (Nat.le_of_ble_eq_true rfl) dX8_follows_142 rfl rfl (fun r1 S1 h => ?_)
    refine g_if_eq (t := 153) (n := 148) ok dX8_follows_145 (by decide) rfl (fun e2 => ?_) (fun e2 => ?_)
    · replace h := h.1 e2
      refine g_bipush (v := 14) (n := 155) ok dX8_follows_153 rfl (by decide) ?_
      exact g_sub [0] rfl (b_X8_follows_155 ok he y0 (14 : Int32) S1 h)
    · replace h := h.2 e2
      refine g_bipush (v := 13) (n := 150) ok dX8_follows_148 rfl (by decide) ?_
      refine g_goto (t := 155) ok dX8_follows_150 (by decide) ?_
      exact g_sub [0] rfl (b_X8_follows_155 ok he y0 (13 : Int32) S1 h)
def w_X8_follows_121 (post : Int32 → Mem → Prop) (S : Mem) : Prop := w_X8_hasCompared  S (fun r1 S1 => ((¬ r1 = 0 → w_X8_follows_133 post (0 : Int32) S1) ∧ (r1 = 0 → w_X8_follows_133 post (1 : Int32) S1)))
set_option maxHeartbeats 4000000 in
set_option maxRecDepth 20000 in
theorem b_X8_follows_121 {v : VmT} {l : Launch} {g : CxT} (ok : Ok l g (oM v) 2 cX8_follows RX8 (some .boolean)) {post : Int32 → Mem → Prop} (he : EndQ g (oM v) (va_Qi post (fun S1 t => BX (oM v) S1 t) (AX (oM v)))) (S : Mem) (h : w_X8_follows_121 post  S) : G g (oM v) 4 2 121 [(0, .ref (v.1 0))] [] S := by
  unfold w_X8_follows_121 at h
  refine g_aload_n 0 (n := 122) ok dX8_follows_121 rfl rfl ?_
  refine g_callVi (n := 125) (As := []) (rest := []) (c := 0) ok (c_X8_hasCompared l v  S _ h) cal_X8_hasCompared tw_831 tw_833 tp_78 (Nat.le_of_ble_eq_true rfl) rfl rfl (by decide) (by decide) rfl (Nat.le_of_ble_eq_true rfl) dX8_follows_122 rfl rfl (fun r1 S1 h => ?_)
  refine g_if_ne (t := 132) (n := 128) ok dX8_follows_125 (by decide) rfl (fun e2 => ?_) (fun e2 => ?_)
  · replace h := h.1 e2
    refine g_iconst (v := 0) (n := 133) ok dX8_follows_132 rfl (by decide) ?_
    exact g_sub [0] rfl (b_X8_follows_133 ok he (0 : Int32) S1 h)
  · replace h := h.2 e2
    refine g_iconst (v := 1) (n := 129) ok dX8_follows_128 rfl (by decide) ?_
    refine g_goto (t := 133) ok dX8_follows_129 (by decide) ?_
    exact g_sub [0] rfl (b_X8_follows_133 ok he (1 : Int32) S1 h)
def w_X8_follows_236 (post : Int32 → Mem → Prop) (S : Mem) : Prop := ((S 0 25) = 0 ∨ (S 0 25) = 1) ∧ post (S 0 25) S
set_option maxHeartbeats 4000000 in
set_option maxRecDepth 20000 in
theorem b_X8_follows_236 {v : VmT} {l : Launch} {g : CxT} (ok : Ok l g (oM v) 2 cX8_follows RX8 (some .boolean)) {post : Int32 → Mem → Prop} (he : EndQ g (oM v) (va_Qi post (fun S1 t => BX (oM v) S1 t) (AX (oM v)))) (S : Mem) (h : w_X8_follows_236 post  S) : G g (oM v) 4 2 236 [(0, .ref (v.1 0))] [] S := by
  unfold w_X8_follows_236 at h
  refine g_aload_n 0 (n := 237) ok dX8_follows_236 rfl rfl ?_
  refine fg_X8_X8_isDone (n := 240) ok dX8_follows_237 rfl ?_
  exact g_zret ok he h.1 h.2 dX8_follows_240
def w_X8_follows_221 (post : Int32 → Mem → Prop) (y0 : Int32) (S : Mem) : Prop := ((y0 = 0 ∨ y0 = 1) ∧ (∀ S1 : Mem, S1 = mset S 0 (upd (S 0) 25 y0) → (((S1 0 25) = 0 → w_X8_follows_236 post  S1) ∧ (¬ (S1 0 25) = 0 → w_X8_letGo (1 : Int32) S1 (fun S2 => w_X8_follows_236 post  S2)))))
set_option maxHeartbeats 4000000 in
set_option maxRecDepth 20000 in
theorem b_X8_follows_221 {v : VmT} {l : Launch} {g : CxT} (ok : Ok l g (oM v) 2 cX8_follows RX8 (some .boolean)) {post : Int32 → Mem → Prop} (he : EndQ g (oM v) (va_Qi post (fun S1 t => BX (oM v) S1 t) (AX (oM v)))) (y0 : Int32) (S : Mem) (h : w_X8_follows_221 post y0 S) : G g (oM v) 4 2 221 [(0, .ref (v.1 0))] [.int y0, .ref (v.1 0)] S := by
  unfold w_X8_follows_221 at h
  obtain ⟨h0, h⟩ := h
  refine fp_X8_X8_isDone (n := 224) ok h0 dX8_follows_221 rfl ?_
  refine g_mem (fun S1 eS1 => ?_)
  replace h := h S1 eS1
  refine g_aload_n 0 (n := 225) ok dX8_follows_224 rfl rfl ?_
  refine fg_X8_X8_isDone (n := 228) ok dX8_follows_225 rfl ?_
  refine g_if_eq (t := 236) (n := 231) ok dX8_follows_228 (by decide) rfl (fun e3 => ?_) (fun e3 => ?_)
  · replace h := h.1 e3
    exact g_sub [0] rfl (b_X8_follows_236 ok he  S1 h)
  · replace h := h.2 e3
    refine g_aload_n 0 (n := 232) ok dX8_follows_231 rfl rfl ?_
    refine g_iconst (v := 1) (n := 233) ok dX8_follows_232 rfl (by decide) ?_
    refine g_callVv (n := 236) (As := [.int (1 : Int32)]) (rest := []) (c := 0) ok (c_X8_letGo l v (1 : Int32) S1 _ h) cal_X8_letGo tw_804 tw_806 tp_72 (Nat.le_of_ble_eq_true rfl) rfl rfl (by decide) (by decide) rfl (Nat.le_of_ble_eq_true rfl) dX8_follows_233 rfl rfl (fun S2 h => ?_)
    exact g_sub [0] rfl (b_X8_follows_236 ok he  S2 h)
def w_X8_follows_220 (post : Int32 → Mem → Prop) (S : Mem) : Prop := w_X8_follows_221 post (0 : Int32) S
set_option maxHeartbeats 4000000 in
set_option maxRecDepth 20000 in
theorem b_X8_follows_220 {v : VmT} {l : Launch} {g : CxT} (ok : Ok l g (oM v) 2 cX8_follows RX8 (some .boolean)) {post : Int32 → Mem → Prop} (he : EndQ g (oM v) (va_Qi post (fun S1 t => BX (oM v) S1 t) (AX (oM v)))) (S : Mem) (h : w_X8_follows_220 post  S) : G g (oM v) 4 2 220 [(0, .ref (v.1 0))] [.ref (v.1 0)] S := by
  unfold w_X8_follows_220 at h
  refine g_iconst (v := 0) (n := 221) ok dX8_follows_220 rfl (by decide) ?_
  exact g_sub [0] rfl (b_X8_follows_221 ok he (0 : Int32) S h)
def w_X8_follows_199 (post : Int32 → Mem → Prop) (S : Mem) : Prop := w_X8_isSign (59 : Int32) S (fun r1 S1 => ((r1 = 0 → w_X8_follows_220 post  S1) ∧ (¬ r1 = 0 → w_X8_isBracketed  S1 (fun r2 S2 => ((¬ r2 = 0 → w_X8_follows_220 post  S2) ∧ (r2 = 0 → w_X8_follows_221 post (1 : Int32) S2))))))
set_option maxHeartbeats 4000000 in
set_option maxRecDepth 20000 in
theorem b_X8_follows_199 {v : VmT} {l : Launch} {g : CxT} (ok : Ok l g (oM v) 2 cX8_follows RX8 (some .boolean)) {post : Int32 → Mem → Prop} (he : EndQ g (oM v) (va_Qi post (fun S1 t => BX (oM v) S1 t) (AX (oM v)))) (S : Mem) (h : w_X8_follows_199 post  S) : G g (oM v) 4 2 199 [(0, .ref (v.1 0))] [] S := by
  unfold w_X8_follows_199 at h
  refine g_aload_n 0 (n := 200) ok dX8_follows_199 rfl rfl ?_
  refine g_aload_n 0 (n := 201) ok dX8_follows_200 rfl rfl ?_
  refine g_bipush (v := 59) (n := 203) ok dX8_follows_201 rfl (by decide) ?_
  refine g_callVi (n := 206) (As := [.int (59 : Int32)]) (rest := [.ref (v.1 0)]) (c := 0) ok (c_X8_isSign l v (59 : Int32) S _ h) cal_X8_isSign tw_811 tw_813 tp_73 (Nat.le_of_ble_eq_true rfl) rfl rfl (by decide) (by decide) rfl (Nat.le_of_ble_eq_true rfl) dX8_follows_203 rfl rfl (fun r1 S1 h => ?_)
  refine g_if_eq (t := 220) (n := 209) ok dX8_follows_206 (by decide) rfl (fun e4 => ?_) (fun e4 => ?_)
  · replace h := h.1 e4
    exact g_sub [0] rfl (b_X8_follows_220 ok he  S1 h)
  · replace h := h.2 e4
    refine g_aload_n 0 (n := 210) ok dX8_follows_209 rfl rfl ?_
    refine g_callVi (n := 213) (As := []) (rest := [.ref (v.1 0)]) (c := 0) ok (c_X8_isBracketed l v  S1 _ h) cal_X8_isBracketed tw_835 tw_837 tp_79 (Nat.le_of_ble_eq_true rfl) rfl rfl (by decide) (by decide) rfl (Nat.le_of_ble_eq_true rfl) dX8_follows_210 rfl rfl (fun r2 S2 h => ?_)
    refine g_if_ne (t := 220) (n := 216) ok dX8_follows_213 (by decide) rfl (fun e3 => ?_) (fun e3 => ?_)
    · replace h := h.1 e3
      exact g_sub [0] rfl (b_X8_follows_220 ok he  S2 h)
    · replace h := h.2 e3
      refine g_iconst (v := 1) (n := 217) ok dX8_follows_216 rfl (by decide) ?_
      refine g_goto (t := 221) ok dX8_follows_217 (by decide) ?_
      exact g_sub [0] rfl (b_X8_follows_221 ok he (1 : Int32) S2 h)
def w_X8_follows (S : Mem) (post : Int32 → Mem → Prop) : Prop := w_X8_isKey (9 : Int32) S (fun r1 S1 => ((¬ r1 = 0 → w_X8_follows_18 post  S1) ∧ (r1 = 0 → w_X8_isKey (10 : Int32) S1 (fun r2 S2 => ((r2 = 0 → w_X8_isSign (43 : Int32) S2 (fun r3 S3 => ((¬ r3 = 0 → w_X8_follows_67 post  S3) ∧ (r3 = 0 → w_X8_isSign (45 : Int32) S3 (fun r4 S4 => ((¬ r4 = 0 → w_X8_follows_67 post  S4) ∧ (r4 = 0 → w_X8_isSign (42 : Int32) S4 (fun r5 S5 => ((r5 = 0 → w_X8_isSign (60 : Int32) S5 (fun r6 S6 => ((¬ r6 = 0 → w_X8_follows_121 post  S6) ∧ (r6 = 0 → w_X8_isSign (61 : Int32) S6 (fun r7 S7 => ((r7 = 0 → w_X8_isSign (41 : Int32) S7 (fun r8 S8 => ((r8 = 0 → w_X8_follows_199 post  S8) ∧ (¬ r8 = 0 → w_X8_isBracketed  S8 (fun r9 S9 => ((r9 = 0 → w_X8_follows_199 post  S9) ∧ (¬ r9 = 0 → w_X8_letGo (1 : Int32) S9 (fun S10 => (∀ S11 : Mem, S11 = mset S10 0 (upd (S10 0) 24 ((S10 0 24) - (1 : Int32))) → w_X8_letGo (7 : Int32) S11 (fun S12 => post (1 : Int32) S12)))))))))) ∧ (¬ r7 = 0 → w_X8_follows_121 post  S7))))))) ∧ (¬ r5 = 0 → w_X8_follows_67 post  S5)))))))))) ∧ (¬ r2 = 0 → w_X8_follows_18 post  S2))))))
set_option maxHeartbeats 4000000 in
set_option maxRecDepth 20000 in
theorem c_X8_follows (l : Launch) (v : VmT) (S : Mem) (post : Int32 → Mem → Prop) (h : w_X8_follows  S post) : MI l yX8_follows cX8_follows 2 (some .boolean) 4 (oM v) [.ref (v.1 0)] S post := by
  refine met_start (by decide +kernel) (Nat.le_of_ble_eq_true rfl) (fun g ok he => ?_)
  refine g_eq (L' := [(0, .ref (v.1 0))]) (st' := []) ?_ rfl rfl
  unfold w_X8_follows at h
  refine g_aload_n 0 (n := 1) ok dX8_follows_0 rfl rfl ?_
  refine g_bipush (v := 9) (n := 3) ok dX8_follows_1 rfl (by decide) ?_
  refine g_callVi (n := 6) (As := [.int (9 : Int32)]) (rest := []) (c := 0) ok (c_X8_isKey l v (9 : Int32) S _ h) cal_X8_isKey tw_788 tw_790 tp_68 (Nat.le_of_ble_eq_true rfl) rfl rfl (by decide) (by decide) rfl (Nat.le_of_ble_eq_true rfl) dX8_follows_3 rfl rfl (fun r1 S1 h => ?_)
  refine g_if_ne (t := 18) (n := 9) ok dX8_follows_6 (by decide) rfl (fun e21 => ?_) (fun e21 => ?_)
  · replace h := h.1 e21
    exact g_sub [0] rfl (b_X8_follows_18 ok he  S1 h)
  · replace h := h.2 e21
    refine g_aload_n 0 (n := 10) ok dX8_follows_9 rfl rfl ?_
    refine g_bipush (v := 10) (n := 12) ok dX8_follows_10 rfl (by decide) ?_
    refine g_callVi (n := 15) (As := [.int (10 : Int32)]) (rest := []) (c := 0) ok (c_X8_isKey l v (10 : Int32) S1 _ h) cal_X8_isKey tw_788 tw_790 tp_68 (Nat.le_of_ble_eq_true rfl) rfl rfl (by decide) (by decide) rfl (Nat.le_of_ble_eq_true rfl) dX8_follows_12 rfl rfl (fun r2 S2 h => ?_)
    refine g_if_eq (t := 40) (n := 18) ok dX8_follows_15 (by decide) rfl (fun e20 => ?_) (fun e20 => ?_)
    · replace h := h.1 e20
      refine g_aload_n 0 (n := 41) ok dX8_follows_40 rfl rfl ?_
      refine g_bipush (v := 43) (n := 43) ok dX8_follows_41 rfl (by decide) ?_
      refine g_callVi (n := 46) (As := [.int (43 : Int32)]) (rest := []) (c := 0) ok (c_X8_isSign l v (43 : Int32) S2 _ h) cal_X8_isSign tw_811 tw_813 tp_73 (Nat.le_of_ble_eq_true rfl) rfl rfl (by decide) (by decide) rfl (Nat.le_of_ble_eq_true rfl) dX8_follows_43 rfl rfl (fun r3 S3 h => ?_)
      refine g_if_ne (t := 67) (n := 49) ok dX8_follows_46 (by decide) rfl (fun e19 => ?_) (fun e19 => ?_)
      · replace h := h.1 e19
        exact g_sub [0] rfl (b_X8_follows_67 ok he  S3 h)
      · replace h := h.2 e19
        refine g_aload_n 0 (n := 50) ok dX8_follows_49 rfl rfl ?_
        refine g_bipush (v := 45) (n := 52) ok dX8_follows_50 rfl (by decide) ?_
        refine g_callVi (n := 55) (As := [.int (45 : Int32)]) (rest := []) (c := 0) ok (c_X8_isSign l v (45 : Int32) S3 _ h) cal_X8_isSign tw_811 tw_813 tp_73 (Nat.le_of_ble_eq_true rfl) rfl rfl (by decide) (by decide) rfl (Nat.le_of_ble_eq_true rfl) dX8_follows_52 rfl rfl (fun r4 S4 h => ?_)
        refine g_if_ne (t := 67) (n := 58) ok dX8_follows_55 (by decide) rfl (fun e18 => ?_) (fun e18 => ?_)
        · replace h := h.1 e18
          exact g_sub [0] rfl (b_X8_follows_67 ok he  S4 h)
        · replace h := h.2 e18
          refine g_aload_n 0 (n := 59) ok dX8_follows_58 rfl rfl ?_
          refine g_bipush (v := 42) (n := 61) ok dX8_follows_59 rfl (by decide) ?_
          refine g_callVi (n := 64) (As := [.int (42 : Int32)]) (rest := []) (c := 0) ok (c_X8_isSign l v (42 : Int32) S4 _ h) cal_X8_isSign tw_811 tw_813 tp_73 (Nat.le_of_ble_eq_true rfl) rfl rfl (by decide) (by decide) rfl (Nat.le_of_ble_eq_true rfl) dX8_follows_61 rfl rfl (fun r5 S5 h => ?_)
          refine g_if_eq (t := 103) (n := 67) ok dX8_follows_64 (by decide) rfl (fun e17 => ?_) (fun e17 => ?_)
          · replace h := h.1 e17
            refine g_aload_n 0 (n := 104) ok dX8_follows_103 rfl rfl ?_
            refine g_bipush (v := 60) (n := 106) ok dX8_follows_104 rfl (by decide) ?_
            refine g_callVi (n := 109) (As := [.int (60 : Int32)]) (rest := []) (c := 0) ok (c_X8_isSign l v (60 : Int32) S5 _ h) cal_X8_isSign tw_811 tw_813 tp_73 (Nat.le_of_ble_eq_true rfl) rfl rfl (by decide) (by decide) rfl (Nat.le_of_ble_eq_true rfl) dX8_follows_106 rfl rfl (fun r6 S6 h => ?_)
            refine g_if_ne (t := 121) (n := 112) ok dX8_follows_109 (by decide) rfl (fun e16 => ?_) (fun e16 => ?_)
            · replace h := h.1 e16
              exact g_sub [0] rfl (b_X8_follows_121 ok he  S6 h)
            · replace h := h.2 e16
              refine g_aload_n 0 (n := 113) ok dX8_follows_112 rfl rfl ?_
              refine g_bipush (v := 61) (n := 115) ok dX8_follows_113 rfl (by decide) ?_
              refine g_callVi (n := 118) (As := [.int (61 : Int32)]) (rest := []) (c := 0) ok (c_X8_isSign l v (61 : Int32) S6 _ h) cal_X8_isSign tw_811 tw_813 tp_73 (Nat.le_of_ble_eq_true rfl) rfl rfl (by decide) (by decide) rfl (Nat.le_of_ble_eq_true rfl) dX8_follows_115 rfl rfl (fun r7 S7 h => ?_)
              refine g_if_eq (t := 160) (n := 121) ok dX8_follows_118 (by decide) rfl (fun e15 => ?_) (fun e15 => ?_)
              · replace h := h.1 e15
                refine g_aload_n 0 (n := 161) ok dX8_follows_160 rfl rfl ?_
                refine g_bipush (v := 41) (n := 163) ok dX8_follows_161 rfl (by decide) ?_
                refine g_callVi (n := 166) (As := [.int (41 : Int32)]) (rest := []) (c := 0) ok (c_X8_isSign l v (41 : Int32) S7 _ h) cal_X8_isSign tw_811 tw_813 tp_73 (Nat.le_of_ble_eq_true rfl) rfl rfl (by decide) (by decide) rfl (Nat.le_of_ble_eq_true rfl) dX8_follows_163 rfl rfl (fun r8 S8 h => ?_)
                refine g_if_eq (t := 199) (n := 169) ok dX8_follows_166 (by decide) rfl (fun e14 => ?_) (fun e14 => ?_)
                · replace h := h.1 e14
                  exact g_sub [0] rfl (b_X8_follows_199 ok he  S8 h)
                · replace h := h.2 e14
                  refine g_aload_n 0 (n := 170) ok dX8_follows_169 rfl rfl ?_
                  refine g_callVi (n := 173) (As := []) (rest := []) (c := 0) ok (c_X8_isBracketed l v  S8 _ h) cal_X8_isBracketed tw_835 tw_837 tp_79 (Nat.le_of_ble_eq_true rfl) rfl rfl (by decide) (by decide) rfl (Nat.le_of_ble_eq_true rfl) dX8_follows_170 rfl rfl (fun r9 S9 h => ?_)
                  refine g_if_eq (t := 199) (n := 176) ok dX8_follows_173 (by decide) rfl (fun e13 => ?_) (fun e13 => ?_)
                  · replace h := h.1 e13
                    exact g_sub [0] rfl (b_X8_follows_199 ok he  S9 h)
                  · replace h := h.2 e13
                    refine g_aload_n 0 (n := 177) ok dX8_follows_176 rfl rfl ?_
                    refine g_iconst (v := 1) (n := 178) ok dX8_follows_177 rfl (by decide) ?_
                    refine g_callVv (n := 181) (As := [.int (1 : Int32)]) (rest := []) (c := 0) ok (c_X8_letGo l v (1 : Int32) S9 _ h) cal_X8_letGo tw_804 tw_806 tp_72 (Nat.le_of_ble_eq_true rfl) rfl rfl (by decide) (by decide) rfl (Nat.le_of_ble_eq_true rfl) dX8_follows_178 rfl rfl (fun S10 h => ?_)
                    refine g_aload_n 0 (n := 182) ok dX8_follows_181 rfl rfl ?_
                    refine g_dup (n := 183) ok dX8_follows_182 rfl rfl ?_
                    refine fg_X8_X8_waitMany (n := 186) ok dX8_follows_183 rfl ?_
                    refine g_iconst (v := 1) (n := 187) ok dX8_follows_186 rfl (by decide) ?_
                    refine g_isub (n := 188) ok dX8_follows_187 rfl ?_
                    refine fp_X8_X8_waitMany (n := 191) ok dX8_follows_188 rfl ?_
                    refine g_mem (fun S11 eS11 => ?_)
                    replace h := h S11 eS11
                    refine g_aload_n 0 (n := 192) ok dX8_follows_191 rfl rfl ?_
                    refine g_bipush (v := 7) (n := 194) ok dX8_follows_192 rfl (by decide) ?_
                    refine g_callVv (n := 197) (As := [.int (7 : Int32)]) (rest := []) (c := 0) ok (c_X8_letGo l v (7 : Int32) S11 _ h) cal_X8_letGo tw_804 tw_806 tp_72 (Nat.le_of_ble_eq_true rfl) rfl rfl (by decide) (by decide) rfl (Nat.le_of_ble_eq_true rfl) dX8_follows_194 rfl rfl (fun S12 h => ?_)
                    refine g_iconst (v := 1) (n := 198) ok dX8_follows_197 rfl (by decide) ?_
                    exact g_zret ok he (Or.inr rfl) h dX8_follows_198
              · replace h := h.2 e15
                exact g_sub [0] rfl (b_X8_follows_121 ok he  S7 h)
          · replace h := h.2 e17
            exact g_sub [0] rfl (b_X8_follows_67 ok he  S5 h)
    · replace h := h.2 e20
      exact g_sub [0] rfl (b_X8_follows_18 ok he  S2 h)
def w_X8_readOne_55 (K22 : Int32 → Mem → Prop) (post : Int32 → Mem → Prop) (y0 : Int32) (S : Mem) : Prop := K22 y0 S
set_option maxHeartbeats 4000000 in
set_option maxRecDepth 20000 in
theorem b_X8_readOne_55 {v : VmT} {l : Launch} {g : CxT} {K22 : Int32 → Mem → Prop} (ok : Ok l g (oM v) 2 cX8_readOne RX8 (some .boolean)) (hK22 : ∀ (x1 : Int32) (S : Mem), K22 x1 S → G g (oM v) 5 2 22 [(0, .ref (v.1 0)), (1, .int x1)] [] S) {post : Int32 → Mem → Prop} (he : EndQ g (oM v) (va_Qi post (fun S1 t => BX (oM v) S1 t) (AX (oM v)))) (y0 : Int32) (S : Mem) (h : w_X8_readOne_55 K22 post y0 S) : G g (oM v) 5 2 55 [(0, .ref (v.1 0))] [.int y0] S := by
  unfold w_X8_readOne_55 at h
  refine g_istore_n [(1, .int y0), (0, .ref (v.1 0))] (n := 56) ok dX8_readOne_55 rfl (by decide) rfl ?_
  refine g_goto (t := 22) ok dX8_readOne_56 (by decide) ?_
  exact g_sub [1, 0] rfl (hK22 y0 S h)
def w_X8_readOne_59 (post : Int32 → Mem → Prop) (x1 : Int32) (S : Mem) : Prop := (x1 = 0 ∨ x1 = 1) ∧ post x1 S
set_option maxHeartbeats 4000000 in
set_option maxRecDepth 20000 in
theorem b_X8_readOne_59 {v : VmT} {l : Launch} {g : CxT} (ok : Ok l g (oM v) 2 cX8_readOne RX8 (some .boolean)) {post : Int32 → Mem → Prop} (he : EndQ g (oM v) (va_Qi post (fun S1 t => BX (oM v) S1 t) (AX (oM v)))) (x1 : Int32) (S : Mem) (h : w_X8_readOne_59 post x1 S) : G g (oM v) 5 2 59 [(1, .int x1)] [] S := by
  unfold w_X8_readOne_59 at h
  refine g_iload_n 0 (n := 60) ok dX8_readOne_59 rfl rfl ?_
  exact g_zret ok he h.1 h.2 dX8_readOne_60
def w_X8_readOne_22 (post : Int32 → Mem → Prop) : Nat → Int32 → Mem → Prop
  | 0, _, _ => False
  | n + 1, x1, S => ((x1 = 0 → w_X8_readOne_59 post x1 S) ∧ (¬ x1 = 0 → ((¬ (S 0 25) = 0 → w_X8_readOne_59 post x1 S) ∧ ((S 0 25) = 0 → w_X8_readToken  S (fun S1 => (((S1 0 26) = 0 → w_X8_follows  S1 (fun r2 S2 => w_X8_readOne_55 (w_X8_readOne_22 post n) post r2 S2)) ∧ (¬ (S1 0 26) = 0 → w_X8_begins  S1 (fun r3 S3 => w_X8_readOne_55 (w_X8_readOne_22 post n) post r3 S3))))))))
set_option maxHeartbeats 4000000 in
set_option maxRecDepth 20000 in
theorem b_X8_readOne_22 {v : VmT} {l : Launch} {g : CxT} (ok : Ok l g (oM v) 2 cX8_readOne RX8 (some .boolean)) {post : Int32 → Mem → Prop} (he : EndQ g (oM v) (va_Qi post (fun S1 t => BX (oM v) S1 t) (AX (oM v)))) : ∀ (n : Nat) (x1 : Int32) (S : Mem), w_X8_readOne_22 post n x1 S → G g (oM v) 5 2 22 [(0, .ref (v.1 0)), (1, .int x1)] [] S := by
  intro n
  induction n with
  | zero =>
    intro x1 S h
    exact h.elim
  | succ n ih =>
    intro x1 S h
    rw [w_X8_readOne_22] at h
    refine g_iload_n 1 (n := 23) ok dX8_readOne_22 rfl rfl ?_
    refine g_if_eq (t := 59) (n := 26) ok dX8_readOne_23 (by decide) rfl (fun e6 => ?_) (fun e6 => ?_)
    · replace h := h.1 e6
      exact g_sub [1] rfl (b_X8_readOne_59 ok he x1 S h)
    · replace h := h.2 e6
      refine g_aload_n 0 (n := 27) ok dX8_readOne_26 rfl rfl ?_
      refine fg_X8_X8_isDone (n := 30) ok dX8_readOne_27 rfl ?_
      refine g_if_ne (t := 59) (n := 33) ok dX8_readOne_30 (by decide) rfl (fun e5 => ?_) (fun e5 => ?_)
      · replace h := h.1 e5
        exact g_sub [1] rfl (b_X8_readOne_59 ok he x1 S h)
      · replace h := h.2 e5
        refine g_aload_n 0 (n := 34) ok dX8_readOne_33 rfl rfl ?_
        refine g_callVv (n := 37) (As := []) (rest := []) (c := 0) ok (c_X8_readToken l v  S _ h) cal_X8_readToken tw_761 tw_763 tp_63 (Nat.le_of_ble_eq_true rfl) rfl rfl (by decide) (by decide) rfl (Nat.le_of_ble_eq_true rfl) dX8_readOne_34 rfl rfl (fun S1 h => ?_)
        refine g_aload_n 0 (n := 38) ok dX8_readOne_37 rfl rfl ?_
        refine fg_X8_X8_wantsOne (n := 41) ok dX8_readOne_38 rfl ?_
        refine g_if_eq (t := 51) (n := 44) ok dX8_readOne_41 (by decide) rfl (fun e4 => ?_) (fun e4 => ?_)
        · replace h := h.1 e4
          refine g_aload_n 0 (n := 52) ok dX8_readOne_51 rfl rfl ?_
          refine g_callVi (n := 55) (As := []) (rest := []) (c := 0) ok (c_X8_follows l v  S1 _ h) cal_X8_follows tw_823 tw_825 tp_76 (Nat.le_of_ble_eq_true rfl) rfl rfl (by decide) (by decide) rfl (Nat.le_of_ble_eq_true rfl) dX8_readOne_52 rfl rfl (fun r2 S2 h => ?_)
          exact g_sub [0] rfl (b_X8_readOne_55 ok ih he r2 S2 h)
        · replace h := h.2 e4
          refine g_aload_n 0 (n := 45) ok dX8_readOne_44 rfl rfl ?_
          refine g_callVi (n := 48) (As := []) (rest := []) (c := 0) ok (c_X8_begins l v  S1 _ h) cal_X8_begins tw_796 tw_798 tp_70 (Nat.le_of_ble_eq_true rfl) rfl rfl (by decide) (by decide) rfl (Nat.le_of_ble_eq_true rfl) dX8_readOne_45 rfl rfl (fun r3 S3 h => ?_)
          refine g_goto (t := 55) ok dX8_readOne_48 (by decide) ?_
          exact g_sub [0] rfl (b_X8_readOne_55 ok ih he r3 S3 h)
def w_X8_readOne (S : Mem) (post : Int32 → Mem → Prop) : Prop := (∀ S1 : Mem, S1 = mset S 0 (upd (S 0) 24 (0 : Int32)) → (∀ S2 : Mem, S2 = mset S1 0 (upd (S1 0) 25 (0 : Int32)) → (∀ S3 : Mem, S3 = mset S2 0 (upd (S2 0) 26 (1 : Int32)) → (∀ S4 : Mem, S4 = mset S3 0 (upd (S3 0) 27 (1 : Int32)) → ∃ n, w_X8_readOne_22 post n (1 : Int32) S4))))
set_option maxHeartbeats 4000000 in
set_option maxRecDepth 20000 in
theorem c_X8_readOne (l : Launch) (v : VmT) (S : Mem) (post : Int32 → Mem → Prop) (h : w_X8_readOne  S post) : MI l yX8_readOne cX8_readOne 2 (some .boolean) 5 (oM v) [.ref (v.1 0)] S post := by
  refine met_start (by decide +kernel) (Nat.le_of_ble_eq_true rfl) (fun g ok he => ?_)
  refine g_eq (L' := [(0, .ref (v.1 0))]) (st' := []) ?_ rfl rfl
  unfold w_X8_readOne at h
  refine g_aload_n 0 (n := 1) ok dX8_readOne_0 rfl rfl ?_
  refine g_iconst (v := 0) (n := 2) ok dX8_readOne_1 rfl (by decide) ?_
  refine fp_X8_X8_waitMany (n := 5) ok dX8_readOne_2 rfl ?_
  refine g_mem (fun S1 eS1 => ?_)
  replace h := h S1 eS1
  refine g_aload_n 0 (n := 6) ok dX8_readOne_5 rfl rfl ?_
  refine g_iconst (v := 0) (n := 7) ok dX8_readOne_6 rfl (by decide) ?_
  refine fp_X8_X8_isDone (n := 10) ok (Or.inl rfl) dX8_readOne_7 rfl ?_
  refine g_mem (fun S2 eS2 => ?_)
  replace h := h S2 eS2
  refine g_aload_n 0 (n := 11) ok dX8_readOne_10 rfl rfl ?_
  refine g_iconst (v := 1) (n := 12) ok dX8_readOne_11 rfl (by decide) ?_
  refine fp_X8_X8_wantsOne (n := 15) ok (Or.inr rfl) dX8_readOne_12 rfl ?_
  refine g_mem (fun S3 eS3 => ?_)
  replace h := h S3 eS3
  refine g_aload_n 0 (n := 16) ok dX8_readOne_15 rfl rfl ?_
  refine g_iconst (v := 1) (n := 17) ok dX8_readOne_16 rfl (by decide) ?_
  refine fp_X8_X8_mayNot (n := 20) ok (Or.inr rfl) dX8_readOne_17 rfl ?_
  refine g_mem (fun S4 eS4 => ?_)
  replace h := h S4 eS4
  refine g_iconst (v := 1) (n := 21) ok dX8_readOne_20 rfl (by decide) ?_
  refine g_istore_n [(1, .int (1 : Int32)), (0, .ref (v.1 0))] (n := 22) ok dX8_readOne_21 rfl (by decide) rfl ?_
  obtain ⟨n0, h⟩ := h
  exact g_sub [1, 0] rfl (b_X8_readOne_22 ok he n0 (1 : Int32) S4 h)
def w_X8_readText_108 (post : Int32 → Mem → Prop) (y0 : Int32) (S : Mem) : Prop := post y0 S
set_option maxHeartbeats 4000000 in
set_option maxRecDepth 20000 in
theorem b_X8_readText_108 {v : VmT} {l : Launch} {g : CxT} (ok : Ok l g (oM v) 2 cX8_readText RX8 (some .int)) {post : Int32 → Mem → Prop} (he : EndQ g (oM v) (va_Qi post (fun S1 t => BX (oM v) S1 t) (AX (oM v)))) (y0 : Int32) (S : Mem) (h : w_X8_readText_108 post y0 S) : G g (oM v) 6 2 108 [] [.int y0] S := by
  unfold w_X8_readText_108 at h
  exact g_iret ok he h dX8_readText_108
def w_X8_readText_12 (post : Int32 → Mem → Prop) : Nat → Int32 → Mem → Prop
  | 0, _, _ => False
  | n + 1, x1, S => (((3 : Int32) ≤ x1 → (vp_in (((4 : Int32) * (S 0 14)) + (3 : Int32)) 24 ∧ (∀ S1 : Mem, S1 = mset S 10 (upd (S 10) (((4 : Int32) * (S 0 14)) + (3 : Int32)).toNatClampNeg (S 0 22)) → w_X8_readToken  S1 (fun S2 => ((¬ (S2 0 16) = 0 → w_X8_readText_108 post (S2 0 17) S2) ∧ ((S2 0 16) = 0 → w_X8_readText_108 post (-1 : Int32) S2)))))) ∧ (¬ (3 : Int32) ≤ x1 → w_X8_readToken  S (fun S4 => w_X8_isKey ((6 : Int32) + x1) S4 (fun r5 S5 => ((¬ r5 = 0 → (vp_in (((4 : Int32) * (S5 0 14)) + x1) 24 ∧ (∀ S6 : Mem, S6 = mset S5 10 (upd (S5 10) (((4 : Int32) * (S5 0 14)) + x1).toNatClampNeg (S5 0 22)) → w_X8_readOne  S6 (fun r7 S7 => ((¬ r7 = 0 → (∀ z8 : Int32, z8 = x1 + 1 → w_X8_readText_12 post n z8 S7)) ∧ (r7 = 0 → post (S7 0 17) S7)))))) ∧ (r5 = 0 → post (S5 0 17) S5))))))
set_option maxHeartbeats 4000000 in
set_option maxRecDepth 20000 in
theorem b_X8_readText_12 {v : VmT} {l : Launch} {g : CxT} (ok : Ok l g (oM v) 2 cX8_readText RX8 (some .int)) {post : Int32 → Mem → Prop} (he : EndQ g (oM v) (va_Qi post (fun S1 t => BX (oM v) S1 t) (AX (oM v)))) : ∀ (n : Nat) (x1 : Int32) (S : Mem), w_X8_readText_12 post n x1 S → G g (oM v) 6 2 12 [(0, .ref (v.1 0)), (1, .int x1)] [] S := by
  intro n
  induction n with
  | zero =>
    intro x1 S h
    exact h.elim
  | succ n ih =>
    intro x1 S h
    rw [w_X8_readText_12] at h
    refine g_iload_n 1 (n := 13) ok dX8_readText_12 rfl rfl ?_
    refine g_iconst (v := 3) (n := 14) ok dX8_readText_13 rfl (by decide) ?_
    refine g_icmp_ge (t := 72) (n := 17) ok dX8_readText_14 (by decide) rfl (fun e11 => ?_) (fun e11 => ?_)
    · replace h := h.1 e11
      refine g_aload_n 0 (n := 73) ok dX8_readText_72 rfl rfl ?_
      refine fg_X8_X8_bounds (n := 76) ok dX8_readText_73 rfl ?_
      refine g_iconst (v := 4) (n := 77) ok dX8_readText_76 rfl (by decide) ?_
      refine g_aload_n 0 (n := 78) ok dX8_readText_77 rfl rfl ?_
      refine fg_X8_X8_textMany (n := 81) ok dX8_readText_78 rfl ?_
      refine g_imul (n := 82) ok dX8_readText_81 rfl ?_
      refine g_iconst (v := 3) (n := 83) ok dX8_readText_82 rfl (by decide) ?_
      refine g_iadd (n := 84) ok dX8_readText_83 rfl ?_
      refine g_aload_n 0 (n := 85) ok dX8_readText_84 rfl rfl ?_
      refine fg_X8_X8_stepMany (n := 88) ok dX8_readText_85 rfl ?_
      obtain ⟨h0, h⟩ := h
      refine g_iast (c := 10) (t0 := 0) (n := 89) ok (Nat.le_of_ble_eq_true rfl) (fun _ => rfl) rfl h0 dX8_readText_88 rfl ?_
      refine g_mem (fun S1 eS1 => ?_)
      replace h := h S1 eS1
      refine g_aload_n 0 (n := 90) ok dX8_readText_89 rfl rfl ?_
      refine g_callVv (n := 93) (As := []) (rest := []) (c := 0) ok (c_X8_readToken l v  S1 _ h) cal_X8_readToken tw_761 tw_763 tp_63 (Nat.le_of_ble_eq_true rfl) rfl rfl (by decide) (by decide) rfl (Nat.le_of_ble_eq_true rfl) dX8_readText_90 rfl rfl (fun S2 h => ?_)
      refine g_aload_n 0 (n := 94) ok dX8_readText_93 rfl rfl ?_
      refine fg_X8_X8_token (n := 97) ok dX8_readText_94 rfl ?_
      refine g_if_ne (t := 104) (n := 100) ok dX8_readText_97 (by decide) rfl (fun e3 => ?_) (fun e3 => ?_)
      · replace h := h.1 e3
        refine g_aload_n 0 (n := 105) ok dX8_readText_104 rfl rfl ?_
        refine fg_X8_X8_tokenAt (n := 108) ok dX8_readText_105 rfl ?_
        exact g_sub [] rfl (b_X8_readText_108 ok he (S2 0 17) S2 h)
      · replace h := h.2 e3
        refine g_iconst (v := -1) (n := 101) ok dX8_readText_100 rfl (by decide) ?_
        refine g_goto (t := 108) ok dX8_readText_101 (by decide) ?_
        exact g_sub [] rfl (b_X8_readText_108 ok he (-1 : Int32) S2 h)
    · replace h := h.2 e11
      refine g_aload_n 0 (n := 18) ok dX8_readText_17 rfl rfl ?_
      refine g_callVv (n := 21) (As := []) (rest := []) (c := 0) ok (c_X8_readToken l v  S _ h) cal_X8_readToken tw_761 tw_763 tp_63 (Nat.le_of_ble_eq_true rfl) rfl rfl (by decide) (by decide) rfl (Nat.le_of_ble_eq_true rfl) dX8_readText_18 rfl rfl (fun S4 h => ?_)
      refine g_aload_n 0 (n := 22) ok dX8_readText_21 rfl rfl ?_
      refine g_bipush (v := 6) (n := 24) ok dX8_readText_22 rfl (by decide) ?_
      refine g_iload_n 1 (n := 25) ok dX8_readText_24 rfl rfl ?_
      refine g_iadd (n := 26) ok dX8_readText_25 rfl ?_
      refine g_callVi (n := 29) (As := [.int ((6 : Int32) + x1)]) (rest := []) (c := 0) ok (c_X8_isKey l v ((6 : Int32) + x1) S4 _ h) cal_X8_isKey tw_788 tw_790 tp_68 (Nat.le_of_ble_eq_true rfl) rfl rfl (by decide) (by decide) rfl (Nat.le_of_ble_eq_true rfl) dX8_readText_26 rfl rfl (fun r5 S5 h => ?_)
      refine g_if_ne (t := 37) (n := 32) ok dX8_readText_29 (by decide) rfl (fun e10 => ?_) (fun e10 => ?_)
      · replace h := h.1 e10
        refine g_aload_n 0 (n := 38) ok dX8_readText_37 rfl rfl ?_
        refine fg_X8_X8_bounds (n := 41) ok dX8_readText_38 rfl ?_
        refine g_iconst (v := 4) (n := 42) ok dX8_readText_41 rfl (by decide) ?_
        refine g_aload_n 0 (n := 43) ok dX8_readText_42 rfl rfl ?_
        refine fg_X8_X8_textMany (n := 46) ok dX8_readText_43 rfl ?_
        refine g_imul (n := 47) ok dX8_readText_46 rfl ?_
        refine g_iload_n 1 (n := 48) ok dX8_readText_47 rfl rfl ?_
        refine g_iadd (n := 49) ok dX8_readText_48 rfl ?_
        refine g_aload_n 0 (n := 50) ok dX8_readText_49 rfl rfl ?_
        refine fg_X8_X8_stepMany (n := 53) ok dX8_readText_50 rfl ?_
        obtain ⟨h0, h⟩ := h
        refine g_iast (c := 10) (t0 := 0) (n := 54) ok (Nat.le_of_ble_eq_true rfl) (fun _ => rfl) rfl h0 dX8_readText_53 rfl ?_
        refine g_mem (fun S6 eS6 => ?_)
        replace h := h S6 eS6
        refine g_aload_n 0 (n := 55) ok dX8_readText_54 rfl rfl ?_
        refine g_callVi (n := 58) (As := []) (rest := []) (c := 0) ok (c_X8_readOne l v  S6 _ h) cal_X8_readOne tw_792 tw_794 tp_69 (Nat.le_of_ble_eq_true rfl) rfl rfl (by decide) (by decide) rfl (Nat.le_of_ble_eq_true rfl) dX8_readText_55 rfl rfl (fun r7 S7 h => ?_)
        refine g_if_ne (t := 66) (n := 61) ok dX8_readText_58 (by decide) rfl (fun e9 => ?_) (fun e9 => ?_)
        · replace h := h.1 e9
          obtain ⟨z8, ez8⟩ : ∃ y : Int32, y = x1 + 1 := ⟨_, rfl⟩
          replace h := h z8 ez8
          refine g_iinc 1 [(1, .int z8), (0, .ref (v.1 0))] (v := z8) (n := 69) ok dX8_readText_66 rfl rfl (by rw [ez8]; rfl) (by decide) rfl ?_
          refine g_goto (t := 12) ok dX8_readText_69 (by decide) ?_
          exact g_sub [1, 0] rfl (ih z8 S7 h)
        · replace h := h.2 e9
          refine g_aload_n 0 (n := 62) ok dX8_readText_61 rfl rfl ?_
          refine fg_X8_X8_tokenAt (n := 65) ok dX8_readText_62 rfl ?_
          exact g_iret ok he h dX8_readText_65
      · replace h := h.2 e10
        refine g_aload_n 0 (n := 33) ok dX8_readText_32 rfl rfl ?_
        refine fg_X8_X8_tokenAt (n := 36) ok dX8_readText_33 rfl ?_
        exact g_iret ok he h dX8_readText_36
def w_X8_readText (S : Mem) (post : Int32 → Mem → Prop) : Prop := (∀ S1 : Mem, S1 = mset S 0 (upd (S 0) 19 (0 : Int32)) → (∀ S2 : Mem, S2 = mset S1 0 (upd (S1 0) 22 (0 : Int32)) → ∃ n, w_X8_readText_12 post n (0 : Int32) S2))
set_option maxHeartbeats 4000000 in
set_option maxRecDepth 20000 in
theorem c_X8_readText (l : Launch) (v : VmT) (S : Mem) (post : Int32 → Mem → Prop) (h : w_X8_readText  S post) : MI l yX8_readText cX8_readText 2 (some .int) 6 (oM v) [.ref (v.1 0)] S post := by
  refine met_start (by decide +kernel) (Nat.le_of_ble_eq_true rfl) (fun g ok he => ?_)
  refine g_eq (L' := [(0, .ref (v.1 0))]) (st' := []) ?_ rfl rfl
  unfold w_X8_readText at h
  refine g_aload_n 0 (n := 1) ok dX8_readText_0 rfl rfl ?_
  refine g_iconst (v := 0) (n := 2) ok dX8_readText_1 rfl (by decide) ?_
  refine fp_X8_X8_next (n := 5) ok dX8_readText_2 rfl ?_
  refine g_mem (fun S1 eS1 => ?_)
  replace h := h S1 eS1
  refine g_aload_n 0 (n := 6) ok dX8_readText_5 rfl rfl ?_
  refine g_iconst (v := 0) (n := 7) ok dX8_readText_6 rfl (by decide) ?_
  refine fp_X8_X8_stepMany (n := 10) ok dX8_readText_7 rfl ?_
  refine g_mem (fun S2 eS2 => ?_)
  replace h := h S2 eS2
  refine g_iconst (v := 0) (n := 11) ok dX8_readText_10 rfl (by decide) ?_
  refine g_istore_n [(1, .int (0 : Int32)), (0, .ref (v.1 0))] (n := 12) ok dX8_readText_11 rfl (by decide) rfl ?_
  obtain ⟨n0, h⟩ := h
  exact g_sub [1, 0] rfl (b_X8_readText_12 ok he n0 (0 : Int32) S2 h)
def w_X8_done_93 (post : Int32 → Mem → Prop) (y0 : Int32) (S : Mem) : Prop := post y0 S
set_option maxHeartbeats 4000000 in
set_option maxRecDepth 20000 in
theorem b_X8_done_93 {v : VmT} {l : Launch} {g : CxT} (ok : Ok l g (oM v) 3 cX8_done RX8 (some .int)) {post : Int32 → Mem → Prop} (he : EndQ g (oM v) (va_Qi post (fun S1 t => BX (oM v) S1 t) (AX (oM v)))) (y0 : Int32) (S : Mem) (h : w_X8_done_93 post y0 S) : G g (oM v) 1 3 93 [] [.int y0] S := by
  unfold w_X8_done_93 at h
  exact g_iret ok he h dX8_done_93
def w_X8_done_82 (post : Int32 → Mem → Prop) (y0 : Int32) (S : Mem) : Prop := post y0 S
set_option maxHeartbeats 4000000 in
set_option maxRecDepth 20000 in
theorem b_X8_done_82 {v : VmT} {l : Launch} {g : CxT} (ok : Ok l g (oM v) 3 cX8_done RX8 (some .int)) {post : Int32 → Mem → Prop} (he : EndQ g (oM v) (va_Qi post (fun S1 t => BX (oM v) S1 t) (AX (oM v)))) (y0 : Int32) (S : Mem) (h : w_X8_done_82 post y0 S) : G g (oM v) 1 3 82 [] [.int y0] S := by
  unfold w_X8_done_82 at h
  exact g_iret ok he h dX8_done_82
def w_X8_done_102 (post : Int32 → Mem → Prop) (x1 : Int32) (x2 : Int32) (S : Mem) : Prop := post (x1 * x2) S
set_option maxHeartbeats 4000000 in
set_option maxRecDepth 20000 in
theorem b_X8_done_102 {v : VmT} {l : Launch} {g : CxT} (ok : Ok l g (oM v) 3 cX8_done RX8 (some .int)) {post : Int32 → Mem → Prop} (he : EndQ g (oM v) (va_Qi post (fun S1 t => BX (oM v) S1 t) (AX (oM v)))) (x1 : Int32) (x2 : Int32) (S : Mem) (h : w_X8_done_102 post x1 x2 S) : G g (oM v) 1 3 102 [(1, .int x1), (2, .int x2)] [] S := by
  unfold w_X8_done_102 at h
  refine g_iload_n 0 (n := 103) ok dX8_done_102 rfl rfl ?_
  refine g_iload_n 1 (n := 104) ok dX8_done_103 rfl rfl ?_
  refine g_imul (n := 105) ok dX8_done_104 rfl ?_
  exact g_iret ok he h dX8_done_105
def w_X8_done_71 (post : Int32 → Mem → Prop) (y0 : Int32) (S : Mem) : Prop := post y0 S
set_option maxHeartbeats 4000000 in
set_option maxRecDepth 20000 in
theorem b_X8_done_71 {v : VmT} {l : Launch} {g : CxT} (ok : Ok l g (oM v) 3 cX8_done RX8 (some .int)) {post : Int32 → Mem → Prop} (he : EndQ g (oM v) (va_Qi post (fun S1 t => BX (oM v) S1 t) (AX (oM v)))) (y0 : Int32) (S : Mem) (h : w_X8_done_71 post y0 S) : G g (oM v) 1 3 71 [] [.int y0] S := by
  unfold w_X8_done_71 at h
  exact g_iret ok he h dX8_done_71
def w_X8_done_70 (post : Int32 → Mem → Prop) (S : Mem) : Prop := w_X8_done_71 post (0 : Int32) S
set_option maxHeartbeats 4000000 in
set_option maxRecDepth 20000 in
theorem b_X8_done_70 {v : VmT} {l : Launch} {g : CxT} (ok : Ok l g (oM v) 3 cX8_done RX8 (some .int)) {post : Int32 → Mem → Prop} (he : EndQ g (oM v) (va_Qi post (fun S1 t => BX (oM v) S1 t) (AX (oM v)))) (S : Mem) (h : w_X8_done_70 post  S) : G g (oM v) 1 3 70 [] [] S := by
  unfold w_X8_done_70 at h
  refine g_iconst (v := 0) (n := 71) ok dX8_done_70 rfl (by decide) ?_
  exact g_sub [] rfl (b_X8_done_71 ok he (0 : Int32) S h)
def w_X8_done_57 (post : Int32 → Mem → Prop) (y0 : Int32) (S : Mem) : Prop := post y0 S
set_option maxHeartbeats 4000000 in
set_option maxRecDepth 20000 in
theorem b_X8_done_57 {v : VmT} {l : Launch} {g : CxT} (ok : Ok l g (oM v) 3 cX8_done RX8 (some .int)) {post : Int32 → Mem → Prop} (he : EndQ g (oM v) (va_Qi post (fun S1 t => BX (oM v) S1 t) (AX (oM v)))) (y0 : Int32) (S : Mem) (h : w_X8_done_57 post y0 S) : G g (oM v) 1 3 57 [] [.int y0] S := by
  unfold w_X8_done_57 at h
  exact g_iret ok he h dX8_done_57
def w_X8_done_52 (post : Int32 → Mem → Prop) (S : Mem) : Prop := w_X8_done_57 post (1 : Int32) S
set_option maxHeartbeats 4000000 in
set_option maxRecDepth 20000 in
theorem b_X8_done_52 {v : VmT} {l : Launch} {g : CxT} (ok : Ok l g (oM v) 3 cX8_done RX8 (some .int)) {post : Int32 → Mem → Prop} (he : EndQ g (oM v) (va_Qi post (fun S1 t => BX (oM v) S1 t) (AX (oM v)))) (S : Mem) (h : w_X8_done_52 post  S) : G g (oM v) 1 3 52 [] [] S := by
  unfold w_X8_done_52 at h
  refine g_iconst (v := 1) (n := 53) ok dX8_done_52 rfl (by decide) ?_
  refine g_goto (t := 57) ok dX8_done_53 (by decide) ?_
  exact g_sub [] rfl (b_X8_done_57 ok he (1 : Int32) S h)
def w_X8_done (p0 : Int32) (p1 : Int32) (p2 : Int32) (S : Mem) (post : Int32 → Mem → Prop) : Prop := ((p0 = 10 → ((¬ p1 = 0 → w_X8_done_52 post  S) ∧ (p1 = 0 → ((p2 = 0 → w_X8_done_57 post (0 : Int32) S) ∧ (¬ p2 = 0 → w_X8_done_52 post  S))))) ∧ (¬ p0 = 10 → ((p0 = 11 → ((p1 = 0 → w_X8_done_70 post  S) ∧ (¬ p1 = 0 → ((p2 = 0 → w_X8_done_70 post  S) ∧ (¬ p2 = 0 → w_X8_done_71 post (1 : Int32) S))))) ∧ (¬ p0 = 11 → ((p0 = 12 → w_X8_done_102 post p1 p2 S) ∧ (¬ p0 = 12 → ((p0 = 13 → ((p2 ≤ p1 → w_X8_done_82 post (0 : Int32) S) ∧ (¬ p2 ≤ p1 → w_X8_done_82 post (1 : Int32) S))) ∧ (¬ p0 = 13 → ((p0 = 14 → ((¬ p1 = p2 → w_X8_done_93 post (0 : Int32) S) ∧ (p1 = p2 → w_X8_done_93 post (1 : Int32) S))) ∧ (¬ p0 = 14 → ((p0 = 15 → post (p1 + p2) S) ∧ (¬ p0 = 15 → ((p0 = 16 → post (p1 - p2) S) ∧ (¬ p0 = 16 → w_X8_done_102 post p1 p2 S))))))))))))))
set_option maxHeartbeats 4000000 in
set_option maxRecDepth 20000 in
theorem c_X8_done (l : Launch) (v : VmT) (p0 : Int32) (p1 : Int32) (p2 : Int32) (S : Mem) (post : Int32 → Mem → Prop) (h : w_X8_done p0 p1 p2 S post) : MI l yX8_done cX8_done 3 (some .int) 1 (oM v) [.int p0, .int p1, .int p2] S post := by
  refine met_start (by decide +kernel) (Nat.le_of_ble_eq_true rfl) (fun g ok he => ?_)
  refine g_eq (L' := [(0, .int p0), (1, .int p1), (2, .int p2)]) (st' := []) ?_ rfl rfl
  unfold w_X8_done at h
  refine g_iload_n 0 (n := 1) ok dX8_done_0 rfl rfl ?_
  by_cases e1 : p0 = 10
  · replace h := h.1 e1
    refine g_tsIn (off := 43) (t := 44) ok dX8_done_1 (by rw [e1]; decide) (by rw [e1]; decide) (by rw [e1]; rfl) (by decide) ?_
    refine g_iload_n 1 (n := 45) ok dX8_done_44 rfl rfl ?_
    refine g_if_ne (t := 52) (n := 48) ok dX8_done_45 (by decide) rfl (fun e3 => ?_) (fun e3 => ?_)
    · replace h := h.1 e3
      exact g_sub [] rfl (b_X8_done_52 ok he  S h)
    · replace h := h.2 e3
      refine g_iload_n 2 (n := 49) ok dX8_done_48 rfl rfl ?_
      refine g_if_eq (t := 56) (n := 52) ok dX8_done_49 (by decide) rfl (fun e2 => ?_) (fun e2 => ?_)
      · replace h := h.1 e2
        refine g_iconst (v := 0) (n := 57) ok dX8_done_56 rfl (by decide) ?_
        exact g_sub [] rfl (b_X8_done_57 ok he (0 : Int32) S h)
      · replace h := h.2 e2
        exact g_sub [] rfl (b_X8_done_52 ok he  S h)
  · replace h := h.2 e1
    by_cases e4 : p0 = 11
    · replace h := h.1 e4
      refine g_tsIn (off := 57) (t := 58) ok dX8_done_1 (by rw [e4]; decide) (by rw [e4]; decide) (by rw [e4]; rfl) (by decide) ?_
      refine g_iload_n 1 (n := 59) ok dX8_done_58 rfl rfl ?_
      refine g_if_eq (t := 70) (n := 62) ok dX8_done_59 (by decide) rfl (fun e6 => ?_) (fun e6 => ?_)
      · replace h := h.1 e6
        exact g_sub [] rfl (b_X8_done_70 ok he  S h)
      · replace h := h.2 e6
        refine g_iload_n 2 (n := 63) ok dX8_done_62 rfl rfl ?_
        refine g_if_eq (t := 70) (n := 66) ok dX8_done_63 (by decide) rfl (fun e5 => ?_) (fun e5 => ?_)
        · replace h := h.1 e5
          exact g_sub [] rfl (b_X8_done_70 ok he  S h)
        · replace h := h.2 e5
          refine g_iconst (v := 1) (n := 67) ok dX8_done_66 rfl (by decide) ?_
          refine g_goto (t := 71) ok dX8_done_67 (by decide) ?_
          exact g_sub [] rfl (b_X8_done_71 ok he (1 : Int32) S h)
    · replace h := h.2 e4
      by_cases e7 : p0 = 12
      · replace h := h.1 e7
        refine g_tsIn (off := 101) (t := 102) ok dX8_done_1 (by rw [e7]; decide) (by rw [e7]; decide) (by rw [e7]; rfl) (by decide) ?_
        exact g_sub [1, 2] rfl (b_X8_done_102 ok he p1 p2 S h)
      · replace h := h.2 e7
        by_cases e8 : p0 = 13
        · replace h := h.1 e8
          refine g_tsIn (off := 71) (t := 72) ok dX8_done_1 (by rw [e8]; decide) (by rw [e8]; decide) (by rw [e8]; rfl) (by decide) ?_
          refine g_iload_n 1 (n := 73) ok dX8_done_72 rfl rfl ?_
          refine g_iload_n 2 (n := 74) ok dX8_done_73 rfl rfl ?_
          refine g_icmp_ge (t := 81) (n := 77) ok dX8_done_74 (by decide) rfl (fun e9 => ?_) (fun e9 => ?_)
          · replace h := h.1 e9
            refine g_iconst (v := 0) (n := 82) ok dX8_done_81 rfl (by decide) ?_
            exact g_sub [] rfl (b_X8_done_82 ok he (0 : Int32) S h)
          · replace h := h.2 e9
            refine g_iconst (v := 1) (n := 78) ok dX8_done_77 rfl (by decide) ?_
            refine g_goto (t := 82) ok dX8_done_78 (by decide) ?_
            exact g_sub [] rfl (b_X8_done_82 ok he (1 : Int32) S h)
        · replace h := h.2 e8
          by_cases e10 : p0 = 14
          · replace h := h.1 e10
            refine g_tsIn (off := 82) (t := 83) ok dX8_done_1 (by rw [e10]; decide) (by rw [e10]; decide) (by rw [e10]; rfl) (by decide) ?_
            refine g_iload_n 1 (n := 84) ok dX8_done_83 rfl rfl ?_
            refine g_iload_n 2 (n := 85) ok dX8_done_84 rfl rfl ?_
            refine g_icmp_ne (t := 92) (n := 88) ok dX8_done_85 (by decide) rfl (fun e11 => ?_) (fun e11 => ?_)
            · replace h := h.1 e11
              refine g_iconst (v := 0) (n := 93) ok dX8_done_92 rfl (by decide) ?_
              exact g_sub [] rfl (b_X8_done_93 ok he (0 : Int32) S h)
            · replace h := h.2 e11
              refine g_iconst (v := 1) (n := 89) ok dX8_done_88 rfl (by decide) ?_
              refine g_goto (t := 93) ok dX8_done_89 (by decide) ?_
              exact g_sub [] rfl (b_X8_done_93 ok he (1 : Int32) S h)
          · replace h := h.2 e10
            by_cases e12 : p0 = 15
            · replace h := h.1 e12
              refine g_tsIn (off := 93) (t := 94) ok dX8_done_1 (by rw [e12]; decide) (by rw [e12]; decide) (by rw [e12]; rfl) (by decide) ?_
              refine g_iload_n 1 (n := 95) ok dX8_done_94 rfl rfl ?_
              refine g_iload_n 2 (n := 96) ok dX8_done_95 rfl rfl ?_
              refine g_iadd (n := 97) ok dX8_done_96 rfl ?_
              exact g_iret ok he h dX8_done_97
            · replace h := h.2 e12
              by_cases e13 : p0 = 16
              · replace h := h.1 e13
                refine g_tsIn (off := 97) (t := 98) ok dX8_done_1 (by rw [e13]; decide) (by rw [e13]; decide) (by rw [e13]; rfl) (by decide) ?_
                refine g_iload_n 1 (n := 99) ok dX8_done_98 rfl rfl ?_
                refine g_iload_n 2 (n := 100) ok dX8_done_99 rfl rfl ?_
                refine g_isub (n := 101) ok dX8_done_100 rfl ?_
                exact g_iret ok he h dX8_done_101
              · replace h := h.2 e13
                refine g_tsOut (t := 102) ok dX8_done_1 (by have q0 := lv_neT (a := 10) e1 rfl; have q1 := lv_neT (a := 11) e4 rfl; have q2 := lv_neT (a := 12) e7 rfl; have q3 := lv_neT (a := 13) e8 rfl; have q4 := lv_neT (a := 14) e10 rfl; have q5 := lv_neT (a := 15) e12 rfl; have q6 := lv_neT (a := 16) e13 rfl; omega) (by decide) ?_
                exact g_sub [1, 2] rfl (b_X8_done_102 ok he p1 p2 S h)
