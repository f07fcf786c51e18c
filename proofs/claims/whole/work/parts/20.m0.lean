def w_X8_in_18 (post : Int32 → Mem → Prop) (y0 : Int32) (S : Mem) : Prop := (y0 = 0 ∨ y0 = 1) ∧ post y0 S
set_option maxHeartbeats 4000000 in
set_option maxRecDepth 20000 in
theorem b_X8_in_18 {v : VmT} {l : Launch} {g : CxT} (ok : Ok l g (oM v) 6 cX8_in RX8 (some .boolean)) {post : Int32 → Mem → Prop} (he : EndQ g (oM v) (va_Qi post (fun S1 t => BX (oM v) S1 t) (AX (oM v)))) (y0 : Int32) (S : Mem) (h : w_X8_in_18 post y0 S) : G g (oM v) 1 6 18 [] [.int y0] S := by
  unfold w_X8_in_18 at h
  exact g_zret ok he h.1 h.2 dX8_in_18
def w_X8_in_17 (post : Int32 → Mem → Prop) (S : Mem) : Prop := w_X8_in_18 post (0 : Int32) S
set_option maxHeartbeats 4000000 in
set_option maxRecDepth 20000 in
theorem b_X8_in_17 {v : VmT} {l : Launch} {g : CxT} (ok : Ok l g (oM v) 6 cX8_in RX8 (some .boolean)) {post : Int32 → Mem → Prop} (he : EndQ g (oM v) (va_Qi post (fun S1 t => BX (oM v) S1 t) (AX (oM v)))) (S : Mem) (h : w_X8_in_17 post  S) : G g (oM v) 1 6 17 [] [] S := by
  unfold w_X8_in_17 at h
  refine g_iconst (v := 0) (n := 18) ok dX8_in_17 rfl (by decide) ?_
  exact g_sub [] rfl (b_X8_in_18 ok he (0 : Int32) S h)
def w_X8_in (p0 : Int64) (p2 : Int64) (p4 : Int64) (S : Mem) (post : Int32 → Mem → Prop) : Prop := (((lg_cmp p0 p2) < 0 → w_X8_in_17 post  S) ∧ (¬ (lg_cmp p0 p2) < 0 → ((0 < (lg_cmp p0 p4) → w_X8_in_17 post  S) ∧ (¬ 0 < (lg_cmp p0 p4) → w_X8_in_18 post (1 : Int32) S))))
set_option maxHeartbeats 4000000 in
set_option maxRecDepth 20000 in
theorem c_X8_in (l : Launch) (v : VmT) (p0 : Int64) (p2 : Int64) (p4 : Int64) (S : Mem) (post : Int32 → Mem → Prop) (h : w_X8_in p0 p2 p4 S post) : MI l yX8_in cX8_in 6 (some .boolean) 1 (oM v) [.long p0, .long p2, .long p4] S post := by
  refine met_start (by decide +kernel) (Nat.le_of_ble_eq_true rfl) (fun g ok he => ?_)
  refine g_eq (L' := [(0, .long p0), (2, .long p2), (4, .long p4)]) (st' := []) ?_ rfl rfl
  unfold w_X8_in at h
  refine g_lload_n 0 (n := 1) ok dX8_in_0 rfl rfl ?_
  refine g_lload_n 1 (n := 2) ok dX8_in_1 rfl rfl ?_
  refine g_lcmp (n := 3) ok dX8_in_2 rfl ?_
  refine g_if_lt (t := 17) (n := 6) ok dX8_in_3 (by decide) rfl (fun e2 => ?_) (fun e2 => ?_)
  · replace h := h.1 e2
    exact g_sub [] rfl (b_X8_in_17 ok he  S h)
  · replace h := h.2 e2
    refine g_lload_n 0 (n := 7) ok dX8_in_6 rfl rfl ?_
    refine g_lload 2 (n := 9) ok dX8_in_7 rfl rfl ?_
    refine g_lcmp (n := 10) ok dX8_in_9 rfl ?_
    refine g_if_gt (t := 17) (n := 13) ok dX8_in_10 (by decide) rfl (fun e1 => ?_) (fun e1 => ?_)
    · replace h := h.1 e1
      exact g_sub [] rfl (b_X8_in_17 ok he  S h)
    · replace h := h.2 e1
      refine g_iconst (v := 1) (n := 14) ok dX8_in_13 rfl (by decide) ?_
      refine g_goto (t := 18) ok dX8_in_14 (by decide) ?_
      exact g_sub [] rfl (b_X8_in_18 ok he (1 : Int32) S h)
def w_X8_held_19 (post : Int32 → Mem → Prop) (y0 : Int32) (S : Mem) : Prop := post y0 S
set_option maxHeartbeats 4000000 in
set_option maxRecDepth 20000 in
theorem b_X8_held_19 {v : VmT} {l : Launch} {g : CxT} (ok : Ok l g (oM v) 3 cX8_held RX8 (some .int)) {post : Int32 → Mem → Prop} (he : EndQ g (oM v) (va_Qi post (fun S1 t => BX (oM v) S1 t) (AX (oM v)))) (y0 : Int32) (S : Mem) (h : w_X8_held_19 post y0 S) : G g (oM v) 1 3 19 [] [.int y0] S := by
  unfold w_X8_held_19 at h
  exact g_iret ok he h dX8_held_19
def w_X8_held (p0 : Int32) (p1 : Int32) (p2 : Int32) (S : Mem) (post : Int32 → Mem → Prop) : Prop := ((p1 ≤ p0 → ((p0 ≤ p2 → w_X8_held_19 post p0 S) ∧ (¬ p0 ≤ p2 → w_X8_held_19 post p2 S))) ∧ (¬ p1 ≤ p0 → w_X8_held_19 post p1 S))
set_option maxHeartbeats 4000000 in
set_option maxRecDepth 20000 in
theorem c_X8_held (l : Launch) (v : VmT) (p0 : Int32) (p1 : Int32) (p2 : Int32) (S : Mem) (post : Int32 → Mem → Prop) (h : w_X8_held p0 p1 p2 S post) : MI l yX8_held cX8_held 3 (some .int) 1 (oM v) [.int p0, .int p1, .int p2] S post := by
  refine met_start (by decide +kernel) (Nat.le_of_ble_eq_true rfl) (fun g ok he => ?_)
  refine g_eq (L' := [(0, .int p0), (1, .int p1), (2, .int p2)]) (st' := []) ?_ rfl rfl
  unfold w_X8_held at h
  refine g_iload_n 0 (n := 1) ok dX8_held_0 rfl rfl ?_
  refine g_iload_n 1 (n := 2) ok dX8_held_1 rfl rfl ?_
  refine g_icmp_ge (t := 9) (n := 5) ok dX8_held_2 (by decide) rfl (fun e2 => ?_) (fun e2 => ?_)
  · replace h := h.1 e2
    refine g_iload_n 0 (n := 10) ok dX8_held_9 rfl rfl ?_
    refine g_iload_n 2 (n := 11) ok dX8_held_10 rfl rfl ?_
    refine g_icmp_le (t := 18) (n := 14) ok dX8_held_11 (by decide) rfl (fun e1 => ?_) (fun e1 => ?_)
    · replace h := h.1 e1
      refine g_iload_n 0 (n := 19) ok dX8_held_18 rfl rfl ?_
      exact g_sub [] rfl (b_X8_held_19 ok he p0 S h)
    · replace h := h.2 e1
      refine g_iload_n 2 (n := 15) ok dX8_held_14 rfl rfl ?_
      refine g_goto (t := 19) ok dX8_held_15 (by decide) ?_
      exact g_sub [] rfl (b_X8_held_19 ok he p2 S h)
  · replace h := h.2 e2
    refine g_iload_n 1 (n := 6) ok dX8_held_5 rfl rfl ?_
    refine g_goto (t := 19) ok dX8_held_6 (by decide) ?_
    exact g_sub [] rfl (b_X8_held_19 ok he p1 S h)
def w_X8_isBlank_27 (post : Int32 → Mem → Prop) (y0 : Int32) (S : Mem) : Prop := (y0 = 0 ∨ y0 = 1) ∧ post y0 S
set_option maxHeartbeats 4000000 in
set_option maxRecDepth 20000 in
theorem b_X8_isBlank_27 {v : VmT} {l : Launch} {g : CxT} (ok : Ok l g (oM v) 2 cX8_isBlank RX8 (some .boolean)) {post : Int32 → Mem → Prop} (he : EndQ g (oM v) (va_Qi post (fun S1 t => BX (oM v) S1 t) (AX (oM v)))) (y0 : Int32) (S : Mem) (h : w_X8_isBlank_27 post y0 S) : G g (oM v) 1 2 27 [] [.int y0] S := by
  unfold w_X8_isBlank_27 at h
  exact g_zret ok he h.1 h.2 dX8_isBlank_27
def w_X8_isBlank_22 (post : Int32 → Mem → Prop) (S : Mem) : Prop := w_X8_isBlank_27 post (1 : Int32) S
set_option maxHeartbeats 4000000 in
set_option maxRecDepth 20000 in
theorem b_X8_isBlank_22 {v : VmT} {l : Launch} {g : CxT} (ok : Ok l g (oM v) 2 cX8_isBlank RX8 (some .boolean)) {post : Int32 → Mem → Prop} (he : EndQ g (oM v) (va_Qi post (fun S1 t => BX (oM v) S1 t) (AX (oM v)))) (S : Mem) (h : w_X8_isBlank_22 post  S) : G g (oM v) 1 2 22 [] [] S := by
  unfold w_X8_isBlank_22 at h
  refine g_iconst (v := 1) (n := 23) ok dX8_isBlank_22 rfl (by decide) ?_
  refine g_goto (t := 27) ok dX8_isBlank_23 (by decide) ?_
  exact g_sub [] rfl (b_X8_isBlank_27 ok he (1 : Int32) S h)
def w_X8_isBlank (p1 : Int32) (S : Mem) (post : Int32 → Mem → Prop) : Prop := (vp_in p1 160 ∧ (((S 8 p1.toNatClampNeg) = (32 : Int32) → w_X8_isBlank_22 post  S) ∧ (¬ (S 8 p1.toNatClampNeg) = (32 : Int32) → (vp_in p1 160 ∧ ((¬ (S 8 p1.toNatClampNeg) = (10 : Int32) → w_X8_isBlank_27 post (0 : Int32) S) ∧ ((S 8 p1.toNatClampNeg) = (10 : Int32) → w_X8_isBlank_22 post  S))))))
set_option maxHeartbeats 4000000 in
set_option maxRecDepth 20000 in
theorem c_X8_isBlank (l : Launch) (v : VmT) (p1 : Int32) (S : Mem) (post : Int32 → Mem → Prop) (h : w_X8_isBlank p1 S post) : MI l yX8_isBlank cX8_isBlank 2 (some .boolean) 1 (oM v) [.ref (v.1 0), .int p1] S post := by
  refine met_start (by decide +kernel) (Nat.le_of_ble_eq_true rfl) (fun g ok he => ?_)
  refine g_eq (L' := [(0, .ref (v.1 0)), (1, .int p1)]) (st' := []) ?_ rfl rfl
  unfold w_X8_isBlank at h
  refine g_aload_n 0 (n := 1) ok dX8_isBlank_0 rfl rfl ?_
  refine fg_X8_X8_tape (n := 4) ok dX8_isBlank_1 rfl ?_
  refine g_iload_n 1 (n := 5) ok dX8_isBlank_4 rfl rfl ?_
  obtain ⟨h0, h⟩ := h
  refine g_iald (c := 8) (t0 := 0) (n := 6) ok (Nat.le_of_ble_eq_true rfl) rfl rfl h0 dX8_isBlank_5 rfl ?_
  refine g_bipush (v := 32) (n := 8) ok dX8_isBlank_6 rfl (by decide) ?_
  refine g_icmp_eq (t := 22) (n := 11) ok dX8_isBlank_8 (by decide) rfl (fun e2 => ?_) (fun e2 => ?_)
  · replace h := h.1 e2
    exact g_sub [] rfl (b_X8_isBlank_22 ok he  S h)
  · replace h := h.2 e2
    refine g_aload_n 0 (n := 12) ok dX8_isBlank_11 rfl rfl ?_
    refine fg_X8_X8_tape (n := 15) ok dX8_isBlank_12 rfl ?_
    refine g_iload_n 1 (n := 16) ok dX8_isBlank_15 rfl rfl ?_
    obtain ⟨h0, h⟩ := h
    refine g_iald (c := 8) (t0 := 0) (n := 17) ok (Nat.le_of_ble_eq_true rfl) rfl rfl h0 dX8_isBlank_16 rfl ?_
    refine g_bipush (v := 10) (n := 19) ok dX8_isBlank_17 rfl (by decide) ?_
    refine g_icmp_ne (t := 26) (n := 22) ok dX8_isBlank_19 (by decide) rfl (fun e1 => ?_) (fun e1 => ?_)
    · replace h := h.1 e1
      refine g_iconst (v := 0) (n := 27) ok dX8_isBlank_26 rfl (by decide) ?_
      exact g_sub [] rfl (b_X8_isBlank_27 ok he (0 : Int32) S h)
    · replace h := h.2 e1
      exact g_sub [] rfl (b_X8_isBlank_22 ok he  S h)
def w_X8_isWord_78 (K35 : Int32 → Int32 → Int32 → Int32 → Int32 → Mem → Prop) (post : Int32 → Mem → Prop) (x1 : Int32) (x2 : Int32) (x4 : Int32) (x6 : Int32) (y0 : Int32) (S : Mem) : Prop := (∀ z1 : Int32, z1 = x6 + 1 → K35 x1 x2 x4 y0 z1 S)
set_option maxHeartbeats 4000000 in
set_option maxRecDepth 20000 in
theorem b_X8_isWord_78 {v : VmT} {l : Launch} {g : CxT} {K35 : Int32 → Int32 → Int32 → Int32 → Int32 → Mem → Prop} (ok : Ok l g (oM v) 7 cX8_isWord RX8 (some .boolean)) (hK35 : ∀ (x1 : Int32) (x2 : Int32) (x4 : Int32) (x5 : Int32) (x6 : Int32) (S : Mem), K35 x1 x2 x4 x5 x6 S → G g (oM v) 1 7 35 [(0, .ref (v.1 0)), (1, .int x1), (2, .int x2), (4, .int x4), (5, .int x5), (6, .int x6)] [] S) {post : Int32 → Mem → Prop} (he : EndQ g (oM v) (va_Qi post (fun S1 t => BX (oM v) S1 t) (AX (oM v)))) (x1 : Int32) (x2 : Int32) (x4 : Int32) (x6 : Int32) (y0 : Int32) (S : Mem) (h : w_X8_isWord_78 K35 post x1 x2 x4 x6 y0 S) : G g (oM v) 1 7 78 [(0, .ref (v.1 0)), (1, .int x1), (2, .int x2), (4, .int x4), (6, .int x6)] [.int y0] S := by
  unfold w_X8_isWord_78 at h
  refine g_istore [(5, .int y0), (0, .ref (v.1 0)), (1, .int x1), (2, .int x2), (4, .int x4), (6, .int x6)] (n := 80) ok dX8_isWord_78 rfl (by decide) rfl ?_
  obtain ⟨z1, ez1⟩ : ∃ y : Int32, y = x6 + 1 := ⟨_, rfl⟩
  replace h := h z1 ez1
  refine g_iinc 5 [(6, .int z1), (5, .int y0), (0, .ref (v.1 0)), (1, .int x1), (2, .int x2), (4, .int x4)] (v := z1) (n := 83) ok dX8_isWord_80 rfl rfl (by rw [ez1]; rfl) (by decide) rfl ?_
  refine g_goto (t := 35) ok dX8_isWord_83 (by decide) ?_
  exact g_sub [2, 3, 4, 5, 1, 0] rfl (hK35 x1 x2 x4 y0 z1 S h)
def w_X8_isWord_86 (post : Int32 → Mem → Prop) (x5 : Int32) (S : Mem) : Prop := (x5 = 0 ∨ x5 = 1) ∧ post x5 S
set_option maxHeartbeats 4000000 in
set_option maxRecDepth 20000 in
theorem b_X8_isWord_86 {v : VmT} {l : Launch} {g : CxT} (ok : Ok l g (oM v) 7 cX8_isWord RX8 (some .boolean)) {post : Int32 → Mem → Prop} (he : EndQ g (oM v) (va_Qi post (fun S1 t => BX (oM v) S1 t) (AX (oM v)))) (x5 : Int32) (S : Mem) (h : w_X8_isWord_86 post x5 S) : G g (oM v) 1 7 86 [(5, .int x5)] [] S := by
  unfold w_X8_isWord_86 at h
  refine g_iload 0 (n := 88) ok dX8_isWord_86 rfl rfl ?_
  exact g_zret ok he h.1 h.2 dX8_isWord_88
def w_X8_isWord_35 (post : Int32 → Mem → Prop) : Nat → Int32 → Int32 → Int32 → Int32 → Int32 → Mem → Prop
  | 0, _, _, _, _, _, _ => False
  | n + 1, x1, x2, x4, x5, x6, S => ((x4 ≤ x6 → w_X8_isWord_86 post x5 S) ∧ (¬ x4 ≤ x6 → ((x5 = 0 → w_X8_isWord_86 post x5 S) ∧ (¬ x5 = 0 → (vp_in (x2 + x6) 160 ∧ (vp_in x1 13 ∧ (vp_in ((S 7 x1.toNatClampNeg) + x6) 42 ∧ ((¬ (S 8 (x2 + x6).toNatClampNeg) = (S 6 ((S 7 x1.toNatClampNeg) + x6).toNatClampNeg) → w_X8_isWord_78 (w_X8_isWord_35 post n) post x1 x2 x4 x6 (0 : Int32) S) ∧ ((S 8 (x2 + x6).toNatClampNeg) = (S 6 ((S 7 x1.toNatClampNeg) + x6).toNatClampNeg) → w_X8_isWord_78 (w_X8_isWord_35 post n) post x1 x2 x4 x6 (1 : Int32) S)))))))))
set_option maxHeartbeats 4000000 in
set_option maxRecDepth 20000 in
theorem b_X8_isWord_35 {v : VmT} {l : Launch} {g : CxT} (ok : Ok l g (oM v) 7 cX8_isWord RX8 (some .boolean)) {post : Int32 → Mem → Prop} (he : EndQ g (oM v) (va_Qi post (fun S1 t => BX (oM v) S1 t) (AX (oM v)))) : ∀ (n : Nat) (x1 : Int32) (x2 : Int32) (x4 : Int32) (x5 : Int32) (x6 : Int32) (S : Mem), w_X8_isWord_35 post n x1 x2 x4 x5 x6 S → G g (oM v) 1 7 35 [(0, .ref (v.1 0)), (1, .int x1), (2, .int x2), (4, .int x4), (5, .int x5), (6, .int x6)] [] S := by
  intro n
  induction n with
  | zero =>
    intro x1 x2 x4 x5 x6 S h
    exact h.elim
  | succ n ih =>
    intro x1 x2 x4 x5 x6 S h
    rw [w_X8_isWord_35] at h
    refine g_iload 5 (n := 37) ok dX8_isWord_35 rfl rfl ?_
    refine g_iload 3 (n := 39) ok dX8_isWord_37 rfl rfl ?_
    refine g_icmp_ge (t := 86) (n := 42) ok dX8_isWord_39 (by decide) rfl (fun e3 => ?_) (fun e3 => ?_)
    · replace h := h.1 e3
      exact g_sub [4] rfl (b_X8_isWord_86 ok he x5 S h)
    · replace h := h.2 e3
      refine g_iload 4 (n := 44) ok dX8_isWord_42 rfl rfl ?_
      refine g_if_eq (t := 86) (n := 47) ok dX8_isWord_44 (by decide) rfl (fun e2 => ?_) (fun e2 => ?_)
      · replace h := h.1 e2
        exact g_sub [4] rfl (b_X8_isWord_86 ok he x5 S h)
      · replace h := h.2 e2
        refine g_aload_n 0 (n := 48) ok dX8_isWord_47 rfl rfl ?_
        refine fg_X8_X8_tape (n := 51) ok dX8_isWord_48 rfl ?_
        refine g_iload_n 2 (n := 52) ok dX8_isWord_51 rfl rfl ?_
        refine g_iload 5 (n := 54) ok dX8_isWord_52 rfl rfl ?_
        refine g_iadd (n := 55) ok dX8_isWord_54 rfl ?_
        obtain ⟨h0, h⟩ := h
        refine g_iald (c := 8) (t0 := 0) (n := 56) ok (Nat.le_of_ble_eq_true rfl) rfl rfl h0 dX8_isWord_55 rfl ?_
        refine g_aload_n 0 (n := 57) ok dX8_isWord_56 rfl rfl ?_
        refine fg_X8_X8_letters (n := 60) ok dX8_isWord_57 rfl ?_
        refine g_aload_n 0 (n := 61) ok dX8_isWord_60 rfl rfl ?_
        refine fg_X8_X8_wordAt (n := 64) ok dX8_isWord_61 rfl ?_
        refine g_iload_n 1 (n := 65) ok dX8_isWord_64 rfl rfl ?_
        obtain ⟨h0, h⟩ := h
        refine g_iald (c := 7) (t0 := 0) (n := 66) ok (Nat.le_of_ble_eq_true rfl) rfl rfl h0 dX8_isWord_65 rfl ?_
        refine g_iload 5 (n := 68) ok dX8_isWord_66 rfl rfl ?_
        refine g_iadd (n := 69) ok dX8_isWord_68 rfl ?_
        obtain ⟨h0, h⟩ := h
        refine g_iald (c := 6) (t0 := 0) (n := 70) ok (Nat.le_of_ble_eq_true rfl) rfl rfl h0 dX8_isWord_69 rfl ?_
        refine g_icmp_ne (t := 77) (n := 73) ok dX8_isWord_70 (by decide) rfl (fun e1 => ?_) (fun e1 => ?_)
        · replace h := h.1 e1
          refine g_iconst (v := 0) (n := 78) ok dX8_isWord_77 rfl (by decide) ?_
          exact g_sub [0, 1, 2, 3, 5] rfl (b_X8_isWord_78 ok ih he x1 x2 x4 x6 (0 : Int32) S h)
        · replace h := h.2 e1
          refine g_iconst (v := 1) (n := 74) ok dX8_isWord_73 rfl (by decide) ?_
          refine g_goto (t := 78) ok dX8_isWord_74 (by decide) ?_
          exact g_sub [0, 1, 2, 3, 5] rfl (b_X8_isWord_78 ok ih he x1 x2 x4 x6 (1 : Int32) S h)
def w_X8_isWord_30 (post : Int32 → Mem → Prop) (x1 : Int32) (x2 : Int32) (x4 : Int32) (y0 : Int32) (S : Mem) : Prop := ∃ n, w_X8_isWord_35 post n x1 x2 x4 y0 (0 : Int32) S
set_option maxHeartbeats 4000000 in
set_option maxRecDepth 20000 in
theorem b_X8_isWord_30 {v : VmT} {l : Launch} {g : CxT} (ok : Ok l g (oM v) 7 cX8_isWord RX8 (some .boolean)) {post : Int32 → Mem → Prop} (he : EndQ g (oM v) (va_Qi post (fun S1 t => BX (oM v) S1 t) (AX (oM v)))) (x1 : Int32) (x2 : Int32) (x4 : Int32) (y0 : Int32) (S : Mem) (h : w_X8_isWord_30 post x1 x2 x4 y0 S) : G g (oM v) 1 7 30 [(0, .ref (v.1 0)), (1, .int x1), (2, .int x2), (4, .int x4)] [.int y0] S := by
  unfold w_X8_isWord_30 at h
  refine g_istore [(5, .int y0), (0, .ref (v.1 0)), (1, .int x1), (2, .int x2), (4, .int x4)] (n := 32) ok dX8_isWord_30 rfl (by decide) rfl ?_
  refine g_iconst (v := 0) (n := 33) ok dX8_isWord_32 rfl (by decide) ?_
  refine g_istore [(6, .int (0 : Int32)), (5, .int y0), (0, .ref (v.1 0)), (1, .int x1), (2, .int x2), (4, .int x4)] (n := 35) ok dX8_isWord_33 rfl (by decide) rfl ?_
  obtain ⟨n0, h⟩ := h
  exact g_sub [2, 3, 4, 5, 1, 0] rfl (b_X8_isWord_35 ok he n0 x1 x2 x4 y0 (0 : Int32) S h)
def w_X8_isWord (p1 : Int32) (p2 : Int32) (p3 : Int32) (S : Mem) (post : Int32 → Mem → Prop) : Prop := (vp_in (p1 + (1 : Int32)) 13 ∧ (vp_in p1 13 ∧ (∀ z1 : Int32, z1 = (S 7 (p1 + (1 : Int32)).toNatClampNeg) - (S 7 p1.toNatClampNeg) → ((¬ (p3 - p2) = z1 → w_X8_isWord_30 post p1 p2 z1 (0 : Int32) S) ∧ ((p3 - p2) = z1 → w_X8_isWord_30 post p1 p2 z1 (1 : Int32) S)))))
set_option maxHeartbeats 4000000 in
set_option maxRecDepth 20000 in
theorem c_X8_isWord (l : Launch) (v : VmT) (p1 : Int32) (p2 : Int32) (p3 : Int32) (S : Mem) (post : Int32 → Mem → Prop) (h : w_X8_isWord p1 p2 p3 S post) : MI l yX8_isWord cX8_isWord 7 (some .boolean) 1 (oM v) [.ref (v.1 0), .int p1, .int p2, .int p3] S post := by
  refine met_start (by decide +kernel) (Nat.le_of_ble_eq_true rfl) (fun g ok he => ?_)
  refine g_eq (L' := [(0, .ref (v.1 0)), (1, .int p1), (2, .int p2), (3, .int p3)]) (st' := []) ?_ rfl rfl
  unfold w_X8_isWord at h
  refine g_aload_n 0 (n := 1) ok dX8_isWord_0 rfl rfl ?_
  refine fg_X8_X8_wordAt (n := 4) ok dX8_isWord_1 rfl ?_
  refine g_iload_n 1 (n := 5) ok dX8_isWord_4 rfl rfl ?_
  refine g_iconst (v := 1) (n := 6) ok dX8_isWord_5 rfl (by decide) ?_
  refine g_iadd (n := 7) ok dX8_isWord_6 rfl ?_
  obtain ⟨h0, h⟩ := h
  refine g_iald (c := 7) (t0 := 0) (n := 8) ok (Nat.le_of_ble_eq_true rfl) rfl rfl h0 dX8_isWord_7 rfl ?_
  refine g_aload_n 0 (n := 9) ok dX8_isWord_8 rfl rfl ?_
  refine fg_X8_X8_wordAt (n := 12) ok dX8_isWord_9 rfl ?_
  refine g_iload_n 1 (n := 13) ok dX8_isWord_12 rfl rfl ?_
  obtain ⟨h0, h⟩ := h
  refine g_iald (c := 7) (t0 := 0) (n := 14) ok (Nat.le_of_ble_eq_true rfl) rfl rfl h0 dX8_isWord_13 rfl ?_
  refine g_isub (n := 15) ok dX8_isWord_14 rfl ?_
  refine g_topi (fun z1 ez1 => ?_)
  replace h := h z1 ez1
  refine g_istore [(4, .int z1), (0, .ref (v.1 0)), (1, .int p1), (2, .int p2), (3, .int p3)] (n := 17) ok dX8_isWord_15 rfl (by decide) rfl ?_
  refine g_iload_n 4 (n := 18) ok dX8_isWord_17 rfl rfl ?_
  refine g_iload_n 3 (n := 19) ok dX8_isWord_18 rfl rfl ?_
  refine g_isub (n := 20) ok dX8_isWord_19 rfl ?_
  refine g_iload 0 (n := 22) ok dX8_isWord_20 rfl rfl ?_
  refine g_icmp_ne (t := 29) (n := 25) ok dX8_isWord_22 (by decide) rfl (fun e2 => ?_) (fun e2 => ?_)
  · replace h := h.1 e2
    refine g_iconst (v := 0) (n := 30) ok dX8_isWord_29 rfl (by decide) ?_
    exact g_sub [1, 2, 3, 0] rfl (b_X8_isWord_30 ok he p1 p2 z1 (0 : Int32) S h)
  · replace h := h.2 e2
    refine g_iconst (v := 1) (n := 26) ok dX8_isWord_25 rfl (by decide) ?_
    refine g_goto (t := 30) ok dX8_isWord_26 (by decide) ?_
    exact g_sub [1, 2, 3, 0] rfl (b_X8_isWord_30 ok he p1 p2 z1 (1 : Int32) S h)
def w_X8_readWord_95 (K53 : Int32 → Mem → Prop) (post : Mem → Prop) (x1 : Int32) (S : Mem) : Prop := (∀ z1 : Int32, z1 = x1 + 1 → K53 z1 S)
set_option maxHeartbeats 4000000 in
set_option maxRecDepth 20000 in
theorem b_X8_readWord_95 {v : VmT} {l : Launch} {g : CxT} {K53 : Int32 → Mem → Prop} (ok : Ok l g (oM v) 2 cX8_readWord RX8 none) (hK53 : ∀ (x1 : Int32) (S : Mem), K53 x1 S → G g (oM v) 2 2 53 [(0, .ref (v.1 0)), (1, .int x1)] [] S) {post : Mem → Prop} (he : EndQ g (oM v) (va_Qv post (fun S1 t => BX (oM v) S1 t) (AX (oM v)))) (x1 : Int32) (S : Mem) (h : w_X8_readWord_95 K53 post x1 S) : G g (oM v) 2 2 95 [(0, .ref (v.1 0)), (1, .int x1)] [] S := by
  unfold w_X8_readWord_95 at h
  obtain ⟨z1, ez1⟩ : ∃ y : Int32, y = x1 + 1 := ⟨_, rfl⟩
  replace h := h z1 ez1
  refine g_iinc 1 [(1, .int z1), (0, .ref (v.1 0))] (v := z1) (n := 98) ok dX8_readWord_95 rfl rfl (by rw [ez1]; rfl) (by decide) rfl ?_
  refine g_goto (t := 53) ok dX8_readWord_98 (by decide) ?_
  exact g_sub [1, 0] rfl (hK53 z1 S h)
def w_X8_readWord_87 (K53 : Int32 → Mem → Prop) (post : Mem → Prop) (x1 : Int32) (y0 : Int32) (S : Mem) : Prop := (∀ S1 : Mem, S1 = mset S 0 (upd (S 0) 16 y0) → (∀ S2 : Mem, S2 = mset S1 0 (upd (S1 0) 18 x1) → w_X8_readWord_95 K53 post x1 S2))
set_option maxHeartbeats 4000000 in
set_option maxRecDepth 20000 in
theorem b_X8_readWord_87 {v : VmT} {l : Launch} {g : CxT} {K53 : Int32 → Mem → Prop} (ok : Ok l g (oM v) 2 cX8_readWord RX8 none) (hK53 : ∀ (x1 : Int32) (S : Mem), K53 x1 S → G g (oM v) 2 2 53 [(0, .ref (v.1 0)), (1, .int x1)] [] S) {post : Mem → Prop} (he : EndQ g (oM v) (va_Qv post (fun S1 t => BX (oM v) S1 t) (AX (oM v)))) (x1 : Int32) (y0 : Int32) (S : Mem) (h : w_X8_readWord_87 K53 post x1 y0 S) : G g (oM v) 2 2 87 [(0, .ref (v.1 0)), (1, .int x1)] [.int y0, .ref (v.1 0)] S := by
  unfold w_X8_readWord_87 at h
  refine fp_X8_X8_token (n := 90) ok dX8_readWord_87 rfl ?_
  refine g_mem (fun S1 eS1 => ?_)
  replace h := h S1 eS1
  refine g_aload_n 0 (n := 91) ok dX8_readWord_90 rfl rfl ?_
  refine g_iload_n 1 (n := 92) ok dX8_readWord_91 rfl rfl ?_
  refine fp_X8_X8_tokenValue (n := 95) ok dX8_readWord_92 rfl ?_
  refine g_mem (fun S2 eS2 => ?_)
  replace h := h S2 eS2
  exact g_sub [0, 1] rfl (b_X8_readWord_95 ok hK53 he x1 S2 h)
def w_X8_readWord_53 (post : Mem → Prop) : Nat → Int32 → Mem → Prop
  | 0, _, _ => False
  | n + 1, x1, S => (((12 : Int32) ≤ x1 → post S) ∧ (¬ (12 : Int32) ≤ x1 → w_X8_isWord x1 (S 0 17) (S 0 19) S (fun r1 S1 => ((r1 = 0 → w_X8_readWord_95 (w_X8_readWord_53 post n) post x1 S1) ∧ (¬ r1 = 0 → (((6 : Int32) ≤ x1 → w_X8_readWord_87 (w_X8_readWord_53 post n) post x1 (4 : Int32) S1) ∧ (¬ (6 : Int32) ≤ x1 → w_X8_readWord_87 (w_X8_readWord_53 post n) post x1 (2 : Int32) S1)))))))
set_option maxHeartbeats 4000000 in
set_option maxRecDepth 20000 in
theorem b_X8_readWord_53 {v : VmT} {l : Launch} {g : CxT} (ok : Ok l g (oM v) 2 cX8_readWord RX8 none) {post : Mem → Prop} (he : EndQ g (oM v) (va_Qv post (fun S1 t => BX (oM v) S1 t) (AX (oM v)))) : ∀ (n : Nat) (x1 : Int32) (S : Mem), w_X8_readWord_53 post n x1 S → G g (oM v) 2 2 53 [(0, .ref (v.1 0)), (1, .int x1)] [] S := by
  intro n
  induction n with
  | zero =>
    intro x1 S h
    exact h.elim
  | succ n ih =>
    intro x1 S h
    rw [w_X8_readWord_53] at h
    refine g_iload_n 1 (n := 54) ok dX8_readWord_53 rfl rfl ?_
    refine g_bipush (v := 12) (n := 56) ok dX8_readWord_54 rfl (by decide) ?_
    refine g_icmp_ge (t := 101) (n := 59) ok dX8_readWord_56 (by decide) rfl (fun e4 => ?_) (fun e4 => ?_)
    · replace h := h.1 e4
      exact g_vret ok he h dX8_readWord_101
    · replace h := h.2 e4
      refine g_aload_n 0 (n := 60) ok dX8_readWord_59 rfl rfl ?_
      refine g_iload_n 1 (n := 61) ok dX8_readWord_60 rfl rfl ?_
      refine g_aload_n 0 (n := 62) ok dX8_readWord_61 rfl rfl ?_
      refine fg_X8_X8_tokenAt (n := 65) ok dX8_readWord_62 rfl ?_
      refine g_aload_n 0 (n := 66) ok dX8_readWord_65 rfl rfl ?_
      refine fg_X8_X8_next (n := 69) ok dX8_readWord_66 rfl ?_
      refine g_callVi (n := 72) (As := [.int x1, .int (S 0 17), .int (S 0 19)]) (rest := []) (c := 0) ok (c_X8_isWord l v x1 (S 0 17) (S 0 19) S _ h) cal_X8_isWord tw_778 tw_780 tp_66 (Nat.le_of_ble_eq_true rfl) rfl rfl (by decide) (by decide) rfl (Nat.le_of_ble_eq_true rfl) dX8_readWord_69 rfl rfl (fun r1 S1 h => ?_)
      refine g_if_eq (t := 95) (n := 75) ok dX8_readWord_72 (by decide) rfl (fun e3 => ?_) (fun e3 => ?_)
      · replace h := h.1 e3
        exact g_sub [0, 1] rfl (b_X8_readWord_95 ok ih he x1 S1 h)
      · replace h := h.2 e3
        refine g_aload_n 0 (n := 76) ok dX8_readWord_75 rfl rfl ?_
        refine g_iload_n 1 (n := 77) ok dX8_readWord_76 rfl rfl ?_
        refine g_bipush (v := 6) (n := 79) ok dX8_readWord_77 rfl (by decide) ?_
        refine g_icmp_ge (t := 86) (n := 82) ok dX8_readWord_79 (by decide) rfl (fun e2 => ?_) (fun e2 => ?_)
        · replace h := h.1 e2
          refine g_iconst (v := 4) (n := 87) ok dX8_readWord_86 rfl (by decide) ?_
          exact g_sub [0, 1] rfl (b_X8_readWord_87 ok ih he x1 (4 : Int32) S1 h)
        · replace h := h.2 e2
          refine g_iconst (v := 2) (n := 83) ok dX8_readWord_82 rfl (by decide) ?_
          refine g_goto (t := 87) ok dX8_readWord_83 (by decide) ?_
          exact g_sub [0, 1] rfl (b_X8_readWord_87 ok ih he x1 (2 : Int32) S1 h)
def w_X8_readWord_46 (post : Mem → Prop) (S : Mem) : Prop := (∀ S1 : Mem, S1 = mset S 0 (upd (S 0) 16 (5 : Int32)) → ∃ n, w_X8_readWord_53 post n (0 : Int32) S1)
set_option maxHeartbeats 4000000 in
set_option maxRecDepth 20000 in
theorem b_X8_readWord_46 {v : VmT} {l : Launch} {g : CxT} (ok : Ok l g (oM v) 2 cX8_readWord RX8 none) {post : Mem → Prop} (he : EndQ g (oM v) (va_Qv post (fun S1 t => BX (oM v) S1 t) (AX (oM v)))) (S : Mem) (h : w_X8_readWord_46 post  S) : G g (oM v) 2 2 46 [(0, .ref (v.1 0))] [] S := by
  unfold w_X8_readWord_46 at h
  refine g_aload_n 0 (n := 47) ok dX8_readWord_46 rfl rfl ?_
  refine g_iconst (v := 5) (n := 48) ok dX8_readWord_47 rfl (by decide) ?_
  refine fp_X8_X8_token (n := 51) ok dX8_readWord_48 rfl ?_
  refine g_mem (fun S1 eS1 => ?_)
  replace h := h S1 eS1
  refine g_iconst (v := 0) (n := 52) ok dX8_readWord_51 rfl (by decide) ?_
  refine g_istore_n [(1, .int (0 : Int32)), (0, .ref (v.1 0))] (n := 53) ok dX8_readWord_52 rfl (by decide) rfl ?_
  obtain ⟨n0, h⟩ := h
  exact g_sub [1, 0] rfl (b_X8_readWord_53 ok he n0 (0 : Int32) S1 h)
def w_X8_readWord_0 (post : Mem → Prop) : Nat → Mem → Prop
  | 0, _ => False
  | n + 1, S => (((S 0 13) ≤ (S 0 19) → w_X8_readWord_46 post  S) ∧ (¬ (S 0 13) ≤ (S 0 19) → (vp_in (S 0 19) 160 ∧ w_X8_in ((S 8 (S 0 19).toNatClampNeg).toInt64) (97 : Int64) (122 : Int64) S (fun r1 S1 => ((r1 = 0 → w_X8_readWord_46 post  S1) ∧ (¬ r1 = 0 → (∀ S2 : Mem, S2 = mset S1 0 (upd (S1 0) 19 ((S1 0 19) + (1 : Int32))) → w_X8_readWord_0 post n  S2)))))))
set_option maxHeartbeats 4000000 in
set_option maxRecDepth 20000 in
theorem b_X8_readWord_0 {v : VmT} {l : Launch} {g : CxT} (ok : Ok l g (oM v) 2 cX8_readWord RX8 none) {post : Mem → Prop} (he : EndQ g (oM v) (va_Qv post (fun S1 t => BX (oM v) S1 t) (AX (oM v)))) : ∀ (n : Nat) (S : Mem), w_X8_readWord_0 post n  S → G g (oM v) 2 2 0 [(0, .ref (v.1 0))] [] S := by
  intro n
  induction n with
  | zero =>
    intro S h
    exact h.elim
  | succ n ih =>
    intro S h
    rw [w_X8_readWord_0] at h
    refine g_aload_n 0 (n := 1) ok dX8_readWord_0 rfl rfl ?_
    refine fg_X8_X8_next (n := 4) ok dX8_readWord_1 rfl ?_
    refine g_aload_n 0 (n := 5) ok dX8_readWord_4 rfl rfl ?_
    refine fg_X8_X8_tapeMany (n := 8) ok dX8_readWord_5 rfl ?_
    refine g_icmp_ge (t := 46) (n := 11) ok dX8_readWord_8 (by decide) rfl (fun e4 => ?_) (fun e4 => ?_)
    · replace h := h.1 e4
      exact g_sub [0] rfl (b_X8_readWord_46 ok he  S h)
    · replace h := h.2 e4
      refine g_aload_n 0 (n := 12) ok dX8_readWord_11 rfl rfl ?_
      refine fg_X8_X8_tape (n := 15) ok dX8_readWord_12 rfl ?_
      refine g_aload_n 0 (n := 16) ok dX8_readWord_15 rfl rfl ?_
      refine fg_X8_X8_next (n := 19) ok dX8_readWord_16 rfl ?_
      obtain ⟨h0, h⟩ := h
      refine g_iald (c := 8) (t0 := 0) (n := 20) ok (Nat.le_of_ble_eq_true rfl) rfl rfl h0 dX8_readWord_19 rfl ?_
      refine g_i2l (n := 21) ok dX8_readWord_20 rfl ?_
      refine g_ldc2 (v := 97) (n := 24) ok dX8_readWord_21 rfl tw_769 ?_
      refine g_ldc2 (v := 122) (n := 27) ok dX8_readWord_24 rfl tw_770 ?_
      refine g_callSi (n := 30) (As := [.long ((S 8 (S 0 19).toNatClampNeg).toInt64), .long (97 : Int64), .long (122 : Int64)]) (rest := []) ok (c_X8_in l v ((S 8 (S 0 19).toNatClampNeg).toInt64) (97 : Int64) (122 : Int64) S _ h) cal_X8_in tw_771 tw_772 (by decide) (by decide) rfl (Nat.le_of_ble_eq_true rfl) dX8_readWord_27 rfl rfl (fun r1 S1 h => ?_)
      refine g_if_eq (t := 46) (n := 33) ok dX8_readWord_30 (by decide) rfl (fun e3 => ?_) (fun e3 => ?_)
      · replace h := h.1 e3
        exact g_sub [0] rfl (b_X8_readWord_46 ok he  S1 h)
      · replace h := h.2 e3
        refine g_aload_n 0 (n := 34) ok dX8_readWord_33 rfl rfl ?_
        refine g_dup (n := 35) ok dX8_readWord_34 rfl rfl ?_
        refine fg_X8_X8_next (n := 38) ok dX8_readWord_35 rfl ?_
        refine g_iconst (v := 1) (n := 39) ok dX8_readWord_38 rfl (by decide) ?_
        refine g_iadd (n := 40) ok dX8_readWord_39 rfl ?_
        refine fp_X8_X8_next (n := 43) ok dX8_readWord_40 rfl ?_
        refine g_mem (fun S2 eS2 => ?_)
        replace h := h S2 eS2
        refine g_goto (t := 0) ok dX8_readWord_43 (by decide) ?_
        exact g_sub [0] rfl (ih  S2 h)
def w_X8_readWord (S : Mem) (post : Mem → Prop) : Prop := ∃ n, w_X8_readWord_0 post n  S
set_option maxHeartbeats 4000000 in
set_option maxRecDepth 20000 in
theorem c_X8_readWord (l : Launch) (v : VmT) (S : Mem) (post : Mem → Prop) (h : w_X8_readWord  S post) : MV l yX8_readWord cX8_readWord 2 none 2 (oM v) [.ref (v.1 0)] S post := by
  refine met_start (by decide +kernel) (Nat.le_of_ble_eq_true rfl) (fun g ok he => ?_)
  refine g_eq (L' := [(0, .ref (v.1 0))]) (st' := []) ?_ rfl rfl
  unfold w_X8_readWord at h
  obtain ⟨n0, h⟩ := h
  exact g_sub [0] rfl (b_X8_readWord_0 ok he n0  S h)
def w_X8_readNumber_76 (K5 : Mem → Prop) (post : Mem → Prop) (y0 : Int32) (S : Mem) : Prop := (∀ S1 : Mem, S1 = mset S 0 (upd (S 0) 18 y0) → (∀ S2 : Mem, S2 = mset S1 0 (upd (S1 0) 19 ((S1 0 19) + (1 : Int32))) → K5  S2))
set_option maxHeartbeats 4000000 in
set_option maxRecDepth 20000 in
theorem b_X8_readNumber_76 {v : VmT} {l : Launch} {g : CxT} {K5 : Mem → Prop} (ok : Ok l g (oM v) 1 cX8_readNumber RX8 none) (hK5 : ∀ (S : Mem), K5  S → G g (oM v) 2 1 5 [(0, .ref (v.1 0))] [] S) {post : Mem → Prop} (he : EndQ g (oM v) (va_Qv post (fun S1 t => BX (oM v) S1 t) (AX (oM v)))) (y0 : Int32) (S : Mem) (h : w_X8_readNumber_76 K5 post y0 S) : G g (oM v) 2 1 76 [(0, .ref (v.1 0))] [.int y0, .ref (v.1 0)] S := by
  unfold w_X8_readNumber_76 at h
  refine fp_X8_X8_tokenValue (n := 79) ok dX8_readNumber_76 rfl ?_
  refine g_mem (fun S1 eS1 => ?_)
  replace h := h S1 eS1
  refine g_aload_n 0 (n := 80) ok dX8_readNumber_79 rfl rfl ?_
  refine g_dup (n := 81) ok dX8_readNumber_80 rfl rfl ?_
  refine fg_X8_X8_next (n := 84) ok dX8_readNumber_81 rfl ?_
  refine g_iconst (v := 1) (n := 85) ok dX8_readNumber_84 rfl (by decide) ?_
  refine g_iadd (n := 86) ok dX8_readNumber_85 rfl ?_
  refine fp_X8_X8_next (n := 89) ok dX8_readNumber_86 rfl ?_
  refine g_mem (fun S2 eS2 => ?_)
  replace h := h S2 eS2
  refine g_goto (t := 5) ok dX8_readNumber_89 (by decide) ?_
  exact g_sub [0] rfl (hK5  S2 h)
def w_X8_readNumber_111 (post : Mem → Prop) (y0 : Int32) (S : Mem) : Prop := (∀ S1 : Mem, S1 = mset S 0 (upd (S 0) 16 y0) → post S1)
set_option maxHeartbeats 4000000 in
set_option maxRecDepth 20000 in
theorem b_X8_readNumber_111 {v : VmT} {l : Launch} {g : CxT} (ok : Ok l g (oM v) 1 cX8_readNumber RX8 none) {post : Mem → Prop} (he : EndQ g (oM v) (va_Qv post (fun S1 t => BX (oM v) S1 t) (AX (oM v)))) (y0 : Int32) (S : Mem) (h : w_X8_readNumber_111 post y0 S) : G g (oM v) 2 1 111 [] [.int y0, .ref (v.1 0)] S := by
  unfold w_X8_readNumber_111 at h
  refine fp_X8_X8_token (n := 114) ok dX8_readNumber_111 rfl ?_
  refine g_mem (fun S1 eS1 => ?_)
  replace h := h S1 eS1
  exact g_vret ok he h dX8_readNumber_114
def w_X8_readNumber_92 (post : Mem → Prop) (S : Mem) : Prop := ((((S 0 19) - (S 0 17)) ≤ (4 : Int32) → w_X8_readNumber_111 post (1 : Int32) S) ∧ (¬ ((S 0 19) - (S 0 17)) ≤ (4 : Int32) → w_X8_readNumber_111 post (5 : Int32) S))
set_option maxHeartbeats 4000000 in
set_option maxRecDepth 20000 in
theorem b_X8_readNumber_92 {v : VmT} {l : Launch} {g : CxT} (ok : Ok l g (oM v) 1 cX8_readNumber RX8 none) {post : Mem → Prop} (he : EndQ g (oM v) (va_Qv post (fun S1 t => BX (oM v) S1 t) (AX (oM v)))) (S : Mem) (h : w_X8_readNumber_92 post  S) : G g (oM v) 2 1 92 [(0, .ref (v.1 0))] [] S := by
  unfold w_X8_readNumber_92 at h
  refine g_aload_n 0 (n := 93) ok dX8_readNumber_92 rfl rfl ?_
  refine g_aload_n 0 (n := 94) ok dX8_readNumber_93 rfl rfl ?_
  refine fg_X8_X8_next (n := 97) ok dX8_readNumber_94 rfl ?_
  refine g_aload_n 0 (n := 98) ok dX8_readNumber_97 rfl rfl ?_
  refine fg_X8_X8_tokenAt (n := 101) ok dX8_readNumber_98 rfl ?_
  refine g_isub (n := 102) ok dX8_readNumber_101 rfl ?_
  refine g_iconst (v := 4) (n := 103) ok dX8_readNumber_102 rfl (by decide) ?_
  refine g_icmp_le (t := 110) (n := 106) ok dX8_readNumber_103 (by decide) rfl (fun e1 => ?_) (fun e1 => ?_)
  · replace h := h.1 e1
    refine g_iconst (v := 1) (n := 111) ok dX8_readNumber_110 rfl (by decide) ?_
    exact g_sub [] rfl (b_X8_readNumber_111 ok he (1 : Int32) S h)
  · replace h := h.2 e1
    refine g_iconst (v := 5) (n := 107) ok dX8_readNumber_106 rfl (by decide) ?_
    refine g_goto (t := 111) ok dX8_readNumber_107 (by decide) ?_
    exact g_sub [] rfl (b_X8_readNumber_111 ok he (5 : Int32) S h)
def w_X8_readNumber_5 (post : Mem → Prop) : Nat → Mem → Prop
  | 0, _ => False
  | n + 1, S => (((S 0 13) ≤ (S 0 19) → w_X8_readNumber_92 post  S) ∧ (¬ (S 0 13) ≤ (S 0 19) → (vp_in (S 0 19) 160 ∧ w_X8_in ((S 8 (S 0 19).toNatClampNeg).toInt64) (48 : Int64) (57 : Int64) S (fun r1 S1 => ((r1 = 0 → w_X8_readNumber_92 post  S1) ∧ (¬ r1 = 0 → (((S1 0 18) ≤ (9999 : Int32) → (vp_in (S1 0 19) 160 ∧ w_X8_readNumber_76 (w_X8_readNumber_5 post n) post ((((10 : Int32) * (S1 0 18)) + (S1 8 (S1 0 19).toNatClampNeg)) - (48 : Int32)) S1)) ∧ (¬ (S1 0 18) ≤ (9999 : Int32) → w_X8_readNumber_76 (w_X8_readNumber_5 post n) post (S1 0 18) S1))))))))
set_option maxHeartbeats 4000000 in
set_option maxRecDepth 20000 in
theorem b_X8_readNumber_5 {v : VmT} {l : Launch} {g : CxT} (ok : Ok l g (oM v) 1 cX8_readNumber RX8 none) {post : Mem → Prop} (he : EndQ g (oM v) (va_Qv post (fun S1 t => BX (oM v) S1 t) (AX (oM v)))) : ∀ (n : Nat) (S : Mem), w_X8_readNumber_5 post n  S → G g (oM v) 2 1 5 [(0, .ref (v.1 0))] [] S := by
  intro n
  induction n with
  | zero =>
    intro S h
    exact h.elim
  | succ n ih =>
    intro S h
    rw [w_X8_readNumber_5] at h
    refine g_aload_n 0 (n := 6) ok dX8_readNumber_5 rfl rfl ?_
    refine fg_X8_X8_next (n := 9) ok dX8_readNumber_6 rfl ?_
    refine g_aload_n 0 (n := 10) ok dX8_readNumber_9 rfl rfl ?_
    refine fg_X8_X8_tapeMany (n := 13) ok dX8_readNumber_10 rfl ?_
    refine g_icmp_ge (t := 92) (n := 16) ok dX8_readNumber_13 (by decide) rfl (fun e4 => ?_) (fun e4 => ?_)
    · replace h := h.1 e4
      exact g_sub [0] rfl (b_X8_readNumber_92 ok he  S h)
    · replace h := h.2 e4
      refine g_aload_n 0 (n := 17) ok dX8_readNumber_16 rfl rfl ?_
      refine fg_X8_X8_tape (n := 20) ok dX8_readNumber_17 rfl ?_
      refine g_aload_n 0 (n := 21) ok dX8_readNumber_20 rfl rfl ?_
      refine fg_X8_X8_next (n := 24) ok dX8_readNumber_21 rfl ?_
      obtain ⟨h0, h⟩ := h
      refine g_iald (c := 8) (t0 := 0) (n := 25) ok (Nat.le_of_ble_eq_true rfl) rfl rfl h0 dX8_readNumber_24 rfl ?_
      refine g_i2l (n := 26) ok dX8_readNumber_25 rfl ?_
      refine g_ldc2 (v := 48) (n := 29) ok dX8_readNumber_26 rfl tw_782 ?_
      refine g_ldc2 (v := 57) (n := 32) ok dX8_readNumber_29 rfl tw_783 ?_
      refine g_callSi (n := 35) (As := [.long ((S 8 (S 0 19).toNatClampNeg).toInt64), .long (48 : Int64), .long (57 : Int64)]) (rest := []) ok (c_X8_in l v ((S 8 (S 0 19).toNatClampNeg).toInt64) (48 : Int64) (57 : Int64) S _ h) cal_X8_in tw_771 tw_772 (by decide) (by decide) rfl (Nat.le_of_ble_eq_true rfl) dX8_readNumber_32 rfl rfl (fun r1 S1 h => ?_)
      refine g_if_eq (t := 92) (n := 38) ok dX8_readNumber_35 (by decide) rfl (fun e3 => ?_) (fun e3 => ?_)
      · replace h := h.1 e3
        exact g_sub [0] rfl (b_X8_readNumber_92 ok he  S1 h)
      · replace h := h.2 e3
        refine g_aload_n 0 (n := 39) ok dX8_readNumber_38 rfl rfl ?_
        refine g_aload_n 0 (n := 40) ok dX8_readNumber_39 rfl rfl ?_
        refine fg_X8_X8_tokenValue (n := 43) ok dX8_readNumber_40 rfl ?_
        refine g_sipush (v := 9999) (n := 46) ok dX8_readNumber_43 rfl (by decide) ?_
        refine g_icmp_le (t := 56) (n := 49) ok dX8_readNumber_46 (by decide) rfl (fun e2 => ?_) (fun e2 => ?_)
        · replace h := h.1 e2
          refine g_bipush (v := 10) (n := 58) ok dX8_readNumber_56 rfl (by decide) ?_
          refine g_aload_n 0 (n := 59) ok dX8_readNumber_58 rfl rfl ?_
          refine fg_X8_X8_tokenValue (n := 62) ok dX8_readNumber_59 rfl ?_
          refine g_imul (n := 63) ok dX8_readNumber_62 rfl ?_
          refine g_aload_n 0 (n := 64) ok dX8_readNumber_63 rfl rfl ?_
          refine fg_X8_X8_tape (n := 67) ok dX8_readNumber_64 rfl ?_
          refine g_aload_n 0 (n := 68) ok dX8_readNumber_67 rfl rfl ?_
          refine fg_X8_X8_next (n := 71) ok dX8_readNumber_68 rfl ?_
          obtain ⟨h0, h⟩ := h
          refine g_iald (c := 8) (t0 := 0) (n := 72) ok (Nat.le_of_ble_eq_true rfl) rfl rfl h0 dX8_readNumber_71 rfl ?_
          refine g_iadd (n := 73) ok dX8_readNumber_72 rfl ?_
          refine g_bipush (v := 48) (n := 75) ok dX8_readNumber_73 rfl (by decide) ?_
          refine g_isub (n := 76) ok dX8_readNumber_75 rfl ?_
          exact g_sub [0] rfl (b_X8_readNumber_76 ok ih he ((((10 : Int32) * (S1 0 18)) + (S1 8 (S1 0 19).toNatClampNeg)) - (48 : Int32)) S1 h)
        · replace h := h.2 e2
          refine g_aload_n 0 (n := 50) ok dX8_readNumber_49 rfl rfl ?_
          refine fg_X8_X8_tokenValue (n := 53) ok dX8_readNumber_50 rfl ?_
          refine g_goto (t := 76) ok dX8_readNumber_53 (by decide) ?_
          exact g_sub [0] rfl (b_X8_readNumber_76 ok ih he (S1 0 18) S1 h)
def w_X8_readNumber (S : Mem) (post : Mem → Prop) : Prop := (∀ S1 : Mem, S1 = mset S 0 (upd (S 0) 18 (0 : Int32)) → ∃ n, w_X8_readNumber_5 post n  S1)
set_option maxHeartbeats 4000000 in
set_option maxRecDepth 20000 in
theorem c_X8_readNumber (l : Launch) (v : VmT) (S : Mem) (post : Mem → Prop) (h : w_X8_readNumber  S post) : MV l yX8_readNumber cX8_readNumber 1 none 2 (oM v) [.ref (v.1 0)] S post := by
  refine met_start (by decide +kernel) (Nat.le_of_ble_eq_true rfl) (fun g ok he => ?_)
  refine g_eq (L' := [(0, .ref (v.1 0))]) (st' := []) ?_ rfl rfl
  unfold w_X8_readNumber at h
  refine g_aload_n 0 (n := 1) ok dX8_readNumber_0 rfl rfl ?_
  refine g_iconst (v := 0) (n := 2) ok dX8_readNumber_1 rfl (by decide) ?_
  refine fp_X8_X8_tokenValue (n := 5) ok dX8_readNumber_2 rfl ?_
  refine g_mem (fun S1 eS1 => ?_)
  replace h := h S1 eS1
  obtain ⟨n0, h⟩ := h
  exact g_sub [0] rfl (b_X8_readNumber_5 ok he n0  S1 h)
def w_X8_readToken_182 (post : Mem → Prop) (x1 : Int32) (y0 : Int32) (S : Mem) : Prop := (∀ S1 : Mem, S1 = mset S 0 (upd (S 0) 16 y0) → (∀ S2 : Mem, S2 = mset S1 0 (upd (S1 0) 18 x1) → post S2))
set_option maxHeartbeats 4000000 in
set_option maxRecDepth 20000 in
theorem b_X8_readToken_182 {v : VmT} {l : Launch} {g : CxT} (ok : Ok l g (oM v) 3 cX8_readToken RX8 none) {post : Mem → Prop} (he : EndQ g (oM v) (va_Qv post (fun S1 t => BX (oM v) S1 t) (AX (oM v)))) (x1 : Int32) (y0 : Int32) (S : Mem) (h : w_X8_readToken_182 post x1 y0 S) : G g (oM v) 3 3 182 [(0, .ref (v.1 0)), (1, .int x1)] [.int y0, .ref (v.1 0)] S := by
  unfold w_X8_readToken_182 at h
  refine fp_X8_X8_token (n := 185) ok dX8_readToken_182 rfl ?_
  refine g_mem (fun S1 eS1 => ?_)
  replace h := h S1 eS1
  refine g_aload_n 0 (n := 186) ok dX8_readToken_185 rfl rfl ?_
  refine g_iload_n 1 (n := 187) ok dX8_readToken_186 rfl rfl ?_
  refine fp_X8_X8_tokenValue (n := 190) ok dX8_readToken_187 rfl ?_
  refine g_mem (fun S2 eS2 => ?_)
  replace h := h S2 eS2
  exact g_vret ok he h dX8_readToken_190
def w_X8_readToken_171 (post : Mem → Prop) (x1 : Int32) (y0 : Int32) (S : Mem) : Prop := ((y0 = 0 → w_X8_readToken_182 post x1 (5 : Int32) S) ∧ (¬ y0 = 0 → w_X8_readToken_182 post x1 (3 : Int32) S))
set_option maxHeartbeats 4000000 in
set_option maxRecDepth 20000 in
theorem b_X8_readToken_171 {v : VmT} {l : Launch} {g : CxT} (ok : Ok l g (oM v) 3 cX8_readToken RX8 none) {post : Mem → Prop} (he : EndQ g (oM v) (va_Qv post (fun S1 t => BX (oM v) S1 t) (AX (oM v)))) (x1 : Int32) (y0 : Int32) (S : Mem) (h : w_X8_readToken_171 post x1 y0 S) : G g (oM v) 3 3 171 [(0, .ref (v.1 0)), (1, .int x1)] [.int y0] S := by
  unfold w_X8_readToken_171 at h
  refine g_istore_n [(2, .int y0), (0, .ref (v.1 0)), (1, .int x1)] (n := 172) ok dX8_readToken_171 rfl (by decide) rfl ?_
  refine g_aload_n 1 (n := 173) ok dX8_readToken_172 rfl rfl ?_
  refine g_iload_n 0 (n := 174) ok dX8_readToken_173 rfl rfl ?_
  refine g_if_eq (t := 181) (n := 177) ok dX8_readToken_174 (by decide) rfl (fun e1 => ?_) (fun e1 => ?_)
  · replace h := h.1 e1
    refine g_iconst (v := 5) (n := 182) ok dX8_readToken_181 rfl (by decide) ?_
    exact g_sub [1, 2] rfl (b_X8_readToken_182 ok he x1 (5 : Int32) S h)
  · replace h := h.2 e1
    refine g_iconst (v := 3) (n := 178) ok dX8_readToken_177 rfl (by decide) ?_
    refine g_goto (t := 182) ok dX8_readToken_178 (by decide) ?_
    exact g_sub [1, 2] rfl (b_X8_readToken_182 ok he x1 (3 : Int32) S h)
def w_X8_readToken_166 (post : Mem → Prop) (x1 : Int32) (S : Mem) : Prop := w_X8_readToken_171 post x1 (1 : Int32) S
set_option maxHeartbeats 4000000 in
set_option maxRecDepth 20000 in
theorem b_X8_readToken_166 {v : VmT} {l : Launch} {g : CxT} (ok : Ok l g (oM v) 3 cX8_readToken RX8 none) {post : Mem → Prop} (he : EndQ g (oM v) (va_Qv post (fun S1 t => BX (oM v) S1 t) (AX (oM v)))) (x1 : Int32) (S : Mem) (h : w_X8_readToken_166 post x1 S) : G g (oM v) 3 3 166 [(0, .ref (v.1 0)), (1, .int x1)] [] S := by
  unfold w_X8_readToken_166 at h
  refine g_iconst (v := 1) (n := 167) ok dX8_readToken_166 rfl (by decide) ?_
  refine g_goto (t := 171) ok dX8_readToken_167 (by decide) ?_
  exact g_sub [0, 1] rfl (b_X8_readToken_171 ok he x1 (1 : Int32) S h)
def w_X8_readToken_35 (post : Mem → Prop) (S : Mem) : Prop := (∀ S1 : Mem, S1 = mset S 0 (upd (S 0) 17 (S 0 19)) → ((¬ (S1 0 19) = (S1 0 13) → (vp_in (S1 0 19) 160 ∧ (∀ z2 : Int32, z2 = S1 8 (S1 0 19).toNatClampNeg → w_X8_in z2.toInt64 (97 : Int64) (122 : Int64) S1 (fun r3 S3 => ((r3 = 0 → w_X8_in z2.toInt64 (48 : Int64) (57 : Int64) S3 (fun r4 S4 => ((r4 = 0 → (∀ S5 : Mem, S5 = mset S4 0 (upd (S4 0) 19 ((S4 0 19) + (1 : Int32))) → ((z2 = (40 : Int32) → w_X8_readToken_166 post z2 S5) ∧ (¬ z2 = (40 : Int32) → ((z2 = (41 : Int32) → w_X8_readToken_166 post z2 S5) ∧ (¬ z2 = (41 : Int32) → ((z2 = (59 : Int32) → w_X8_readToken_166 post z2 S5) ∧ (¬ z2 = (59 : Int32) → ((z2 = (43 : Int32) → w_X8_readToken_166 post z2 S5) ∧ (¬ z2 = (43 : Int32) → ((z2 = (45 : Int32) → w_X8_readToken_166 post z2 S5) ∧ (¬ z2 = (45 : Int32) → ((z2 = (42 : Int32) → w_X8_readToken_166 post z2 S5) ∧ (¬ z2 = (42 : Int32) → ((z2 = (60 : Int32) → w_X8_readToken_166 post z2 S5) ∧ (¬ z2 = (60 : Int32) → ((¬ z2 = (61 : Int32) → w_X8_readToken_171 post z2 (0 : Int32) S5) ∧ (z2 = (61 : Int32) → w_X8_readToken_166 post z2 S5)))))))))))))))))) ∧ (¬ r4 = 0 → w_X8_readNumber  S4 (fun S14 => post S14))))) ∧ (¬ r3 = 0 → w_X8_readWord  S3 (fun S16 => post S16))))))) ∧ ((S1 0 19) = (S1 0 13) → (∀ S18 : Mem, S18 = mset S1 0 (upd (S1 0) 16 (0 : Int32)) → post S18))))
set_option maxHeartbeats 4000000 in
set_option maxRecDepth 20000 in
theorem b_X8_readToken_35 {v : VmT} {l : Launch} {g : CxT} (ok : Ok l g (oM v) 3 cX8_readToken RX8 none) {post : Mem → Prop} (he : EndQ g (oM v) (va_Qv post (fun S1 t => BX (oM v) S1 t) (AX (oM v)))) (S : Mem) (h : w_X8_readToken_35 post  S) : G g (oM v) 3 3 35 [(0, .ref (v.1 0))] [] S := by
  unfold w_X8_readToken_35 at h
  refine g_aload_n 0 (n := 36) ok dX8_readToken_35 rfl rfl ?_
  refine g_aload_n 0 (n := 37) ok dX8_readToken_36 rfl rfl ?_
  refine fg_X8_X8_next (n := 40) ok dX8_readToken_37 rfl ?_
  refine fp_X8_X8_tokenAt (n := 43) ok dX8_readToken_40 rfl ?_
  refine g_mem (fun S1 eS1 => ?_)
  replace h := h S1 eS1
  refine g_aload_n 0 (n := 44) ok dX8_readToken_43 rfl rfl ?_
  refine fg_X8_X8_next (n := 47) ok dX8_readToken_44 rfl ?_
  refine g_aload_n 0 (n := 48) ok dX8_readToken_47 rfl rfl ?_
  refine fg_X8_X8_tapeMany (n := 51) ok dX8_readToken_48 rfl ?_
  refine g_icmp_ne (t := 60) (n := 54) ok dX8_readToken_51 (by decide) rfl (fun e19 => ?_) (fun e19 => ?_)
  · replace h := h.1 e19
    refine g_aload_n 0 (n := 61) ok dX8_readToken_60 rfl rfl ?_
    refine fg_X8_X8_tape (n := 64) ok dX8_readToken_61 rfl ?_
    refine g_aload_n 0 (n := 65) ok dX8_readToken_64 rfl rfl ?_
    refine fg_X8_X8_next (n := 68) ok dX8_readToken_65 rfl ?_
    obtain ⟨h0, h⟩ := h
    refine g_iald (c := 8) (t0 := 0) (n := 69) ok (Nat.le_of_ble_eq_true rfl) rfl rfl h0 dX8_readToken_68 rfl ?_
    refine g_topi (fun z2 ez2 => ?_)
    replace h := h z2 ez2
    refine g_istore_n [(1, .int z2), (0, .ref (v.1 0))] (n := 70) ok dX8_readToken_69 rfl (by decide) rfl ?_
    refine g_iload_n 0 (n := 71) ok dX8_readToken_70 rfl rfl ?_
    refine g_i2l (n := 72) ok dX8_readToken_71 rfl ?_
    refine g_ldc2 (v := 97) (n := 75) ok dX8_readToken_72 rfl tw_769 ?_
    refine g_ldc2 (v := 122) (n := 78) ok dX8_readToken_75 rfl tw_770 ?_
    refine g_callSi (n := 81) (As := [.long z2.toInt64, .long (97 : Int64), .long (122 : Int64)]) (rest := []) ok (c_X8_in l v z2.toInt64 (97 : Int64) (122 : Int64) S1 _ h) cal_X8_in tw_771 tw_772 (by decide) (by decide) rfl (Nat.le_of_ble_eq_true rfl) dX8_readToken_78 rfl rfl (fun r3 S3 h => ?_)
    refine g_if_eq (t := 89) (n := 84) ok dX8_readToken_81 (by decide) rfl (fun e17 => ?_) (fun e17 => ?_)
    · replace h := h.1 e17
      refine g_iload_n 0 (n := 90) ok dX8_readToken_89 rfl rfl ?_
      refine g_i2l (n := 91) ok dX8_readToken_90 rfl ?_
      refine g_ldc2 (v := 48) (n := 94) ok dX8_readToken_91 rfl tw_782 ?_
      refine g_ldc2 (v := 57) (n := 97) ok dX8_readToken_94 rfl tw_783 ?_
      refine g_callSi (n := 100) (As := [.long z2.toInt64, .long (48 : Int64), .long (57 : Int64)]) (rest := []) ok (c_X8_in l v z2.toInt64 (48 : Int64) (57 : Int64) S3 _ h) cal_X8_in tw_771 tw_772 (by decide) (by decide) rfl (Nat.le_of_ble_eq_true rfl) dX8_readToken_97 rfl rfl (fun r4 S4 h => ?_)
      refine g_if_eq (t := 108) (n := 103) ok dX8_readToken_100 (by decide) rfl (fun e15 => ?_) (fun e15 => ?_)
      · replace h := h.1 e15
        refine g_aload_n 1 (n := 109) ok dX8_readToken_108 rfl rfl ?_
        refine g_dup (n := 110) ok dX8_readToken_109 rfl rfl ?_
        refine fg_X8_X8_next (n := 113) ok dX8_readToken_110 rfl ?_
        refine g_iconst (v := 1) (n := 114) ok dX8_readToken_113 rfl (by decide) ?_
        refine g_iadd (n := 115) ok dX8_readToken_114 rfl ?_
        refine fp_X8_X8_next (n := 118) ok dX8_readToken_115 rfl ?_
        refine g_mem (fun S5 eS5 => ?_)
        replace h := h S5 eS5
        refine g_iload_n 0 (n := 119) ok dX8_readToken_118 rfl rfl ?_
        refine g_bipush (v := 40) (n := 121) ok dX8_readToken_119 rfl (by decide) ?_
        refine g_icmp_eq (t := 166) (n := 124) ok dX8_readToken_121 (by decide) rfl (fun e13 => ?_) (fun e13 => ?_)
        · replace h := h.1 e13
          exact g_sub [1, 0] rfl (b_X8_readToken_166 ok he z2 S5 h)
        · replace h := h.2 e13
          refine g_iload_n 0 (n := 125) ok dX8_readToken_124 rfl rfl ?_
          refine g_bipush (v := 41) (n := 127) ok dX8_readToken_125 rfl (by decide) ?_
          refine g_icmp_eq (t := 166) (n := 130) ok dX8_readToken_127 (by decide) rfl (fun e12 => ?_) (fun e12 => ?_)
          · replace h := h.1 e12
            exact g_sub [1, 0] rfl (b_X8_readToken_166 ok he z2 S5 h)
          · replace h := h.2 e12
            refine g_iload_n 0 (n := 131) ok dX8_readToken_130 rfl rfl ?_
            refine g_bipush (v := 59) (n := 133) ok dX8_readToken_131 rfl (by decide) ?_
            refine g_icmp_eq (t := 166) (n := 136) ok dX8_readToken_133 (by decide) rfl (fun e11 => ?_) (fun e11 => ?_)
            · replace h := h.1 e11
              exact g_sub [1, 0] rfl (b_X8_readToken_166 ok he z2 S5 h)
            · replace h := h.2 e11
              refine g_iload_n 0 (n := 137) ok dX8_readToken_136 rfl rfl ?_
              refine g_bipush (v := 43) (n := 139) ok dX8_readToken_137 rfl (by decide) ?_
              refine g_icmp_eq (t := 166) (n := 142) ok dX8_readToken_139 (by decide) rfl (fun e10 => ?_) (fun e10 => ?_)
              · replace h := h.1 e10
                exact g_sub [1, 0] rfl (b_X8_readToken_166 ok he z2 S5 h)
              · replace h := h.2 e10
                refine g_iload_n 0 (n := 143) ok dX8_readToken_142 rfl rfl ?_
                refine g_bipush (v := 45) (n := 145) ok dX8_readToken_143 rfl (by decide) ?_
                refine g_icmp_eq (t := 166) (n := 148) ok dX8_readToken_145 (by decide) rfl (fun e9 => ?_) (fun e9 => ?_)
                · replace h := h.1 e9
                  exact g_sub [1, 0] rfl (b_X8_readToken_166 ok he z2 S5 h)
                · replace h := h.2 e9
                  refine g_iload_n 0 (n := 149) ok dX8_readToken_148 rfl rfl ?_
                  refine g_bipush (v := 42) (n := 151) ok dX8_readToken_149 rfl (by decide) ?_
                  refine g_icmp_eq (t := 166) (n := 154) ok dX8_readToken_151 (by decide) rfl (fun e8 => ?_) (fun e8 => ?_)
                  · replace h := h.1 e8
                    exact g_sub [1, 0] rfl (b_X8_readToken_166 ok he z2 S5 h)
                  · replace h := h.2 e8
                    refine g_iload_n 0 (n := 155) ok dX8_readToken_154 rfl rfl ?_
                    refine g_bipush (v := 60) (n := 157) ok dX8_readToken_155 rfl (by decide) ?_
                    refine g_icmp_eq (t := 166) (n := 160) ok dX8_readToken_157 (by decide) rfl (fun e7 => ?_) (fun e7 => ?_)
                    · replace h := h.1 e7
                      exact g_sub [1, 0] rfl (b_X8_readToken_166 ok he z2 S5 h)
                    · replace h := h.2 e7
                      refine g_iload_n 0 (n := 161) ok dX8_readToken_160 rfl rfl ?_
                      refine g_bipush (v := 61) (n := 163) ok dX8_readToken_161 rfl (by decide) ?_
                      refine g_icmp_ne (t := 170) (n := 166) ok dX8_readToken_163 (by decide) rfl (fun e6 => ?_) (fun e6 => ?_)
                      · replace h := h.1 e6
                        refine g_iconst (v := 0) (n := 171) ok dX8_readToken_170 rfl (by decide) ?_
                        exact g_sub [1, 0] rfl (b_X8_readToken_171 ok he z2 (0 : Int32) S5 h)
                      · replace h := h.2 e6
                        exact g_sub [1, 0] rfl (b_X8_readToken_166 ok he z2 S5 h)
      · replace h := h.2 e15
        refine g_aload_n 1 (n := 104) ok dX8_readToken_103 rfl rfl ?_
        refine g_callVv (n := 107) (As := []) (rest := []) (c := 0) ok (c_X8_readNumber l v  S4 _ h) cal_X8_readNumber tw_784 tw_786 tp_67 (Nat.le_of_ble_eq_true rfl) rfl rfl (by decide) (by decide) rfl (Nat.le_of_ble_eq_true rfl) dX8_readToken_104 rfl rfl (fun S14 h => ?_)
        exact g_vret ok he h dX8_readToken_107
    · replace h := h.2 e17
      refine g_aload_n 1 (n := 85) ok dX8_readToken_84 rfl rfl ?_
      refine g_callVv (n := 88) (As := []) (rest := []) (c := 0) ok (c_X8_readWord l v  S3 _ h) cal_X8_readWord tw_774 tw_776 tp_65 (Nat.le_of_ble_eq_true rfl) rfl rfl (by decide) (by decide) rfl (Nat.le_of_ble_eq_true rfl) dX8_readToken_85 rfl rfl (fun S16 h => ?_)
      exact g_vret ok he h dX8_readToken_88
  · replace h := h.2 e19
    refine g_aload_n 0 (n := 55) ok dX8_readToken_54 rfl rfl ?_
    refine g_iconst (v := 0) (n := 56) ok dX8_readToken_55 rfl (by decide) ?_
    refine fp_X8_X8_token (n := 59) ok dX8_readToken_56 rfl ?_
    refine g_mem (fun S18 eS18 => ?_)
    replace h := h S18 eS18
    exact g_vret ok he h dX8_readToken_59
def w_X8_readToken_0 (post : Mem → Prop) : Nat → Mem → Prop
  | 0, _ => False
  | n + 1, S => (((S 0 13) ≤ (S 0 19) → w_X8_readToken_35 post  S) ∧ (¬ (S 0 13) ≤ (S 0 19) → w_X8_isBlank (S 0 19) S (fun r1 S1 => ((r1 = 0 → w_X8_readToken_35 post  S1) ∧ (¬ r1 = 0 → (∀ S2 : Mem, S2 = mset S1 0 (upd (S1 0) 19 ((S1 0 19) + (1 : Int32))) → w_X8_readToken_0 post n  S2))))))
set_option maxHeartbeats 4000000 in
set_option maxRecDepth 20000 in
theorem b_X8_readToken_0 {v : VmT} {l : Launch} {g : CxT} (ok : Ok l g (oM v) 3 cX8_readToken RX8 none) {post : Mem → Prop} (he : EndQ g (oM v) (va_Qv post (fun S1 t => BX (oM v) S1 t) (AX (oM v)))) : ∀ (n : Nat) (S : Mem), w_X8_readToken_0 post n  S → G g (oM v) 3 3 0 [(0, .ref (v.1 0))] [] S := by
  intro n
  induction n with
  | zero =>
    intro S h
    exact h.elim
  | succ n ih =>
    intro S h
    rw [w_X8_readToken_0] at h
    refine g_aload_n 0 (n := 1) ok dX8_readToken_0 rfl rfl ?_
    refine fg_X8_X8_next (n := 4) ok dX8_readToken_1 rfl ?_
    refine g_aload_n 0 (n := 5) ok dX8_readToken_4 rfl rfl ?_
    refine fg_X8_X8_tapeMany (n := 8) ok dX8_readToken_5 rfl ?_
    refine g_icmp_ge (t := 35) (n := 11) ok dX8_readToken_8 (by decide) rfl (fun e4 => ?_) (fun e4 => ?_)
    · replace h := h.1 e4
      exact g_sub [0] rfl (b_X8_readToken_35 ok he  S h)
    · replace h := h.2 e4
      refine g_aload_n 0 (n := 12) ok dX8_readToken_11 rfl rfl ?_
      refine g_aload_n 0 (n := 13) ok dX8_readToken_12 rfl rfl ?_
      refine fg_X8_X8_next (n := 16) ok dX8_readToken_13 rfl ?_
      refine g_callVi (n := 19) (As := [.int (S 0 19)]) (rest := []) (c := 0) ok (c_X8_isBlank l v (S 0 19) S _ h) cal_X8_isBlank tw_765 tw_767 tp_64 (Nat.le_of_ble_eq_true rfl) rfl rfl (by decide) (by decide) rfl (Nat.le_of_ble_eq_true rfl) dX8_readToken_16 rfl rfl (fun r1 S1 h => ?_)
      refine g_if_eq (t := 35) (n := 22) ok dX8_readToken_19 (by decide) rfl (fun e3 => ?_) (fun e3 => ?_)
      · replace h := h.1 e3
        exact g_sub [0] rfl (b_X8_readToken_35 ok he  S1 h)
      · replace h := h.2 e3
        refine g_aload_n 0 (n := 23) ok dX8_readToken_22 rfl rfl ?_
        refine g_dup (n := 24) ok dX8_readToken_23 rfl rfl ?_
        refine fg_X8_X8_next (n := 27) ok dX8_readToken_24 rfl ?_
        refine g_iconst (v := 1) (n := 28) ok dX8_readToken_27 rfl (by decide) ?_
        refine g_iadd (n := 29) ok dX8_readToken_28 rfl ?_
        refine fp_X8_X8_next (n := 32) ok dX8_readToken_29 rfl ?_
        refine g_mem (fun S2 eS2 => ?_)
        replace h := h S2 eS2
        refine g_goto (t := 0) ok dX8_readToken_32 (by decide) ?_
        exact g_sub [0] rfl (ih  S2 h)
def w_X8_readToken (S : Mem) (post : Mem → Prop) : Prop := ∃ n, w_X8_readToken_0 post n  S
set_option maxHeartbeats 4000000 in
set_option maxRecDepth 20000 in
theorem c_X8_readToken (l : Launch) (v : VmT) (S : Mem) (post : Mem → Prop) (h : w_X8_readToken  S post) : MV l yX8_readToken cX8_readToken 3 none 3 (oM v) [.ref (v.1 0)] S post := by
  refine met_start (by decide +kernel) (Nat.le_of_ble_eq_true rfl) (fun g ok he => ?_)
  refine g_eq (L' := [(0, .ref (v.1 0))]) (st' := []) ?_ rfl rfl
  unfold w_X8_readToken at h
  obtain ⟨n0, h⟩ := h
  exact g_sub [0] rfl (b_X8_readToken_0 ok he n0  S h)
def w_X8_isSign_21 (post : Int32 → Mem → Prop) (y0 : Int32) (S : Mem) : Prop := (y0 = 0 ∨ y0 = 1) ∧ post y0 S
set_option maxHeartbeats 4000000 in
set_option maxRecDepth 20000 in
theorem b_X8_isSign_21 {v : VmT} {l : Launch} {g : CxT} (ok : Ok l g (oM v) 2 cX8_isSign RX8 (some .boolean)) {post : Int32 → Mem → Prop} (he : EndQ g (oM v) (va_Qi post (fun S1 t => BX (oM v) S1 t) (AX (oM v)))) (y0 : Int32) (S : Mem) (h : w_X8_isSign_21 post y0 S) : G g (oM v) 1 2 21 [] [.int y0] S := by
  unfold w_X8_isSign_21 at h
  exact g_zret ok he h.1 h.2 dX8_isSign_21
def w_X8_isSign_20 (post : Int32 → Mem → Prop) (S : Mem) : Prop := w_X8_isSign_21 post (0 : Int32) S
set_option maxHeartbeats 4000000 in
set_option maxRecDepth 20000 in
theorem b_X8_isSign_20 {v : VmT} {l : Launch} {g : CxT} (ok : Ok l g (oM v) 2 cX8_isSign RX8 (some .boolean)) {post : Int32 → Mem → Prop} (he : EndQ g (oM v) (va_Qi post (fun S1 t => BX (oM v) S1 t) (AX (oM v)))) (S : Mem) (h : w_X8_isSign_20 post  S) : G g (oM v) 1 2 20 [] [] S := by
  unfold w_X8_isSign_20 at h
  refine g_iconst (v := 0) (n := 21) ok dX8_isSign_20 rfl (by decide) ?_
  exact g_sub [] rfl (b_X8_isSign_21 ok he (0 : Int32) S h)
def w_X8_isSign (p1 : Int32) (S : Mem) (post : Int32 → Mem → Prop) : Prop := ((¬ (S 0 16) = (3 : Int32) → w_X8_isSign_20 post  S) ∧ ((S 0 16) = (3 : Int32) → ((¬ (S 0 18) = p1 → w_X8_isSign_20 post  S) ∧ ((S 0 18) = p1 → w_X8_isSign_21 post (1 : Int32) S))))
set_option maxHeartbeats 4000000 in
set_option maxRecDepth 20000 in
theorem c_X8_isSign (l : Launch) (v : VmT) (p1 : Int32) (S : Mem) (post : Int32 → Mem → Prop) (h : w_X8_isSign p1 S post) : MI l yX8_isSign cX8_isSign 2 (some .boolean) 1 (oM v) [.ref (v.1 0), .int p1] S post := by
  refine met_start (by decide +kernel) (Nat.le_of_ble_eq_true rfl) (fun g ok he => ?_)
  refine g_eq (L' := [(0, .ref (v.1 0)), (1, .int p1)]) (st' := []) ?_ rfl rfl
  unfold w_X8_isSign at h
  refine g_aload_n 0 (n := 1) ok dX8_isSign_0 rfl rfl ?_
  refine fg_X8_X8_token (n := 4) ok dX8_isSign_1 rfl ?_
  refine g_iconst (v := 3) (n := 5) ok dX8_isSign_4 rfl (by decide) ?_
  refine g_icmp_ne (t := 20) (n := 8) ok dX8_isSign_5 (by decide) rfl (fun e2 => ?_) (fun e2 => ?_)
  · replace h := h.1 e2
    exact g_sub [] rfl (b_X8_isSign_20 ok he  S h)
  · replace h := h.2 e2
    refine g_aload_n 0 (n := 9) ok dX8_isSign_8 rfl rfl ?_
    refine fg_X8_X8_tokenValue (n := 12) ok dX8_isSign_9 rfl ?_
    refine g_iload_n 1 (n := 13) ok dX8_isSign_12 rfl rfl ?_
    refine g_icmp_ne (t := 20) (n := 16) ok dX8_isSign_13 (by decide) rfl (fun e1 => ?_) (fun e1 => ?_)
    · replace h := h.1 e1
      exact g_sub [] rfl (b_X8_isSign_20 ok he  S h)
    · replace h := h.2 e1
      refine g_iconst (v := 1) (n := 17) ok dX8_isSign_16 rfl (by decide) ?_
      refine g_goto (t := 21) ok dX8_isSign_17 (by decide) ?_
      exact g_sub [] rfl (b_X8_isSign_21 ok he (1 : Int32) S h)
def w_X8_isKey_21 (post : Int32 → Mem → Prop) (y0 : Int32) (S : Mem) : Prop := (y0 = 0 ∨ y0 = 1) ∧ post y0 S
set_option maxHeartbeats 4000000 in
set_option maxRecDepth 20000 in
theorem b_X8_isKey_21 {v : VmT} {l : Launch} {g : CxT} (ok : Ok l g (oM v) 2 cX8_isKey RX8 (some .boolean)) {post : Int32 → Mem → Prop} (he : EndQ g (oM v) (va_Qi post (fun S1 t => BX (oM v) S1 t) (AX (oM v)))) (y0 : Int32) (S : Mem) (h : w_X8_isKey_21 post y0 S) : G g (oM v) 1 2 21 [] [.int y0] S := by
  unfold w_X8_isKey_21 at h
  exact g_zret ok he h.1 h.2 dX8_isKey_21
def w_X8_isKey_20 (post : Int32 → Mem → Prop) (S : Mem) : Prop := w_X8_isKey_21 post (0 : Int32) S
set_option maxHeartbeats 4000000 in
set_option maxRecDepth 20000 in
theorem b_X8_isKey_20 {v : VmT} {l : Launch} {g : CxT} (ok : Ok l g (oM v) 2 cX8_isKey RX8 (some .boolean)) {post : Int32 → Mem → Prop} (he : EndQ g (oM v) (va_Qi post (fun S1 t => BX (oM v) S1 t) (AX (oM v)))) (S : Mem) (h : w_X8_isKey_20 post  S) : G g (oM v) 1 2 20 [] [] S := by
  unfold w_X8_isKey_20 at h
  refine g_iconst (v := 0) (n := 21) ok dX8_isKey_20 rfl (by decide) ?_
  exact g_sub [] rfl (b_X8_isKey_21 ok he (0 : Int32) S h)
def w_X8_isKey (p1 : Int32) (S : Mem) (post : Int32 → Mem → Prop) : Prop := ((¬ (S 0 16) = (4 : Int32) → w_X8_isKey_20 post  S) ∧ ((S 0 16) = (4 : Int32) → ((¬ (S 0 18) = p1 → w_X8_isKey_20 post  S) ∧ ((S 0 18) = p1 → w_X8_isKey_21 post (1 : Int32) S))))
set_option maxHeartbeats 4000000 in
set_option maxRecDepth 20000 in
theorem c_X8_isKey (l : Launch) (v : VmT) (p1 : Int32) (S : Mem) (post : Int32 → Mem → Prop) (h : w_X8_isKey p1 S post) : MI l yX8_isKey cX8_isKey 2 (some .boolean) 1 (oM v) [.ref (v.1 0), .int p1] S post := by
  refine met_start (by decide +kernel) (Nat.le_of_ble_eq_true rfl) (fun g ok he => ?_)
  refine g_eq (L' := [(0, .ref (v.1 0)), (1, .int p1)]) (st' := []) ?_ rfl rfl
  unfold w_X8_isKey at h
  refine g_aload_n 0 (n := 1) ok dX8_isKey_0 rfl rfl ?_
  refine fg_X8_X8_token (n := 4) ok dX8_isKey_1 rfl ?_
  refine g_iconst (v := 4) (n := 5) ok dX8_isKey_4 rfl (by decide) ?_
  refine g_icmp_ne (t := 20) (n := 8) ok dX8_isKey_5 (by decide) rfl (fun e2 => ?_) (fun e2 => ?_)
  · replace h := h.1 e2
    exact g_sub [] rfl (b_X8_isKey_20 ok he  S h)
  · replace h := h.2 e2
    refine g_aload_n 0 (n := 9) ok dX8_isKey_8 rfl rfl ?_
    refine fg_X8_X8_tokenValue (n := 12) ok dX8_isKey_9 rfl ?_
    refine g_iload_n 1 (n := 13) ok dX8_isKey_12 rfl rfl ?_
    refine g_icmp_ne (t := 20) (n := 16) ok dX8_isKey_13 (by decide) rfl (fun e1 => ?_) (fun e1 => ?_)
    · replace h := h.1 e1
      exact g_sub [] rfl (b_X8_isKey_20 ok he  S h)
    · replace h := h.2 e1
      refine g_iconst (v := 1) (n := 17) ok dX8_isKey_16 rfl (by decide) ?_
      refine g_goto (t := 21) ok dX8_isKey_17 (by decide) ?_
      exact g_sub [] rfl (b_X8_isKey_21 ok he (1 : Int32) S h)
def w_X8_step (p1 : Int32) (S : Mem) (post : Mem → Prop) : Prop := (vp_in (((160 : Int32) * (S 0 14)) + (S 0 22)) 960 ∧ (∀ S1 : Mem, S1 = mset S 9 (upd (S 9) (((160 : Int32) * (S 0 14)) + (S 0 22)).toNatClampNeg p1) → (∀ S2 : Mem, S2 = mset S1 0 (upd (S1 0) 22 ((S1 0 22) + (1 : Int32))) → post S2)))
set_option maxHeartbeats 4000000 in
set_option maxRecDepth 20000 in
theorem c_X8_step (l : Launch) (v : VmT) (p1 : Int32) (S : Mem) (post : Mem → Prop) (h : w_X8_step p1 S post) : MV l yX8_step cX8_step 2 none 1 (oM v) [.ref (v.1 0), .int p1] S post := by
  refine met_start (by decide +kernel) (Nat.le_of_ble_eq_true rfl) (fun g ok he => ?_)
  refine g_eq (L' := [(0, .ref (v.1 0)), (1, .int p1)]) (st' := []) ?_ rfl rfl
  unfold w_X8_step at h
  refine g_aload_n 0 (n := 1) ok dX8_step_0 rfl rfl ?_
  refine fg_X8_X8_steps (n := 4) ok dX8_step_1 rfl ?_
  refine g_sipush (v := 160) (n := 7) ok dX8_step_4 rfl (by decide) ?_
  refine g_aload_n 0 (n := 8) ok dX8_step_7 rfl rfl ?_
  refine fg_X8_X8_textMany (n := 11) ok dX8_step_8 rfl ?_
  refine g_imul (n := 12) ok dX8_step_11 rfl ?_
  refine g_aload_n 0 (n := 13) ok dX8_step_12 rfl rfl ?_
  refine fg_X8_X8_stepMany (n := 16) ok dX8_step_13 rfl ?_
  refine g_iadd (n := 17) ok dX8_step_16 rfl ?_
  refine g_iload_n 1 (n := 18) ok dX8_step_17 rfl rfl ?_
  obtain ⟨h0, h⟩ := h
  refine g_iast (c := 9) (t0 := 0) (n := 19) ok (Nat.le_of_ble_eq_true rfl) (fun _ => rfl) rfl h0 dX8_step_18 rfl ?_
  refine g_mem (fun S1 eS1 => ?_)
  replace h := h S1 eS1
  refine g_aload_n 0 (n := 20) ok dX8_step_19 rfl rfl ?_
  refine g_dup (n := 21) ok dX8_step_20 rfl rfl ?_
  refine fg_X8_X8_stepMany (n := 24) ok dX8_step_21 rfl ?_
  refine g_iconst (v := 1) (n := 25) ok dX8_step_24 rfl (by decide) ?_
  refine g_iadd (n := 26) ok dX8_step_25 rfl ?_
  refine fp_X8_X8_stepMany (n := 29) ok dX8_step_26 rfl ?_
  refine g_mem (fun S2 eS2 => ?_)
  replace h := h S2 eS2
  exact g_vret ok he h dX8_step_29
def w_X8_rank_73 (post : Int32 → Mem → Prop) (y0 : Int32) (S : Mem) : Prop := post y0 S
set_option maxHeartbeats 4000000 in
set_option maxRecDepth 20000 in
theorem b_X8_rank_73 {v : VmT} {l : Launch} {g : CxT} (ok : Ok l g (oM v) 1 cX8_rank RX8 (some .int)) {post : Int32 → Mem → Prop} (he : EndQ g (oM v) (va_Qi post (fun S1 t => BX (oM v) S1 t) (AX (oM v)))) (y0 : Int32) (S : Mem) (h : w_X8_rank_73 post y0 S) : G g (oM v) 1 1 73 [] [.int y0] S := by
  unfold w_X8_rank_73 at h
  exact g_iret ok he h dX8_rank_73
def w_X8_rank (p0 : Int32) (S : Mem) (post : Int32 → Mem → Prop) : Prop := ((¬ p0 = (10 : Int32) → ((¬ p0 = (11 : Int32) → ((¬ p0 = (12 : Int32) → (((15 : Int32) ≤ p0 → (((17 : Int32) ≤ p0 → ((¬ p0 = (17 : Int32) → ((¬ p0 = (18 : Int32) → w_X8_rank_73 post (0 : Int32) S) ∧ (p0 = (18 : Int32) → w_X8_rank_73 post (7 : Int32) S))) ∧ (p0 = (17 : Int32) → w_X8_rank_73 post (6 : Int32) S))) ∧ (¬ (17 : Int32) ≤ p0 → w_X8_rank_73 post (5 : Int32) S))) ∧ (¬ (15 : Int32) ≤ p0 → w_X8_rank_73 post (4 : Int32) S))) ∧ (p0 = (12 : Int32) → w_X8_rank_73 post (3 : Int32) S))) ∧ (p0 = (11 : Int32) → w_X8_rank_73 post (2 : Int32) S))) ∧ (p0 = (10 : Int32) → w_X8_rank_73 post (1 : Int32) S))
set_option maxHeartbeats 4000000 in
set_option maxRecDepth 20000 in
theorem c_X8_rank (l : Launch) (v : VmT) (p0 : Int32) (S : Mem) (post : Int32 → Mem → Prop) (h : w_X8_rank p0 S post) : MI l yX8_rank cX8_rank 1 (some .int) 1 (oM v) [.int p0] S post := by
  refine met_start (by decide +kernel) (Nat.le_of_ble_eq_true rfl) (fun g ok he => ?_)
  refine g_eq (L' := [(0, .int p0)]) (st' := []) ?_ rfl rfl
  unfold w_X8_rank at h
  refine g_iload_n 0 (n := 1) ok dX8_rank_0 rfl rfl ?_
  refine g_bipush (v := 10) (n := 3) ok dX8_rank_1 rfl (by decide) ?_
  refine g_icmp_ne (t := 10) (n := 6) ok dX8_rank_3 (by decide) rfl (fun e7 => ?_) (fun e7 => ?_)
  · replace h := h.1 e7
    refine g_iload_n 0 (n := 11) ok dX8_rank_10 rfl rfl ?_
    refine g_bipush (v := 11) (n := 13) ok dX8_rank_11 rfl (by decide) ?_
    refine g_icmp_ne (t := 20) (n := 16) ok dX8_rank_13 (by decide) rfl (fun e6 => ?_) (fun e6 => ?_)
    · replace h := h.1 e6
      refine g_iload_n 0 (n := 21) ok dX8_rank_20 rfl rfl ?_
      refine g_bipush (v := 12) (n := 23) ok dX8_rank_21 rfl (by decide) ?_
      refine g_icmp_ne (t := 30) (n := 26) ok dX8_rank_23 (by decide) rfl (fun e5 => ?_) (fun e5 => ?_)
      · replace h := h.1 e5
        refine g_iload_n 0 (n := 31) ok dX8_rank_30 rfl rfl ?_
        refine g_bipush (v := 15) (n := 33) ok dX8_rank_31 rfl (by decide) ?_
        refine g_icmp_ge (t := 40) (n := 36) ok dX8_rank_33 (by decide) rfl (fun e4 => ?_) (fun e4 => ?_)
        · replace h := h.1 e4
          refine g_iload_n 0 (n := 41) ok dX8_rank_40 rfl rfl ?_
          refine g_bipush (v := 17) (n := 43) ok dX8_rank_41 rfl (by decide) ?_
          refine g_icmp_ge (t := 50) (n := 46) ok dX8_rank_43 (by decide) rfl (fun e3 => ?_) (fun e3 => ?_)
          · replace h := h.1 e3
            refine g_iload_n 0 (n := 51) ok dX8_rank_50 rfl rfl ?_
            refine g_bipush (v := 17) (n := 53) ok dX8_rank_51 rfl (by decide) ?_
            refine g_icmp_ne (t := 61) (n := 56) ok dX8_rank_53 (by decide) rfl (fun e2 => ?_) (fun e2 => ?_)
            · replace h := h.1 e2
              refine g_iload_n 0 (n := 62) ok dX8_rank_61 rfl rfl ?_
              refine g_bipush (v := 18) (n := 64) ok dX8_rank_62 rfl (by decide) ?_
              refine g_icmp_ne (t := 72) (n := 67) ok dX8_rank_64 (by decide) rfl (fun e1 => ?_) (fun e1 => ?_)
              · replace h := h.1 e1
                refine g_iconst (v := 0) (n := 73) ok dX8_rank_72 rfl (by decide) ?_
                exact g_sub [] rfl (b_X8_rank_73 ok he (0 : Int32) S h)
              · replace h := h.2 e1
                refine g_bipush (v := 7) (n := 69) ok dX8_rank_67 rfl (by decide) ?_
                refine g_goto (t := 73) ok dX8_rank_69 (by decide) ?_
                exact g_sub [] rfl (b_X8_rank_73 ok he (7 : Int32) S h)
            · replace h := h.2 e2
              refine g_bipush (v := 6) (n := 58) ok dX8_rank_56 rfl (by decide) ?_
              refine g_goto (t := 73) ok dX8_rank_58 (by decide) ?_
              exact g_sub [] rfl (b_X8_rank_73 ok he (6 : Int32) S h)
          · replace h := h.2 e3
            refine g_iconst (v := 5) (n := 47) ok dX8_rank_46 rfl (by decide) ?_
            refine g_goto (t := 73) ok dX8_rank_47 (by decide) ?_
            exact g_sub [] rfl (b_X8_rank_73 ok he (5 : Int32) S h)
        · replace h := h.2 e4
          refine g_iconst (v := 4) (n := 37) ok dX8_rank_36 rfl (by decide) ?_
          refine g_goto (t := 73) ok dX8_rank_37 (by decide) ?_
          exact g_sub [] rfl (b_X8_rank_73 ok he (4 : Int32) S h)
      · replace h := h.2 e5
        refine g_iconst (v := 3) (n := 27) ok dX8_rank_26 rfl (by decide) ?_
        refine g_goto (t := 73) ok dX8_rank_27 (by decide) ?_
        exact g_sub [] rfl (b_X8_rank_73 ok he (3 : Int32) S h)
    · replace h := h.2 e6
      refine g_iconst (v := 2) (n := 17) ok dX8_rank_16 rfl (by decide) ?_
      refine g_goto (t := 73) ok dX8_rank_17 (by decide) ?_
      exact g_sub [] rfl (b_X8_rank_73 ok he (2 : Int32) S h)
  · replace h := h.2 e7
    refine g_iconst (v := 1) (n := 7) ok dX8_rank_6 rfl (by decide) ?_
    refine g_goto (t := 73) ok dX8_rank_7 (by decide) ?_
    exact g_sub [] rfl (b_X8_rank_73 ok he (1 : Int32) S h)
def w_X8_letGo_51 (post : Mem → Prop) (S : Mem) : Prop := post S
set_option maxHeartbeats 4000000 in
set_option maxRecDepth 20000 in
theorem b_X8_letGo_51 {v : VmT} {l : Launch} {g : CxT} (ok : Ok l g (oM v) 2 cX8_letGo RX8 none) {post : Mem → Prop} (he : EndQ g (oM v) (va_Qv post (fun S1 t => BX (oM v) S1 t) (AX (oM v)))) (S : Mem) (h : w_X8_letGo_51 post  S) : G g (oM v) 2 2 51 [] [] S := by
  unfold w_X8_letGo_51 at h
  exact g_vret ok he h dX8_letGo_51
def w_X8_letGo_0 (post : Mem → Prop) : Nat → Int32 → Mem → Prop
  | 0, _, _ => False
  | n + 1, x1, S => (((S 0 24) ≤ 0 → w_X8_letGo_51 post  S) ∧ (¬ (S 0 24) ≤ 0 → (vp_in ((S 0 24) - (1 : Int32)) 170 ∧ w_X8_rank (S 11 ((S 0 24) - (1 : Int32)).toNatClampNeg) S (fun r1 S1 => ((r1 < x1 → w_X8_letGo_51 post  S1) ∧ (¬ r1 < x1 → (∀ S2 : Mem, S2 = mset S1 0 (upd (S1 0) 24 ((S1 0 24) - (1 : Int32))) → (vp_in (S2 0 24) 170 ∧ w_X8_step (S2 11 (S2 0 24).toNatClampNeg) S2 (fun S3 => w_X8_letGo_0 post n x1 S3)))))))))
set_option maxHeartbeats 4000000 in
set_option maxRecDepth 20000 in
theorem b_X8_letGo_0 {v : VmT} {l : Launch} {g : CxT} (ok : Ok l g (oM v) 2 cX8_letGo RX8 none) {post : Mem → Prop} (he : EndQ g (oM v) (va_Qv post (fun S1 t => BX (oM v) S1 t) (AX (oM v)))) : ∀ (n : Nat) (x1 : Int32) (S : Mem), w_X8_letGo_0 post n x1 S → G g (oM v) 2 2 0 [(0, .ref (v.1 0)), (1, .int x1)] [] S := by
  intro n
  induction n with
  | zero =>
    intro x1 S h
    exact h.elim
  | succ n ih =>
    intro x1 S h
    rw [w_X8_letGo_0] at h
    refine g_aload_n 0 (n := 1) ok dX8_letGo_0 rfl rfl ?_
    refine fg_X8_X8_waitMany (n := 4) ok dX8_letGo_1 rfl ?_
    refine g_if_le (t := 51) (n := 7) ok dX8_letGo_4 (by decide) rfl (fun e5 => ?_) (fun e5 => ?_)
    · replace h := h.1 e5
      exact g_sub [] rfl (b_X8_letGo_51 ok he  S h)
    · replace h := h.2 e5
      refine g_aload_n 0 (n := 8) ok dX8_letGo_7 rfl rfl ?_
      refine fg_X8_X8_waiting (n := 11) ok dX8_letGo_8 rfl ?_
      refine g_aload_n 0 (n := 12) ok dX8_letGo_11 rfl rfl ?_
      refine fg_X8_X8_waitMany (n := 15) ok dX8_letGo_12 rfl ?_
      refine g_iconst (v := 1) (n := 16) ok dX8_letGo_15 rfl (by decide) ?_
      refine g_isub (n := 17) ok dX8_letGo_16 rfl ?_
      obtain ⟨h0, h⟩ := h
      refine g_iald (c := 11) (t0 := 0) (n := 18) ok (Nat.le_of_ble_eq_true rfl) rfl rfl h0 dX8_letGo_17 rfl ?_
      refine g_callSi (n := 21) (As := [.int (S 11 ((S 0 24) - (1 : Int32)).toNatClampNeg)]) (rest := []) ok (c_X8_rank l v (S 11 ((S 0 24) - (1 : Int32)).toNatClampNeg) S _ h) cal_X8_rank tw_808 tw_809 (by decide) (by decide) rfl (Nat.le_of_ble_eq_true rfl) dX8_letGo_18 rfl rfl (fun r1 S1 h => ?_)
      refine g_iload_n 1 (n := 22) ok dX8_letGo_21 rfl rfl ?_
      refine g_icmp_lt (t := 51) (n := 25) ok dX8_letGo_22 (by decide) rfl (fun e4 => ?_) (fun e4 => ?_)
      · replace h := h.1 e4
        exact g_sub [] rfl (b_X8_letGo_51 ok he  S1 h)
      · replace h := h.2 e4
        refine g_aload_n 0 (n := 26) ok dX8_letGo_25 rfl rfl ?_
        refine g_dup (n := 27) ok dX8_letGo_26 rfl rfl ?_
        refine fg_X8_X8_waitMany (n := 30) ok dX8_letGo_27 rfl ?_
        refine g_iconst (v := 1) (n := 31) ok dX8_letGo_30 rfl (by decide) ?_
        refine g_isub (n := 32) ok dX8_letGo_31 rfl ?_
        refine fp_X8_X8_waitMany (n := 35) ok dX8_letGo_32 rfl ?_
        refine g_mem (fun S2 eS2 => ?_)
        replace h := h S2 eS2
        refine g_aload_n 0 (n := 36) ok dX8_letGo_35 rfl rfl ?_
        refine g_aload_n 0 (n := 37) ok dX8_letGo_36 rfl rfl ?_
        refine fg_X8_X8_waiting (n := 40) ok dX8_letGo_37 rfl ?_
        refine g_aload_n 0 (n := 41) ok dX8_letGo_40 rfl rfl ?_
        refine fg_X8_X8_waitMany (n := 44) ok dX8_letGo_41 rfl ?_
        obtain ⟨h0, h⟩ := h
        refine g_iald (c := 11) (t0 := 0) (n := 45) ok (Nat.le_of_ble_eq_true rfl) rfl rfl h0 dX8_letGo_44 rfl ?_
        refine g_callVv (n := 48) (As := [.int (S2 11 (S2 0 24).toNatClampNeg)]) (rest := []) (c := 0) ok (c_X8_step l v (S2 11 (S2 0 24).toNatClampNeg) S2 _ h) cal_X8_step tw_800 tw_802 tp_71 (Nat.le_of_ble_eq_true rfl) rfl rfl (by decide) (by decide) rfl (Nat.le_of_ble_eq_true rfl) dX8_letGo_45 rfl rfl (fun S3 h => ?_)
        refine g_goto (t := 0) ok dX8_letGo_48 (by decide) ?_
        exact g_sub [0, 1] rfl (ih x1 S3 h)
def w_X8_letGo (p1 : Int32) (S : Mem) (post : Mem → Prop) : Prop := ∃ n, w_X8_letGo_0 post n p1 S
set_option maxHeartbeats 4000000 in
set_option maxRecDepth 20000 in
theorem c_X8_letGo (l : Launch) (v : VmT) (p1 : Int32) (S : Mem) (post : Mem → Prop) (h : w_X8_letGo p1 S post) : MV l yX8_letGo cX8_letGo 2 none 2 (oM v) [.ref (v.1 0), .int p1] S post := by
  refine met_start (by decide +kernel) (Nat.le_of_ble_eq_true rfl) (fun g ok he => ?_)
  refine g_eq (L' := [(0, .ref (v.1 0)), (1, .int p1)]) (st' := []) ?_ rfl rfl
  unfold w_X8_letGo at h
  obtain ⟨n0, h⟩ := h
  exact g_sub [0, 1] rfl (b_X8_letGo_0 ok he n0 p1 S h)
def w_X8_opened_51 (K4 : Int32 → Int32 → Mem → Prop) (post : Int32 → Mem → Prop) (x2 : Int32) (y0 : Int32) (y1 : Int32) (S : Mem) : Prop := (∀ z1 : Int32, z1 = y1 + y0 → (∀ z2 : Int32, z2 = x2 + 1 → K4 z1 z2 S))
set_option maxHeartbeats 4000000 in
set_option maxRecDepth 20000 in
theorem b_X8_opened_51 {v : VmT} {l : Launch} {g : CxT} {K4 : Int32 → Int32 → Mem → Prop} (ok : Ok l g (oM v) 3 cX8_opened RX8 (some .int)) (hK4 : ∀ (x1 : Int32) (x2 : Int32) (S : Mem), K4 x1 x2 S → G g (oM v) 1 3 4 [(0, .ref (v.1 0)), (1, .int x1), (2, .int x2)] [] S) {post : Int32 → Mem → Prop} (he : EndQ g (oM v) (va_Qi post (fun S1 t => BX (oM v) S1 t) (AX (oM v)))) (x2 : Int32) (y0 : Int32) (y1 : Int32) (S : Mem) (h : w_X8_opened_51 K4 post x2 y0 y1 S) : G g (oM v) 1 3 51 [(0, .ref (v.1 0)), (2, .int x2)] [.int y0, .int y1] S := by
  unfold w_X8_opened_51 at h
  refine g_iadd (n := 52) ok dX8_opened_51 rfl ?_
  refine g_topi (fun z1 ez1 => ?_)
  replace h := h z1 ez1
  refine g_istore_n [(1, .int z1), (0, .ref (v.1 0)), (2, .int x2)] (n := 53) ok dX8_opened_52 rfl (by decide) rfl ?_
  obtain ⟨z2, ez2⟩ : ∃ y : Int32, y = x2 + 1 := ⟨_, rfl⟩
  replace h := h z2 ez2
  refine g_iinc 2 [(2, .int z2), (1, .int z1), (0, .ref (v.1 0))] (v := z2) (n := 56) ok dX8_opened_53 rfl rfl (by rw [ez2]; rfl) (by decide) rfl ?_
  refine g_goto (t := 4) ok dX8_opened_56 (by decide) ?_
  exact g_sub [2, 1, 0] rfl (hK4 z1 z2 S h)
def w_X8_opened_46 (K4 : Int32 → Int32 → Mem → Prop) (post : Int32 → Mem → Prop) (x2 : Int32) (y0 : Int32) (S : Mem) : Prop := w_X8_opened_51 K4 post x2 (1 : Int32) y0 S
set_option maxHeartbeats 4000000 in
set_option maxRecDepth 20000 in
theorem b_X8_opened_46 {v : VmT} {l : Launch} {g : CxT} {K4 : Int32 → Int32 → Mem → Prop} (ok : Ok l g (oM v) 3 cX8_opened RX8 (some .int)) (hK4 : ∀ (x1 : Int32) (x2 : Int32) (S : Mem), K4 x1 x2 S → G g (oM v) 1 3 4 [(0, .ref (v.1 0)), (1, .int x1), (2, .int x2)] [] S) {post : Int32 → Mem → Prop} (he : EndQ g (oM v) (va_Qi post (fun S1 t => BX (oM v) S1 t) (AX (oM v)))) (x2 : Int32) (y0 : Int32) (S : Mem) (h : w_X8_opened_46 K4 post x2 y0 S) : G g (oM v) 1 3 46 [(0, .ref (v.1 0)), (2, .int x2)] [.int y0] S := by
  unfold w_X8_opened_46 at h
  refine g_iconst (v := 1) (n := 47) ok dX8_opened_46 rfl (by decide) ?_
  refine g_goto (t := 51) ok dX8_opened_47 (by decide) ?_
  exact g_sub [0, 1] rfl (b_X8_opened_51 ok hK4 he x2 (1 : Int32) y0 S h)
def w_X8_opened_4 (post : Int32 → Mem → Prop) : Nat → Int32 → Int32 → Mem → Prop
  | 0, _, _, _ => False
  | n + 1, x1, x2, S => (((S 0 24) ≤ x2 → post x1 S) ∧ (¬ (S 0 24) ≤ x2 → (vp_in x2 170 ∧ (((S 11 x2.toNatClampNeg) = (12 : Int32) → w_X8_opened_46 (w_X8_opened_4 post n) post x2 x1 S) ∧ (¬ (S 11 x2.toNatClampNeg) = (12 : Int32) → (vp_in x2 170 ∧ (((S 11 x2.toNatClampNeg) = (18 : Int32) → w_X8_opened_46 (w_X8_opened_4 post n) post x2 x1 S) ∧ (¬ (S 11 x2.toNatClampNeg) = (18 : Int32) → (vp_in x2 170 ∧ ((¬ (S 11 x2.toNatClampNeg) = (19 : Int32) → w_X8_opened_51 (w_X8_opened_4 post n) post x2 (0 : Int32) x1 S) ∧ ((S 11 x2.toNatClampNeg) = (19 : Int32) → w_X8_opened_46 (w_X8_opened_4 post n) post x2 x1 S)))))))))))
set_option maxHeartbeats 4000000 in
set_option maxRecDepth 20000 in
theorem b_X8_opened_4 {v : VmT} {l : Launch} {g : CxT} (ok : Ok l g (oM v) 3 cX8_opened RX8 (some .int)) {post : Int32 → Mem → Prop} (he : EndQ g (oM v) (va_Qi post (fun S1 t => BX (oM v) S1 t) (AX (oM v)))) : ∀ (n : Nat) (x1 : Int32) (x2 : Int32) (S : Mem), w_X8_opened_4 post n x1 x2 S → G g (oM v) 1 3 4 [(0, .ref (v.1 0)), (1, .int x1), (2, .int x2)] [] S := by
  intro n
  induction n with
  | zero =>
    intro x1 x2 S h
    exact h.elim
  | succ n ih =>
    intro x1 x2 S h
    rw [w_X8_opened_4] at h
    refine g_iload_n 2 (n := 5) ok dX8_opened_4 rfl rfl ?_
    refine g_aload_n 0 (n := 6) ok dX8_opened_5 rfl rfl ?_
    refine fg_X8_X8_waitMany (n := 9) ok dX8_opened_6 rfl ?_
    refine g_icmp_ge (t := 59) (n := 12) ok dX8_opened_9 (by decide) rfl (fun e4 => ?_) (fun e4 => ?_)
    · replace h := h.1 e4
      refine g_iload_n 1 (n := 60) ok dX8_opened_59 rfl rfl ?_
      exact g_iret ok he h dX8_opened_60
    · replace h := h.2 e4
      refine g_iload_n 1 (n := 13) ok dX8_opened_12 rfl rfl ?_
      refine g_aload_n 0 (n := 14) ok dX8_opened_13 rfl rfl ?_
      refine fg_X8_X8_waiting (n := 17) ok dX8_opened_14 rfl ?_
      refine g_iload_n 2 (n := 18) ok dX8_opened_17 rfl rfl ?_
      obtain ⟨h0, h⟩ := h
      refine g_iald (c := 11) (t0 := 0) (n := 19) ok (Nat.le_of_ble_eq_true rfl) rfl rfl h0 dX8_opened_18 rfl ?_
      refine g_bipush (v := 12) (n := 21) ok dX8_opened_19 rfl (by decide) ?_
      refine g_icmp_eq (t := 46) (n := 24) ok dX8_opened_21 (by decide) rfl (fun e3 => ?_) (fun e3 => ?_)
      · replace h := h.1 e3
        exact g_sub [0, 2] rfl (b_X8_opened_46 ok ih he x2 x1 S h)
      · replace h := h.2 e3
        refine g_aload_n 0 (n := 25) ok dX8_opened_24 rfl rfl ?_
        refine fg_X8_X8_waiting (n := 28) ok dX8_opened_25 rfl ?_
        refine g_iload_n 2 (n := 29) ok dX8_opened_28 rfl rfl ?_
        obtain ⟨h0, h⟩ := h
        refine g_iald (c := 11) (t0 := 0) (n := 30) ok (Nat.le_of_ble_eq_true rfl) rfl rfl h0 dX8_opened_29 rfl ?_
        refine g_bipush (v := 18) (n := 32) ok dX8_opened_30 rfl (by decide) ?_
        refine g_icmp_eq (t := 46) (n := 35) ok dX8_opened_32 (by decide) rfl (fun e2 => ?_) (fun e2 => ?_)
        · replace h := h.1 e2
          exact g_sub [0, 2] rfl (b_X8_opened_46 ok ih he x2 x1 S h)
        · replace h := h.2 e2
          refine g_aload_n 0 (n := 36) ok dX8_opened_35 rfl rfl ?_
          refine fg_X8_X8_waiting (n := 39) ok dX8_opened_36 rfl ?_
          refine g_iload_n 2 (n := 40) ok dX8_opened_39 rfl rfl ?_
          obtain ⟨h0, h⟩ := h
          refine g_iald (c := 11) (t0 := 0) (n := 41) ok (Nat.le_of_ble_eq_true rfl) rfl rfl h0 dX8_opened_40 rfl ?_
          refine g_bipush (v := 19) (n := 43) ok dX8_opened_41 rfl (by decide) ?_
          refine g_icmp_ne (t := 50) (n := 46) ok dX8_opened_43 (by decide) rfl (fun e1 => ?_) (fun e1 => ?_)
          · replace h := h.1 e1
            refine g_iconst (v := 0) (n := 51) ok dX8_opened_50 rfl (by decide) ?_
            exact g_sub [0, 2] rfl (b_X8_opened_51 ok ih he x2 (0 : Int32) x1 S h)
          · replace h := h.2 e1
            exact g_sub [0, 2] rfl (b_X8_opened_46 ok ih he x2 x1 S h)
def w_X8_opened (S : Mem) (post : Int32 → Mem → Prop) : Prop := ∃ n, w_X8_opened_4 post n (0 : Int32) (0 : Int32) S
set_option maxHeartbeats 4000000 in
set_option maxRecDepth 20000 in
theorem c_X8_opened (l : Launch) (v : VmT) (S : Mem) (post : Int32 → Mem → Prop) (h : w_X8_opened  S post) : MI l yX8_opened cX8_opened 3 (some .int) 1 (oM v) [.ref (v.1 0)] S post := by
  refine met_start (by decide +kernel) (Nat.le_of_ble_eq_true rfl) (fun g ok he => ?_)
  refine g_eq (L' := [(0, .ref (v.1 0))]) (st' := []) ?_ rfl rfl
  unfold w_X8_opened at h
  refine g_iconst (v := 0) (n := 1) ok dX8_opened_0 rfl (by decide) ?_
  refine g_istore_n [(1, .int (0 : Int32)), (0, .ref (v.1 0))] (n := 2) ok dX8_opened_1 rfl (by decide) rfl ?_
  refine g_iconst (v := 0) (n := 3) ok dX8_opened_2 rfl (by decide) ?_
  refine g_istore_n [(2, .int (0 : Int32)), (1, .int (0 : Int32)), (0, .ref (v.1 0))] (n := 4) ok dX8_opened_3 rfl (by decide) rfl ?_
  obtain ⟨n0, h⟩ := h
  exact g_sub [2, 1, 0] rfl (b_X8_opened_4 ok he n0 (0 : Int32) (0 : Int32) S h)
def w_X8_isBracketed_32 (K4 : Int32 → Int32 → Mem → Prop) (post : Int32 → Mem → Prop) (x2 : Int32) (y0 : Int32) (S : Mem) : Prop := (∀ z1 : Int32, z1 = x2 + 1 → K4 y0 z1 S)
set_option maxHeartbeats 4000000 in
set_option maxRecDepth 20000 in
theorem b_X8_isBracketed_32 {v : VmT} {l : Launch} {g : CxT} {K4 : Int32 → Int32 → Mem → Prop} (ok : Ok l g (oM v) 3 cX8_isBracketed RX8 (some .boolean)) (hK4 : ∀ (x1 : Int32) (x2 : Int32) (S : Mem), K4 x1 x2 S → G g (oM v) 1 3 4 [(0, .ref (v.1 0)), (1, .int x1), (2, .int x2)] [] S) {post : Int32 → Mem → Prop} (he : EndQ g (oM v) (va_Qi post (fun S1 t => BX (oM v) S1 t) (AX (oM v)))) (x2 : Int32) (y0 : Int32) (S : Mem) (h : w_X8_isBracketed_32 K4 post x2 y0 S) : G g (oM v) 1 3 32 [(0, .ref (v.1 0)), (2, .int x2)] [.int y0] S := by
  unfold w_X8_isBracketed_32 at h
  refine g_istore_n [(1, .int y0), (0, .ref (v.1 0)), (2, .int x2)] (n := 33) ok dX8_isBracketed_32 rfl (by decide) rfl ?_
  obtain ⟨z1, ez1⟩ : ∃ y : Int32, y = x2 + 1 := ⟨_, rfl⟩
  replace h := h z1 ez1
  refine g_iinc 2 [(2, .int z1), (1, .int y0), (0, .ref (v.1 0))] (v := z1) (n := 36) ok dX8_isBracketed_33 rfl rfl (by rw [ez1]; rfl) (by decide) rfl ?_
  refine g_goto (t := 4) ok dX8_isBracketed_36 (by decide) ?_
  exact g_sub [2, 1, 0] rfl (hK4 y0 z1 S h)
def w_X8_isBracketed_27 (K4 : Int32 → Int32 → Mem → Prop) (post : Int32 → Mem → Prop) (x2 : Int32) (S : Mem) : Prop := w_X8_isBracketed_32 K4 post x2 (1 : Int32) S
set_option maxHeartbeats 4000000 in
set_option maxRecDepth 20000 in
theorem b_X8_isBracketed_27 {v : VmT} {l : Launch} {g : CxT} {K4 : Int32 → Int32 → Mem → Prop} (ok : Ok l g (oM v) 3 cX8_isBracketed RX8 (some .boolean)) (hK4 : ∀ (x1 : Int32) (x2 : Int32) (S : Mem), K4 x1 x2 S → G g (oM v) 1 3 4 [(0, .ref (v.1 0)), (1, .int x1), (2, .int x2)] [] S) {post : Int32 → Mem → Prop} (he : EndQ g (oM v) (va_Qi post (fun S1 t => BX (oM v) S1 t) (AX (oM v)))) (x2 : Int32) (S : Mem) (h : w_X8_isBracketed_27 K4 post x2 S) : G g (oM v) 1 3 27 [(0, .ref (v.1 0)), (2, .int x2)] [] S := by
  unfold w_X8_isBracketed_27 at h
  refine g_iconst (v := 1) (n := 28) ok dX8_isBracketed_27 rfl (by decide) ?_
  refine g_goto (t := 32) ok dX8_isBracketed_28 (by decide) ?_
  exact g_sub [0, 1] rfl (b_X8_isBracketed_32 ok hK4 he x2 (1 : Int32) S h)
def w_X8_isBracketed_4 (post : Int32 → Mem → Prop) : Nat → Int32 → Int32 → Mem → Prop
  | 0, _, _, _ => False
  | n + 1, x1, x2, S => (((S 0 24) ≤ x2 → (x1 = 0 ∨ x1 = 1) ∧ post x1 S) ∧ (¬ (S 0 24) ≤ x2 → ((¬ x1 = 0 → w_X8_isBracketed_27 (w_X8_isBracketed_4 post n) post x2 S) ∧ (x1 = 0 → (vp_in x2 170 ∧ ((¬ (S 11 x2.toNatClampNeg) = (19 : Int32) → w_X8_isBracketed_32 (w_X8_isBracketed_4 post n) post x2 (0 : Int32) S) ∧ ((S 11 x2.toNatClampNeg) = (19 : Int32) → w_X8_isBracketed_27 (w_X8_isBracketed_4 post n) post x2 S)))))))
set_option maxHeartbeats 4000000 in
set_option maxRecDepth 20000 in
theorem b_X8_isBracketed_4 {v : VmT} {l : Launch} {g : CxT} (ok : Ok l g (oM v) 3 cX8_isBracketed RX8 (some .boolean)) {post : Int32 → Mem → Prop} (he : EndQ g (oM v) (va_Qi post (fun S1 t => BX (oM v) S1 t) (AX (oM v)))) : ∀ (n : Nat) (x1 : Int32) (x2 : Int32) (S : Mem), w_X8_isBracketed_4 post n x1 x2 S → G g (oM v) 1 3 4 [(0, .ref (v.1 0)), (1, .int x1), (2, .int x2)] [] S := by
  intro n
  induction n with
  | zero =>
    intro x1 x2 S h
    exact h.elim
  | succ n ih =>
    intro x1 x2 S h
    rw [w_X8_isBracketed_4] at h
    refine g_iload_n 2 (n := 5) ok dX8_isBracketed_4 rfl rfl ?_
    refine g_aload_n 0 (n := 6) ok dX8_isBracketed_5 rfl rfl ?_
    refine fg_X8_X8_waitMany (n := 9) ok dX8_isBracketed_6 rfl ?_
    refine g_icmp_ge (t := 39) (n := 12) ok dX8_isBracketed_9 (by decide) rfl (fun e3 => ?_) (fun e3 => ?_)
    · replace h := h.1 e3
      refine g_iload_n 1 (n := 40) ok dX8_isBracketed_39 rfl rfl ?_
      exact g_zret ok he h.1 h.2 dX8_isBracketed_40
    · replace h := h.2 e3
      refine g_iload_n 1 (n := 13) ok dX8_isBracketed_12 rfl rfl ?_
      refine g_if_ne (t := 27) (n := 16) ok dX8_isBracketed_13 (by decide) rfl (fun e2 => ?_) (fun e2 => ?_)
      · replace h := h.1 e2
        exact g_sub [0, 2] rfl (b_X8_isBracketed_27 ok ih he x2 S h)
      · replace h := h.2 e2
        refine g_aload_n 0 (n := 17) ok dX8_isBracketed_16 rfl rfl ?_
        refine fg_X8_X8_waiting (n := 20) ok dX8_isBracketed_17 rfl ?_
        refine g_iload_n 2 (n := 21) ok dX8_isBracketed_20 rfl rfl ?_
        obtain ⟨h0, h⟩ := h
        refine g_iald (c := 11) (t0 := 0) (n := 22) ok (Nat.le_of_ble_eq_true rfl) rfl rfl h0 dX8_isBracketed_21 rfl ?_
        refine g_bipush (v := 19) (n := 24) ok dX8_isBracketed_22 rfl (by decide) ?_
        refine g_icmp_ne (t := 31) (n := 27) ok dX8_isBracketed_24 (by decide) rfl (fun e1 => ?_) (fun e1 => ?_)
        · replace h := h.1 e1
          refine g_iconst (v := 0) (n := 32) ok dX8_isBracketed_31 rfl (by decide) ?_
          exact g_sub [0, 2] rfl (b_X8_isBracketed_32 ok ih he x2 (0 : Int32) S h)
        · replace h := h.2 e1
          exact g_sub [0, 2] rfl (b_X8_isBracketed_27 ok ih he x2 S h)
def w_X8_isBracketed (S : Mem) (post : Int32 → Mem → Prop) : Prop := ∃ n, w_X8_isBracketed_4 post n (0 : Int32) (0 : Int32) S
set_option maxHeartbeats 4000000 in
set_option maxRecDepth 20000 in
theorem c_X8_isBracketed (l : Launch) (v : VmT) (S : Mem) (post : Int32 → Mem → Prop) (h : w_X8_isBracketed  S post) : MI l yX8_isBracketed cX8_isBracketed 3 (some .boolean) 1 (oM v) [.ref (v.1 0)] S post := by
  refine met_start (by decide +kernel) (Nat.le_of_ble_eq_true rfl) (fun g ok he => ?_)
  refine g_eq (L' := [(0, .ref (v.1 0))]) (st' := []) ?_ rfl rfl
  unfold w_X8_isBracketed at h
  refine g_iconst (v := 0) (n := 1) ok dX8_isBracketed_0 rfl (by decide) ?_
  refine g_istore_n [(1, .int (0 : Int32)), (0, .ref (v.1 0))] (n := 2) ok dX8_isBracketed_1 rfl (by decide) rfl ?_
  refine g_iconst (v := 0) (n := 3) ok dX8_isBracketed_2 rfl (by decide) ?_
  refine g_istore_n [(2, .int (0 : Int32)), (1, .int (0 : Int32)), (0, .ref (v.1 0))] (n := 4) ok dX8_isBracketed_3 rfl (by decide) rfl ?_
  obtain ⟨n0, h⟩ := h
  exact g_sub [2, 1, 0] rfl (b_X8_isBracketed_4 ok he n0 (0 : Int32) (0 : Int32) S h)
