def w_X8_back (S : Mem) (post : Int32 → Mem → Prop) : Prop := (∀ S1 : Mem, S1 = mset S 0 (upd (S 0) 8 (0 : Int32)) → ((¬ (S1 0 38) = 0 → (∀ S2 : Mem, S2 = mset S1 0 (upd (S1 0) 41 (0 : Int32)) → w_X8_carryAll  S2 (fun S3 => post (S3 0 6) S3))) ∧ ((S1 0 38) = 0 → post (-3 : Int32) S1)))
set_option maxHeartbeats 4000000 in
set_option maxRecDepth 20000 in
theorem c_X8_back (l : Launch) (v : VmT) (S : Mem) (post : Int32 → Mem → Prop) (h : w_X8_back  S post) : MI l yX8_back cX8_back 1 (some .int) 3 (oM v) [.ref (v.1 0)] S post := by
  refine met_start (by decide +kernel) (Nat.le_of_ble_eq_true rfl) (fun g ok he => ?_)
  refine g_eq (L' := [(0, .ref (v.1 0))]) (st' := []) ?_ rfl rfl
  unfold w_X8_back at h
  refine g_aload_n 0 (n := 1) ok dX8_back_0 rfl rfl ?_
  refine g_iconst (v := 0) (n := 2) ok dX8_back_1 rfl (by decide) ?_
  refine fp_X8_X8_thrown (n := 5) ok dX8_back_2 rfl ?_
  refine g_mem (fun S1 eS1 => ?_)
  replace h := h S1 eS1
  refine g_aload_n 0 (n := 6) ok dX8_back_5 rfl rfl ?_
  refine fg_X8_X8_hasImage (n := 9) ok dX8_back_6 rfl ?_
  refine g_if_ne (t := 15) (n := 12) ok dX8_back_9 (by decide) rfl (fun e4 => ?_) (fun e4 => ?_)
  · replace h := h.1 e4
    refine g_aload_n 0 (n := 16) ok dX8_back_15 rfl rfl ?_
    refine g_iconst (v := 0) (n := 17) ok dX8_back_16 rfl (by decide) ?_
    refine fp_X8_X8_isTaking (n := 20) ok (Or.inl rfl) dX8_back_17 rfl ?_
    refine g_mem (fun S2 eS2 => ?_)
    replace h := h S2 eS2
    refine g_aload_n 0 (n := 21) ok dX8_back_20 rfl rfl ?_
    refine g_callVv (n := 24) (As := []) (rest := []) (c := 0) ok (c_X8_carryAll l v  S2 _ h) cal_X8_carryAll tw_1165 tw_1167 tp_95 (Nat.le_of_ble_eq_true rfl) rfl rfl (by decide) (by decide) rfl (Nat.le_of_ble_eq_true rfl) dX8_back_21 rfl rfl (fun S3 h => ?_)
    refine g_aload_n 0 (n := 25) ok dX8_back_24 rfl rfl ?_
    refine fg_X8_X8_turned (n := 28) ok dX8_back_25 rfl ?_
    exact g_iret ok he h dX8_back_28
  · replace h := h.2 e4
    refine g_bipush (v := -3) (n := 14) ok dX8_back_12 rfl (by decide) ?_
    exact g_iret ok he h dX8_back_14
def w_X8_count (p1 : Int32) (S : Mem) (post : Int32 → Mem → Prop) : Prop := (∀ S1 : Mem, S1 = mset S 0 (upd (S 0) 8 (0 : Int32)) → ((p1 = 0 → post (S1 0 4) S1) ∧ (¬ p1 = 0 → ((p1 = 1 → post (S1 0 5) S1) ∧ (¬ p1 = 1 → ((p1 = 2 → post (S1 0 6) S1) ∧ (¬ p1 = 2 → ((p1 = 3 → post (S1 0 7) S1) ∧ (¬ p1 = 3 → ((p1 = 4 → post (S1 0 14) S1) ∧ (¬ p1 = 4 → ((p1 = 5 → post (S1 0 13) S1) ∧ (¬ p1 = 5 → ((p1 = 6 → post (S1 0 15) S1) ∧ (¬ p1 = 6 → post (-2 : Int32) S1)))))))))))))))
set_option maxHeartbeats 4000000 in
set_option maxRecDepth 20000 in
theorem c_X8_count (l : Launch) (v : VmT) (p1 : Int32) (S : Mem) (post : Int32 → Mem → Prop) (h : w_X8_count p1 S post) : MI l yX8_count cX8_count 2 (some .int) 1 (oM v) [.ref (v.1 0), .int p1] S post := by
  refine met_start (by decide +kernel) (Nat.le_of_ble_eq_true rfl) (fun g ok he => ?_)
  refine g_eq (L' := [(0, .ref (v.1 0)), (1, .int p1)]) (st' := []) ?_ rfl rfl
  unfold w_X8_count at h
  refine g_aload_n 0 (n := 1) ok dX8_count_0 rfl rfl ?_
  refine g_iconst (v := 0) (n := 2) ok dX8_count_1 rfl (by decide) ?_
  refine fp_X8_X8_thrown (n := 5) ok dX8_count_2 rfl ?_
  refine g_mem (fun S1 eS1 => ?_)
  replace h := h S1 eS1
  refine g_iload_n 1 (n := 6) ok dX8_count_5 rfl rfl ?_
  by_cases e2 : p1 = 0
  · replace h := h.1 e2
    refine g_tsIn (off := 42) (t := 48) ok dX8_count_6 (by rw [e2]; decide) (by rw [e2]; decide) (by rw [e2]; rfl) (by decide) ?_
    refine g_aload_n 0 (n := 49) ok dX8_count_48 rfl rfl ?_
    refine fg_X8_X8_place (n := 52) ok dX8_count_49 rfl ?_
    exact g_iret ok he h dX8_count_52
  · replace h := h.2 e2
    by_cases e3 : p1 = 1
    · replace h := h.1 e3
      refine g_tsIn (off := 47) (t := 53) ok dX8_count_6 (by rw [e3]; decide) (by rw [e3]; decide) (by rw [e3]; rfl) (by decide) ?_
      refine g_aload_n 0 (n := 54) ok dX8_count_53 rfl rfl ?_
      refine fg_X8_X8_radius (n := 57) ok dX8_count_54 rfl ?_
      exact g_iret ok he h dX8_count_57
    · replace h := h.2 e3
      by_cases e4 : p1 = 2
      · replace h := h.1 e4
        refine g_tsIn (off := 52) (t := 58) ok dX8_count_6 (by rw [e4]; decide) (by rw [e4]; decide) (by rw [e4]; rfl) (by decide) ?_
        refine g_aload_n 0 (n := 59) ok dX8_count_58 rfl rfl ?_
        refine fg_X8_X8_turned (n := 62) ok dX8_count_59 rfl ?_
        exact g_iret ok he h dX8_count_62
      · replace h := h.2 e4
        by_cases e5 : p1 = 3
        · replace h := h.1 e5
          refine g_tsIn (off := 57) (t := 63) ok dX8_count_6 (by rw [e5]; decide) (by rw [e5]; decide) (by rw [e5]; rfl) (by decide) ?_
          refine g_aload_n 0 (n := 64) ok dX8_count_63 rfl rfl ?_
          refine fg_X8_X8_load (n := 67) ok dX8_count_64 rfl ?_
          exact g_iret ok he h dX8_count_67
        · replace h := h.2 e5
          by_cases e6 : p1 = 4
          · replace h := h.1 e6
            refine g_tsIn (off := 62) (t := 68) ok dX8_count_6 (by rw [e6]; decide) (by rw [e6]; decide) (by rw [e6]; rfl) (by decide) ?_
            refine g_aload_n 0 (n := 69) ok dX8_count_68 rfl rfl ?_
            refine fg_X8_X8_textMany (n := 72) ok dX8_count_69 rfl ?_
            exact g_iret ok he h dX8_count_72
          · replace h := h.2 e6
            by_cases e7 : p1 = 5
            · replace h := h.1 e7
              refine g_tsIn (off := 67) (t := 73) ok dX8_count_6 (by rw [e7]; decide) (by rw [e7]; decide) (by rw [e7]; rfl) (by decide) ?_
              refine g_aload_n 0 (n := 74) ok dX8_count_73 rfl rfl ?_
              refine fg_X8_X8_tapeMany (n := 77) ok dX8_count_74 rfl ?_
              exact g_iret ok he h dX8_count_77
            · replace h := h.2 e7
              by_cases e8 : p1 = 6
              · replace h := h.1 e8
                refine g_tsIn (off := 72) (t := 78) ok dX8_count_6 (by rw [e8]; decide) (by rw [e8]; decide) (by rw [e8]; rfl) (by decide) ?_
                refine g_aload_n 0 (n := 79) ok dX8_count_78 rfl rfl ?_
                refine fg_X8_X8_rule (n := 82) ok dX8_count_79 rfl ?_
                exact g_iret ok he h dX8_count_82
              · replace h := h.2 e8
                refine g_tsOut (t := 83) ok dX8_count_6 (by have q0 := lv_neT (a := 0) e2 rfl; have q1 := lv_neT (a := 1) e3 rfl; have q2 := lv_neT (a := 2) e4 rfl; have q3 := lv_neT (a := 3) e5 rfl; have q4 := lv_neT (a := 4) e6 rfl; have q5 := lv_neT (a := 5) e7 rfl; have q6 := lv_neT (a := 6) e8 rfl; omega) (by decide) ?_
                refine g_bipush (v := -2) (n := 85) ok dX8_count_83 rfl (by decide) ?_
                exact g_iret ok he h dX8_count_85
def w_X8_sheet_41 (post : Int32 → Mem → Prop) (S : Mem) : Prop := post (-2 : Int32) S
set_option maxHeartbeats 4000000 in
set_option maxRecDepth 20000 in
theorem b_X8_sheet_41 {v : VmT} {l : Launch} {g : CxT} (ok : Ok l g (oM v) 5 cX8_sheet RX8 (some .int)) {post : Int32 → Mem → Prop} (he : EndQ g (oM v) (va_Qi post (fun S1 t => BX (oM v) S1 t) (AX (oM v)))) (S : Mem) (h : w_X8_sheet_41 post  S) : G g (oM v) 2 5 41 [] [] S := by
  unfold w_X8_sheet_41 at h
  refine g_bipush (v := -2) (n := 43) ok dX8_sheet_41 rfl (by decide) ?_
  exact g_iret ok he h dX8_sheet_43
def w_X8_sheet_80 (post : Int32 → Mem → Prop) : Nat → Int32 → Int32 → Mem → Prop
  | 0, _, _, _ => False
  | n + 1, x1, x4, S => (((40 : Int32) ≤ x4 → post (1 : Int32) S) ∧ (¬ (40 : Int32) ≤ x4 → (vp_in (((40 : Int32) * x1) + x4) 160 ∧ (∀ S1 : Mem, S1 = mset S 19 (upd (S 19) (((40 : Int32) * x1) + x4).toNatClampNeg (0 : Int32)) → (∀ z2 : Int32, z2 = x4 + 1 → w_X8_sheet_80 post n x1 z2 S1)))))
set_option maxHeartbeats 4000000 in
set_option maxRecDepth 20000 in
theorem b_X8_sheet_80 {v : VmT} {l : Launch} {g : CxT} (ok : Ok l g (oM v) 5 cX8_sheet RX8 (some .int)) {post : Int32 → Mem → Prop} (he : EndQ g (oM v) (va_Qi post (fun S1 t => BX (oM v) S1 t) (AX (oM v)))) : ∀ (n : Nat) (x1 : Int32) (x4 : Int32) (S : Mem), w_X8_sheet_80 post n x1 x4 S → G g (oM v) 2 5 80 [(0, .ref (v.1 0)), (1, .int x1), (4, .int x4)] [] S := by
  intro n
  induction n with
  | zero =>
    intro x1 x4 S h
    exact h.elim
  | succ n ih =>
    intro x1 x4 S h
    rw [w_X8_sheet_80] at h
    refine g_iload 2 (n := 82) ok dX8_sheet_80 rfl rfl ?_
    refine g_bipush (v := 40) (n := 84) ok dX8_sheet_82 rfl (by decide) ?_
    refine g_icmp_ge (t := 106) (n := 87) ok dX8_sheet_84 (by decide) rfl (fun e3 => ?_) (fun e3 => ?_)
    · replace h := h.1 e3
      refine g_iconst (v := 1) (n := 107) ok dX8_sheet_106 rfl (by decide) ?_
      exact g_iret ok he h dX8_sheet_107
    · replace h := h.2 e3
      refine g_aload_n 0 (n := 88) ok dX8_sheet_87 rfl rfl ?_
      refine fg_X8_X8_sheets (n := 91) ok dX8_sheet_88 rfl ?_
      refine g_bipush (v := 40) (n := 93) ok dX8_sheet_91 rfl (by decide) ?_
      refine g_iload_n 1 (n := 94) ok dX8_sheet_93 rfl rfl ?_
      refine g_imul (n := 95) ok dX8_sheet_94 rfl ?_
      refine g_iload 2 (n := 97) ok dX8_sheet_95 rfl rfl ?_
      refine g_iadd (n := 98) ok dX8_sheet_97 rfl ?_
      refine g_iconst (v := 0) (n := 99) ok dX8_sheet_98 rfl (by decide) ?_
      obtain ⟨h0, h⟩ := h
      refine g_iast (c := 19) (t0 := 0) (n := 100) ok (Nat.le_of_ble_eq_true rfl) (fun _ => rfl) rfl h0 dX8_sheet_99 rfl ?_
      refine g_mem (fun S1 eS1 => ?_)
      replace h := h S1 eS1
      obtain ⟨z2, ez2⟩ : ∃ y : Int32, y = x4 + 1 := ⟨_, rfl⟩
      replace h := h z2 ez2
      refine g_iinc 2 [(4, .int z2), (0, .ref (v.1 0)), (1, .int x1)] (v := z2) (n := 103) ok dX8_sheet_100 rfl rfl (by rw [ez2]; rfl) (by decide) rfl ?_
      refine g_goto (t := 80) ok dX8_sheet_103 (by decide) ?_
      exact g_sub [1, 2, 0] rfl (ih x1 z2 S1 h)
def w_X8_sheet_76 (post : Int32 → Mem → Prop) (x1 : Int32) (y0 : Int32) (y1 : Int32) (S : Mem) : Prop := (vp_in y1 4 ∧ (∀ S1 : Mem, S1 = mset S 18 (upd (S 18) y1.toNatClampNeg y0) → ∃ n, w_X8_sheet_80 post n x1 (0 : Int32) S1))
set_option maxHeartbeats 4000000 in
set_option maxRecDepth 20000 in
theorem b_X8_sheet_76 {v : VmT} {l : Launch} {g : CxT} (ok : Ok l g (oM v) 5 cX8_sheet RX8 (some .int)) {post : Int32 → Mem → Prop} (he : EndQ g (oM v) (va_Qi post (fun S1 t => BX (oM v) S1 t) (AX (oM v)))) (x1 : Int32) (y0 : Int32) (y1 : Int32) (S : Mem) (h : w_X8_sheet_76 post x1 y0 y1 S) : G g (oM v) 2 5 76 [(0, .ref (v.1 0)), (1, .int x1)] [.int y0, .int y1, .ref (v.1 18)] S := by
  unfold w_X8_sheet_76 at h
  obtain ⟨h0, h⟩ := h
  refine g_iast (c := 18) (t0 := 0) (n := 77) ok (Nat.le_of_ble_eq_true rfl) (fun _ => rfl) rfl h0 dX8_sheet_76 rfl ?_
  refine g_mem (fun S1 eS1 => ?_)
  replace h := h S1 eS1
  refine g_iconst (v := 0) (n := 78) ok dX8_sheet_77 rfl (by decide) ?_
  refine g_istore [(4, .int (0 : Int32)), (0, .ref (v.1 0)), (1, .int x1)] (n := 80) ok dX8_sheet_78 rfl (by decide) rfl ?_
  obtain ⟨n0, h⟩ := h
  exact g_sub [1, 2, 0] rfl (b_X8_sheet_80 ok he n0 x1 (0 : Int32) S1 h)
def w_X8_sheet_55 (post : Int32 → Mem → Prop) (x1 : Int32) (x2 : Int32) (x3 : Int32) (S : Mem) : Prop := (vp_in x1 4 ∧ (∀ S1 : Mem, S1 = mset S 17 (upd (S 17) x1.toNatClampNeg x2) → ((0 ≤ x2 → w_X8_sheet_76 post x1 x3 x1 S1) ∧ (¬ 0 ≤ x2 → w_X8_sheet_76 post x1 (0 : Int32) x1 S1))))
set_option maxHeartbeats 4000000 in
set_option maxRecDepth 20000 in
theorem b_X8_sheet_55 {v : VmT} {l : Launch} {g : CxT} (ok : Ok l g (oM v) 5 cX8_sheet RX8 (some .int)) {post : Int32 → Mem → Prop} (he : EndQ g (oM v) (va_Qi post (fun S1 t => BX (oM v) S1 t) (AX (oM v)))) (x1 : Int32) (x2 : Int32) (x3 : Int32) (S : Mem) (h : w_X8_sheet_55 post x1 x2 x3 S) : G g (oM v) 2 5 55 [(0, .ref (v.1 0)), (1, .int x1), (2, .int x2), (3, .int x3)] [] S := by
  unfold w_X8_sheet_55 at h
  refine g_aload_n 0 (n := 56) ok dX8_sheet_55 rfl rfl ?_
  refine fg_X8_X8_sheetSort (n := 59) ok dX8_sheet_56 rfl ?_
  refine g_iload_n 1 (n := 60) ok dX8_sheet_59 rfl rfl ?_
  refine g_iload_n 2 (n := 61) ok dX8_sheet_60 rfl rfl ?_
  obtain ⟨h0, h⟩ := h
  refine g_iast (c := 17) (t0 := 0) (n := 62) ok (Nat.le_of_ble_eq_true rfl) (fun _ => rfl) rfl h0 dX8_sheet_61 rfl ?_
  refine g_mem (fun S1 eS1 => ?_)
  replace h := h S1 eS1
  refine g_aload_n 0 (n := 63) ok dX8_sheet_62 rfl rfl ?_
  refine fg_X8_X8_sheetMany (n := 66) ok dX8_sheet_63 rfl ?_
  refine g_iload_n 1 (n := 67) ok dX8_sheet_66 rfl rfl ?_
  refine g_iload_n 2 (n := 68) ok dX8_sheet_67 rfl rfl ?_
  refine g_if_ge (t := 75) (n := 71) ok dX8_sheet_68 (by decide) rfl (fun e2 => ?_) (fun e2 => ?_)
  · replace h := h.1 e2
    refine g_iload_n 3 (n := 76) ok dX8_sheet_75 rfl rfl ?_
    exact g_sub [0, 1] rfl (b_X8_sheet_76 ok he x1 x3 x1 S1 h)
  · replace h := h.2 e2
    refine g_iconst (v := 0) (n := 72) ok dX8_sheet_71 rfl (by decide) ?_
    refine g_goto (t := 76) ok dX8_sheet_72 (by decide) ?_
    exact g_sub [0, 1] rfl (b_X8_sheet_76 ok he x1 (0 : Int32) x1 S1 h)
def w_X8_sheet_44 (post : Int32 → Mem → Prop) (x1 : Int32) (x2 : Int32) (x3 : Int32) (S : Mem) : Prop := ((x2 < 0 → w_X8_sheet_55 post x1 x2 x3 S) ∧ (¬ x2 < 0 → ((0 ≤ x3 → w_X8_sheet_55 post x1 x2 x3 S) ∧ (¬ 0 ≤ x3 → post (-14 : Int32) S))))
set_option maxHeartbeats 4000000 in
set_option maxRecDepth 20000 in
theorem b_X8_sheet_44 {v : VmT} {l : Launch} {g : CxT} (ok : Ok l g (oM v) 5 cX8_sheet RX8 (some .int)) {post : Int32 → Mem → Prop} (he : EndQ g (oM v) (va_Qi post (fun S1 t => BX (oM v) S1 t) (AX (oM v)))) (x1 : Int32) (x2 : Int32) (x3 : Int32) (S : Mem) (h : w_X8_sheet_44 post x1 x2 x3 S) : G g (oM v) 2 5 44 [(0, .ref (v.1 0)), (1, .int x1), (2, .int x2), (3, .int x3)] [] S := by
  unfold w_X8_sheet_44 at h
  refine g_iload_n 2 (n := 45) ok dX8_sheet_44 rfl rfl ?_
  refine g_if_lt (t := 55) (n := 48) ok dX8_sheet_45 (by decide) rfl (fun e2 => ?_) (fun e2 => ?_)
  · replace h := h.1 e2
    exact g_sub [0, 1, 2, 3] rfl (b_X8_sheet_55 ok he x1 x2 x3 S h)
  · replace h := h.2 e2
    refine g_iload_n 3 (n := 49) ok dX8_sheet_48 rfl rfl ?_
    refine g_if_ge (t := 55) (n := 52) ok dX8_sheet_49 (by decide) rfl (fun e1 => ?_) (fun e1 => ?_)
    · replace h := h.1 e1
      exact g_sub [0, 1, 2, 3] rfl (b_X8_sheet_55 ok he x1 x2 x3 S h)
    · replace h := h.2 e1
      refine g_bipush (v := -14) (n := 54) ok dX8_sheet_52 rfl (by decide) ?_
      exact g_iret ok he h dX8_sheet_54
def w_X8_sheet (p1 : Int32) (p2 : Int32) (p3 : Int32) (S : Mem) (post : Int32 → Mem → Prop) : Prop := (∀ S1 : Mem, S1 = mset S 0 (upd (S 0) 8 (0 : Int32)) → w_X8_in p1.toInt64 (0 : Int64) (3 : Int64) S1 (fun r2 S2 => ((r2 = 0 → w_X8_sheet_41 post  S2) ∧ (¬ r2 = 0 → w_X8_in p2.toInt64 (-1 : Int64) (2 : Int64) S2 (fun r3 S3 => ((r3 = 0 → w_X8_sheet_41 post  S3) ∧ (¬ r3 = 0 → ((p2 < 0 → w_X8_sheet_44 post p1 p2 p3 S3) ∧ (¬ p2 < 0 → ((p3 ≤ (40 : Int32) → w_X8_sheet_44 post p1 p2 p3 S3) ∧ (¬ p3 ≤ (40 : Int32) → w_X8_sheet_41 post  S3)))))))))))
set_option maxHeartbeats 4000000 in
set_option maxRecDepth 20000 in
theorem c_X8_sheet (l : Launch) (v : VmT) (p1 : Int32) (p2 : Int32) (p3 : Int32) (S : Mem) (post : Int32 → Mem → Prop) (h : w_X8_sheet p1 p2 p3 S post) : MI l yX8_sheet cX8_sheet 5 (some .int) 2 (oM v) [.ref (v.1 0), .int p1, .int p2, .int p3] S post := by
  refine met_start (by decide +kernel) (Nat.le_of_ble_eq_true rfl) (fun g ok he => ?_)
  refine g_eq (L' := [(0, .ref (v.1 0)), (1, .int p1), (2, .int p2), (3, .int p3)]) (st' := []) ?_ rfl rfl
  unfold w_X8_sheet at h
  refine g_aload_n 0 (n := 1) ok dX8_sheet_0 rfl rfl ?_
  refine g_iconst (v := 0) (n := 2) ok dX8_sheet_1 rfl (by decide) ?_
  refine fp_X8_X8_thrown (n := 5) ok dX8_sheet_2 rfl ?_
  refine g_mem (fun S1 eS1 => ?_)
  replace h := h S1 eS1
  refine g_iload_n 1 (n := 6) ok dX8_sheet_5 rfl rfl ?_
  refine g_i2l (n := 7) ok dX8_sheet_6 rfl ?_
  refine g_lconst (v := 0) (n := 8) ok dX8_sheet_7 rfl (by decide) ?_
  refine g_ldc2 (v := 3) (n := 11) ok dX8_sheet_8 rfl tw_1111 ?_
  refine g_callSi (n := 14) (As := [.long p1.toInt64, .long (0 : Int64), .long (3 : Int64)]) (rest := []) ok (c_X8_in l v p1.toInt64 (0 : Int64) (3 : Int64) S1 _ h) cal_X8_in tw_771 tw_772 (by decide) (by decide) rfl (Nat.le_of_ble_eq_true rfl) dX8_sheet_11 rfl rfl (fun r2 S2 h => ?_)
  refine g_if_eq (t := 41) (n := 17) ok dX8_sheet_14 (by decide) rfl (fun e7 => ?_) (fun e7 => ?_)
  · replace h := h.1 e7
    exact g_sub [] rfl (b_X8_sheet_41 ok he  S2 h)
  · replace h := h.2 e7
    refine g_iload_n 2 (n := 18) ok dX8_sheet_17 rfl rfl ?_
    refine g_i2l (n := 19) ok dX8_sheet_18 rfl ?_
    refine g_ldc2 (v := -1) (n := 22) ok dX8_sheet_19 rfl tw_1185 ?_
    refine g_ldc2 (v := 2) (n := 25) ok dX8_sheet_22 rfl tw_1069 ?_
    refine g_callSi (n := 28) (As := [.long p2.toInt64, .long (-1 : Int64), .long (2 : Int64)]) (rest := []) ok (c_X8_in l v p2.toInt64 (-1 : Int64) (2 : Int64) S2 _ h) cal_X8_in tw_771 tw_772 (by decide) (by decide) rfl (Nat.le_of_ble_eq_true rfl) dX8_sheet_25 rfl rfl (fun r3 S3 h => ?_)
    refine g_if_eq (t := 41) (n := 31) ok dX8_sheet_28 (by decide) rfl (fun e6 => ?_) (fun e6 => ?_)
    · replace h := h.1 e6
      exact g_sub [] rfl (b_X8_sheet_41 ok he  S3 h)
    · replace h := h.2 e6
      refine g_iload_n 2 (n := 32) ok dX8_sheet_31 rfl rfl ?_
      refine g_if_lt (t := 44) (n := 35) ok dX8_sheet_32 (by decide) rfl (fun e5 => ?_) (fun e5 => ?_)
      · replace h := h.1 e5
        exact g_sub [0, 1, 2, 3] rfl (b_X8_sheet_44 ok he p1 p2 p3 S3 h)
      · replace h := h.2 e5
        refine g_iload_n 3 (n := 36) ok dX8_sheet_35 rfl rfl ?_
        refine g_bipush (v := 40) (n := 38) ok dX8_sheet_36 rfl (by decide) ?_
        refine g_icmp_le (t := 44) (n := 41) ok dX8_sheet_38 (by decide) rfl (fun e4 => ?_) (fun e4 => ?_)
        · replace h := h.1 e4
          exact g_sub [0, 1, 2, 3] rfl (b_X8_sheet_44 ok he p1 p2 p3 S3 h)
        · replace h := h.2 e4
          exact g_sub [] rfl (b_X8_sheet_41 ok he  S3 h)
def w_X8_cell_93 (post : Int32 → Mem → Prop) (y0 : Int32) (y1 : Int32) (S : Mem) : Prop := (vp_in y1 160 ∧ (∀ S1 : Mem, S1 = mset S 19 (upd (S 19) y1.toNatClampNeg y0) → post (1 : Int32) S1))
set_option maxHeartbeats 4000000 in
set_option maxRecDepth 20000 in
theorem b_X8_cell_93 {v : VmT} {l : Launch} {g : CxT} (ok : Ok l g (oM v) 4 cX8_cell RX8 (some .int)) {post : Int32 → Mem → Prop} (he : EndQ g (oM v) (va_Qi post (fun S1 t => BX (oM v) S1 t) (AX (oM v)))) (y0 : Int32) (y1 : Int32) (S : Mem) (h : w_X8_cell_93 post y0 y1 S) : G g (oM v) 2 4 93 [] [.int y0, .int y1, .ref (v.1 19)] S := by
  unfold w_X8_cell_93 at h
  obtain ⟨h0, h⟩ := h
  refine g_iast (c := 19) (t0 := 0) (n := 94) ok (Nat.le_of_ble_eq_true rfl) (fun _ => rfl) rfl h0 dX8_cell_93 rfl ?_
  refine g_mem (fun S1 eS1 => ?_)
  replace h := h S1 eS1
  refine g_iconst (v := 1) (n := 95) ok dX8_cell_94 rfl (by decide) ?_
  exact g_iret ok he h dX8_cell_95
def w_X8_cell (p1 : Int32) (p2 : Int32) (p3 : Int32) (S : Mem) (post : Int32 → Mem → Prop) : Prop := (∀ S1 : Mem, S1 = mset S 0 (upd (S 0) 8 (0 : Int32)) → w_X8_in p1.toInt64 (0 : Int64) (3 : Int64) S1 (fun r2 S2 => ((¬ r2 = 0 → (vp_in p1 4 ∧ ((0 ≤ (S2 17 p1.toNatClampNeg) → (vp_in p1 4 ∧ w_X8_in p2.toInt64 (0 : Int64) (((S2 18 p1.toNatClampNeg) - (1 : Int32)).toInt64) S2 (fun r3 S3 => ((¬ r3 = 0 → (vp_in p1 4 ∧ ((¬ (S3 17 p1.toNatClampNeg) = 0 → (vp_in p1 4 ∧ ((¬ (S3 17 p1.toNatClampNeg) = (1 : Int32) → w_X8_cell_93 post p3 (((40 : Int32) * p1) + p2) S3) ∧ ((S3 17 p1.toNatClampNeg) = (1 : Int32) → w_X8_cell_93 post p3.toInt16.toInt32 (((40 : Int32) * p1) + p2) S3)))) ∧ ((S3 17 p1.toNatClampNeg) = 0 → w_X8_cell_93 post p3.toInt8.toInt32 (((40 : Int32) * p1) + p2) S3)))) ∧ (r3 = 0 → post (-12 : Int32) S3))))) ∧ (¬ 0 ≤ (S2 17 p1.toNatClampNeg) → post (-11 : Int32) S2)))) ∧ (r2 = 0 → post (-2 : Int32) S2))))
set_option maxHeartbeats 4000000 in
set_option maxRecDepth 20000 in
theorem c_X8_cell (l : Launch) (v : VmT) (p1 : Int32) (p2 : Int32) (p3 : Int32) (S : Mem) (post : Int32 → Mem → Prop) (h : w_X8_cell p1 p2 p3 S post) : MI l yX8_cell cX8_cell 4 (some .int) 2 (oM v) [.ref (v.1 0), .int p1, .int p2, .int p3] S post := by
  refine met_start (by decide +kernel) (Nat.le_of_ble_eq_true rfl) (fun g ok he => ?_)
  refine g_eq (L' := [(0, .ref (v.1 0)), (1, .int p1), (2, .int p2), (3, .int p3)]) (st' := []) ?_ rfl rfl
  unfold w_X8_cell at h
  refine g_aload_n 0 (n := 1) ok dX8_cell_0 rfl rfl ?_
  refine g_iconst (v := 0) (n := 2) ok dX8_cell_1 rfl (by decide) ?_
  refine fp_X8_X8_thrown (n := 5) ok dX8_cell_2 rfl ?_
  refine g_mem (fun S1 eS1 => ?_)
  replace h := h S1 eS1
  refine g_iload_n 1 (n := 6) ok dX8_cell_5 rfl rfl ?_
  refine g_i2l (n := 7) ok dX8_cell_6 rfl ?_
  refine g_lconst (v := 0) (n := 8) ok dX8_cell_7 rfl (by decide) ?_
  refine g_ldc2 (v := 3) (n := 11) ok dX8_cell_8 rfl tw_1111 ?_
  refine g_callSi (n := 14) (As := [.long p1.toInt64, .long (0 : Int64), .long (3 : Int64)]) (rest := []) ok (c_X8_in l v p1.toInt64 (0 : Int64) (3 : Int64) S1 _ h) cal_X8_in tw_771 tw_772 (by decide) (by decide) rfl (Nat.le_of_ble_eq_true rfl) dX8_cell_11 rfl rfl (fun r2 S2 h => ?_)
  refine g_if_ne (t := 20) (n := 17) ok dX8_cell_14 (by decide) rfl (fun e8 => ?_) (fun e8 => ?_)
  · replace h := h.1 e8
    refine g_aload_n 0 (n := 21) ok dX8_cell_20 rfl rfl ?_
    refine fg_X8_X8_sheetSort (n := 24) ok dX8_cell_21 rfl ?_
    refine g_iload_n 1 (n := 25) ok dX8_cell_24 rfl rfl ?_
    obtain ⟨h0, h⟩ := h
    refine g_iald (c := 17) (t0 := 0) (n := 26) ok (Nat.le_of_ble_eq_true rfl) rfl rfl h0 dX8_cell_25 rfl ?_
    refine g_if_ge (t := 32) (n := 29) ok dX8_cell_26 (by decide) rfl (fun e7 => ?_) (fun e7 => ?_)
    · replace h := h.1 e7
      refine g_iload_n 2 (n := 33) ok dX8_cell_32 rfl rfl ?_
      refine g_i2l (n := 34) ok dX8_cell_33 rfl ?_
      refine g_lconst (v := 0) (n := 35) ok dX8_cell_34 rfl (by decide) ?_
      refine g_aload_n 0 (n := 36) ok dX8_cell_35 rfl rfl ?_
      refine fg_X8_X8_sheetMany (n := 39) ok dX8_cell_36 rfl ?_
      refine g_iload_n 1 (n := 40) ok dX8_cell_39 rfl rfl ?_
      obtain ⟨h0, h⟩ := h
      refine g_iald (c := 18) (t0 := 0) (n := 41) ok (Nat.le_of_ble_eq_true rfl) rfl rfl h0 dX8_cell_40 rfl ?_
      refine g_iconst (v := 1) (n := 42) ok dX8_cell_41 rfl (by decide) ?_
      refine g_isub (n := 43) ok dX8_cell_42 rfl ?_
      refine g_i2l (n := 44) ok dX8_cell_43 rfl ?_
      refine g_callSi (n := 47) (As := [.long p2.toInt64, .long (0 : Int64), .long (((S2 18 p1.toNatClampNeg) - (1 : Int32)).toInt64)]) (rest := []) ok (c_X8_in l v p2.toInt64 (0 : Int64) (((S2 18 p1.toNatClampNeg) - (1 : Int32)).toInt64) S2 _ h) cal_X8_in tw_771 tw_772 (by decide) (by decide) rfl (Nat.le_of_ble_eq_true rfl) dX8_cell_44 rfl rfl (fun r3 S3 h => ?_)
      refine g_if_ne (t := 53) (n := 50) ok dX8_cell_47 (by decide) rfl (fun e6 => ?_) (fun e6 => ?_)
      · replace h := h.1 e6
        refine g_aload_n 0 (n := 54) ok dX8_cell_53 rfl rfl ?_
        refine fg_X8_X8_sheets (n := 57) ok dX8_cell_54 rfl ?_
        refine g_bipush (v := 40) (n := 59) ok dX8_cell_57 rfl (by decide) ?_
        refine g_iload_n 1 (n := 60) ok dX8_cell_59 rfl rfl ?_
        refine g_imul (n := 61) ok dX8_cell_60 rfl ?_
        refine g_iload_n 2 (n := 62) ok dX8_cell_61 rfl rfl ?_
        refine g_iadd (n := 63) ok dX8_cell_62 rfl ?_
        refine g_aload_n 0 (n := 64) ok dX8_cell_63 rfl rfl ?_
        refine fg_X8_X8_sheetSort (n := 67) ok dX8_cell_64 rfl ?_
        refine g_iload_n 1 (n := 68) ok dX8_cell_67 rfl rfl ?_
        obtain ⟨h0, h⟩ := h
        refine g_iald (c := 17) (t0 := 0) (n := 69) ok (Nat.le_of_ble_eq_true rfl) rfl rfl h0 dX8_cell_68 rfl ?_
        refine g_if_ne (t := 77) (n := 72) ok dX8_cell_69 (by decide) rfl (fun e5 => ?_) (fun e5 => ?_)
        · replace h := h.1 e5
          refine g_aload_n 0 (n := 78) ok dX8_cell_77 rfl rfl ?_
          refine fg_X8_X8_sheetSort (n := 81) ok dX8_cell_78 rfl ?_
          refine g_iload_n 1 (n := 82) ok dX8_cell_81 rfl rfl ?_
          obtain ⟨h0, h⟩ := h
          refine g_iald (c := 17) (t0 := 0) (n := 83) ok (Nat.le_of_ble_eq_true rfl) rfl rfl h0 dX8_cell_82 rfl ?_
          refine g_iconst (v := 1) (n := 84) ok dX8_cell_83 rfl (by decide) ?_
          refine g_icmp_ne (t := 92) (n := 87) ok dX8_cell_84 (by decide) rfl (fun e4 => ?_) (fun e4 => ?_)
          · replace h := h.1 e4
            refine g_iload_n 3 (n := 93) ok dX8_cell_92 rfl rfl ?_
            exact g_sub [] rfl (b_X8_cell_93 ok he p3 (((40 : Int32) * p1) + p2) S3 h)
          · replace h := h.2 e4
            refine g_iload_n 3 (n := 88) ok dX8_cell_87 rfl rfl ?_
            refine g_i2s (n := 89) ok dX8_cell_88 rfl ?_
            refine g_goto (t := 93) ok dX8_cell_89 (by decide) ?_
            exact g_sub [] rfl (b_X8_cell_93 ok he p3.toInt16.toInt32 (((40 : Int32) * p1) + p2) S3 h)
        · replace h := h.2 e5
          refine g_iload_n 3 (n := 73) ok dX8_cell_72 rfl rfl ?_
          refine g_i2b (n := 74) ok dX8_cell_73 rfl ?_
          refine g_goto (t := 93) ok dX8_cell_74 (by decide) ?_
          exact g_sub [] rfl (b_X8_cell_93 ok he p3.toInt8.toInt32 (((40 : Int32) * p1) + p2) S3 h)
      · replace h := h.2 e6
        refine g_bipush (v := -12) (n := 52) ok dX8_cell_50 rfl (by decide) ?_
        exact g_iret ok he h dX8_cell_52
    · replace h := h.2 e7
      refine g_bipush (v := -11) (n := 31) ok dX8_cell_29 rfl (by decide) ?_
      exact g_iret ok he h dX8_cell_31
  · replace h := h.2 e8
    refine g_bipush (v := -2) (n := 19) ok dX8_cell_17 rfl (by decide) ?_
    exact g_iret ok he h dX8_cell_19
def w_X8_copy_29 (post : Int32 → Mem → Prop) (S : Mem) : Prop := post (-2 : Int32) S
set_option maxHeartbeats 4000000 in
set_option maxRecDepth 20000 in
theorem b_X8_copy_29 {v : VmT} {l : Launch} {g : CxT} (ok : Ok l g (oM v) 7 cX8_copy RX8 (some .int)) {post : Int32 → Mem → Prop} (he : EndQ g (oM v) (va_Qi post (fun S1 t => BX (oM v) S1 t) (AX (oM v)))) (S : Mem) (h : w_X8_copy_29 post  S) : G g (oM v) 2 7 29 [] [] S := by
  unfold w_X8_copy_29 at h
  refine g_bipush (v := -2) (n := 31) ok dX8_copy_29 rfl (by decide) ?_
  exact g_iret ok he h dX8_copy_31
def w_X8_copy_50 (post : Int32 → Mem → Prop) (S : Mem) : Prop := post (-11 : Int32) S
set_option maxHeartbeats 4000000 in
set_option maxRecDepth 20000 in
theorem b_X8_copy_50 {v : VmT} {l : Launch} {g : CxT} (ok : Ok l g (oM v) 7 cX8_copy RX8 (some .int)) {post : Int32 → Mem → Prop} (he : EndQ g (oM v) (va_Qi post (fun S1 t => BX (oM v) S1 t) (AX (oM v)))) (S : Mem) (h : w_X8_copy_50 post  S) : G g (oM v) 2 7 50 [] [] S := by
  unfold w_X8_copy_50 at h
  refine g_bipush (v := -11) (n := 52) ok dX8_copy_50 rfl (by decide) ?_
  exact g_iret ok he h dX8_copy_52
def w_X8_copy_112 (post : Int32 → Mem → Prop) (S : Mem) : Prop := post (-12 : Int32) S
set_option maxHeartbeats 4000000 in
set_option maxRecDepth 20000 in
theorem b_X8_copy_112 {v : VmT} {l : Launch} {g : CxT} (ok : Ok l g (oM v) 7 cX8_copy RX8 (some .int)) {post : Int32 → Mem → Prop} (he : EndQ g (oM v) (va_Qi post (fun S1 t => BX (oM v) S1 t) (AX (oM v)))) (S : Mem) (h : w_X8_copy_112 post  S) : G g (oM v) 2 7 112 [] [] S := by
  unfold w_X8_copy_112 at h
  refine g_bipush (v := -12) (n := 114) ok dX8_copy_112 rfl (by decide) ?_
  exact g_iret ok he h dX8_copy_114
def w_X8_copy_155 (post : Int32 → Mem → Prop) : Nat → Int32 → Int32 → Int32 → Int32 → Mem → Prop
  | 0, _, _, _, _, _ => False
  | n + 1, x3, x4, x5, x6, S => ((x5 ≤ x6 → post x5 S) ∧ (¬ x5 ≤ x6 → (vp_in x6 40 ∧ (vp_in ((((40 : Int32) * x3) + x4) + x6) 160 ∧ (∀ S1 : Mem, S1 = mset S 19 (upd (S 19) ((((40 : Int32) * x3) + x4) + x6).toNatClampNeg (S 20 x6.toNatClampNeg)) → (∀ z2 : Int32, z2 = x6 + 1 → w_X8_copy_155 post n x3 x4 x5 z2 S1))))))
set_option maxHeartbeats 4000000 in
set_option maxRecDepth 20000 in
theorem b_X8_copy_155 {v : VmT} {l : Launch} {g : CxT} (ok : Ok l g (oM v) 7 cX8_copy RX8 (some .int)) {post : Int32 → Mem → Prop} (he : EndQ g (oM v) (va_Qi post (fun S1 t => BX (oM v) S1 t) (AX (oM v)))) : ∀ (n : Nat) (x3 : Int32) (x4 : Int32) (x5 : Int32) (x6 : Int32) (S : Mem), w_X8_copy_155 post n x3 x4 x5 x6 S → G g (oM v) 2 7 155 [(0, .ref (v.1 0)), (3, .int x3), (4, .int x4), (5, .int x5), (6, .int x6)] [] S := by
  intro n
  induction n with
  | zero =>
    intro x3 x4 x5 x6 S h
    exact h.elim
  | succ n ih =>
    intro x3 x4 x5 x6 S h
    rw [w_X8_copy_155] at h
    refine g_iload 4 (n := 157) ok dX8_copy_155 rfl rfl ?_
    refine g_iload 3 (n := 159) ok dX8_copy_157 rfl rfl ?_
    refine g_icmp_ge (t := 190) (n := 162) ok dX8_copy_159 (by decide) rfl (fun e3 => ?_) (fun e3 => ?_)
    · replace h := h.1 e3
      refine g_iload 3 (n := 192) ok dX8_copy_190 rfl rfl ?_
      exact g_iret ok he h dX8_copy_192
    · replace h := h.2 e3
      refine g_aload_n 0 (n := 163) ok dX8_copy_162 rfl rfl ?_
      refine fg_X8_X8_sheets (n := 166) ok dX8_copy_163 rfl ?_
      refine g_bipush (v := 40) (n := 168) ok dX8_copy_166 rfl (by decide) ?_
      refine g_iload_n 1 (n := 169) ok dX8_copy_168 rfl rfl ?_
      refine g_imul (n := 170) ok dX8_copy_169 rfl ?_
      refine g_iload 2 (n := 172) ok dX8_copy_170 rfl rfl ?_
      refine g_iadd (n := 173) ok dX8_copy_172 rfl ?_
      refine g_iload 4 (n := 175) ok dX8_copy_173 rfl rfl ?_
      refine g_iadd (n := 176) ok dX8_copy_175 rfl ?_
      refine g_aload_n 0 (n := 177) ok dX8_copy_176 rfl rfl ?_
      refine fg_X8_X8_between (n := 180) ok dX8_copy_177 rfl ?_
      refine g_iload 4 (n := 182) ok dX8_copy_180 rfl rfl ?_
      obtain ⟨h0, h⟩ := h
      refine g_iald (c := 20) (t0 := 0) (n := 183) ok (Nat.le_of_ble_eq_true rfl) rfl rfl h0 dX8_copy_182 rfl ?_
      obtain ⟨h0, h⟩ := h
      refine g_iast (c := 19) (t0 := 0) (n := 184) ok (Nat.le_of_ble_eq_true rfl) (fun _ => rfl) rfl h0 dX8_copy_183 rfl ?_
      refine g_mem (fun S1 eS1 => ?_)
      replace h := h S1 eS1
      obtain ⟨z2, ez2⟩ : ∃ y : Int32, y = x6 + 1 := ⟨_, rfl⟩
      replace h := h z2 ez2
      refine g_iinc 4 [(6, .int z2), (0, .ref (v.1 0)), (3, .int x3), (4, .int x4), (5, .int x5)] (v := z2) (n := 187) ok dX8_copy_184 rfl rfl (by rw [ez2]; rfl) (by decide) rfl ?_
      refine g_goto (t := 155) ok dX8_copy_187 (by decide) ?_
      exact g_sub [1, 2, 3, 4, 0] rfl (ih x3 x4 x5 z2 S1 h)
def w_X8_copy_118 (post : Int32 → Mem → Prop) : Nat → Int32 → Int32 → Int32 → Int32 → Int32 → Int32 → Mem → Prop
  | 0, _, _, _, _, _, _, _ => False
  | n + 1, x1, x2, x3, x4, x5, x6, S => ((x5 ≤ x6 → ∃ n, w_X8_copy_155 post n x3 x4 x5 (0 : Int32) S) ∧ (¬ x5 ≤ x6 → (vp_in ((((40 : Int32) * x1) + x2) + x6) 160 ∧ (vp_in x6 40 ∧ (∀ S1 : Mem, S1 = mset S 20 (upd (S 20) x6.toNatClampNeg (S 19 ((((40 : Int32) * x1) + x2) + x6).toNatClampNeg)) → (∀ z2 : Int32, z2 = x6 + 1 → w_X8_copy_118 post n x1 x2 x3 x4 x5 z2 S1))))))
set_option maxHeartbeats 4000000 in
set_option maxRecDepth 20000 in
theorem b_X8_copy_118 {v : VmT} {l : Launch} {g : CxT} (ok : Ok l g (oM v) 7 cX8_copy RX8 (some .int)) {post : Int32 → Mem → Prop} (he : EndQ g (oM v) (va_Qi post (fun S1 t => BX (oM v) S1 t) (AX (oM v)))) : ∀ (n : Nat) (x1 : Int32) (x2 : Int32) (x3 : Int32) (x4 : Int32) (x5 : Int32) (x6 : Int32) (S : Mem), w_X8_copy_118 post n x1 x2 x3 x4 x5 x6 S → G g (oM v) 2 7 118 [(0, .ref (v.1 0)), (1, .int x1), (2, .int x2), (3, .int x3), (4, .int x4), (5, .int x5), (6, .int x6)] [] S := by
  intro n
  induction n with
  | zero =>
    intro x1 x2 x3 x4 x5 x6 S h
    exact h.elim
  | succ n ih =>
    intro x1 x2 x3 x4 x5 x6 S h
    rw [w_X8_copy_118] at h
    refine g_iload 6 (n := 120) ok dX8_copy_118 rfl rfl ?_
    refine g_iload 5 (n := 122) ok dX8_copy_120 rfl rfl ?_
    refine g_icmp_ge (t := 152) (n := 125) ok dX8_copy_122 (by decide) rfl (fun e3 => ?_) (fun e3 => ?_)
    · replace h := h.1 e3
      refine g_iconst (v := 0) (n := 153) ok dX8_copy_152 rfl (by decide) ?_
      refine g_istore [(6, .int (0 : Int32)), (0, .ref (v.1 0)), (1, .int x1), (2, .int x2), (3, .int x3), (4, .int x4), (5, .int x5)] (n := 155) ok dX8_copy_153 rfl (by decide) rfl ?_
      obtain ⟨n0, h⟩ := h
      exact g_sub [1, 4, 5, 6, 0] rfl (b_X8_copy_155 ok he n0 x3 x4 x5 (0 : Int32) S h)
    · replace h := h.2 e3
      refine g_aload_n 0 (n := 126) ok dX8_copy_125 rfl rfl ?_
      refine fg_X8_X8_between (n := 129) ok dX8_copy_126 rfl ?_
      refine g_iload 6 (n := 131) ok dX8_copy_129 rfl rfl ?_
      refine g_aload_n 0 (n := 132) ok dX8_copy_131 rfl rfl ?_
      refine fg_X8_X8_sheets (n := 135) ok dX8_copy_132 rfl ?_
      refine g_bipush (v := 40) (n := 137) ok dX8_copy_135 rfl (by decide) ?_
      refine g_iload_n 1 (n := 138) ok dX8_copy_137 rfl rfl ?_
      refine g_imul (n := 139) ok dX8_copy_138 rfl ?_
      refine g_iload_n 2 (n := 140) ok dX8_copy_139 rfl rfl ?_
      refine g_iadd (n := 141) ok dX8_copy_140 rfl ?_
      refine g_iload 6 (n := 143) ok dX8_copy_141 rfl rfl ?_
      refine g_iadd (n := 144) ok dX8_copy_143 rfl ?_
      obtain ⟨h0, h⟩ := h
      refine g_iald (c := 19) (t0 := 0) (n := 145) ok (Nat.le_of_ble_eq_true rfl) rfl rfl h0 dX8_copy_144 rfl ?_
      obtain ⟨h0, h⟩ := h
      refine g_iast (c := 20) (t0 := 0) (n := 146) ok (Nat.le_of_ble_eq_true rfl) (fun _ => rfl) rfl h0 dX8_copy_145 rfl ?_
      refine g_mem (fun S1 eS1 => ?_)
      replace h := h S1 eS1
      obtain ⟨z2, ez2⟩ : ∃ y : Int32, y = x6 + 1 := ⟨_, rfl⟩
      replace h := h z2 ez2
      refine g_iinc 6 [(6, .int z2), (0, .ref (v.1 0)), (1, .int x1), (2, .int x2), (3, .int x3), (4, .int x4), (5, .int x5)] (v := z2) (n := 149) ok dX8_copy_146 rfl rfl (by rw [ez2]; rfl) (by decide) rfl ?_
      refine g_goto (t := 118) ok dX8_copy_149 (by decide) ?_
      exact g_sub [1, 2, 3, 4, 5, 6, 0] rfl (ih x1 x2 x3 x4 x5 z2 S1 h)
def w_X8_copy (p1 : Int32) (p2 : Int32) (p3 : Int32) (p4 : Int32) (p5 : Int32) (S : Mem) (post : Int32 → Mem → Prop) : Prop := (∀ S1 : Mem, S1 = mset S 0 (upd (S 0) 8 (0 : Int32)) → w_X8_in p1.toInt64 (0 : Int64) (3 : Int64) S1 (fun r2 S2 => ((r2 = 0 → w_X8_copy_29 post  S2) ∧ (¬ r2 = 0 → w_X8_in p3.toInt64 (0 : Int64) (3 : Int64) S2 (fun r3 S3 => ((¬ r3 = 0 → (vp_in p1 4 ∧ (((S3 17 p1.toNatClampNeg) < 0 → w_X8_copy_50 post  S3) ∧ (¬ (S3 17 p1.toNatClampNeg) < 0 → (vp_in p3 4 ∧ ((0 ≤ (S3 17 p3.toNatClampNeg) → (vp_in p1 4 ∧ (vp_in p3 4 ∧ (((S3 17 p1.toNatClampNeg) = (S3 17 p3.toNatClampNeg) → ((p5 < 0 → w_X8_copy_112 post  S3) ∧ (¬ p5 < 0 → ((p2 < 0 → w_X8_copy_112 post  S3) ∧ (¬ p2 < 0 → ((p4 < 0 → w_X8_copy_112 post  S3) ∧ (¬ p4 < 0 → (vp_in p1 4 ∧ ((((S3 18 p1.toNatClampNeg) - p5) < p2 → w_X8_copy_112 post  S3) ∧ (¬ ((S3 18 p1.toNatClampNeg) - p5) < p2 → (vp_in p3 4 ∧ ((p4 ≤ ((S3 18 p3.toNatClampNeg) - p5) → ∃ n, w_X8_copy_118 post n p1 p2 p3 p4 p5 (0 : Int32) S3) ∧ (¬ p4 ≤ ((S3 18 p3.toNatClampNeg) - p5) → w_X8_copy_112 post  S3))))))))))))) ∧ (¬ (S3 17 p1.toNatClampNeg) = (S3 17 p3.toNatClampNeg) → post (-13 : Int32) S3))))) ∧ (¬ 0 ≤ (S3 17 p3.toNatClampNeg) → w_X8_copy_50 post  S3))))))) ∧ (r3 = 0 → w_X8_copy_29 post  S3)))))))
set_option maxHeartbeats 4000000 in
set_option maxRecDepth 20000 in
theorem c_X8_copy (l : Launch) (v : VmT) (p1 : Int32) (p2 : Int32) (p3 : Int32) (p4 : Int32) (p5 : Int32) (S : Mem) (post : Int32 → Mem → Prop) (h : w_X8_copy p1 p2 p3 p4 p5 S post) : MI l yX8_copy cX8_copy 7 (some .int) 2 (oM v) [.ref (v.1 0), .int p1, .int p2, .int p3, .int p4, .int p5] S post := by
  refine met_start (by decide +kernel) (Nat.le_of_ble_eq_true rfl) (fun g ok he => ?_)
  refine g_eq (L' := [(0, .ref (v.1 0)), (1, .int p1), (2, .int p2), (3, .int p3), (4, .int p4), (5, .int p5)]) (st' := []) ?_ rfl rfl
  unfold w_X8_copy at h
  refine g_aload_n 0 (n := 1) ok dX8_copy_0 rfl rfl ?_
  refine g_iconst (v := 0) (n := 2) ok dX8_copy_1 rfl (by decide) ?_
  refine fp_X8_X8_thrown (n := 5) ok dX8_copy_2 rfl ?_
  refine g_mem (fun S1 eS1 => ?_)
  replace h := h S1 eS1
  refine g_iload_n 1 (n := 6) ok dX8_copy_5 rfl rfl ?_
  refine g_i2l (n := 7) ok dX8_copy_6 rfl ?_
  refine g_lconst (v := 0) (n := 8) ok dX8_copy_7 rfl (by decide) ?_
  refine g_ldc2 (v := 3) (n := 11) ok dX8_copy_8 rfl tw_1111 ?_
  refine g_callSi (n := 14) (As := [.long p1.toInt64, .long (0 : Int64), .long (3 : Int64)]) (rest := []) ok (c_X8_in l v p1.toInt64 (0 : Int64) (3 : Int64) S1 _ h) cal_X8_in tw_771 tw_772 (by decide) (by decide) rfl (Nat.le_of_ble_eq_true rfl) dX8_copy_11 rfl rfl (fun r2 S2 h => ?_)
  refine g_if_eq (t := 29) (n := 17) ok dX8_copy_14 (by decide) rfl (fun e13 => ?_) (fun e13 => ?_)
  · replace h := h.1 e13
    exact g_sub [] rfl (b_X8_copy_29 ok he  S2 h)
  · replace h := h.2 e13
    refine g_iload_n 3 (n := 18) ok dX8_copy_17 rfl rfl ?_
    refine g_i2l (n := 19) ok dX8_copy_18 rfl ?_
    refine g_lconst (v := 0) (n := 20) ok dX8_copy_19 rfl (by decide) ?_
    refine g_ldc2 (v := 3) (n := 23) ok dX8_copy_20 rfl tw_1111 ?_
    refine g_callSi (n := 26) (As := [.long p3.toInt64, .long (0 : Int64), .long (3 : Int64)]) (rest := []) ok (c_X8_in l v p3.toInt64 (0 : Int64) (3 : Int64) S2 _ h) cal_X8_in tw_771 tw_772 (by decide) (by decide) rfl (Nat.le_of_ble_eq_true rfl) dX8_copy_23 rfl rfl (fun r3 S3 h => ?_)
    refine g_if_ne (t := 32) (n := 29) ok dX8_copy_26 (by decide) rfl (fun e12 => ?_) (fun e12 => ?_)
    · replace h := h.1 e12
      refine g_aload_n 0 (n := 33) ok dX8_copy_32 rfl rfl ?_
      refine fg_X8_X8_sheetSort (n := 36) ok dX8_copy_33 rfl ?_
      refine g_iload_n 1 (n := 37) ok dX8_copy_36 rfl rfl ?_
      obtain ⟨h0, h⟩ := h
      refine g_iald (c := 17) (t0 := 0) (n := 38) ok (Nat.le_of_ble_eq_true rfl) rfl rfl h0 dX8_copy_37 rfl ?_
      refine g_if_lt (t := 50) (n := 41) ok dX8_copy_38 (by decide) rfl (fun e11 => ?_) (fun e11 => ?_)
      · replace h := h.1 e11
        exact g_sub [] rfl (b_X8_copy_50 ok he  S3 h)
      · replace h := h.2 e11
        refine g_aload_n 0 (n := 42) ok dX8_copy_41 rfl rfl ?_
        refine fg_X8_X8_sheetSort (n := 45) ok dX8_copy_42 rfl ?_
        refine g_iload_n 3 (n := 46) ok dX8_copy_45 rfl rfl ?_
        obtain ⟨h0, h⟩ := h
        refine g_iald (c := 17) (t0 := 0) (n := 47) ok (Nat.le_of_ble_eq_true rfl) rfl rfl h0 dX8_copy_46 rfl ?_
        refine g_if_ge (t := 53) (n := 50) ok dX8_copy_47 (by decide) rfl (fun e10 => ?_) (fun e10 => ?_)
        · replace h := h.1 e10
          refine g_aload_n 0 (n := 54) ok dX8_copy_53 rfl rfl ?_
          refine fg_X8_X8_sheetSort (n := 57) ok dX8_copy_54 rfl ?_
          refine g_iload_n 1 (n := 58) ok dX8_copy_57 rfl rfl ?_
          obtain ⟨h0, h⟩ := h
          refine g_iald (c := 17) (t0 := 0) (n := 59) ok (Nat.le_of_ble_eq_true rfl) rfl rfl h0 dX8_copy_58 rfl ?_
          refine g_aload_n 0 (n := 60) ok dX8_copy_59 rfl rfl ?_
          refine fg_X8_X8_sheetSort (n := 63) ok dX8_copy_60 rfl ?_
          refine g_iload_n 3 (n := 64) ok dX8_copy_63 rfl rfl ?_
          obtain ⟨h0, h⟩ := h
          refine g_iald (c := 17) (t0 := 0) (n := 65) ok (Nat.le_of_ble_eq_true rfl) rfl rfl h0 dX8_copy_64 rfl ?_
          refine g_icmp_eq (t := 71) (n := 68) ok dX8_copy_65 (by decide) rfl (fun e9 => ?_) (fun e9 => ?_)
          · replace h := h.1 e9
            refine g_iload 5 (n := 73) ok dX8_copy_71 rfl rfl ?_
            refine g_if_lt (t := 112) (n := 76) ok dX8_copy_73 (by decide) rfl (fun e8 => ?_) (fun e8 => ?_)
            · replace h := h.1 e8
              exact g_sub [] rfl (b_X8_copy_112 ok he  S3 h)
            · replace h := h.2 e8
              refine g_iload_n 2 (n := 77) ok dX8_copy_76 rfl rfl ?_
              refine g_if_lt (t := 112) (n := 80) ok dX8_copy_77 (by decide) rfl (fun e7 => ?_) (fun e7 => ?_)
              · replace h := h.1 e7
                exact g_sub [] rfl (b_X8_copy_112 ok he  S3 h)
              · replace h := h.2 e7
                refine g_iload 4 (n := 82) ok dX8_copy_80 rfl rfl ?_
                refine g_if_lt (t := 112) (n := 85) ok dX8_copy_82 (by decide) rfl (fun e6 => ?_) (fun e6 => ?_)
                · replace h := h.1 e6
                  exact g_sub [] rfl (b_X8_copy_112 ok he  S3 h)
                · replace h := h.2 e6
                  refine g_iload_n 2 (n := 86) ok dX8_copy_85 rfl rfl ?_
                  refine g_aload_n 0 (n := 87) ok dX8_copy_86 rfl rfl ?_
                  refine fg_X8_X8_sheetMany (n := 90) ok dX8_copy_87 rfl ?_
                  refine g_iload_n 1 (n := 91) ok dX8_copy_90 rfl rfl ?_
                  obtain ⟨h0, h⟩ := h
                  refine g_iald (c := 18) (t0 := 0) (n := 92) ok (Nat.le_of_ble_eq_true rfl) rfl rfl h0 dX8_copy_91 rfl ?_
                  refine g_iload 5 (n := 94) ok dX8_copy_92 rfl rfl ?_
                  refine g_isub (n := 95) ok dX8_copy_94 rfl ?_
                  refine g_icmp_gt (t := 112) (n := 98) ok dX8_copy_95 (by decide) rfl (fun e5 => ?_) (fun e5 => ?_)
                  · replace h := h.1 e5
                    exact g_sub [] rfl (b_X8_copy_112 ok he  S3 h)
                  · replace h := h.2 e5
                    refine g_iload 4 (n := 100) ok dX8_copy_98 rfl rfl ?_
                    refine g_aload_n 0 (n := 101) ok dX8_copy_100 rfl rfl ?_
                    refine fg_X8_X8_sheetMany (n := 104) ok dX8_copy_101 rfl ?_
                    refine g_iload_n 3 (n := 105) ok dX8_copy_104 rfl rfl ?_
                    obtain ⟨h0, h⟩ := h
                    refine g_iald (c := 18) (t0 := 0) (n := 106) ok (Nat.le_of_ble_eq_true rfl) rfl rfl h0 dX8_copy_105 rfl ?_
                    refine g_iload 5 (n := 108) ok dX8_copy_106 rfl rfl ?_
                    refine g_isub (n := 109) ok dX8_copy_108 rfl ?_
                    refine g_icmp_le (t := 115) (n := 112) ok dX8_copy_109 (by decide) rfl (fun e4 => ?_) (fun e4 => ?_)
                    · replace h := h.1 e4
                      refine g_iconst (v := 0) (n := 116) ok dX8_copy_115 rfl (by decide) ?_
                      refine g_istore [(6, .int (0 : Int32)), (0, .ref (v.1 0)), (1, .int p1), (2, .int p2), (3, .int p3), (4, .int p4), (5, .int p5)] (n := 118) ok dX8_copy_116 rfl (by decide) rfl ?_
                      obtain ⟨n0, h⟩ := h
                      exact g_sub [1, 2, 3, 4, 5, 6, 0] rfl (b_X8_copy_118 ok he n0 p1 p2 p3 p4 p5 (0 : Int32) S3 h)
                    · replace h := h.2 e4
                      exact g_sub [] rfl (b_X8_copy_112 ok he  S3 h)
          · replace h := h.2 e9
            refine g_bipush (v := -13) (n := 70) ok dX8_copy_68 rfl (by decide) ?_
            exact g_iret ok he h dX8_copy_70
        · replace h := h.2 e10
          exact g_sub [] rfl (b_X8_copy_50 ok he  S3 h)
    · replace h := h.2 e12
      exact g_sub [] rfl (b_X8_copy_29 ok he  S3 h)
def w_X8_floors_42 (post : Int32 → Mem → Prop) (S : Mem) : Prop := post (-2 : Int32) S
set_option maxHeartbeats 4000000 in
set_option maxRecDepth 20000 in
theorem b_X8_floors_42 {v : VmT} {l : Launch} {g : CxT} (ok : Ok l g (oM v) 11 cX8_floors RX8 (some .int)) {post : Int32 → Mem → Prop} (he : EndQ g (oM v) (va_Qi post (fun S1 t => BX (oM v) S1 t) (AX (oM v)))) (S : Mem) (h : w_X8_floors_42 post  S) : G g (oM v) 2 11 42 [] [] S := by
  unfold w_X8_floors_42 at h
  refine g_bipush (v := -2) (n := 44) ok dX8_floors_42 rfl (by decide) ?_
  exact g_iret ok he h dX8_floors_44
def w_X8_floors_195 (K85 : Int32 → Int32 → Int32 → Int32 → Int32 → Mem → Prop) (post : Int32 → Mem → Prop) (x1 : Int32) (x3 : Int32) (x4 : Int32) (x5 : Int32) (x6 : Int32) (S : Mem) : Prop := (∀ z1 : Int32, z1 = x6 + 1 → K85 x1 x3 x4 x5 z1 S)
set_option maxHeartbeats 4000000 in
set_option maxRecDepth 20000 in
theorem b_X8_floors_195 {v : VmT} {l : Launch} {g : CxT} {K85 : Int32 → Int32 → Int32 → Int32 → Int32 → Mem → Prop} (ok : Ok l g (oM v) 11 cX8_floors RX8 (some .int)) (hK85 : ∀ (x1 : Int32) (x3 : Int32) (x4 : Int32) (x5 : Int32) (x6 : Int32) (S : Mem), K85 x1 x3 x4 x5 x6 S → G g (oM v) 2 11 85 [(0, .ref (v.1 0)), (1, .int x1), (3, .int x3), (4, .int x4), (5, .int x5), (6, .int x6)] [] S) {post : Int32 → Mem → Prop} (he : EndQ g (oM v) (va_Qi post (fun S1 t => BX (oM v) S1 t) (AX (oM v)))) (x1 : Int32) (x3 : Int32) (x4 : Int32) (x5 : Int32) (x6 : Int32) (S : Mem) (h : w_X8_floors_195 K85 post x1 x3 x4 x5 x6 S) : G g (oM v) 2 11 195 [(0, .ref (v.1 0)), (1, .int x1), (3, .int x3), (4, .int x4), (5, .int x5), (6, .int x6)] [] S := by
  unfold w_X8_floors_195 at h
  obtain ⟨z1, ez1⟩ : ∃ y : Int32, y = x6 + 1 := ⟨_, rfl⟩
  replace h := h z1 ez1
  refine g_iinc 5 [(6, .int z1), (0, .ref (v.1 0)), (1, .int x1), (3, .int x3), (4, .int x4), (5, .int x5)] (v := z1) (n := 198) ok dX8_floors_195 rfl rfl (by rw [ez1]; rfl) (by decide) rfl ?_
  refine g_goto (t := 85) ok dX8_floors_198 (by decide) ?_
  exact g_sub [1, 2, 3, 4, 5, 0] rfl (hK85 x1 x3 x4 x5 z1 S h)
def w_X8_floors_85 (post : Int32 → Mem → Prop) : Nat → Int32 → Int32 → Int32 → Int32 → Int32 → Mem → Prop
  | 0, _, _, _, _, _, _ => False
  | n + 1, x1, x3, x4, x5, x6, S => ((x4 ≤ x6 → post x5 S) ∧ (¬ x4 ≤ x6 → (∀ z1 : Int64, z1 = ((2 : Int64) * x6.toInt64) + x3.toInt64 → (vp_in x1 4 ∧ w_X8_in z1 (0 : Int64) (((S 18 x1.toNatClampNeg) - (2 : Int32)).toInt64) S (fun r2 S2 => ((¬ r2 = 0 → (vp_in (((40 : Int32) * x1) + z1.toInt32) 160 ∧ (∀ z3 : Int32, z3 = S2 19 (((40 : Int32) * x1) + z1.toInt32).toNatClampNeg → (vp_in ((((40 : Int32) * x1) + z1.toInt32) + (1 : Int32)) 160 ∧ (∀ z4 : Int32, z4 = S2 19 ((((40 : Int32) * x1) + z1.toInt32) + (1 : Int32)).toNatClampNeg → w_X8_in z3.toInt64 (0 : Int64) (63 : Int64) S2 (fun r5 S5 => ((r5 = 0 → w_X8_floors_195 (w_X8_floors_85 post n) post x1 x3 x4 x5 x6 S5) ∧ (¬ r5 = 0 → w_X8_in z4.toInt64 (0 : Int64) (99 : Int64) S5 (fun r6 S6 => ((r6 = 0 → w_X8_floors_195 (w_X8_floors_85 post n) post x1 x3 x4 x5 x6 S6) ∧ (¬ r6 = 0 → (vp_in z3 64 ∧ (∀ S7 : Mem, S7 = mset S6 1 (upd (S6 1) z3.toNatClampNeg z4) → (∀ z8 : Int32, z8 = x5 + 1 → w_X8_floors_195 (w_X8_floors_85 post n) post x1 x3 x4 z8 x6 S7)))))))))))))) ∧ (r2 = 0 → post (-12 : Int32) S2)))))))
set_option maxHeartbeats 4000000 in
set_option maxRecDepth 20000 in
theorem b_X8_floors_85 {v : VmT} {l : Launch} {g : CxT} (ok : Ok l g (oM v) 11 cX8_floors RX8 (some .int)) {post : Int32 → Mem → Prop} (he : EndQ g (oM v) (va_Qi post (fun S1 t => BX (oM v) S1 t) (AX (oM v)))) : ∀ (n : Nat) (x1 : Int32) (x3 : Int32) (x4 : Int32) (x5 : Int32) (x6 : Int32) (S : Mem), w_X8_floors_85 post n x1 x3 x4 x5 x6 S → G g (oM v) 2 11 85 [(0, .ref (v.1 0)), (1, .int x1), (3, .int x3), (4, .int x4), (5, .int x5), (6, .int x6)] [] S := by
  intro n
  induction n with
  | zero =>
    intro x1 x3 x4 x5 x6 S h
    exact h.elim
  | succ n ih =>
    intro x1 x3 x4 x5 x6 S h
    rw [w_X8_floors_85] at h
    refine g_iload 5 (n := 87) ok dX8_floors_85 rfl rfl ?_
    refine g_iload 3 (n := 89) ok dX8_floors_87 rfl rfl ?_
    refine g_icmp_ge (t := 201) (n := 92) ok dX8_floors_89 (by decide) rfl (fun e12 => ?_) (fun e12 => ?_)
    · replace h := h.1 e12
      refine g_iload 4 (n := 203) ok dX8_floors_201 rfl rfl ?_
      exact g_iret ok he h dX8_floors_203
    · replace h := h.2 e12
      refine g_ldc2 (v := 2) (n := 95) ok dX8_floors_92 rfl tw_1069 ?_
      refine g_iload 5 (n := 97) ok dX8_floors_95 rfl rfl ?_
      refine g_i2l (n := 98) ok dX8_floors_97 rfl ?_
      refine g_lmul (n := 99) ok dX8_floors_98 rfl ?_
      refine g_iload_n 2 (n := 100) ok dX8_floors_99 rfl rfl ?_
      refine g_i2l (n := 101) ok dX8_floors_100 rfl ?_
      refine g_ladd (n := 102) ok dX8_floors_101 rfl ?_
      refine g_topl (fun z1 ez1 => ?_)
      replace h := h z1 ez1
      refine g_lstore [(7, .long z1), (0, .ref (v.1 0)), (1, .int x1), (3, .int x3), (4, .int x4), (5, .int x5), (6, .int x6)] (n := 104) ok dX8_floors_102 rfl (by decide) rfl ?_
      refine g_lload 0 (n := 106) ok dX8_floors_104 rfl rfl ?_
      refine g_lconst (v := 0) (n := 107) ok dX8_floors_106 rfl (by decide) ?_
      refine g_aload_n 1 (n := 108) ok dX8_floors_107 rfl rfl ?_
      refine fg_X8_X8_sheetMany (n := 111) ok dX8_floors_108 rfl ?_
      refine g_iload_n 2 (n := 112) ok dX8_floors_111 rfl rfl ?_
      obtain ⟨h0, h⟩ := h
      refine g_iald (c := 18) (t0 := 0) (n := 113) ok (Nat.le_of_ble_eq_true rfl) rfl rfl h0 dX8_floors_112 rfl ?_
      refine g_iconst (v := 2) (n := 114) ok dX8_floors_113 rfl (by decide) ?_
      refine g_isub (n := 115) ok dX8_floors_114 rfl ?_
      refine g_i2l (n := 116) ok dX8_floors_115 rfl ?_
      refine g_callSi (n := 119) (As := [.long z1, .long (0 : Int64), .long (((S 18 x1.toNatClampNeg) - (2 : Int32)).toInt64)]) (rest := []) ok (c_X8_in l v z1 (0 : Int64) (((S 18 x1.toNatClampNeg) - (2 : Int32)).toInt64) S _ h) cal_X8_in tw_771 tw_772 (by decide) (by decide) rfl (Nat.le_of_ble_eq_true rfl) dX8_floors_116 rfl rfl (fun r2 S2 h => ?_)
      refine g_if_ne (t := 125) (n := 122) ok dX8_floors_119 (by decide) rfl (fun e11 => ?_) (fun e11 => ?_)
      · replace h := h.1 e11
        refine g_aload_n 1 (n := 126) ok dX8_floors_125 rfl rfl ?_
        refine fg_X8_X8_sheets (n := 129) ok dX8_floors_126 rfl ?_
        refine g_bipush (v := 40) (n := 131) ok dX8_floors_129 rfl (by decide) ?_
        refine g_iload_n 2 (n := 132) ok dX8_floors_131 rfl rfl ?_
        refine g_imul (n := 133) ok dX8_floors_132 rfl ?_
        refine g_lload 0 (n := 135) ok dX8_floors_133 rfl rfl ?_
        refine g_l2i (n := 136) ok dX8_floors_135 rfl ?_
        refine g_iadd (n := 137) ok dX8_floors_136 rfl ?_
        obtain ⟨h0, h⟩ := h
        refine g_iald (c := 19) (t0 := 0) (n := 138) ok (Nat.le_of_ble_eq_true rfl) rfl rfl h0 dX8_floors_137 rfl ?_
        refine g_topi (fun z3 ez3 => ?_)
        replace h := h z3 ez3
        refine g_istore [(9, .int z3), (7, .long z1), (0, .ref (v.1 0)), (1, .int x1), (3, .int x3), (4, .int x4), (5, .int x5), (6, .int x6)] (n := 140) ok dX8_floors_138 rfl (by decide) rfl ?_
        refine g_aload_n 2 (n := 141) ok dX8_floors_140 rfl rfl ?_
        refine fg_X8_X8_sheets (n := 144) ok dX8_floors_141 rfl ?_
        refine g_bipush (v := 40) (n := 146) ok dX8_floors_144 rfl (by decide) ?_
        refine g_iload_n 3 (n := 147) ok dX8_floors_146 rfl rfl ?_
        refine g_imul (n := 148) ok dX8_floors_147 rfl ?_
        refine g_lload 1 (n := 150) ok dX8_floors_148 rfl rfl ?_
        refine g_l2i (n := 151) ok dX8_floors_150 rfl ?_
        refine g_iadd (n := 152) ok dX8_floors_151 rfl ?_
        refine g_iconst (v := 1) (n := 153) ok dX8_floors_152 rfl (by decide) ?_
        refine g_iadd (n := 154) ok dX8_floors_153 rfl ?_
        obtain ⟨h0, h⟩ := h
        refine g_iald (c := 19) (t0 := 0) (n := 155) ok (Nat.le_of_ble_eq_true rfl) rfl rfl h0 dX8_floors_154 rfl ?_
        refine g_topi (fun z4 ez4 => ?_)
        replace h := h z4 ez4
        refine g_istore [(10, .int z4), (9, .int z3), (7, .long z1), (0, .ref (v.1 0)), (1, .int x1), (3, .int x3), (4, .int x4), (5, .int x5), (6, .int x6)] (n := 157) ok dX8_floors_155 rfl (by decide) rfl ?_
        refine g_iload 1 (n := 159) ok dX8_floors_157 rfl rfl ?_
        refine g_i2l (n := 160) ok dX8_floors_159 rfl ?_
        refine g_lconst (v := 0) (n := 161) ok dX8_floors_160 rfl (by decide) ?_
        refine g_ldc2 (v := 63) (n := 164) ok dX8_floors_161 rfl tw_1039 ?_
        refine g_callSi (n := 167) (As := [.long z3.toInt64, .long (0 : Int64), .long (63 : Int64)]) (rest := []) ok (c_X8_in l v z3.toInt64 (0 : Int64) (63 : Int64) S2 _ h) cal_X8_in tw_771 tw_772 (by decide) (by decide) rfl (Nat.le_of_ble_eq_true rfl) dX8_floors_164 rfl rfl (fun r5 S5 h => ?_)
        refine g_if_eq (t := 195) (n := 170) ok dX8_floors_167 (by decide) rfl (fun e10 => ?_) (fun e10 => ?_)
        · replace h := h.1 e10
          exact g_sub [3, 4, 5, 6, 7, 8] rfl (b_X8_floors_195 ok ih he x1 x3 x4 x5 x6 S5 h)
        · replace h := h.2 e10
          refine g_iload 0 (n := 172) ok dX8_floors_170 rfl rfl ?_
          refine g_i2l (n := 173) ok dX8_floors_172 rfl ?_
          refine g_lconst (v := 0) (n := 174) ok dX8_floors_173 rfl (by decide) ?_
          refine g_ldc2 (v := 99) (n := 177) ok dX8_floors_174 rfl tw_1139 ?_
          refine g_callSi (n := 180) (As := [.long z4.toInt64, .long (0 : Int64), .long (99 : Int64)]) (rest := []) ok (c_X8_in l v z4.toInt64 (0 : Int64) (99 : Int64) S5 _ h) cal_X8_in tw_771 tw_772 (by decide) (by decide) rfl (Nat.le_of_ble_eq_true rfl) dX8_floors_177 rfl rfl (fun r6 S6 h => ?_)
          refine g_if_eq (t := 195) (n := 183) ok dX8_floors_180 (by decide) rfl (fun e9 => ?_) (fun e9 => ?_)
          · replace h := h.1 e9
            exact g_sub [3, 4, 5, 6, 7, 8] rfl (b_X8_floors_195 ok ih he x1 x3 x4 x5 x6 S6 h)
          · replace h := h.2 e9
            refine g_aload_n 3 (n := 184) ok dX8_floors_183 rfl rfl ?_
            refine fg_X8_X8_heights (n := 187) ok dX8_floors_184 rfl ?_
            refine g_iload 1 (n := 189) ok dX8_floors_187 rfl rfl ?_
            refine g_iload 0 (n := 191) ok dX8_floors_189 rfl rfl ?_
            obtain ⟨h0, h⟩ := h
            refine g_iast (c := 1) (t0 := 0) (n := 192) ok (Nat.le_of_ble_eq_true rfl) (fun _ => rfl) rfl h0 dX8_floors_191 rfl ?_
            refine g_mem (fun S7 eS7 => ?_)
            replace h := h S7 eS7
            obtain ⟨z8, ez8⟩ : ∃ y : Int32, y = x5 + 1 := ⟨_, rfl⟩
            replace h := h z8 ez8
            refine g_iinc 7 [(5, .int z8), (10, .int z4), (9, .int z3), (7, .long z1), (0, .ref (v.1 0)), (1, .int x1), (3, .int x3), (4, .int x4), (6, .int x6)] (v := z8) (n := 195) ok dX8_floors_192 rfl rfl (by rw [ez8]; rfl) (by decide) rfl ?_
            exact g_sub [4, 5, 6, 7, 0, 8] rfl (b_X8_floors_195 ok ih he x1 x3 x4 z8 x6 S7 h)
      · replace h := h.2 e11
        refine g_bipush (v := -12) (n := 124) ok dX8_floors_122 rfl (by decide) ?_
        exact g_iret ok he h dX8_floors_124
def w_X8_floors_67 (post : Int32 → Mem → Prop) (x1 : Int32) (x3 : Int32) (x4 : Int32) (S : Mem) : Prop := (vp_in x1 4 ∧ ((0 ≤ (S 17 x1.toNatClampNeg) → ∃ n, w_X8_floors_85 post n x1 x3 x4 (0 : Int32) (0 : Int32) S) ∧ (¬ 0 ≤ (S 17 x1.toNatClampNeg) → post (-11 : Int32) S)))
set_option maxHeartbeats 4000000 in
set_option maxRecDepth 20000 in
theorem b_X8_floors_67 {v : VmT} {l : Launch} {g : CxT} (ok : Ok l g (oM v) 11 cX8_floors RX8 (some .int)) {post : Int32 → Mem → Prop} (he : EndQ g (oM v) (va_Qi post (fun S1 t => BX (oM v) S1 t) (AX (oM v)))) (x1 : Int32) (x3 : Int32) (x4 : Int32) (S : Mem) (h : w_X8_floors_67 post x1 x3 x4 S) : G g (oM v) 2 11 67 [(0, .ref (v.1 0)), (1, .int x1), (3, .int x3), (4, .int x4)] [] S := by
  unfold w_X8_floors_67 at h
  refine g_aload_n 0 (n := 68) ok dX8_floors_67 rfl rfl ?_
  refine fg_X8_X8_sheetSort (n := 71) ok dX8_floors_68 rfl ?_
  refine g_iload_n 1 (n := 72) ok dX8_floors_71 rfl rfl ?_
  obtain ⟨h0, h⟩ := h
  refine g_iald (c := 17) (t0 := 0) (n := 73) ok (Nat.le_of_ble_eq_true rfl) rfl rfl h0 dX8_floors_72 rfl ?_
  refine g_if_ge (t := 79) (n := 76) ok dX8_floors_73 (by decide) rfl (fun e1 => ?_) (fun e1 => ?_)
  · replace h := h.1 e1
    refine g_iconst (v := 0) (n := 80) ok dX8_floors_79 rfl (by decide) ?_
    refine g_istore [(5, .int (0 : Int32)), (0, .ref (v.1 0)), (1, .int x1), (3, .int x3), (4, .int x4)] (n := 82) ok dX8_floors_80 rfl (by decide) rfl ?_
    refine g_iconst (v := 0) (n := 83) ok dX8_floors_82 rfl (by decide) ?_
    refine g_istore [(6, .int (0 : Int32)), (5, .int (0 : Int32)), (0, .ref (v.1 0)), (1, .int x1), (3, .int x3), (4, .int x4)] (n := 85) ok dX8_floors_83 rfl (by decide) rfl ?_
    obtain ⟨n0, h⟩ := h
    exact g_sub [2, 3, 4, 5, 1, 0] rfl (b_X8_floors_85 ok he n0 x1 x3 x4 (0 : Int32) (0 : Int32) S h)
  · replace h := h.2 e1
    refine g_bipush (v := -11) (n := 78) ok dX8_floors_76 rfl (by decide) ?_
    exact g_iret ok he h dX8_floors_78
def w_X8_floors (p1 : Int32) (p2 : Int32) (p3 : Int32) (p4 : Int32) (S : Mem) (post : Int32 → Mem → Prop) : Prop := (∀ S1 : Mem, S1 = mset S 0 (upd (S 0) 8 (0 : Int32)) → w_X8_in p1.toInt64 (0 : Int64) (3 : Int64) S1 (fun r2 S2 => ((r2 = 0 → w_X8_floors_42 post  S2) ∧ (¬ r2 = 0 → w_X8_in p2.toInt64 (0 : Int64) (2 : Int64) S2 (fun r3 S3 => ((r3 = 0 → w_X8_floors_42 post  S3) ∧ (¬ r3 = 0 → w_X8_in p4.toInt64 (0 : Int64) (20 : Int64) S3 (fun r4 S4 => ((¬ r4 = 0 → (vp_in p1 4 ∧ (((S4 17 p1.toNatClampNeg) < 0 → w_X8_floors_67 post p1 p3 p4 S4) ∧ (¬ (S4 17 p1.toNatClampNeg) < 0 → (vp_in p1 4 ∧ (((S4 17 p1.toNatClampNeg) = p2 → w_X8_floors_67 post p1 p3 p4 S4) ∧ (¬ (S4 17 p1.toNatClampNeg) = p2 → post (-13 : Int32) S4))))))) ∧ (r4 = 0 → w_X8_floors_42 post  S4))))))))))
set_option maxHeartbeats 4000000 in
set_option maxRecDepth 20000 in
theorem c_X8_floors (l : Launch) (v : VmT) (p1 : Int32) (p2 : Int32) (p3 : Int32) (p4 : Int32) (S : Mem) (post : Int32 → Mem → Prop) (h : w_X8_floors p1 p2 p3 p4 S post) : MI l yX8_floors cX8_floors 11 (some .int) 2 (oM v) [.ref (v.1 0), .int p1, .int p2, .int p3, .int p4] S post := by
  refine met_start (by decide +kernel) (Nat.le_of_ble_eq_true rfl) (fun g ok he => ?_)
  refine g_eq (L' := [(0, .ref (v.1 0)), (1, .int p1), (2, .int p2), (3, .int p3), (4, .int p4)]) (st' := []) ?_ rfl rfl
  unfold w_X8_floors at h
  refine g_aload_n 0 (n := 1) ok dX8_floors_0 rfl rfl ?_
  refine g_iconst (v := 0) (n := 2) ok dX8_floors_1 rfl (by decide) ?_
  refine fp_X8_X8_thrown (n := 5) ok dX8_floors_2 rfl ?_
  refine g_mem (fun S1 eS1 => ?_)
  replace h := h S1 eS1
  refine g_iload_n 1 (n := 6) ok dX8_floors_5 rfl rfl ?_
  refine g_i2l (n := 7) ok dX8_floors_6 rfl ?_
  refine g_lconst (v := 0) (n := 8) ok dX8_floors_7 rfl (by decide) ?_
  refine g_ldc2 (v := 3) (n := 11) ok dX8_floors_8 rfl tw_1111 ?_
  refine g_callSi (n := 14) (As := [.long p1.toInt64, .long (0 : Int64), .long (3 : Int64)]) (rest := []) ok (c_X8_in l v p1.toInt64 (0 : Int64) (3 : Int64) S1 _ h) cal_X8_in tw_771 tw_772 (by decide) (by decide) rfl (Nat.le_of_ble_eq_true rfl) dX8_floors_11 rfl rfl (fun r2 S2 h => ?_)
  refine g_if_eq (t := 42) (n := 17) ok dX8_floors_14 (by decide) rfl (fun e9 => ?_) (fun e9 => ?_)
  · replace h := h.1 e9
    exact g_sub [] rfl (b_X8_floors_42 ok he  S2 h)
  · replace h := h.2 e9
    refine g_iload_n 2 (n := 18) ok dX8_floors_17 rfl rfl ?_
    refine g_i2l (n := 19) ok dX8_floors_18 rfl ?_
    refine g_lconst (v := 0) (n := 20) ok dX8_floors_19 rfl (by decide) ?_
    refine g_ldc2 (v := 2) (n := 23) ok dX8_floors_20 rfl tw_1069 ?_
    refine g_callSi (n := 26) (As := [.long p2.toInt64, .long (0 : Int64), .long (2 : Int64)]) (rest := []) ok (c_X8_in l v p2.toInt64 (0 : Int64) (2 : Int64) S2 _ h) cal_X8_in tw_771 tw_772 (by decide) (by decide) rfl (Nat.le_of_ble_eq_true rfl) dX8_floors_23 rfl rfl (fun r3 S3 h => ?_)
    refine g_if_eq (t := 42) (n := 29) ok dX8_floors_26 (by decide) rfl (fun e8 => ?_) (fun e8 => ?_)
    · replace h := h.1 e8
      exact g_sub [] rfl (b_X8_floors_42 ok he  S3 h)
    · replace h := h.2 e8
      refine g_iload 4 (n := 31) ok dX8_floors_29 rfl rfl ?_
      refine g_i2l (n := 32) ok dX8_floors_31 rfl ?_
      refine g_lconst (v := 0) (n := 33) ok dX8_floors_32 rfl (by decide) ?_
      refine g_ldc2 (v := 20) (n := 36) ok dX8_floors_33 rfl tw_1198 ?_
      refine g_callSi (n := 39) (As := [.long p4.toInt64, .long (0 : Int64), .long (20 : Int64)]) (rest := []) ok (c_X8_in l v p4.toInt64 (0 : Int64) (20 : Int64) S3 _ h) cal_X8_in tw_771 tw_772 (by decide) (by decide) rfl (Nat.le_of_ble_eq_true rfl) dX8_floors_36 rfl rfl (fun r4 S4 h => ?_)
      refine g_if_ne (t := 45) (n := 42) ok dX8_floors_39 (by decide) rfl (fun e7 => ?_) (fun e7 => ?_)
      · replace h := h.1 e7
        refine g_aload_n 0 (n := 46) ok dX8_floors_45 rfl rfl ?_
        refine fg_X8_X8_sheetSort (n := 49) ok dX8_floors_46 rfl ?_
        refine g_iload_n 1 (n := 50) ok dX8_floors_49 rfl rfl ?_
        obtain ⟨h0, h⟩ := h
        refine g_iald (c := 17) (t0 := 0) (n := 51) ok (Nat.le_of_ble_eq_true rfl) rfl rfl h0 dX8_floors_50 rfl ?_
        refine g_if_lt (t := 67) (n := 54) ok dX8_floors_51 (by decide) rfl (fun e6 => ?_) (fun e6 => ?_)
        · replace h := h.1 e6
          exact g_sub [0, 1, 3, 4] rfl (b_X8_floors_67 ok he p1 p3 p4 S4 h)
        · replace h := h.2 e6
          refine g_aload_n 0 (n := 55) ok dX8_floors_54 rfl rfl ?_
          refine fg_X8_X8_sheetSort (n := 58) ok dX8_floors_55 rfl ?_
          refine g_iload_n 1 (n := 59) ok dX8_floors_58 rfl rfl ?_
          obtain ⟨h0, h⟩ := h
          refine g_iald (c := 17) (t0 := 0) (n := 60) ok (Nat.le_of_ble_eq_true rfl) rfl rfl h0 dX8_floors_59 rfl ?_
          refine g_iload_n 2 (n := 61) ok dX8_floors_60 rfl rfl ?_
          refine g_icmp_eq (t := 67) (n := 64) ok dX8_floors_61 (by decide) rfl (fun e5 => ?_) (fun e5 => ?_)
          · replace h := h.1 e5
            exact g_sub [0, 1, 3, 4] rfl (b_X8_floors_67 ok he p1 p3 p4 S4 h)
          · replace h := h.2 e5
            refine g_bipush (v := -13) (n := 66) ok dX8_floors_64 rfl (by decide) ?_
            exact g_iret ok he h dX8_floors_66
      · replace h := h.2 e7
        exact g_sub [] rfl (b_X8_floors_42 ok he  S4 h)
def w_X8_taken_94 (post : Int32 → Mem → Prop) (y0 : Int32) (S : Mem) : Prop := post y0 S
set_option maxHeartbeats 4000000 in
set_option maxRecDepth 20000 in
theorem b_X8_taken_94 {v : VmT} {l : Launch} {g : CxT} (ok : Ok l g (oM v) 5 cX8_taken RX8 (some .int)) {post : Int32 → Mem → Prop} (he : EndQ g (oM v) (va_Qi post (fun S1 t => BX (oM v) S1 t) (AX (oM v)))) (y0 : Int32) (S : Mem) (h : w_X8_taken_94 post y0 S) : G g (oM v) 2 5 94 [] [.int y0] S := by
  unfold w_X8_taken_94 at h
  exact g_iret ok he h dX8_taken_94
def w_X8_taken_76 (post : Int32 → Mem → Prop) (x1 : Int32) (y0 : Int32) (S : Mem) : Prop := ((y0 = 0 → w_X8_taken_94 post (-13 : Int32) S) ∧ (¬ y0 = 0 → (vp_in x1 4 ∧ w_X8_taken_94 post (S 3 x1.toNatClampNeg) S)))
set_option maxHeartbeats 4000000 in
set_option maxRecDepth 20000 in
theorem b_X8_taken_76 {v : VmT} {l : Launch} {g : CxT} (ok : Ok l g (oM v) 5 cX8_taken RX8 (some .int)) {post : Int32 → Mem → Prop} (he : EndQ g (oM v) (va_Qi post (fun S1 t => BX (oM v) S1 t) (AX (oM v)))) (x1 : Int32) (y0 : Int32) (S : Mem) (h : w_X8_taken_76 post x1 y0 S) : G g (oM v) 2 5 76 [(0, .ref (v.1 0)), (1, .int x1)] [.int y0] S := by
  unfold w_X8_taken_76 at h
  refine g_istore [(4, .int y0), (0, .ref (v.1 0)), (1, .int x1)] (n := 78) ok dX8_taken_76 rfl (by decide) rfl ?_
  refine g_iload 0 (n := 80) ok dX8_taken_78 rfl rfl ?_
  refine g_if_eq (t := 92) (n := 83) ok dX8_taken_80 (by decide) rfl (fun e1 => ?_) (fun e1 => ?_)
  · replace h := h.1 e1
    refine g_bipush (v := -13) (n := 94) ok dX8_taken_92 rfl (by decide) ?_
    exact g_sub [] rfl (b_X8_taken_94 ok he (-13 : Int32) S h)
  · replace h := h.2 e1
    refine g_aload_n 1 (n := 84) ok dX8_taken_83 rfl rfl ?_
    refine fg_X8_X8_longs (n := 87) ok dX8_taken_84 rfl ?_
    refine g_iload_n 2 (n := 88) ok dX8_taken_87 rfl rfl ?_
    obtain ⟨h0, h⟩ := h
    refine g_iald (c := 3) (t0 := 0) (n := 89) ok (Nat.le_of_ble_eq_true rfl) rfl rfl h0 dX8_taken_88 rfl ?_
    refine g_goto (t := 94) ok dX8_taken_89 (by decide) ?_
    exact g_sub [] rfl (b_X8_taken_94 ok he (S 3 x1.toNatClampNeg) S h)
def w_X8_taken_71 (post : Int32 → Mem → Prop) (x1 : Int32) (S : Mem) : Prop := w_X8_taken_76 post x1 (1 : Int32) S
set_option maxHeartbeats 4000000 in
set_option maxRecDepth 20000 in
theorem b_X8_taken_71 {v : VmT} {l : Launch} {g : CxT} (ok : Ok l g (oM v) 5 cX8_taken RX8 (some .int)) {post : Int32 → Mem → Prop} (he : EndQ g (oM v) (va_Qi post (fun S1 t => BX (oM v) S1 t) (AX (oM v)))) (x1 : Int32) (S : Mem) (h : w_X8_taken_71 post x1 S) : G g (oM v) 2 5 71 [(0, .ref (v.1 0)), (1, .int x1)] [] S := by
  unfold w_X8_taken_71 at h
  refine g_iconst (v := 1) (n := 72) ok dX8_taken_71 rfl (by decide) ?_
  refine g_goto (t := 76) ok dX8_taken_72 (by decide) ?_
  exact g_sub [0, 1] rfl (b_X8_taken_76 ok he x1 (1 : Int32) S h)
def w_X8_taken_75 (post : Int32 → Mem → Prop) (x1 : Int32) (S : Mem) : Prop := w_X8_taken_76 post x1 (0 : Int32) S
set_option maxHeartbeats 4000000 in
set_option maxRecDepth 20000 in
theorem b_X8_taken_75 {v : VmT} {l : Launch} {g : CxT} (ok : Ok l g (oM v) 5 cX8_taken RX8 (some .int)) {post : Int32 → Mem → Prop} (he : EndQ g (oM v) (va_Qi post (fun S1 t => BX (oM v) S1 t) (AX (oM v)))) (x1 : Int32) (S : Mem) (h : w_X8_taken_75 post x1 S) : G g (oM v) 2 5 75 [(0, .ref (v.1 0)), (1, .int x1)] [] S := by
  unfold w_X8_taken_75 at h
  refine g_iconst (v := 0) (n := 76) ok dX8_taken_75 rfl (by decide) ?_
  exact g_sub [0, 1] rfl (b_X8_taken_76 ok he x1 (0 : Int32) S h)
def w_X8_taken_61 (post : Int32 → Mem → Prop) (x1 : Int32) (x2 : Int32) (x3 : Int32) (S : Mem) : Prop := ((¬ x3 = (4 : Int32) → w_X8_taken_75 post x1 S) ∧ (x3 = (4 : Int32) → ((¬ x2 = (2 : Int32) → w_X8_taken_75 post x1 S) ∧ (x2 = (2 : Int32) → w_X8_taken_71 post x1 S))))
set_option maxHeartbeats 4000000 in
set_option maxRecDepth 20000 in
theorem b_X8_taken_61 {v : VmT} {l : Launch} {g : CxT} (ok : Ok l g (oM v) 5 cX8_taken RX8 (some .int)) {post : Int32 → Mem → Prop} (he : EndQ g (oM v) (va_Qi post (fun S1 t => BX (oM v) S1 t) (AX (oM v)))) (x1 : Int32) (x2 : Int32) (x3 : Int32) (S : Mem) (h : w_X8_taken_61 post x1 x2 x3 S) : G g (oM v) 2 5 61 [(0, .ref (v.1 0)), (1, .int x1), (2, .int x2), (3, .int x3)] [] S := by
  unfold w_X8_taken_61 at h
  refine g_iload_n 3 (n := 62) ok dX8_taken_61 rfl rfl ?_
  refine g_iconst (v := 4) (n := 63) ok dX8_taken_62 rfl (by decide) ?_
  refine g_icmp_ne (t := 75) (n := 66) ok dX8_taken_63 (by decide) rfl (fun e2 => ?_) (fun e2 => ?_)
  · replace h := h.1 e2
    exact g_sub [0, 1] rfl (b_X8_taken_75 ok he x1 S h)
  · replace h := h.2 e2
    refine g_iload_n 2 (n := 67) ok dX8_taken_66 rfl rfl ?_
    refine g_iconst (v := 2) (n := 68) ok dX8_taken_67 rfl (by decide) ?_
    refine g_icmp_ne (t := 75) (n := 71) ok dX8_taken_68 (by decide) rfl (fun e1 => ?_) (fun e1 => ?_)
    · replace h := h.1 e1
      exact g_sub [0, 1] rfl (b_X8_taken_75 ok he x1 S h)
    · replace h := h.2 e1
      exact g_sub [0, 1] rfl (b_X8_taken_71 ok he x1 S h)
def w_X8_taken (p1 : Int32) (p2 : Int32) (S : Mem) (post : Int32 → Mem → Prop) : Prop := (∀ S1 : Mem, S1 = mset S 0 (upd (S 0) 8 (0 : Int32)) → w_X8_in p2.toInt64 (0 : Int64) (5 : Int64) S1 (fun r2 S2 => ((¬ r2 = 0 → w_X8_in p1.toInt64 (0 : Int64) (3 : Int64) S2 (fun r3 S3 => ((¬ r3 = 0 → (vp_in p1 4 ∧ (∀ z4 : Int32, z4 = S3 2 p1.toNatClampNeg → ((p2 = 0 → w_X8_taken_71 post p1 S3) ∧ (¬ p2 = 0 → ((z4 = p2 → w_X8_taken_71 post p1 S3) ∧ (¬ z4 = p2 → ((¬ z4 = (3 : Int32) → w_X8_taken_61 post p1 p2 z4 S3) ∧ (z4 = (3 : Int32) → ((p2 = (1 : Int32) → w_X8_taken_71 post p1 S3) ∧ (¬ p2 = (1 : Int32) → w_X8_taken_61 post p1 p2 z4 S3))))))))))) ∧ (r3 = 0 → post (-11 : Int32) S3)))) ∧ (r2 = 0 → post (-2 : Int32) S2))))
set_option maxHeartbeats 4000000 in
set_option maxRecDepth 20000 in
theorem c_X8_taken (l : Launch) (v : VmT) (p1 : Int32) (p2 : Int32) (S : Mem) (post : Int32 → Mem → Prop) (h : w_X8_taken p1 p2 S post) : MI l yX8_taken cX8_taken 5 (some .int) 2 (oM v) [.ref (v.1 0), .int p1, .int p2] S post := by
  refine met_start (by decide +kernel) (Nat.le_of_ble_eq_true rfl) (fun g ok he => ?_)
  refine g_eq (L' := [(0, .ref (v.1 0)), (1, .int p1), (2, .int p2)]) (st' := []) ?_ rfl rfl
  unfold w_X8_taken at h
  refine g_aload_n 0 (n := 1) ok dX8_taken_0 rfl rfl ?_
  refine g_iconst (v := 0) (n := 2) ok dX8_taken_1 rfl (by decide) ?_
  refine fp_X8_X8_thrown (n := 5) ok dX8_taken_2 rfl ?_
  refine g_mem (fun S1 eS1 => ?_)
  replace h := h S1 eS1
  refine g_iload_n 2 (n := 6) ok dX8_taken_5 rfl rfl ?_
  refine g_i2l (n := 7) ok dX8_taken_6 rfl ?_
  refine g_lconst (v := 0) (n := 8) ok dX8_taken_7 rfl (by decide) ?_
  refine g_ldc2 (v := 5) (n := 11) ok dX8_taken_8 rfl tw_995 ?_
  refine g_callSi (n := 14) (As := [.long p2.toInt64, .long (0 : Int64), .long (5 : Int64)]) (rest := []) ok (c_X8_in l v p2.toInt64 (0 : Int64) (5 : Int64) S1 _ h) cal_X8_in tw_771 tw_772 (by decide) (by decide) rfl (Nat.le_of_ble_eq_true rfl) dX8_taken_11 rfl rfl (fun r2 S2 h => ?_)
  refine g_if_ne (t := 20) (n := 17) ok dX8_taken_14 (by decide) rfl (fun e10 => ?_) (fun e10 => ?_)
  · replace h := h.1 e10
    refine g_iload_n 1 (n := 21) ok dX8_taken_20 rfl rfl ?_
    refine g_i2l (n := 22) ok dX8_taken_21 rfl ?_
    refine g_lconst (v := 0) (n := 23) ok dX8_taken_22 rfl (by decide) ?_
    refine g_ldc2 (v := 3) (n := 26) ok dX8_taken_23 rfl tw_1111 ?_
    refine g_callSi (n := 29) (As := [.long p1.toInt64, .long (0 : Int64), .long (3 : Int64)]) (rest := []) ok (c_X8_in l v p1.toInt64 (0 : Int64) (3 : Int64) S2 _ h) cal_X8_in tw_771 tw_772 (by decide) (by decide) rfl (Nat.le_of_ble_eq_true rfl) dX8_taken_26 rfl rfl (fun r3 S3 h => ?_)
    refine g_if_ne (t := 35) (n := 32) ok dX8_taken_29 (by decide) rfl (fun e9 => ?_) (fun e9 => ?_)
    · replace h := h.1 e9
      refine g_aload_n 0 (n := 36) ok dX8_taken_35 rfl rfl ?_
      refine fg_X8_X8_kinds (n := 39) ok dX8_taken_36 rfl ?_
      refine g_iload_n 1 (n := 40) ok dX8_taken_39 rfl rfl ?_
      obtain ⟨h0, h⟩ := h
      refine g_iald (c := 2) (t0 := 0) (n := 41) ok (Nat.le_of_ble_eq_true rfl) rfl rfl h0 dX8_taken_40 rfl ?_
      refine g_topi (fun z4 ez4 => ?_)
      replace h := h z4 ez4
      refine g_istore_n [(3, .int z4), (0, .ref (v.1 0)), (1, .int p1), (2, .int p2)] (n := 42) ok dX8_taken_41 rfl (by decide) rfl ?_
      refine g_iload_n 3 (n := 43) ok dX8_taken_42 rfl rfl ?_
      refine g_if_eq (t := 71) (n := 46) ok dX8_taken_43 (by decide) rfl (fun e8 => ?_) (fun e8 => ?_)
      · replace h := h.1 e8
        exact g_sub [1, 2] rfl (b_X8_taken_71 ok he p1 S3 h)
      · replace h := h.2 e8
        refine g_iload_n 0 (n := 47) ok dX8_taken_46 rfl rfl ?_
        refine g_iload_n 3 (n := 48) ok dX8_taken_47 rfl rfl ?_
        refine g_icmp_eq (t := 71) (n := 51) ok dX8_taken_48 (by decide) rfl (fun e7 => ?_) (fun e7 => ?_)
        · replace h := h.1 e7
          exact g_sub [1, 2] rfl (b_X8_taken_71 ok he p1 S3 h)
        · replace h := h.2 e7
          refine g_iload_n 0 (n := 52) ok dX8_taken_51 rfl rfl ?_
          refine g_iconst (v := 3) (n := 53) ok dX8_taken_52 rfl (by decide) ?_
          refine g_icmp_ne (t := 61) (n := 56) ok dX8_taken_53 (by decide) rfl (fun e6 => ?_) (fun e6 => ?_)
          · replace h := h.1 e6
            exact g_sub [1, 2, 3, 0] rfl (b_X8_taken_61 ok he p1 p2 z4 S3 h)
          · replace h := h.2 e6
            refine g_iload_n 3 (n := 57) ok dX8_taken_56 rfl rfl ?_
            refine g_iconst (v := 1) (n := 58) ok dX8_taken_57 rfl (by decide) ?_
            refine g_icmp_eq (t := 71) (n := 61) ok dX8_taken_58 (by decide) rfl (fun e5 => ?_) (fun e5 => ?_)
            · replace h := h.1 e5
              exact g_sub [1, 2] rfl (b_X8_taken_71 ok he p1 S3 h)
            · replace h := h.2 e5
              exact g_sub [1, 2, 3, 0] rfl (b_X8_taken_61 ok he p1 p2 z4 S3 h)
    · replace h := h.2 e9
      refine g_bipush (v := -11) (n := 34) ok dX8_taken_32 rfl (by decide) ?_
      exact g_iret ok he h dX8_taken_34
  · replace h := h.2 e10
    refine g_bipush (v := -2) (n := 19) ok dX8_taken_17 rfl (by decide) ?_
    exact g_iret ok he h dX8_taken_19
