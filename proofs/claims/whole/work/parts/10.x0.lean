def w_X0_feltTall (c : Nat) (p1 : Int32) (S : Mem) (post : Int32 → Mem → Prop) : Prop := post (((S c 1) + (S c 2)) - (p1 / (2 : Int32))) S
set_option maxHeartbeats 4000000 in
set_option maxRecDepth 20000 in
theorem c_X0_feltTall (l : Launch) (v : VxT) (c : Nat) (hc : kdX c = 4) (p1 : Int32) (S : Mem) (post : Int32 → Mem → Prop) (h : w_X0_feltTall c p1 S post) : MI l yX0_feltTall cX0_feltTall 2 (some .int) 1 (oX v) [.ref (v.1 c), .int p1] S post := by
  refine met_start (by decide +kernel) (Nat.le_of_ble_eq_true rfl) (fun g ok he => ?_)
  refine g_eq (L' := [(0, .ref (v.1 c)), (1, .int p1)]) (st' := []) ?_ rfl rfl
  unfold w_X0_feltTall at h
  refine g_aload_n 0 (n := 1) ok dX0_feltTall_0 rfl rfl ?_
  refine fg_X0_X0_length (n := 4) c hc ok dX0_feltTall_1 rfl ?_
  refine g_aload_n 0 (n := 5) ok dX0_feltTall_4 rfl rfl ?_
  refine fg_X0_X0_number (n := 8) c hc ok dX0_feltTall_5 rfl ?_
  refine g_iadd (n := 9) ok dX0_feltTall_8 rfl ?_
  refine g_iload_n 1 (n := 10) ok dX0_feltTall_9 rfl rfl ?_
  refine g_iconst (v := 2) (n := 11) ok dX0_feltTall_10 rfl (by decide) ?_
  refine g_idiv (n := 12) ok dX0_feltTall_11 rfl (by decide) ?_
  refine g_isub (n := 13) ok dX0_feltTall_12 rfl ?_
  exact g_iret ok he h dX0_feltTall_13
def w_X0_screwTall (c : Nat) (S : Mem) (post : Int32 → Mem → Prop) : Prop := post ((S c 1) + ((3 : Int32) * (S c 2))) S
set_option maxHeartbeats 4000000 in
set_option maxRecDepth 20000 in
theorem c_X0_screwTall (l : Launch) (v : VxT) (c : Nat) (hc : kdX c = 4) (S : Mem) (post : Int32 → Mem → Prop) (h : w_X0_screwTall c S post) : MI l yX0_screwTall cX0_screwTall 1 (some .int) 1 (oX v) [.ref (v.1 c)] S post := by
  refine met_start (by decide +kernel) (Nat.le_of_ble_eq_true rfl) (fun g ok he => ?_)
  refine g_eq (L' := [(0, .ref (v.1 c))]) (st' := []) ?_ rfl rfl
  unfold w_X0_screwTall at h
  refine g_aload_n 0 (n := 1) ok dX0_screwTall_0 rfl rfl ?_
  refine fg_X0_X0_length (n := 4) c hc ok dX0_screwTall_1 rfl ?_
  refine g_iconst (v := 3) (n := 5) ok dX0_screwTall_4 rfl (by decide) ?_
  refine g_aload_n 0 (n := 6) ok dX0_screwTall_5 rfl rfl ?_
  refine fg_X0_X0_number (n := 9) c hc ok dX0_screwTall_6 rfl ?_
  refine g_imul (n := 10) ok dX0_screwTall_9 rfl ?_
  refine g_iadd (n := 11) ok dX0_screwTall_10 rfl ?_
  exact g_iret ok he h dX0_screwTall_11
def w_X0_tall_97 (post : Int32 → Mem → Prop) (c : Nat) (x2 : Int32) (S : Mem) : Prop := post (jmax (0 : Int32) x2) S
set_option maxHeartbeats 4000000 in
set_option maxRecDepth 20000 in
theorem b_X0_tall_97 {v : VxT} {l : Launch} {g : CxT} (ok : Ok l g (oX v) 3 cX0_tall RX0 (some .int)) (c : Nat) (hc : kdX c = 4) {post : Int32 → Mem → Prop} (he : EndQ g (oX v) (va_Qi post (fun S1 t => BX (oX v) S1 t) (AX (oX v)))) (x2 : Int32) (S : Mem) (h : w_X0_tall_97 post c x2 S) : G g (oX v) 2 3 97 [(2, .int x2)] [] S := by
  unfold w_X0_tall_97 at h
  refine g_iconst (v := 0) (n := 98) ok dX0_tall_97 rfl (by decide) ?_
  refine g_iload_n 0 (n := 99) ok dX0_tall_98 rfl rfl ?_
  refine g_mmax (n := 102) ok tw_416 tw_417 tw_15 tw_418 (by decide) (Nat.le_of_ble_eq_true rfl) dX0_tall_99 rfl ?_
  exact g_iret ok he h dX0_tall_102
def w_X0_tall (c : Nat) (p1 : Int32) (S : Mem) (post : Int32 → Mem → Prop) : Prop := (∀ z1 : Int32, z1 = S c 1 → (∀ z2 : Int32, z2 = S c 0 → ((z2 = 1 → w_X0_feltTall c p1 S (fun r4 S4 => w_X0_tall_97 post c r4 S4)) ∧ (¬ z2 = 1 → ((z2 = 2 → w_X0_screwTall c S (fun r6 S6 => w_X0_tall_97 post c r6 S6)) ∧ (¬ z2 = 2 → ((z2 = 3 → w_X0_feltTall c p1 S (fun r8 S8 => (∀ z9 : Int32, z9 = r8 / (2 : Int32) → w_X0_tall_97 post c z9 S8))) ∧ (¬ z2 = 3 → ((z2 = 4 → w_X0_screwTall c S (fun r11 S11 => (∀ z12 : Int32, z12 = r11 + (2 : Int32) → w_X0_tall_97 post c z12 S11))) ∧ (¬ z2 = 4 → ((z2 = 5 → (∀ z14 : Int32, z14 = (S c 1) - (p1 * (S c 2)) → w_X0_tall_97 post c z14 S)) ∧ (¬ z2 = 5 → w_X0_tall_97 post c z1 S))))))))))))
set_option maxHeartbeats 4000000 in
set_option maxRecDepth 20000 in
theorem c_X0_tall (l : Launch) (v : VxT) (c : Nat) (hc : kdX c = 4) (p1 : Int32) (S : Mem) (post : Int32 → Mem → Prop) (h : w_X0_tall c p1 S post) : MI l yX0_tall cX0_tall 3 (some .int) 2 (oX v) [.ref (v.1 c), .int p1] S post := by
  refine met_start (by decide +kernel) (Nat.le_of_ble_eq_true rfl) (fun g ok he => ?_)
  refine g_eq (L' := [(0, .ref (v.1 c)), (1, .int p1)]) (st' := []) ?_ rfl rfl
  unfold w_X0_tall at h
  refine g_aload_n 0 (n := 1) ok dX0_tall_0 rfl rfl ?_
  refine fg_X0_X0_length (n := 4) c hc ok dX0_tall_1 rfl ?_
  refine g_topi (fun z1 ez1 => ?_)
  replace h := h z1 ez1
  refine g_istore_n [(2, .int z1), (0, .ref (v.1 c)), (1, .int p1)] (n := 5) ok dX0_tall_4 rfl (by decide) rfl ?_
  refine g_aload_n 1 (n := 6) ok dX0_tall_5 rfl rfl ?_
  refine fg_X0_X0_kind (n := 9) c hc ok dX0_tall_6 rfl ?_
  refine g_topi (fun z2 ez2 => ?_)
  replace h := h z2 ez2
  by_cases e3 : z2 = 1
  · replace h := h.1 e3
    refine g_tsIn (off := 35) (t := 44) ok dX0_tall_9 (by rw [e3]; decide) (by rw [e3]; decide) (by rw [e3]; rfl) (by decide) ?_
    refine g_aload_n 1 (n := 45) ok dX0_tall_44 rfl rfl ?_
    refine g_iload_n 2 (n := 46) ok dX0_tall_45 rfl rfl ?_
    refine g_callVi (n := 49) (As := [.int p1]) (rest := []) (c := c) ok (c_X0_feltTall l v c hc p1 S _ h) cal_X0_feltTall tw_408 tw_410 tp_21 (lt4 hc) (sh4 hc _) rfl (by decide) (by decide) rfl (Nat.le_of_ble_eq_true rfl) dX0_tall_46 rfl rfl (fun r4 S4 h => ?_)
    refine g_istore_n [(2, .int r4), (0, .ref (v.1 c)), (1, .int p1)] (n := 50) ok dX0_tall_49 rfl (by decide) rfl ?_
    refine g_goto (t := 97) ok dX0_tall_50 (by decide) ?_
    exact g_sub [0] rfl (b_X0_tall_97 ok c hc he r4 S4 h)
  · replace h := h.2 e3
    by_cases e5 : z2 = 2
    · replace h := h.1 e5
      refine g_tsIn (off := 44) (t := 53) ok dX0_tall_9 (by rw [e5]; decide) (by rw [e5]; decide) (by rw [e5]; rfl) (by decide) ?_
      refine g_aload_n 1 (n := 54) ok dX0_tall_53 rfl rfl ?_
      refine g_callVi (n := 57) (As := []) (rest := []) (c := c) ok (c_X0_screwTall l v c hc S _ h) cal_X0_screwTall tw_412 tw_414 tp_22 (lt4 hc) (sh4 hc _) rfl (by decide) (by decide) rfl (Nat.le_of_ble_eq_true rfl) dX0_tall_54 rfl rfl (fun r6 S6 h => ?_)
      refine g_istore_n [(2, .int r6), (0, .ref (v.1 c)), (1, .int p1)] (n := 58) ok dX0_tall_57 rfl (by decide) rfl ?_
      refine g_goto (t := 97) ok dX0_tall_58 (by decide) ?_
      exact g_sub [0] rfl (b_X0_tall_97 ok c hc he r6 S6 h)
    · replace h := h.2 e5
      by_cases e7 : z2 = 3
      · replace h := h.1 e7
        refine g_tsIn (off := 52) (t := 61) ok dX0_tall_9 (by rw [e7]; decide) (by rw [e7]; decide) (by rw [e7]; rfl) (by decide) ?_
        refine g_aload_n 1 (n := 62) ok dX0_tall_61 rfl rfl ?_
        refine g_iload_n 2 (n := 63) ok dX0_tall_62 rfl rfl ?_
        refine g_callVi (n := 66) (As := [.int p1]) (rest := []) (c := c) ok (c_X0_feltTall l v c hc p1 S _ h) cal_X0_feltTall tw_408 tw_410 tp_21 (lt4 hc) (sh4 hc _) rfl (by decide) (by decide) rfl (Nat.le_of_ble_eq_true rfl) dX0_tall_63 rfl rfl (fun r8 S8 h => ?_)
        refine g_iconst (v := 2) (n := 67) ok dX0_tall_66 rfl (by decide) ?_
        refine g_idiv (n := 68) ok dX0_tall_67 rfl (by decide) ?_
        refine g_topi (fun z9 ez9 => ?_)
        replace h := h z9 ez9
        refine g_istore_n [(2, .int z9), (0, .ref (v.1 c)), (1, .int p1)] (n := 69) ok dX0_tall_68 rfl (by decide) rfl ?_
        refine g_goto (t := 97) ok dX0_tall_69 (by decide) ?_
        exact g_sub [0] rfl (b_X0_tall_97 ok c hc he z9 S8 h)
      · replace h := h.2 e7
        by_cases e10 : z2 = 4
        · replace h := h.1 e10
          refine g_tsIn (off := 63) (t := 72) ok dX0_tall_9 (by rw [e10]; decide) (by rw [e10]; decide) (by rw [e10]; rfl) (by decide) ?_
          refine g_aload_n 1 (n := 73) ok dX0_tall_72 rfl rfl ?_
          refine g_callVi (n := 76) (As := []) (rest := []) (c := c) ok (c_X0_screwTall l v c hc S _ h) cal_X0_screwTall tw_412 tw_414 tp_22 (lt4 hc) (sh4 hc _) rfl (by decide) (by decide) rfl (Nat.le_of_ble_eq_true rfl) dX0_tall_73 rfl rfl (fun r11 S11 h => ?_)
          refine g_iconst (v := 2) (n := 77) ok dX0_tall_76 rfl (by decide) ?_
          refine g_iadd (n := 78) ok dX0_tall_77 rfl ?_
          refine g_topi (fun z12 ez12 => ?_)
          replace h := h z12 ez12
          refine g_istore_n [(2, .int z12), (0, .ref (v.1 c)), (1, .int p1)] (n := 79) ok dX0_tall_78 rfl (by decide) rfl ?_
          refine g_goto (t := 97) ok dX0_tall_79 (by decide) ?_
          exact g_sub [0] rfl (b_X0_tall_97 ok c hc he z12 S11 h)
        · replace h := h.2 e10
          by_cases e13 : z2 = 5
          · replace h := h.1 e13
            refine g_tsIn (off := 73) (t := 82) ok dX0_tall_9 (by rw [e13]; decide) (by rw [e13]; decide) (by rw [e13]; rfl) (by decide) ?_
            refine g_aload_n 1 (n := 83) ok dX0_tall_82 rfl rfl ?_
            refine fg_X0_X0_length (n := 86) c hc ok dX0_tall_83 rfl ?_
            refine g_iload_n 2 (n := 87) ok dX0_tall_86 rfl rfl ?_
            refine g_aload_n 1 (n := 88) ok dX0_tall_87 rfl rfl ?_
            refine fg_X0_X0_number (n := 91) c hc ok dX0_tall_88 rfl ?_
            refine g_imul (n := 92) ok dX0_tall_91 rfl ?_
            refine g_isub (n := 93) ok dX0_tall_92 rfl ?_
            refine g_topi (fun z14 ez14 => ?_)
            replace h := h z14 ez14
            refine g_istore_n [(2, .int z14), (0, .ref (v.1 c)), (1, .int p1)] (n := 94) ok dX0_tall_93 rfl (by decide) rfl ?_
            refine g_goto (t := 97) ok dX0_tall_94 (by decide) ?_
            exact g_sub [0] rfl (b_X0_tall_97 ok c hc he z14 S h)
          · replace h := h.2 e13
            refine g_tsOut (t := 97) ok dX0_tall_9 (by have q0 := lv_neT (a := 1) e3 rfl; have q1 := lv_neT (a := 2) e5 rfl; have q2 := lv_neT (a := 3) e7 rfl; have q3 := lv_neT (a := 4) e10 rfl; have q4 := lv_neT (a := 5) e13 rfl; omega) (by decide) ?_
            exact g_sub [0] rfl (b_X0_tall_97 ok c hc he z1 S h)
def w_X0_feltGives (c : Nat) (p1 : Int32) (S : Mem) (post : Int32 → Mem → Prop) : Prop := post (jmin (p1 / (2 : Int32)) (S c 2)) S
set_option maxHeartbeats 4000000 in
set_option maxRecDepth 20000 in
theorem c_X0_feltGives (l : Launch) (v : VxT) (c : Nat) (hc : kdX c = 4) (p1 : Int32) (S : Mem) (post : Int32 → Mem → Prop) (h : w_X0_feltGives c p1 S post) : MI l yX0_feltGives cX0_feltGives 2 (some .int) 2 (oX v) [.ref (v.1 c), .int p1] S post := by
  refine met_start (by decide +kernel) (Nat.le_of_ble_eq_true rfl) (fun g ok he => ?_)
  refine g_eq (L' := [(0, .ref (v.1 c)), (1, .int p1)]) (st' := []) ?_ rfl rfl
  unfold w_X0_feltGives at h
  refine g_iload_n 1 (n := 1) ok dX0_feltGives_0 rfl rfl ?_
  refine g_iconst (v := 2) (n := 2) ok dX0_feltGives_1 rfl (by decide) ?_
  refine g_idiv (n := 3) ok dX0_feltGives_2 rfl (by decide) ?_
  refine g_aload_n 0 (n := 4) ok dX0_feltGives_3 rfl rfl ?_
  refine fg_X0_X0_number (n := 7) c hc ok dX0_feltGives_4 rfl ?_
  refine g_mmin (n := 10) ok tw_504 tw_486 tw_15 tw_487 (by decide) (Nat.le_of_ble_eq_true rfl) dX0_feltGives_7 rfl ?_
  exact g_iret ok he h dX0_feltGives_10
def w_X0_gives_63 (post : Int32 → Mem → Prop) (c : Nat) (S : Mem) : Prop := post (0 : Int32) S
set_option maxHeartbeats 4000000 in
set_option maxRecDepth 20000 in
theorem b_X0_gives_63 {v : VxT} {l : Launch} {g : CxT} (ok : Ok l g (oX v) 2 cX0_gives RX0 (some .int)) (c : Nat) (hc : kdX c = 4) {post : Int32 → Mem → Prop} (he : EndQ g (oX v) (va_Qi post (fun S1 t => BX (oX v) S1 t) (AX (oX v)))) (S : Mem) (h : w_X0_gives_63 post c  S) : G g (oX v) 3 2 63 [] [] S := by
  unfold w_X0_gives_63 at h
  refine g_iconst (v := 0) (n := 64) ok dX0_gives_63 rfl (by decide) ?_
  exact g_iret ok he h dX0_gives_64
def w_X0_gives (c : Nat) (p1 : Int32) (S : Mem) (post : Int32 → Mem → Prop) : Prop := (∀ z1 : Int32, z1 = S c 0 → ((z1 = 1 → w_X0_feltGives c p1 S (fun r3 S3 => post r3 S3)) ∧ (¬ z1 = 1 → ((z1 = 2 → w_X0_gives_63 post c  S) ∧ (¬ z1 = 2 → ((z1 = 3 → w_X0_feltGives c p1 S (fun r6 S6 => post (r6 + (1 : Int32)) S6)) ∧ (¬ z1 = 3 → ((z1 = 4 → w_X0_gives_63 post c  S) ∧ (¬ z1 = 4 → ((z1 = 5 → post (jmin p1 (S c 2)) S) ∧ (¬ z1 = 5 → w_X0_gives_63 post c  S)))))))))))
set_option maxHeartbeats 4000000 in
set_option maxRecDepth 20000 in
theorem c_X0_gives (l : Launch) (v : VxT) (c : Nat) (hc : kdX c = 4) (p1 : Int32) (S : Mem) (post : Int32 → Mem → Prop) (h : w_X0_gives c p1 S post) : MI l yX0_gives cX0_gives 2 (some .int) 3 (oX v) [.ref (v.1 c), .int p1] S post := by
  refine met_start (by decide +kernel) (Nat.le_of_ble_eq_true rfl) (fun g ok he => ?_)
  refine g_eq (L' := [(0, .ref (v.1 c)), (1, .int p1)]) (st' := []) ?_ rfl rfl
  unfold w_X0_gives at h
  refine g_aload_n 0 (n := 1) ok dX0_gives_0 rfl rfl ?_
  refine fg_X0_X0_kind (n := 4) c hc ok dX0_gives_1 rfl ?_
  refine g_topi (fun z1 ez1 => ?_)
  replace h := h z1 ez1
  by_cases e2 : z1 = 1
  · replace h := h.1 e2
    refine g_tsIn (off := 36) (t := 40) ok dX0_gives_4 (by rw [e2]; decide) (by rw [e2]; decide) (by rw [e2]; rfl) (by decide) ?_
    refine g_aload_n 0 (n := 41) ok dX0_gives_40 rfl rfl ?_
    refine g_iload_n 1 (n := 42) ok dX0_gives_41 rfl rfl ?_
    refine g_callVi (n := 45) (As := [.int p1]) (rest := []) (c := c) ok (c_X0_feltGives l v c hc p1 S _ h) cal_X0_feltGives tw_500 tw_502 tp_34 (lt4 hc) (sh4 hc _) rfl (by decide) (by decide) rfl (Nat.le_of_ble_eq_true rfl) dX0_gives_42 rfl rfl (fun r3 S3 h => ?_)
    exact g_iret ok he h dX0_gives_45
  · replace h := h.2 e2
    by_cases e4 : z1 = 2
    · replace h := h.1 e4
      refine g_tsIn (off := 59) (t := 63) ok dX0_gives_4 (by rw [e4]; decide) (by rw [e4]; decide) (by rw [e4]; rfl) (by decide) ?_
      exact g_sub [] rfl (b_X0_gives_63 ok c hc he  S h)
    · replace h := h.2 e4
      by_cases e5 : z1 = 3
      · replace h := h.1 e5
        refine g_tsIn (off := 42) (t := 46) ok dX0_gives_4 (by rw [e5]; decide) (by rw [e5]; decide) (by rw [e5]; rfl) (by decide) ?_
        refine g_aload_n 0 (n := 47) ok dX0_gives_46 rfl rfl ?_
        refine g_iload_n 1 (n := 48) ok dX0_gives_47 rfl rfl ?_
        refine g_callVi (n := 51) (As := [.int p1]) (rest := []) (c := c) ok (c_X0_feltGives l v c hc p1 S _ h) cal_X0_feltGives tw_500 tw_502 tp_34 (lt4 hc) (sh4 hc _) rfl (by decide) (by decide) rfl (Nat.le_of_ble_eq_true rfl) dX0_gives_48 rfl rfl (fun r6 S6 h => ?_)
        refine g_iconst (v := 1) (n := 52) ok dX0_gives_51 rfl (by decide) ?_
        refine g_iadd (n := 53) ok dX0_gives_52 rfl ?_
        exact g_iret ok he h dX0_gives_53
      · replace h := h.2 e5
        by_cases e7 : z1 = 4
        · replace h := h.1 e7
          refine g_tsIn (off := 59) (t := 63) ok dX0_gives_4 (by rw [e7]; decide) (by rw [e7]; decide) (by rw [e7]; rfl) (by decide) ?_
          exact g_sub [] rfl (b_X0_gives_63 ok c hc he  S h)
        · replace h := h.2 e7
          by_cases e8 : z1 = 5
          · replace h := h.1 e8
            refine g_tsIn (off := 50) (t := 54) ok dX0_gives_4 (by rw [e8]; decide) (by rw [e8]; decide) (by rw [e8]; rfl) (by decide) ?_
            refine g_iload_n 1 (n := 55) ok dX0_gives_54 rfl rfl ?_
            refine g_aload_n 0 (n := 56) ok dX0_gives_55 rfl rfl ?_
            refine fg_X0_X0_number (n := 59) c hc ok dX0_gives_56 rfl ?_
            refine g_mmin (n := 62) ok tw_504 tw_486 tw_15 tw_487 (by decide) (Nat.le_of_ble_eq_true rfl) dX0_gives_59 rfl ?_
            exact g_iret ok he h dX0_gives_62
          · replace h := h.2 e8
            refine g_tsOut (t := 63) ok dX0_gives_4 (by have q0 := lv_neT (a := 1) e2 rfl; have q1 := lv_neT (a := 2) e4 rfl; have q2 := lv_neT (a := 3) e5 rfl; have q3 := lv_neT (a := 4) e7 rfl; have q4 := lv_neT (a := 5) e8 rfl; omega) (by decide) ?_
            exact g_sub [] rfl (b_X0_gives_63 ok c hc he  S h)
def w_X7_within_15 (post : Int32 → Mem → Prop) (y0 : Int32) (S : Mem) : Prop := (y0 = 0 ∨ y0 = 1) ∧ post y0 S
set_option maxHeartbeats 4000000 in
set_option maxRecDepth 20000 in
theorem b_X7_within_15 {v : VxT} {l : Launch} {g : CxT} (ok : Ok l g (oX v) 3 cX7_within RX7 (some .boolean)) {post : Int32 → Mem → Prop} (he : EndQ g (oX v) (va_Qi post (fun S1 t => BX (oX v) S1 t) (AX (oX v)))) (y0 : Int32) (S : Mem) (h : w_X7_within_15 post y0 S) : G g (oX v) 1 3 15 [] [.int y0] S := by
  unfold w_X7_within_15 at h
  exact g_zret ok he h.1 h.2 dX7_within_15
def w_X7_within_14 (post : Int32 → Mem → Prop) (S : Mem) : Prop := w_X7_within_15 post (0 : Int32) S
set_option maxHeartbeats 4000000 in
set_option maxRecDepth 20000 in
theorem b_X7_within_14 {v : VxT} {l : Launch} {g : CxT} (ok : Ok l g (oX v) 3 cX7_within RX7 (some .boolean)) {post : Int32 → Mem → Prop} (he : EndQ g (oX v) (va_Qi post (fun S1 t => BX (oX v) S1 t) (AX (oX v)))) (S : Mem) (h : w_X7_within_14 post  S) : G g (oX v) 1 3 14 [] [] S := by
  unfold w_X7_within_14 at h
  refine g_iconst (v := 0) (n := 15) ok dX7_within_14 rfl (by decide) ?_
  exact g_sub [] rfl (b_X7_within_15 ok he (0 : Int32) S h)
def w_X7_within (p0 : Int32) (p1 : Int32) (p2 : Int32) (S : Mem) (post : Int32 → Mem → Prop) : Prop := ((p0 < p1 → w_X7_within_14 post  S) ∧ (¬ p0 < p1 → ((p2 < p0 → w_X7_within_14 post  S) ∧ (¬ p2 < p0 → w_X7_within_15 post (1 : Int32) S))))
set_option maxHeartbeats 4000000 in
set_option maxRecDepth 20000 in
theorem c_X7_within (l : Launch) (v : VxT) (p0 : Int32) (p1 : Int32) (p2 : Int32) (S : Mem) (post : Int32 → Mem → Prop) (h : w_X7_within p0 p1 p2 S post) : MI l yX7_within cX7_within 3 (some .boolean) 1 (oX v) [.int p0, .int p1, .int p2] S post := by
  refine met_start (by decide +kernel) (Nat.le_of_ble_eq_true rfl) (fun g ok he => ?_)
  refine g_eq (L' := [(0, .int p0), (1, .int p1), (2, .int p2)]) (st' := []) ?_ rfl rfl
  unfold w_X7_within at h
  refine g_iload_n 0 (n := 1) ok dX7_within_0 rfl rfl ?_
  refine g_iload_n 1 (n := 2) ok dX7_within_1 rfl rfl ?_
  refine g_icmp_lt (t := 14) (n := 5) ok dX7_within_2 (by decide) rfl (fun e2 => ?_) (fun e2 => ?_)
  · replace h := h.1 e2
    exact g_sub [] rfl (b_X7_within_14 ok he  S h)
  · replace h := h.2 e2
    refine g_iload_n 0 (n := 6) ok dX7_within_5 rfl rfl ?_
    refine g_iload_n 2 (n := 7) ok dX7_within_6 rfl rfl ?_
    refine g_icmp_gt (t := 14) (n := 10) ok dX7_within_7 (by decide) rfl (fun e1 => ?_) (fun e1 => ?_)
    · replace h := h.1 e1
      exact g_sub [] rfl (b_X7_within_14 ok he  S h)
    · replace h := h.2 e1
      refine g_iconst (v := 1) (n := 11) ok dX7_within_10 rfl (by decide) ?_
      refine g_goto (t := 15) ok dX7_within_11 (by decide) ?_
      exact g_sub [] rfl (b_X7_within_15 ok he (1 : Int32) S h)
def w_X7_isKind (p0 : Int32) (S : Mem) (post : Int32 → Mem → Prop) : Prop := w_X7_within p0 (0 : Int32) (5 : Int32) S (fun r1 S1 => (r1 = 0 ∨ r1 = 1) ∧ post r1 S1)
set_option maxHeartbeats 4000000 in
set_option maxRecDepth 20000 in
theorem c_X7_isKind (l : Launch) (v : VxT) (p0 : Int32) (S : Mem) (post : Int32 → Mem → Prop) (h : w_X7_isKind p0 S post) : MI l yX7_isKind cX7_isKind 1 (some .boolean) 2 (oX v) [.int p0] S post := by
  refine met_start (by decide +kernel) (Nat.le_of_ble_eq_true rfl) (fun g ok he => ?_)
  refine g_eq (L' := [(0, .int p0)]) (st' := []) ?_ rfl rfl
  unfold w_X7_isKind at h
  refine g_iload_n 0 (n := 1) ok dX7_isKind_0 rfl rfl ?_
  refine g_iconst (v := 0) (n := 2) ok dX7_isKind_1 rfl (by decide) ?_
  refine g_iconst (v := 5) (n := 3) ok dX7_isKind_2 rfl (by decide) ?_
  refine g_callSi (n := 6) (As := [.int p0, .int (0 : Int32), .int (5 : Int32)]) (rest := []) ok (c_X7_within l v p0 (0 : Int32) (5 : Int32) S _ h) cal_X7_within tw_373 tw_253 (by decide) (by decide) rfl (Nat.le_of_ble_eq_true rfl) dX7_isKind_3 rfl rfl (fun r1 S1 h => ?_)
  exact g_zret ok he h.1 h.2 dX7_isKind_6
def w_X0_isOne_47 (post : Int32 → Mem → Prop) (c : Nat) (y0 : Int32) (S : Mem) : Prop := (y0 = 0 ∨ y0 = 1) ∧ post y0 S
set_option maxHeartbeats 4000000 in
set_option maxRecDepth 20000 in
theorem b_X0_isOne_47 {v : VxT} {l : Launch} {g : CxT} (ok : Ok l g (oX v) 4 cX0_isOne RX0 (some .boolean)) (c : Nat) (hc : kdX c = 4) {post : Int32 → Mem → Prop} (he : EndQ g (oX v) (va_Qi post (fun S1 t => BX (oX v) S1 t) (AX (oX v)))) (y0 : Int32) (S : Mem) (h : w_X0_isOne_47 post c y0 S) : G g (oX v) 3 4 47 [] [.int y0] S := by
  unfold w_X0_isOne_47 at h
  exact g_zret ok he h.1 h.2 dX0_isOne_47
def w_X0_isOne_37 (post : Int32 → Mem → Prop) (c : Nat) (x1 : Int32) (x2 : Int32) (S : Mem) : Prop := ((¬ x2 = x1 → w_X0_isOne_47 post c (0 : Int32) S) ∧ (x2 = x1 → w_X0_isOne_47 post c (1 : Int32) S))
set_option maxHeartbeats 4000000 in
set_option maxRecDepth 20000 in
theorem b_X0_isOne_37 {v : VxT} {l : Launch} {g : CxT} (ok : Ok l g (oX v) 4 cX0_isOne RX0 (some .boolean)) (c : Nat) (hc : kdX c = 4) {post : Int32 → Mem → Prop} (he : EndQ g (oX v) (va_Qi post (fun S1 t => BX (oX v) S1 t) (AX (oX v)))) (x1 : Int32) (x2 : Int32) (S : Mem) (h : w_X0_isOne_37 post c x1 x2 S) : G g (oX v) 3 4 37 [(1, .int x1), (2, .int x2)] [] S := by
  unfold w_X0_isOne_37 at h
  refine g_iload_n 1 (n := 38) ok dX0_isOne_37 rfl rfl ?_
  refine g_iload_n 0 (n := 39) ok dX0_isOne_38 rfl rfl ?_
  refine g_icmp_ne (t := 46) (n := 42) ok dX0_isOne_39 (by decide) rfl (fun e1 => ?_) (fun e1 => ?_)
  · replace h := h.1 e1
    refine g_iconst (v := 0) (n := 47) ok dX0_isOne_46 rfl (by decide) ?_
    exact g_sub [] rfl (b_X0_isOne_47 ok c hc he (0 : Int32) S h)
  · replace h := h.2 e1
    refine g_iconst (v := 1) (n := 43) ok dX0_isOne_42 rfl (by decide) ?_
    refine g_goto (t := 47) ok dX0_isOne_43 (by decide) ?_
    exact g_sub [] rfl (b_X0_isOne_47 ok c hc he (1 : Int32) S h)
def w_X0_isOne_7 (post : Int32 → Mem → Prop) (c : Nat) : Nat → Int32 → Int32 → Int32 → Mem → Prop
  | 0, _, _, _, _ => False
  | n + 1, x1, x2, x3, S => (((6 : Int32) ≤ x3 → w_X0_isOne_37 post c x1 x2 S) ∧ (¬ (6 : Int32) ≤ x3 → ((x2 = x1 → w_X0_isOne_37 post c x1 x2 S) ∧ (¬ x2 = x1 → w_X7_isKind x2 S (fun r1 S1 => ((r1 = 0 → w_X0_isOne_37 post c x1 x2 S1) ∧ (¬ r1 = 0 → (vp_in x2 6 ∧ (∀ z2 : Int32, z2 = tUnder.getD x2.toNatClampNeg 0 → (∀ z3 : Int32, z3 = x3 + 1 → w_X0_isOne_7 post c n x1 z2 z3 S1))))))))))
set_option maxHeartbeats 4000000 in
set_option maxRecDepth 20000 in
theorem b_X0_isOne_7 {v : VxT} {l : Launch} {g : CxT} (ok : Ok l g (oX v) 4 cX0_isOne RX0 (some .boolean)) (c : Nat) (hc : kdX c = 4) {post : Int32 → Mem → Prop} (he : EndQ g (oX v) (va_Qi post (fun S1 t => BX (oX v) S1 t) (AX (oX v)))) : ∀ (n : Nat) (x1 : Int32) (x2 : Int32) (x3 : Int32) (S : Mem), w_X0_isOne_7 post c n x1 x2 x3 S → G g (oX v) 3 4 7 [(1, .int x1), (2, .int x2), (3, .int x3)] [] S := by
  intro n
  induction n with
  | zero =>
    intro x1 x2 x3 S h
    exact h.elim
  | succ n ih =>
    intro x1 x2 x3 S h
    rw [w_X0_isOne_7] at h
    refine g_iload_n 2 (n := 8) ok dX0_isOne_7 rfl rfl ?_
    refine g_bipush (v := 6) (n := 10) ok dX0_isOne_8 rfl (by decide) ?_
    refine g_icmp_ge (t := 37) (n := 13) ok dX0_isOne_10 (by decide) rfl (fun e6 => ?_) (fun e6 => ?_)
    · replace h := h.1 e6
      exact g_sub [0, 1] rfl (b_X0_isOne_37 ok c hc he x1 x2 S h)
    · replace h := h.2 e6
      refine g_iload_n 1 (n := 14) ok dX0_isOne_13 rfl rfl ?_
      refine g_iload_n 0 (n := 15) ok dX0_isOne_14 rfl rfl ?_
      refine g_icmp_eq (t := 37) (n := 18) ok dX0_isOne_15 (by decide) rfl (fun e5 => ?_) (fun e5 => ?_)
      · replace h := h.1 e5
        exact g_sub [0, 1] rfl (b_X0_isOne_37 ok c hc he x1 x2 S h)
      · replace h := h.2 e5
        refine g_iload_n 1 (n := 19) ok dX0_isOne_18 rfl rfl ?_
        refine g_callSNi (n := 22) (As := [.int x2]) (rest := []) ok (c_X7_isKind l v x2 S _ h) cal_X7_isKind tw_615 tw_386 (by decide) (by decide) rfl (Nat.le_of_ble_eq_true rfl) dX0_isOne_19 rfl rfl (fun r1 S1 h => ?_)
        refine g_if_eq (t := 37) (n := 25) ok dX0_isOne_22 (by decide) rfl (fun e4 => ?_) (fun e4 => ?_)
        · replace h := h.1 e4
          exact g_sub [0, 1] rfl (b_X0_isOne_37 ok c hc he x1 x2 S1 h)
        · replace h := h.2 e4
          refine g_gets (C := "TableRocks$Leg") (n := 28) ok (fun _ _ h => h.1.1) tw_616 dX0_isOne_25 rfl ?_
          refine g_iload_n 1 (n := 29) ok dX0_isOne_28 rfl rfl ?_
          obtain ⟨h0, h⟩ := h
          refine g_ti (n := 30) (f := fun j => tUnder.getD j 0) ok (fun _ _ h => h.1.2) h0 dX0_isOne_29 rfl ?_
          refine g_topi (fun z2 ez2 => ?_)
          replace h := h z2 ez2
          refine g_istore_n [(2, .int z2), (1, .int x1), (3, .int x3)] (n := 31) ok dX0_isOne_30 rfl (by decide) rfl ?_
          obtain ⟨z3, ez3⟩ : ∃ y : Int32, y = x3 + 1 := ⟨_, rfl⟩
          replace h := h z3 ez3
          refine g_iinc 2 [(3, .int z3), (2, .int z2), (1, .int x1)] (v := z3) (n := 34) ok dX0_isOne_31 rfl rfl (by rw [ez3]; rfl) (by decide) rfl ?_
          refine g_goto (t := 7) ok dX0_isOne_34 (by decide) ?_
          exact g_sub [2, 1, 0] rfl (ih x1 z2 z3 S1 h)
def w_X0_isOne (c : Nat) (p1 : Int32) (S : Mem) (post : Int32 → Mem → Prop) : Prop := (∀ z1 : Int32, z1 = S c 0 → ∃ n, w_X0_isOne_7 post c n p1 z1 (0 : Int32) S)
set_option maxHeartbeats 4000000 in
set_option maxRecDepth 20000 in
theorem c_X0_isOne (l : Launch) (v : VxT) (c : Nat) (hc : kdX c = 4) (p1 : Int32) (S : Mem) (post : Int32 → Mem → Prop) (h : w_X0_isOne c p1 S post) : MI l yX0_isOne cX0_isOne 4 (some .boolean) 3 (oX v) [.ref (v.1 c), .int p1] S post := by
  refine met_start (by decide +kernel) (Nat.le_of_ble_eq_true rfl) (fun g ok he => ?_)
  refine g_eq (L' := [(0, .ref (v.1 c)), (1, .int p1)]) (st' := []) ?_ rfl rfl
  unfold w_X0_isOne at h
  refine g_aload_n 0 (n := 1) ok dX0_isOne_0 rfl rfl ?_
  refine fg_X0_X0_kind (n := 4) c hc ok dX0_isOne_1 rfl ?_
  refine g_topi (fun z1 ez1 => ?_)
  replace h := h z1 ez1
  refine g_istore_n [(2, .int z1), (0, .ref (v.1 c)), (1, .int p1)] (n := 5) ok dX0_isOne_4 rfl (by decide) rfl ?_
  refine g_iconst (v := 0) (n := 6) ok dX0_isOne_5 rfl (by decide) ?_
  refine g_istore_n [(3, .int (0 : Int32)), (2, .int z1), (0, .ref (v.1 c)), (1, .int p1)] (n := 7) ok dX0_isOne_6 rfl (by decide) rfl ?_
  obtain ⟨n0, h⟩ := h
  exact g_sub [3, 1, 0] rfl (b_X0_isOne_7 ok c hc he n0 p1 z1 (0 : Int32) S h)
def w_X0_canScrew_28 (post : Int32 → Mem → Prop) (c : Nat) (y0 : Int32) (S : Mem) : Prop := (y0 = 0 ∨ y0 = 1) ∧ post y0 S
set_option maxHeartbeats 4000000 in
set_option maxRecDepth 20000 in
theorem b_X0_canScrew_28 {v : VxT} {l : Launch} {g : CxT} (ok : Ok l g (oX v) 2 cX0_canScrew RX0 (some .boolean)) (c : Nat) (hc : kdX c = 4) {post : Int32 → Mem → Prop} (he : EndQ g (oX v) (va_Qi post (fun S1 t => BX (oX v) S1 t) (AX (oX v)))) (y0 : Int32) (S : Mem) (h : w_X0_canScrew_28 post c y0 S) : G g (oX v) 4 2 28 [] [.int y0] S := by
  unfold w_X0_canScrew_28 at h
  exact g_zret ok he h.1 h.2 dX0_canScrew_28
def w_X0_canScrew_27 (post : Int32 → Mem → Prop) (c : Nat) (S : Mem) : Prop := w_X0_canScrew_28 post c (0 : Int32) S
set_option maxHeartbeats 4000000 in
set_option maxRecDepth 20000 in
theorem b_X0_canScrew_27 {v : VxT} {l : Launch} {g : CxT} (ok : Ok l g (oX v) 2 cX0_canScrew RX0 (some .boolean)) (c : Nat) (hc : kdX c = 4) {post : Int32 → Mem → Prop} (he : EndQ g (oX v) (va_Qi post (fun S1 t => BX (oX v) S1 t) (AX (oX v)))) (S : Mem) (h : w_X0_canScrew_27 post c  S) : G g (oX v) 4 2 27 [] [] S := by
  unfold w_X0_canScrew_27 at h
  refine g_iconst (v := 0) (n := 28) ok dX0_canScrew_27 rfl (by decide) ?_
  exact g_sub [] rfl (b_X0_canScrew_28 ok c hc he (0 : Int32) S h)
def w_X0_canScrew (c : Nat) (p1 : Int32) (S : Mem) (post : Int32 → Mem → Prop) : Prop := w_X0_isOne c (2 : Int32) S (fun r1 S1 => ((r1 = 0 → w_X0_canScrew_27 post c  S1) ∧ (¬ r1 = 0 → w_X7_within ((S1 c 2) + p1) (0 : Int32) (9 : Int32) S1 (fun r2 S2 => ((r2 = 0 → w_X0_canScrew_27 post c  S2) ∧ (¬ r2 = 0 → w_X0_canScrew_28 post c (1 : Int32) S2))))))
set_option maxHeartbeats 4000000 in
set_option maxRecDepth 20000 in
theorem c_X0_canScrew (l : Launch) (v : VxT) (c : Nat) (hc : kdX c = 4) (p1 : Int32) (S : Mem) (post : Int32 → Mem → Prop) (h : w_X0_canScrew c p1 S post) : MI l yX0_canScrew cX0_canScrew 2 (some .boolean) 4 (oX v) [.ref (v.1 c), .int p1] S post := by
  refine met_start (by decide +kernel) (Nat.le_of_ble_eq_true rfl) (fun g ok he => ?_)
  refine g_eq (L' := [(0, .ref (v.1 c)), (1, .int p1)]) (st' := []) ?_ rfl rfl
  unfold w_X0_canScrew at h
  refine g_aload_n 0 (n := 1) ok dX0_canScrew_0 rfl rfl ?_
  refine g_iconst (v := 2) (n := 2) ok dX0_canScrew_1 rfl (by decide) ?_
  refine g_callVi (n := 5) (As := [.int (2 : Int32)]) (rest := []) (c := c) ok (c_X0_isOne l v c hc (2 : Int32) S _ h) cal_X0_isOne tw_611 tw_613 tp_48 (lt4 hc) (sh4 hc _) rfl (by decide) (by decide) rfl (Nat.le_of_ble_eq_true rfl) dX0_canScrew_2 rfl rfl (fun r1 S1 h => ?_)
  refine g_if_eq (t := 27) (n := 8) ok dX0_canScrew_5 (by decide) rfl (fun e4 => ?_) (fun e4 => ?_)
  · replace h := h.1 e4
    exact g_sub [] rfl (b_X0_canScrew_27 ok c hc he  S1 h)
  · replace h := h.2 e4
    refine g_aload_n 0 (n := 9) ok dX0_canScrew_8 rfl rfl ?_
    refine fg_X0_X0_number (n := 12) c hc ok dX0_canScrew_9 rfl ?_
    refine g_iload_n 1 (n := 13) ok dX0_canScrew_12 rfl rfl ?_
    refine g_iadd (n := 14) ok dX0_canScrew_13 rfl ?_
    refine g_iconst (v := 0) (n := 15) ok dX0_canScrew_14 rfl (by decide) ?_
    refine g_bipush (v := 9) (n := 17) ok dX0_canScrew_15 rfl (by decide) ?_
    refine g_callSNi (n := 20) (As := [.int ((S1 c 2) + p1), .int (0 : Int32), .int (9 : Int32)]) (rest := []) ok (c_X7_within l v ((S1 c 2) + p1) (0 : Int32) (9 : Int32) S1 _ h) cal_X7_within tw_618 tw_253 (by decide) (by decide) rfl (Nat.le_of_ble_eq_true rfl) dX0_canScrew_17 rfl rfl (fun r2 S2 h => ?_)
    refine g_if_eq (t := 27) (n := 23) ok dX0_canScrew_20 (by decide) rfl (fun e3 => ?_) (fun e3 => ?_)
    · replace h := h.1 e3
      exact g_sub [] rfl (b_X0_canScrew_27 ok c hc he  S2 h)
    · replace h := h.2 e3
      refine g_iconst (v := 1) (n := 24) ok dX0_canScrew_23 rfl (by decide) ?_
      refine g_goto (t := 28) ok dX0_canScrew_24 (by decide) ?_
      exact g_sub [] rfl (b_X0_canScrew_28 ok c hc he (1 : Int32) S2 h)
def w_X0_shorten (c : Nat) (p1 : Int32) (S : Mem) (post : Mem → Prop) : Prop := (∀ S1 : Mem, S1 = mset S c (upd (S c) 1 (jmax (0 : Int32) ((S c 1) - p1))) → post S1)
set_option maxHeartbeats 4000000 in
set_option maxRecDepth 20000 in
theorem c_X0_shorten (l : Launch) (v : VxT) (c : Nat) (hc : kdX c = 4) (p1 : Int32) (S : Mem) (post : Mem → Prop) (h : w_X0_shorten c p1 S post) : MV l yX0_shorten cX0_shorten 2 none 2 (oX v) [.ref (v.1 c), .int p1] S post := by
  refine met_start (by decide +kernel) (Nat.le_of_ble_eq_true rfl) (fun g ok he => ?_)
  refine g_eq (L' := [(0, .ref (v.1 c)), (1, .int p1)]) (st' := []) ?_ rfl rfl
  unfold w_X0_shorten at h
  refine g_aload_n 0 (n := 1) ok dX0_shorten_0 rfl rfl ?_
  refine g_iconst (v := 0) (n := 2) ok dX0_shorten_1 rfl (by decide) ?_
  refine g_aload_n 0 (n := 3) ok dX0_shorten_2 rfl rfl ?_
  refine fg_X0_X0_length (n := 6) c hc ok dX0_shorten_3 rfl ?_
  refine g_iload_n 1 (n := 7) ok dX0_shorten_6 rfl rfl ?_
  refine g_isub (n := 8) ok dX0_shorten_7 rfl ?_
  refine g_mmax (n := 11) ok tw_416 tw_417 tw_15 tw_418 (by decide) (Nat.le_of_ble_eq_true rfl) dX0_shorten_8 rfl ?_
  refine fp_X0_X0_length (n := 14) c hc ok dX0_shorten_11 rfl ?_
  refine g_mem (fun S1 eS1 => ?_)
  replace h := h S1 eS1
  exact g_vret ok he h dX0_shorten_14
def w_X1_append (p1 : Int32) (S : Mem) (post : Int32 → Mem → Prop) : Prop := (((S 15 2) < (160 : Int32) → (vp_in (S 15 2) 160 ∧ (∀ S1 : Mem, S1 = mset S 16 (upd (S 16) (S 15 2).toNatClampNeg p1) → (∀ S2 : Mem, S2 = mset S1 15 (upd (S1 15) 2 ((S1 15 2) + (1 : Int32))) → post (1 : Int32) S2)))) ∧ (¬ (S 15 2) < (160 : Int32) → post (0 : Int32) S))
set_option maxHeartbeats 4000000 in
set_option maxRecDepth 20000 in
theorem c_X1_append (l : Launch) (v : VxT) (p1 : Int32) (S : Mem) (post : Int32 → Mem → Prop) (h : w_X1_append p1 S post) : MI l yX1_append cX1_append 2 (some .boolean) 1 (oX v) [.ref (v.1 15), .int p1] S post := by
  refine met_start (by decide +kernel) (Nat.le_of_ble_eq_true rfl) (fun g ok he => ?_)
  refine g_eq (L' := [(0, .ref (v.1 15)), (1, .int p1)]) (st' := []) ?_ rfl rfl
  unfold w_X1_append at h
  refine g_aload_n 0 (n := 1) ok dX1_append_0 rfl rfl ?_
  refine fg_X1_X1_size (n := 4) 15 rfl ok dX1_append_1 rfl ?_
  refine g_sipush (v := 160) (n := 7) ok dX1_append_4 rfl (by decide) ?_
  refine g_icmp_lt (t := 12) (n := 10) ok dX1_append_7 (by decide) rfl (fun e3 => ?_) (fun e3 => ?_)
  · replace h := h.1 e3
    refine g_aload_n 0 (n := 13) ok dX1_append_12 rfl rfl ?_
    refine fg_X1_X1_tape (n := 16) 15 rfl ok dX1_append_13 rfl ?_
    refine g_aload_n 0 (n := 17) ok dX1_append_16 rfl rfl ?_
    refine fg_X1_X1_size (n := 20) 15 rfl ok dX1_append_17 rfl ?_
    refine g_iload_n 1 (n := 21) ok dX1_append_20 rfl rfl ?_
    obtain ⟨h0, h⟩ := h
    refine g_iast (c := 16) (t0 := 0) (n := 22) ok (lt6 rfl) (fun f => sh6 rfl f) rfl h0 dX1_append_21 rfl ?_
    refine g_mem (fun S1 eS1 => ?_)
    replace h := h S1 eS1
    refine g_aload_n 0 (n := 23) ok dX1_append_22 rfl rfl ?_
    refine g_dup (n := 24) ok dX1_append_23 rfl rfl ?_
    refine fg_X1_X1_size (n := 27) 15 rfl ok dX1_append_24 rfl ?_
    refine g_iconst (v := 1) (n := 28) ok dX1_append_27 rfl (by decide) ?_
    refine g_iadd (n := 29) ok dX1_append_28 rfl ?_
    refine fp_X1_X1_size (n := 32) 15 rfl ok dX1_append_29 rfl ?_
    refine g_mem (fun S2 eS2 => ?_)
    replace h := h S2 eS2
    refine g_iconst (v := 1) (n := 33) ok dX1_append_32 rfl (by decide) ?_
    exact g_zret ok he (Or.inr rfl) h dX1_append_33
  · replace h := h.2 e3
    refine g_iconst (v := 0) (n := 11) ok dX1_append_10 rfl (by decide) ?_
    exact g_zret ok he (Or.inl rfl) h dX1_append_11
def w_X1_endOfRun_33 (post : Int32 → Mem → Prop) (x3 : Int32) (S : Mem) : Prop := post x3 S
set_option maxHeartbeats 4000000 in
set_option maxRecDepth 20000 in
theorem b_X1_endOfRun_33 {v : VxT} {l : Launch} {g : CxT} (ok : Ok l g (oX v) 4 cX1_endOfRun RX1 (some .int)) {post : Int32 → Mem → Prop} (he : EndQ g (oX v) (va_Qi post (fun S1 t => BX (oX v) S1 t) (AX (oX v)))) (x3 : Int32) (S : Mem) (h : w_X1_endOfRun_33 post x3 S) : G g (oX v) 2 4 33 [(3, .int x3)] [] S := by
  unfold w_X1_endOfRun_33 at h
  refine g_iload_n 0 (n := 34) ok dX1_endOfRun_33 rfl rfl ?_
  exact g_iret ok he h dX1_endOfRun_34
def w_X1_endOfRun_5 (post : Int32 → Mem → Prop) : Nat → Int32 → Int32 → Int32 → Mem → Prop
  | 0, _, _, _, _ => False
  | n + 1, x1, x2, x3, S => (((S 15 2) ≤ x3 → w_X1_endOfRun_33 post x3 S) ∧ (¬ (S 15 2) ≤ x3 → (vp_in x3 160 ∧ w_X7_within (S 16 x3.toNatClampNeg) x1 x2 S (fun r1 S1 => ((r1 = 0 → w_X1_endOfRun_33 post x3 S1) ∧ (¬ r1 = 0 → (∀ z2 : Int32, z2 = x3 + 1 → w_X1_endOfRun_5 post n x1 x2 z2 S1)))))))
set_option maxHeartbeats 4000000 in
set_option maxRecDepth 20000 in
theorem b_X1_endOfRun_5 {v : VxT} {l : Launch} {g : CxT} (ok : Ok l g (oX v) 4 cX1_endOfRun RX1 (some .int)) {post : Int32 → Mem → Prop} (he : EndQ g (oX v) (va_Qi post (fun S1 t => BX (oX v) S1 t) (AX (oX v)))) : ∀ (n : Nat) (x1 : Int32) (x2 : Int32) (x3 : Int32) (S : Mem), w_X1_endOfRun_5 post n x1 x2 x3 S → G g (oX v) 2 4 5 [(0, .ref (v.1 15)), (1, .int x1), (2, .int x2), (3, .int x3)] [] S := by
  intro n
  induction n with
  | zero =>
    intro x1 x2 x3 S h
    exact h.elim
  | succ n ih =>
    intro x1 x2 x3 S h
    rw [w_X1_endOfRun_5] at h
    refine g_iload_n 3 (n := 6) ok dX1_endOfRun_5 rfl rfl ?_
    refine g_aload_n 0 (n := 7) ok dX1_endOfRun_6 rfl rfl ?_
    refine fg_X1_X1_size (n := 10) 15 rfl ok dX1_endOfRun_7 rfl ?_
    refine g_icmp_ge (t := 33) (n := 13) ok dX1_endOfRun_10 (by decide) rfl (fun e4 => ?_) (fun e4 => ?_)
    · replace h := h.1 e4
      exact g_sub [3] rfl (b_X1_endOfRun_33 ok he x3 S h)
    · replace h := h.2 e4
      refine g_aload_n 0 (n := 14) ok dX1_endOfRun_13 rfl rfl ?_
      refine fg_X1_X1_tape (n := 17) 15 rfl ok dX1_endOfRun_14 rfl ?_
      refine g_iload_n 3 (n := 18) ok dX1_endOfRun_17 rfl rfl ?_
      obtain ⟨h0, h⟩ := h
      refine g_iald (c := 16) (t0 := 0) (n := 19) ok (lt6 rfl) (sh6 rfl _) rfl h0 dX1_endOfRun_18 rfl ?_
      refine g_iload_n 1 (n := 20) ok dX1_endOfRun_19 rfl rfl ?_
      refine g_iload_n 2 (n := 21) ok dX1_endOfRun_20 rfl rfl ?_
      refine g_callSNi (n := 24) (As := [.int (S 16 x3.toNatClampNeg), .int x1, .int x2]) (rest := []) ok (c_X7_within l v (S 16 x3.toNatClampNeg) x1 x2 S _ h) cal_X7_within tw_252 tw_253 (by decide) (by decide) rfl (Nat.le_of_ble_eq_true rfl) dX1_endOfRun_21 rfl rfl (fun r1 S1 h => ?_)
      refine g_if_eq (t := 33) (n := 27) ok dX1_endOfRun_24 (by decide) rfl (fun e3 => ?_) (fun e3 => ?_)
      · replace h := h.1 e3
        exact g_sub [3] rfl (b_X1_endOfRun_33 ok he x3 S1 h)
      · replace h := h.2 e3
        obtain ⟨z2, ez2⟩ : ∃ y : Int32, y = x3 + 1 := ⟨_, rfl⟩
        replace h := h z2 ez2
        refine g_iinc 3 [(3, .int z2), (0, .ref (v.1 15)), (1, .int x1), (2, .int x2)] (v := z2) (n := 30) ok dX1_endOfRun_27 rfl rfl (by rw [ez2]; rfl) (by decide) rfl ?_
        refine g_goto (t := 5) ok dX1_endOfRun_30 (by decide) ?_
        exact g_sub [1, 2, 3, 0] rfl (ih x1 x2 z2 S1 h)
def w_X1_endOfRun (p1 : Int32) (p2 : Int32) (S : Mem) (post : Int32 → Mem → Prop) : Prop := (∀ z1 : Int32, z1 = S 15 4 → ∃ n, w_X1_endOfRun_5 post n p1 p2 z1 S)
set_option maxHeartbeats 4000000 in
set_option maxRecDepth 20000 in
theorem c_X1_endOfRun (l : Launch) (v : VxT) (p1 : Int32) (p2 : Int32) (S : Mem) (post : Int32 → Mem → Prop) (h : w_X1_endOfRun p1 p2 S post) : MI l yX1_endOfRun cX1_endOfRun 4 (some .int) 2 (oX v) [.ref (v.1 15), .int p1, .int p2] S post := by
  refine met_start (by decide +kernel) (Nat.le_of_ble_eq_true rfl) (fun g ok he => ?_)
  refine g_eq (L' := [(0, .ref (v.1 15)), (1, .int p1), (2, .int p2)]) (st' := []) ?_ rfl rfl
  unfold w_X1_endOfRun at h
  refine g_aload_n 0 (n := 1) ok dX1_endOfRun_0 rfl rfl ?_
  refine fg_X1_X1_place (n := 4) 15 rfl ok dX1_endOfRun_1 rfl ?_
  refine g_topi (fun z1 ez1 => ?_)
  replace h := h z1 ez1
  refine g_istore_n [(3, .int z1), (0, .ref (v.1 15)), (1, .int p1), (2, .int p2)] (n := 5) ok dX1_endOfRun_4 rfl (by decide) rfl ?_
  obtain ⟨n0, h⟩ := h
  exact g_sub [1, 2, 3, 0] rfl (b_X1_endOfRun_5 ok he n0 p1 p2 z1 S h)
def w_X1_spells_20 (post : Int32 → Mem → Prop) (t1 : Nat) : Nat → Int32 → Mem → Prop
  | 0, _, _ => False
  | n + 1, x2, S => w_J0_length_8abf5 t1 S (fun r1 S1 => ((r1 ≤ x2 → post (1 : Int32) S1) ∧ (¬ r1 ≤ x2 → (vp_in ((S1 15 4) + x2) 160 ∧ w_J0_charAt_5068e t1 x2 S1 (fun r2 S2 => (((S1 16 ((S1 15 4) + x2).toNatClampNeg) = r2 → (∀ z3 : Int32, z3 = x2 + 1 → w_X1_spells_20 post t1 n z3 S2)) ∧ (¬ (S1 16 ((S1 15 4) + x2).toNatClampNeg) = r2 → post (0 : Int32) S2)))))))
set_option maxHeartbeats 4000000 in
set_option maxRecDepth 20000 in
theorem b_X1_spells_20 {v : VxT} {l : Launch} {g : CxT} (ok : Ok l g (oX v) 3 cX1_spells RX1 (some .boolean)) (t1 : Nat) (ht1 : t1 < 13) {post : Int32 → Mem → Prop} (he : EndQ g (oX v) (va_Qi post (fun S1 t => BX (oX v) S1 t) (AX (oX v)))) : ∀ (n : Nat) (x2 : Int32) (S : Mem), w_X1_spells_20 post t1 n x2 S → G g (oX v) 5 3 20 [(0, .ref (v.1 15)), (1, .ref (v.2.2.2.2.1 t1)), (2, .int x2)] [] S := by
  intro n
  induction n with
  | zero =>
    intro x2 S h
    exact h.elim
  | succ n ih =>
    intro x2 S h
    rw [w_X1_spells_20] at h
    refine g_iload_n 2 (n := 21) ok dX1_spells_20 rfl rfl ?_
    refine g_aload_n 1 (n := 22) ok dX1_spells_21 rfl rfl ?_
    refine g_callTi (n := 25) (q := t1) (As := []) (rest := [.int x2]) ok (c_J0_length_8abf5 l v t1 ht1 S _ h) cal_J0_length_8abf5 tw_268 tw_189 tw_190 ht1 (by decide) (by decide) rfl (Nat.le_of_ble_eq_true rfl) dX1_spells_22 rfl rfl (fun r1 S1 h => ?_)
    refine g_icmp_ge (t := 55) (n := 28) ok dX1_spells_25 (by decide) rfl (fun e5 => ?_) (fun e5 => ?_)
    · replace h := h.1 e5
      refine g_iconst (v := 1) (n := 56) ok dX1_spells_55 rfl (by decide) ?_
      exact g_zret ok he (Or.inr rfl) h dX1_spells_56
    · replace h := h.2 e5
      refine g_aload_n 0 (n := 29) ok dX1_spells_28 rfl rfl ?_
      refine fg_X1_X1_tape (n := 32) 15 rfl ok dX1_spells_29 rfl ?_
      refine g_aload_n 0 (n := 33) ok dX1_spells_32 rfl rfl ?_
      refine fg_X1_X1_place (n := 36) 15 rfl ok dX1_spells_33 rfl ?_
      refine g_iload_n 2 (n := 37) ok dX1_spells_36 rfl rfl ?_
      refine g_iadd (n := 38) ok dX1_spells_37 rfl ?_
      obtain ⟨h0, h⟩ := h
      refine g_iald (c := 16) (t0 := 0) (n := 39) ok (lt6 rfl) (sh6 rfl _) rfl h0 dX1_spells_38 rfl ?_
      refine g_aload_n 1 (n := 40) ok dX1_spells_39 rfl rfl ?_
      refine g_iload_n 2 (n := 41) ok dX1_spells_40 rfl rfl ?_
      refine g_callTi (n := 44) (q := t1) (As := [.int x2]) (rest := [.int (S1 16 ((S1 15 4) + x2).toNatClampNeg)]) ok (c_J0_charAt_5068e l v t1 ht1 x2 S1 _ h) cal_J0_charAt_5068e tw_269 tw_199 tw_200 ht1 (by decide) (by decide) rfl (Nat.le_of_ble_eq_true rfl) dX1_spells_41 rfl rfl (fun r2 S2 h => ?_)
      refine g_icmp_eq (t := 49) (n := 47) ok dX1_spells_44 (by decide) rfl (fun e4 => ?_) (fun e4 => ?_)
      · replace h := h.1 e4
        obtain ⟨z3, ez3⟩ : ∃ y : Int32, y = x2 + 1 := ⟨_, rfl⟩
        replace h := h z3 ez3
        refine g_iinc 2 [(2, .int z3), (0, .ref (v.1 15)), (1, .ref (v.2.2.2.2.1 t1))] (v := z3) (n := 52) ok dX1_spells_49 rfl rfl (by rw [ez3]; rfl) (by decide) rfl ?_
        refine g_goto (t := 20) ok dX1_spells_52 (by decide) ?_
        exact g_sub [1, 2, 0] rfl (ih z3 S2 h)
      · replace h := h.2 e4
        refine g_iconst (v := 0) (n := 48) ok dX1_spells_47 rfl (by decide) ?_
        exact g_zret ok he (Or.inl rfl) h dX1_spells_48
def w_X1_spells (t1 : Nat) (S : Mem) (post : Int32 → Mem → Prop) : Prop := w_J0_length_8abf5 t1 S (fun r1 S1 => ((((S 15 5) - (S 15 4)) = r1 → ∃ n, w_X1_spells_20 post t1 n (0 : Int32) S1) ∧ (¬ ((S 15 5) - (S 15 4)) = r1 → post (0 : Int32) S1)))
set_option maxHeartbeats 4000000 in
set_option maxRecDepth 20000 in
theorem c_X1_spells (l : Launch) (v : VxT) (t1 : Nat) (ht1 : t1 < 13) (S : Mem) (post : Int32 → Mem → Prop) (h : w_X1_spells t1 S post) : MI l yX1_spells cX1_spells 3 (some .boolean) 5 (oX v) [.ref (v.1 15), .ref (v.2.2.2.2.1 t1)] S post := by
  refine met_start (by decide +kernel) (Nat.le_of_ble_eq_true rfl) (fun g ok he => ?_)
  refine g_eq (L' := [(0, .ref (v.1 15)), (1, .ref (v.2.2.2.2.1 t1))]) (st' := []) ?_ rfl rfl
  unfold w_X1_spells at h
  refine g_aload_n 0 (n := 1) ok dX1_spells_0 rfl rfl ?_
  refine fg_X1_X1_behind (n := 4) 15 rfl ok dX1_spells_1 rfl ?_
  refine g_aload_n 0 (n := 5) ok dX1_spells_4 rfl rfl ?_
  refine fg_X1_X1_place (n := 8) 15 rfl ok dX1_spells_5 rfl ?_
  refine g_isub (n := 9) ok dX1_spells_8 rfl ?_
  refine g_aload_n 1 (n := 10) ok dX1_spells_9 rfl rfl ?_
  refine g_callTi (n := 13) (q := t1) (As := []) (rest := [.int ((S 15 5) - (S 15 4))]) ok (c_J0_length_8abf5 l v t1 ht1 S _ h) cal_J0_length_8abf5 tw_268 tw_189 tw_190 ht1 (by decide) (by decide) rfl (Nat.le_of_ble_eq_true rfl) dX1_spells_10 rfl rfl (fun r1 S1 h => ?_)
  refine g_icmp_eq (t := 18) (n := 16) ok dX1_spells_13 (by decide) rfl (fun e2 => ?_) (fun e2 => ?_)
  · replace h := h.1 e2
    refine g_iconst (v := 0) (n := 19) ok dX1_spells_18 rfl (by decide) ?_
    refine g_istore_n [(2, .int (0 : Int32)), (0, .ref (v.1 15)), (1, .ref (v.2.2.2.2.1 t1))] (n := 20) ok dX1_spells_19 rfl (by decide) rfl ?_
    obtain ⟨n0, h⟩ := h
    exact g_sub [1, 2, 0] rfl (b_X1_spells_20 ok t1 ht1 he n0 (0 : Int32) S1 h)
  · replace h := h.2 e2
    refine g_iconst (v := 0) (n := 17) ok dX1_spells_16 rfl (by decide) ?_
    exact g_zret ok he (Or.inl rfl) h dX1_spells_17
def w_X1_wordToken_146 (post : Int32 → Mem → Prop) (y0 : Int32) (S : Mem) : Prop := post y0 S
set_option maxHeartbeats 4000000 in
set_option maxRecDepth 20000 in
theorem b_X1_wordToken_146 {v : VxT} {l : Launch} {g : CxT} (ok : Ok l g (oX v) 1 cX1_wordToken RX1 (some .int)) {post : Int32 → Mem → Prop} (he : EndQ g (oX v) (va_Qi post (fun S1 t => BX (oX v) S1 t) (AX (oX v)))) (y0 : Int32) (S : Mem) (h : w_X1_wordToken_146 post y0 S) : G g (oX v) 6 1 146 [] [.int y0] S := by
  unfold w_X1_wordToken_146 at h
  exact g_iret ok he h dX1_wordToken_146
def w_X1_wordToken (S : Mem) (post : Int32 → Mem → Prop) : Prop := w_X1_spells 1 S (fun r1 S1 => ((r1 = 0 → w_X1_spells 2 S1 (fun r2 S2 => ((r2 = 0 → w_X1_spells 3 S2 (fun r3 S3 => ((r3 = 0 → w_X1_spells 4 S3 (fun r4 S4 => ((r4 = 0 → w_X1_spells 5 S4 (fun r5 S5 => ((r5 = 0 → w_X1_spells 6 S5 (fun r6 S6 => ((r6 = 0 → w_X1_spells 7 S6 (fun r7 S7 => ((r7 = 0 → w_X1_spells 8 S7 (fun r8 S8 => ((r8 = 0 → w_X1_spells 9 S8 (fun r9 S9 => ((r9 = 0 → w_X1_spells 10 S9 (fun r10 S10 => ((r10 = 0 → w_X1_spells 11 S10 (fun r11 S11 => ((r11 = 0 → w_X1_spells 12 S11 (fun r12 S12 => ((r12 = 0 → w_X1_wordToken_146 post (1 : Int32) S12) ∧ (¬ r12 = 0 → w_X1_wordToken_146 post (-6 : Int32) S12)))) ∧ (¬ r11 = 0 → post (-5 : Int32) S11)))) ∧ (¬ r10 = 0 → post (-4 : Int32) S10)))) ∧ (¬ r9 = 0 → post (-3 : Int32) S9)))) ∧ (¬ r8 = 0 → post (-2 : Int32) S8)))) ∧ (¬ r7 = 0 → post (-1 : Int32) S7)))) ∧ (¬ r6 = 0 → post (-9 : Int32) S6)))) ∧ (¬ r5 = 0 → post (-8 : Int32) S5)))) ∧ (¬ r4 = 0 → post (-7 : Int32) S4)))) ∧ (¬ r3 = 0 → post (8 : Int32) S3)))) ∧ (¬ r2 = 0 → post (7 : Int32) S2)))) ∧ (¬ r1 = 0 → post (6 : Int32) S1)))
set_option maxHeartbeats 4000000 in
set_option maxRecDepth 20000 in
theorem c_X1_wordToken (l : Launch) (v : VxT) (S : Mem) (post : Int32 → Mem → Prop) (h : w_X1_wordToken  S post) : MI l yX1_wordToken cX1_wordToken 1 (some .int) 6 (oX v) [.ref (v.1 15)] S post := by
  refine met_start (by decide +kernel) (Nat.le_of_ble_eq_true rfl) (fun g ok he => ?_)
  refine g_eq (L' := [(0, .ref (v.1 15))]) (st' := []) ?_ rfl rfl
  unfold w_X1_wordToken at h
  refine g_aload_n 0 (n := 1) ok dX1_wordToken_0 rfl rfl ?_
  refine g_ldcS (n := 3) (q := 1) ok rfl dX1_wordToken_1 rfl ?_
  refine g_callVi (n := 6) (As := [.ref (v.2.2.2.2.1 1)]) (rest := []) (c := 15) ok (c_X1_spells l v 1 (by decide) S _ h) cal_X1_spells tw_264 tw_266 tp_5 (lt5 rfl) (sh5 rfl _) rfl (by decide) (by decide) rfl (Nat.le_of_ble_eq_true rfl) dX1_wordToken_3 rfl rfl (fun r1 S1 h => ?_)
  refine g_if_eq (t := 12) (n := 9) ok dX1_wordToken_6 (by decide) rfl (fun e24 => ?_) (fun e24 => ?_)
  · replace h := h.1 e24
    refine g_aload_n 0 (n := 13) ok dX1_wordToken_12 rfl rfl ?_
    refine g_ldcS (n := 15) (q := 2) ok rfl dX1_wordToken_13 rfl ?_
    refine g_callVi (n := 18) (As := [.ref (v.2.2.2.2.1 2)]) (rest := []) (c := 15) ok (c_X1_spells l v 2 (by decide) S1 _ h) cal_X1_spells tw_264 tw_266 tp_5 (lt5 rfl) (sh5 rfl _) rfl (by decide) (by decide) rfl (Nat.le_of_ble_eq_true rfl) dX1_wordToken_15 rfl rfl (fun r2 S2 h => ?_)
    refine g_if_eq (t := 24) (n := 21) ok dX1_wordToken_18 (by decide) rfl (fun e23 => ?_) (fun e23 => ?_)
    · replace h := h.1 e23
      refine g_aload_n 0 (n := 25) ok dX1_wordToken_24 rfl rfl ?_
      refine g_ldcS (n := 27) (q := 3) ok rfl dX1_wordToken_25 rfl ?_
      refine g_callVi (n := 30) (As := [.ref (v.2.2.2.2.1 3)]) (rest := []) (c := 15) ok (c_X1_spells l v 3 (by decide) S2 _ h) cal_X1_spells tw_264 tw_266 tp_5 (lt5 rfl) (sh5 rfl _) rfl (by decide) (by decide) rfl (Nat.le_of_ble_eq_true rfl) dX1_wordToken_27 rfl rfl (fun r3 S3 h => ?_)
      refine g_if_eq (t := 36) (n := 33) ok dX1_wordToken_30 (by decide) rfl (fun e22 => ?_) (fun e22 => ?_)
      · replace h := h.1 e22
        refine g_aload_n 0 (n := 37) ok dX1_wordToken_36 rfl rfl ?_
        refine g_ldcS (n := 39) (q := 4) ok rfl dX1_wordToken_37 rfl ?_
        refine g_callVi (n := 42) (As := [.ref (v.2.2.2.2.1 4)]) (rest := []) (c := 15) ok (c_X1_spells l v 4 (by decide) S3 _ h) cal_X1_spells tw_264 tw_266 tp_5 (lt5 rfl) (sh5 rfl _) rfl (by decide) (by decide) rfl (Nat.le_of_ble_eq_true rfl) dX1_wordToken_39 rfl rfl (fun r4 S4 h => ?_)
        refine g_if_eq (t := 48) (n := 45) ok dX1_wordToken_42 (by decide) rfl (fun e21 => ?_) (fun e21 => ?_)
        · replace h := h.1 e21
          refine g_aload_n 0 (n := 49) ok dX1_wordToken_48 rfl rfl ?_
          refine g_ldcS (n := 51) (q := 5) ok rfl dX1_wordToken_49 rfl ?_
          refine g_callVi (n := 54) (As := [.ref (v.2.2.2.2.1 5)]) (rest := []) (c := 15) ok (c_X1_spells l v 5 (by decide) S4 _ h) cal_X1_spells tw_264 tw_266 tp_5 (lt5 rfl) (sh5 rfl _) rfl (by decide) (by decide) rfl (Nat.le_of_ble_eq_true rfl) dX1_wordToken_51 rfl rfl (fun r5 S5 h => ?_)
          refine g_if_eq (t := 60) (n := 57) ok dX1_wordToken_54 (by decide) rfl (fun e20 => ?_) (fun e20 => ?_)
          · replace h := h.1 e20
            refine g_aload_n 0 (n := 61) ok dX1_wordToken_60 rfl rfl ?_
            refine g_ldcS (n := 63) (q := 6) ok rfl dX1_wordToken_61 rfl ?_
            refine g_callVi (n := 66) (As := [.ref (v.2.2.2.2.1 6)]) (rest := []) (c := 15) ok (c_X1_spells l v 6 (by decide) S5 _ h) cal_X1_spells tw_264 tw_266 tp_5 (lt5 rfl) (sh5 rfl _) rfl (by decide) (by decide) rfl (Nat.le_of_ble_eq_true rfl) dX1_wordToken_63 rfl rfl (fun r6 S6 h => ?_)
            refine g_if_eq (t := 72) (n := 69) ok dX1_wordToken_66 (by decide) rfl (fun e19 => ?_) (fun e19 => ?_)
            · replace h := h.1 e19
              refine g_aload_n 0 (n := 73) ok dX1_wordToken_72 rfl rfl ?_
              refine g_ldcS (n := 75) (q := 7) ok rfl dX1_wordToken_73 rfl ?_
              refine g_callVi (n := 78) (As := [.ref (v.2.2.2.2.1 7)]) (rest := []) (c := 15) ok (c_X1_spells l v 7 (by decide) S6 _ h) cal_X1_spells tw_264 tw_266 tp_5 (lt5 rfl) (sh5 rfl _) rfl (by decide) (by decide) rfl (Nat.le_of_ble_eq_true rfl) dX1_wordToken_75 rfl rfl (fun r7 S7 h => ?_)
              refine g_if_eq (t := 83) (n := 81) ok dX1_wordToken_78 (by decide) rfl (fun e18 => ?_) (fun e18 => ?_)
              · replace h := h.1 e18
                refine g_aload_n 0 (n := 84) ok dX1_wordToken_83 rfl rfl ?_
                refine g_ldcS (n := 86) (q := 8) ok rfl dX1_wordToken_84 rfl ?_
                refine g_callVi (n := 89) (As := [.ref (v.2.2.2.2.1 8)]) (rest := []) (c := 15) ok (c_X1_spells l v 8 (by decide) S7 _ h) cal_X1_spells tw_264 tw_266 tp_5 (lt5 rfl) (sh5 rfl _) rfl (by decide) (by decide) rfl (Nat.le_of_ble_eq_true rfl) dX1_wordToken_86 rfl rfl (fun r8 S8 h => ?_)
                refine g_if_eq (t := 95) (n := 92) ok dX1_wordToken_89 (by decide) rfl (fun e17 => ?_) (fun e17 => ?_)
                · replace h := h.1 e17
                  refine g_aload_n 0 (n := 96) ok dX1_wordToken_95 rfl rfl ?_
                  refine g_ldcS (n := 98) (q := 9) ok rfl dX1_wordToken_96 rfl ?_
                  refine g_callVi (n := 101) (As := [.ref (v.2.2.2.2.1 9)]) (rest := []) (c := 15) ok (c_X1_spells l v 9 (by decide) S8 _ h) cal_X1_spells tw_264 tw_266 tp_5 (lt5 rfl) (sh5 rfl _) rfl (by decide) (by decide) rfl (Nat.le_of_ble_eq_true rfl) dX1_wordToken_98 rfl rfl (fun r9 S9 h => ?_)
                  refine g_if_eq (t := 107) (n := 104) ok dX1_wordToken_101 (by decide) rfl (fun e16 => ?_) (fun e16 => ?_)
                  · replace h := h.1 e16
                    refine g_aload_n 0 (n := 108) ok dX1_wordToken_107 rfl rfl ?_
                    refine g_ldcS (n := 110) (q := 10) ok rfl dX1_wordToken_108 rfl ?_
                    refine g_callVi (n := 113) (As := [.ref (v.2.2.2.2.1 10)]) (rest := []) (c := 15) ok (c_X1_spells l v 10 (by decide) S9 _ h) cal_X1_spells tw_264 tw_266 tp_5 (lt5 rfl) (sh5 rfl _) rfl (by decide) (by decide) rfl (Nat.le_of_ble_eq_true rfl) dX1_wordToken_110 rfl rfl (fun r10 S10 h => ?_)
                    refine g_if_eq (t := 119) (n := 116) ok dX1_wordToken_113 (by decide) rfl (fun e15 => ?_) (fun e15 => ?_)
                    · replace h := h.1 e15
                      refine g_aload_n 0 (n := 120) ok dX1_wordToken_119 rfl rfl ?_
                      refine g_ldcS (n := 122) (q := 11) ok rfl dX1_wordToken_120 rfl ?_
                      refine g_callVi (n := 125) (As := [.ref (v.2.2.2.2.1 11)]) (rest := []) (c := 15) ok (c_X1_spells l v 11 (by decide) S10 _ h) cal_X1_spells tw_264 tw_266 tp_5 (lt5 rfl) (sh5 rfl _) rfl (by decide) (by decide) rfl (Nat.le_of_ble_eq_true rfl) dX1_wordToken_122 rfl rfl (fun r11 S11 h => ?_)
                      refine g_if_eq (t := 131) (n := 128) ok dX1_wordToken_125 (by decide) rfl (fun e14 => ?_) (fun e14 => ?_)
                      · replace h := h.1 e14
                        refine g_aload_n 0 (n := 132) ok dX1_wordToken_131 rfl rfl ?_
                        refine g_ldcS (n := 134) (q := 12) ok rfl dX1_wordToken_132 rfl ?_
                        refine g_callVi (n := 137) (As := [.ref (v.2.2.2.2.1 12)]) (rest := []) (c := 15) ok (c_X1_spells l v 12 (by decide) S11 _ h) cal_X1_spells tw_264 tw_266 tp_5 (lt5 rfl) (sh5 rfl _) rfl (by decide) (by decide) rfl (Nat.le_of_ble_eq_true rfl) dX1_wordToken_134 rfl rfl (fun r12 S12 h => ?_)
                        refine g_if_eq (t := 145) (n := 140) ok dX1_wordToken_137 (by decide) rfl (fun e13 => ?_) (fun e13 => ?_)
                        · replace h := h.1 e13
                          refine g_iconst (v := 1) (n := 146) ok dX1_wordToken_145 rfl (by decide) ?_
                          exact g_sub [] rfl (b_X1_wordToken_146 ok he (1 : Int32) S12 h)
                        · replace h := h.2 e13
                          refine g_bipush (v := -6) (n := 142) ok dX1_wordToken_140 rfl (by decide) ?_
                          refine g_goto (t := 146) ok dX1_wordToken_142 (by decide) ?_
                          exact g_sub [] rfl (b_X1_wordToken_146 ok he (-6 : Int32) S12 h)
                      · replace h := h.2 e14
                        refine g_bipush (v := -5) (n := 130) ok dX1_wordToken_128 rfl (by decide) ?_
                        exact g_iret ok he h dX1_wordToken_130
                    · replace h := h.2 e15
                      refine g_bipush (v := -4) (n := 118) ok dX1_wordToken_116 rfl (by decide) ?_
                      exact g_iret ok he h dX1_wordToken_118
                  · replace h := h.2 e16
                    refine g_bipush (v := -3) (n := 106) ok dX1_wordToken_104 rfl (by decide) ?_
                    exact g_iret ok he h dX1_wordToken_106
                · replace h := h.2 e17
                  refine g_bipush (v := -2) (n := 94) ok dX1_wordToken_92 rfl (by decide) ?_
                  exact g_iret ok he h dX1_wordToken_94
              · replace h := h.2 e18
                refine g_iconst (v := -1) (n := 82) ok dX1_wordToken_81 rfl (by decide) ?_
                exact g_iret ok he h dX1_wordToken_82
            · replace h := h.2 e19
              refine g_bipush (v := -9) (n := 71) ok dX1_wordToken_69 rfl (by decide) ?_
              exact g_iret ok he h dX1_wordToken_71
          · replace h := h.2 e20
            refine g_bipush (v := -8) (n := 59) ok dX1_wordToken_57 rfl (by decide) ?_
            exact g_iret ok he h dX1_wordToken_59
        · replace h := h.2 e21
          refine g_bipush (v := -7) (n := 47) ok dX1_wordToken_45 rfl (by decide) ?_
          exact g_iret ok he h dX1_wordToken_47
      · replace h := h.2 e22
        refine g_bipush (v := 8) (n := 35) ok dX1_wordToken_33 rfl (by decide) ?_
        exact g_iret ok he h dX1_wordToken_35
    · replace h := h.2 e23
      refine g_bipush (v := 7) (n := 23) ok dX1_wordToken_21 rfl (by decide) ?_
      exact g_iret ok he h dX1_wordToken_23
  · replace h := h.2 e24
    refine g_bipush (v := 6) (n := 11) ok dX1_wordToken_9 rfl (by decide) ?_
    exact g_iret ok he h dX1_wordToken_11
def w_X1_numberToken_25 (post : Int32 → Mem → Prop) : Nat → Int32 → Mem → Prop
  | 0, _, _ => False
  | n + 1, x1, S => (((S 15 5) ≤ x1 → post (2 : Int32) S) ∧ (¬ (S 15 5) ≤ x1 → (vp_in x1 160 ∧ (∀ S1 : Mem, S1 = mset S 15 (upd (S 15) 6 ((((S 15 6) * (10 : Int32)) + (S 16 x1.toNatClampNeg)) - (48 : Int32))) → (∀ z2 : Int32, z2 = x1 + 1 → w_X1_numberToken_25 post n z2 S1)))))
set_option maxHeartbeats 4000000 in
set_option maxRecDepth 20000 in
theorem b_X1_numberToken_25 {v : VxT} {l : Launch} {g : CxT} (ok : Ok l g (oX v) 2 cX1_numberToken RX1 (some .int)) {post : Int32 → Mem → Prop} (he : EndQ g (oX v) (va_Qi post (fun S1 t => BX (oX v) S1 t) (AX (oX v)))) : ∀ (n : Nat) (x1 : Int32) (S : Mem), w_X1_numberToken_25 post n x1 S → G g (oX v) 1 2 25 [(0, .ref (v.1 15)), (1, .int x1)] [] S := by
  intro n
  induction n with
  | zero =>
    intro x1 S h
    exact h.elim
  | succ n ih =>
    intro x1 S h
    rw [w_X1_numberToken_25] at h
    refine g_iload_n 1 (n := 26) ok dX1_numberToken_25 rfl rfl ?_
    refine g_aload_n 0 (n := 27) ok dX1_numberToken_26 rfl rfl ?_
    refine fg_X1_X1_behind (n := 30) 15 rfl ok dX1_numberToken_27 rfl ?_
    refine g_icmp_ge (t := 60) (n := 33) ok dX1_numberToken_30 (by decide) rfl (fun e3 => ?_) (fun e3 => ?_)
    · replace h := h.1 e3
      refine g_iconst (v := 2) (n := 61) ok dX1_numberToken_60 rfl (by decide) ?_
      exact g_iret ok he h dX1_numberToken_61
    · replace h := h.2 e3
      refine g_aload_n 0 (n := 34) ok dX1_numberToken_33 rfl rfl ?_
      refine g_aload_n 0 (n := 35) ok dX1_numberToken_34 rfl rfl ?_
      refine fg_X1_X1_number (n := 38) 15 rfl ok dX1_numberToken_35 rfl ?_
      refine g_bipush (v := 10) (n := 40) ok dX1_numberToken_38 rfl (by decide) ?_
      refine g_imul (n := 41) ok dX1_numberToken_40 rfl ?_
      refine g_aload_n 0 (n := 42) ok dX1_numberToken_41 rfl rfl ?_
      refine fg_X1_X1_tape (n := 45) 15 rfl ok dX1_numberToken_42 rfl ?_
      refine g_iload_n 1 (n := 46) ok dX1_numberToken_45 rfl rfl ?_
      obtain ⟨h0, h⟩ := h
      refine g_iald (c := 16) (t0 := 0) (n := 47) ok (lt6 rfl) (sh6 rfl _) rfl h0 dX1_numberToken_46 rfl ?_
      refine g_iadd (n := 48) ok dX1_numberToken_47 rfl ?_
      refine g_bipush (v := 48) (n := 50) ok dX1_numberToken_48 rfl (by decide) ?_
      refine g_isub (n := 51) ok dX1_numberToken_50 rfl ?_
      refine fp_X1_X1_number (n := 54) 15 rfl ok dX1_numberToken_51 rfl ?_
      refine g_mem (fun S1 eS1 => ?_)
      replace h := h S1 eS1
      obtain ⟨z2, ez2⟩ : ∃ y : Int32, y = x1 + 1 := ⟨_, rfl⟩
      replace h := h z2 ez2
      refine g_iinc 1 [(1, .int z2), (0, .ref (v.1 15))] (v := z2) (n := 57) ok dX1_numberToken_54 rfl rfl (by rw [ez2]; rfl) (by decide) rfl ?_
      refine g_goto (t := 25) ok dX1_numberToken_57 (by decide) ?_
      exact g_sub [1, 0] rfl (ih z2 S1 h)
def w_X1_numberToken (S : Mem) (post : Int32 → Mem → Prop) : Prop := ((((S 15 5) - (S 15 4)) ≤ (4 : Int32) → (∀ S1 : Mem, S1 = mset S 15 (upd (S 15) 6 (0 : Int32)) → (∀ z2 : Int32, z2 = S1 15 4 → ∃ n, w_X1_numberToken_25 post n z2 S1))) ∧ (¬ ((S 15 5) - (S 15 4)) ≤ (4 : Int32) → post (1 : Int32) S))
set_option maxHeartbeats 4000000 in
set_option maxRecDepth 20000 in
theorem c_X1_numberToken (l : Launch) (v : VxT) (S : Mem) (post : Int32 → Mem → Prop) (h : w_X1_numberToken  S post) : MI l yX1_numberToken cX1_numberToken 2 (some .int) 1 (oX v) [.ref (v.1 15)] S post := by
  refine met_start (by decide +kernel) (Nat.le_of_ble_eq_true rfl) (fun g ok he => ?_)
  refine g_eq (L' := [(0, .ref (v.1 15))]) (st' := []) ?_ rfl rfl
  unfold w_X1_numberToken at h
  refine g_aload_n 0 (n := 1) ok dX1_numberToken_0 rfl rfl ?_
  refine fg_X1_X1_behind (n := 4) 15 rfl ok dX1_numberToken_1 rfl ?_
  refine g_aload_n 0 (n := 5) ok dX1_numberToken_4 rfl rfl ?_
  refine fg_X1_X1_place (n := 8) 15 rfl ok dX1_numberToken_5 rfl ?_
  refine g_isub (n := 9) ok dX1_numberToken_8 rfl ?_
  refine g_iconst (v := 4) (n := 10) ok dX1_numberToken_9 rfl (by decide) ?_
  refine g_icmp_le (t := 15) (n := 13) ok dX1_numberToken_10 (by decide) rfl (fun e3 => ?_) (fun e3 => ?_)
  · replace h := h.1 e3
    refine g_aload_n 0 (n := 16) ok dX1_numberToken_15 rfl rfl ?_
    refine g_iconst (v := 0) (n := 17) ok dX1_numberToken_16 rfl (by decide) ?_
    refine fp_X1_X1_number (n := 20) 15 rfl ok dX1_numberToken_17 rfl ?_
    refine g_mem (fun S1 eS1 => ?_)
    replace h := h S1 eS1
    refine g_aload_n 0 (n := 21) ok dX1_numberToken_20 rfl rfl ?_
    refine fg_X1_X1_place (n := 24) 15 rfl ok dX1_numberToken_21 rfl ?_
    refine g_topi (fun z2 ez2 => ?_)
    replace h := h z2 ez2
    refine g_istore_n [(1, .int z2), (0, .ref (v.1 15))] (n := 25) ok dX1_numberToken_24 rfl (by decide) rfl ?_
    obtain ⟨n0, h⟩ := h
    exact g_sub [1, 0] rfl (b_X1_numberToken_25 ok he n0 z2 S1 h)
  · replace h := h.2 e3
    refine g_iconst (v := 1) (n := 14) ok dX1_numberToken_13 rfl (by decide) ?_
    exact g_iret ok he h dX1_numberToken_14
def w_X6_ofSign_125 (post : Int32 → Mem → Prop) (S : Mem) : Prop := post (1 : Int32) S
set_option maxHeartbeats 4000000 in
set_option maxRecDepth 20000 in
theorem b_X6_ofSign_125 {v : VxT} {l : Launch} {g : CxT} (ok : Ok l g (oX v) 1 cX6_ofSign RX6 (some .int)) {post : Int32 → Mem → Prop} (he : EndQ g (oX v) (va_Qi post (fun S1 t => BX (oX v) S1 t) (AX (oX v)))) (S : Mem) (h : w_X6_ofSign_125 post  S) : G g (oX v) 1 1 125 [] [] S := by
  unfold w_X6_ofSign_125 at h
  refine g_iconst (v := 1) (n := 126) ok dX6_ofSign_125 rfl (by decide) ?_
  exact g_iret ok he h dX6_ofSign_126
def w_X6_ofSign (p0 : Int32) (S : Mem) (post : Int32 → Mem → Prop) : Prop := ((p0 = 40 → post (3 : Int32) S) ∧ (¬ p0 = 40 → ((p0 = 41 → post (4 : Int32) S) ∧ (¬ p0 = 41 → ((p0 = 42 → post (-14 : Int32) S) ∧ (¬ p0 = 42 → ((p0 = 43 → post (-12 : Int32) S) ∧ (¬ p0 = 43 → ((p0 = 44 → w_X6_ofSign_125 post  S) ∧ (¬ p0 = 44 → ((p0 = 45 → post (-13 : Int32) S) ∧ (¬ p0 = 45 → ((p0 = 46 → w_X6_ofSign_125 post  S) ∧ (¬ p0 = 46 → ((p0 = 47 → w_X6_ofSign_125 post  S) ∧ (¬ p0 = 47 → ((p0 = 48 → w_X6_ofSign_125 post  S) ∧ (¬ p0 = 48 → ((p0 = 49 → w_X6_ofSign_125 post  S) ∧ (¬ p0 = 49 → ((p0 = 50 → w_X6_ofSign_125 post  S) ∧ (¬ p0 = 50 → ((p0 = 51 → w_X6_ofSign_125 post  S) ∧ (¬ p0 = 51 → ((p0 = 52 → w_X6_ofSign_125 post  S) ∧ (¬ p0 = 52 → ((p0 = 53 → w_X6_ofSign_125 post  S) ∧ (¬ p0 = 53 → ((p0 = 54 → w_X6_ofSign_125 post  S) ∧ (¬ p0 = 54 → ((p0 = 55 → w_X6_ofSign_125 post  S) ∧ (¬ p0 = 55 → ((p0 = 56 → w_X6_ofSign_125 post  S) ∧ (¬ p0 = 56 → ((p0 = 57 → w_X6_ofSign_125 post  S) ∧ (¬ p0 = 57 → ((p0 = 58 → w_X6_ofSign_125 post  S) ∧ (¬ p0 = 58 → ((p0 = 59 → post (5 : Int32) S) ∧ (¬ p0 = 59 → ((p0 = 60 → post (-10 : Int32) S) ∧ (¬ p0 = 60 → ((p0 = 61 → post (-11 : Int32) S) ∧ (¬ p0 = 61 → w_X6_ofSign_125 post  S))))))))))))))))))))))))))))))))))))))))))))
set_option maxHeartbeats 4000000 in
set_option maxRecDepth 20000 in
theorem c_X6_ofSign (l : Launch) (v : VxT) (p0 : Int32) (S : Mem) (post : Int32 → Mem → Prop) (h : w_X6_ofSign p0 S post) : MI l yX6_ofSign cX6_ofSign 1 (some .int) 1 (oX v) [.int p0] S post := by
  refine met_start (by decide +kernel) (Nat.le_of_ble_eq_true rfl) (fun g ok he => ?_)
  refine g_eq (L' := [(0, .int p0)]) (st' := []) ?_ rfl rfl
  unfold w_X6_ofSign at h
  refine g_iload_n 0 (n := 1) ok dX6_ofSign_0 rfl rfl ?_
  by_cases e1 : p0 = 40
  · replace h := h.1 e1
    refine g_tsIn (off := 103) (t := 104) ok dX6_ofSign_1 (by rw [e1]; decide) (by rw [e1]; decide) (by rw [e1]; rfl) (by decide) ?_
    refine g_iconst (v := 3) (n := 105) ok dX6_ofSign_104 rfl (by decide) ?_
    exact g_iret ok he h dX6_ofSign_105
  · replace h := h.2 e1
    by_cases e2 : p0 = 41
    · replace h := h.1 e2
      refine g_tsIn (off := 105) (t := 106) ok dX6_ofSign_1 (by rw [e2]; decide) (by rw [e2]; decide) (by rw [e2]; rfl) (by decide) ?_
      refine g_iconst (v := 4) (n := 107) ok dX6_ofSign_106 rfl (by decide) ?_
      exact g_iret ok he h dX6_ofSign_107
    · replace h := h.2 e2
      by_cases e3 : p0 = 42
      · replace h := h.1 e3
        refine g_tsIn (off := 115) (t := 116) ok dX6_ofSign_1 (by rw [e3]; decide) (by rw [e3]; decide) (by rw [e3]; rfl) (by decide) ?_
        refine g_bipush (v := -14) (n := 118) ok dX6_ofSign_116 rfl (by decide) ?_
        exact g_iret ok he h dX6_ofSign_118
      · replace h := h.2 e3
        by_cases e4 : p0 = 43
        · replace h := h.1 e4
          refine g_tsIn (off := 109) (t := 110) ok dX6_ofSign_1 (by rw [e4]; decide) (by rw [e4]; decide) (by rw [e4]; rfl) (by decide) ?_
          refine g_bipush (v := -12) (n := 112) ok dX6_ofSign_110 rfl (by decide) ?_
          exact g_iret ok he h dX6_ofSign_112
        · replace h := h.2 e4
          by_cases e5 : p0 = 44
          · replace h := h.1 e5
            refine g_tsIn (off := 124) (t := 125) ok dX6_ofSign_1 (by rw [e5]; decide) (by rw [e5]; decide) (by rw [e5]; rfl) (by decide) ?_
            exact g_sub [] rfl (b_X6_ofSign_125 ok he  S h)
          · replace h := h.2 e5
            by_cases e6 : p0 = 45
            · replace h := h.1 e6
              refine g_tsIn (off := 112) (t := 113) ok dX6_ofSign_1 (by rw [e6]; decide) (by rw [e6]; decide) (by rw [e6]; rfl) (by decide) ?_
              refine g_bipush (v := -13) (n := 115) ok dX6_ofSign_113 rfl (by decide) ?_
              exact g_iret ok he h dX6_ofSign_115
            · replace h := h.2 e6
              by_cases e7 : p0 = 46
              · replace h := h.1 e7
                refine g_tsIn (off := 124) (t := 125) ok dX6_ofSign_1 (by rw [e7]; decide) (by rw [e7]; decide) (by rw [e7]; rfl) (by decide) ?_
                exact g_sub [] rfl (b_X6_ofSign_125 ok he  S h)
              · replace h := h.2 e7
                by_cases e8 : p0 = 47
                · replace h := h.1 e8
                  refine g_tsIn (off := 124) (t := 125) ok dX6_ofSign_1 (by rw [e8]; decide) (by rw [e8]; decide) (by rw [e8]; rfl) (by decide) ?_
                  exact g_sub [] rfl (b_X6_ofSign_125 ok he  S h)
                · replace h := h.2 e8
                  by_cases e9 : p0 = 48
                  · replace h := h.1 e9
                    refine g_tsIn (off := 124) (t := 125) ok dX6_ofSign_1 (by rw [e9]; decide) (by rw [e9]; decide) (by rw [e9]; rfl) (by decide) ?_
                    exact g_sub [] rfl (b_X6_ofSign_125 ok he  S h)
                  · replace h := h.2 e9
                    by_cases e10 : p0 = 49
                    · replace h := h.1 e10
                      refine g_tsIn (off := 124) (t := 125) ok dX6_ofSign_1 (by rw [e10]; decide) (by rw [e10]; decide) (by rw [e10]; rfl) (by decide) ?_
                      exact g_sub [] rfl (b_X6_ofSign_125 ok he  S h)
                    · replace h := h.2 e10
                      by_cases e11 : p0 = 50
                      · replace h := h.1 e11
                        refine g_tsIn (off := 124) (t := 125) ok dX6_ofSign_1 (by rw [e11]; decide) (by rw [e11]; decide) (by rw [e11]; rfl) (by decide) ?_
                        exact g_sub [] rfl (b_X6_ofSign_125 ok he  S h)
                      · replace h := h.2 e11
                        by_cases e12 : p0 = 51
                        · replace h := h.1 e12
                          refine g_tsIn (off := 124) (t := 125) ok dX6_ofSign_1 (by rw [e12]; decide) (by rw [e12]; decide) (by rw [e12]; rfl) (by decide) ?_
                          exact g_sub [] rfl (b_X6_ofSign_125 ok he  S h)
                        · replace h := h.2 e12
                          by_cases e13 : p0 = 52
                          · replace h := h.1 e13
                            refine g_tsIn (off := 124) (t := 125) ok dX6_ofSign_1 (by rw [e13]; decide) (by rw [e13]; decide) (by rw [e13]; rfl) (by decide) ?_
                            exact g_sub [] rfl (b_X6_ofSign_125 ok he  S h)
                          · replace h := h.2 e13
                            by_cases e14 : p0 = 53
                            · replace h := h.1 e14
                              refine g_tsIn (off := 124) (t := 125) ok dX6_ofSign_1 (by rw [e14]; decide) (by rw [e14]; decide) (by rw [e14]; rfl) (by decide) ?_
                              exact g_sub [] rfl (b_X6_ofSign_125 ok he  S h)
                            · replace h := h.2 e14
                              by_cases e15 : p0 = 54
                              · replace h := h.1 e15
                                refine g_tsIn (off := 124) (t := 125) ok dX6_ofSign_1 (by rw [e15]; decide) (by rw [e15]; decide) (by rw [e15]; rfl) (by decide) ?_
                                exact g_sub [] rfl (b_X6_ofSign_125 ok he  S h)
                              · replace h := h.2 e15
                                by_cases e16 : p0 = 55
                                · replace h := h.1 e16
                                  refine g_tsIn (off := 124) (t := 125) ok dX6_ofSign_1 (by rw [e16]; decide) (by rw [e16]; decide) (by rw [e16]; rfl) (by decide) ?_
                                  exact g_sub [] rfl (b_X6_ofSign_125 ok he  S h)
                                · replace h := h.2 e16
                                  by_cases e17 : p0 = 56
                                  · replace h := h.1 e17
                                    refine g_tsIn (off := 124) (t := 125) ok dX6_ofSign_1 (by rw [e17]; decide) (by rw [e17]; decide) (by rw [e17]; rfl) (by decide) ?_
                                    exact g_sub [] rfl (b_X6_ofSign_125 ok he  S h)
                                  · replace h := h.2 e17
                                    by_cases e18 : p0 = 57
                                    · replace h := h.1 e18
                                      refine g_tsIn (off := 124) (t := 125) ok dX6_ofSign_1 (by rw [e18]; decide) (by rw [e18]; decide) (by rw [e18]; rfl) (by decide) ?_
                                      exact g_sub [] rfl (b_X6_ofSign_125 ok he  S h)
                                    · replace h := h.2 e18
                                      by_cases e19 : p0 = 58
                                      · replace h := h.1 e19
                                        refine g_tsIn (off := 124) (t := 125) ok dX6_ofSign_1 (by rw [e19]; decide) (by rw [e19]; decide) (by rw [e19]; rfl) (by decide) ?_
                                        exact g_sub [] rfl (b_X6_ofSign_125 ok he  S h)
                                      · replace h := h.2 e19
                                        by_cases e20 : p0 = 59
                                        · replace h := h.1 e20
                                          refine g_tsIn (off := 107) (t := 108) ok dX6_ofSign_1 (by rw [e20]; decide) (by rw [e20]; decide) (by rw [e20]; rfl) (by decide) ?_
                                          refine g_iconst (v := 5) (n := 109) ok dX6_ofSign_108 rfl (by decide) ?_
                                          exact g_iret ok he h dX6_ofSign_109
                                        · replace h := h.2 e20
                                          by_cases e21 : p0 = 60
                                          · replace h := h.1 e21
                                            refine g_tsIn (off := 118) (t := 119) ok dX6_ofSign_1 (by rw [e21]; decide) (by rw [e21]; decide) (by rw [e21]; rfl) (by decide) ?_
                                            refine g_bipush (v := -10) (n := 121) ok dX6_ofSign_119 rfl (by decide) ?_
                                            exact g_iret ok he h dX6_ofSign_121
                                          · replace h := h.2 e21
                                            by_cases e22 : p0 = 61
                                            · replace h := h.1 e22
                                              refine g_tsIn (off := 121) (t := 122) ok dX6_ofSign_1 (by rw [e22]; decide) (by rw [e22]; decide) (by rw [e22]; rfl) (by decide) ?_
                                              refine g_bipush (v := -11) (n := 124) ok dX6_ofSign_122 rfl (by decide) ?_
                                              exact g_iret ok he h dX6_ofSign_124
                                            · replace h := h.2 e22
                                              refine g_tsOut (t := 125) ok dX6_ofSign_1 (by have q0 := lv_neT (a := 40) e1 rfl; have q1 := lv_neT (a := 41) e2 rfl; have q2 := lv_neT (a := 42) e3 rfl; have q3 := lv_neT (a := 43) e4 rfl; have q4 := lv_neT (a := 44) e5 rfl; have q5 := lv_neT (a := 45) e6 rfl; have q6 := lv_neT (a := 46) e7 rfl; have q7 := lv_neT (a := 47) e8 rfl; have q8 := lv_neT (a := 48) e9 rfl; have q9 := lv_neT (a := 49) e10 rfl; have q10 := lv_neT (a := 50) e11 rfl; have q11 := lv_neT (a := 51) e12 rfl; have q12 := lv_neT (a := 52) e13 rfl; have q13 := lv_neT (a := 53) e14 rfl; have q14 := lv_neT (a := 54) e15 rfl; have q15 := lv_neT (a := 55) e16 rfl; have q16 := lv_neT (a := 56) e17 rfl; have q17 := lv_neT (a := 57) e18 rfl; have q18 := lv_neT (a := 58) e19 rfl; have q19 := lv_neT (a := 59) e20 rfl; have q20 := lv_neT (a := 60) e21 rfl; have q21 := lv_neT (a := 61) e22 rfl; omega) (by decide) ?_
                                              exact g_sub [] rfl (b_X6_ofSign_125 ok he  S h)
def w_X1_advance_47 (K8 : Mem → Prop) (post : Mem → Prop) (S : Mem) : Prop := (∀ S1 : Mem, S1 = mset S 15 (upd (S 15) 4 ((S 15 4) + (1 : Int32))) → K8  S1)
set_option maxHeartbeats 4000000 in
set_option maxRecDepth 20000 in
theorem b_X1_advance_47 {v : VxT} {l : Launch} {g : CxT} {K8 : Mem → Prop} (ok : Ok l g (oX v) 1 cX1_advance RX1 none) (hK8 : ∀ (S : Mem), K8  S → G g (oX v) 7 1 8 [(0, .ref (v.1 15))] [] S) {post : Mem → Prop} (he : EndQ g (oX v) (va_Qv post (fun S1 t => BX (oX v) S1 t) (AX (oX v)))) (S : Mem) (h : w_X1_advance_47 K8 post  S) : G g (oX v) 7 1 47 [(0, .ref (v.1 15))] [] S := by
  unfold w_X1_advance_47 at h
  refine g_aload_n 0 (n := 48) ok dX1_advance_47 rfl rfl ?_
  refine g_dup (n := 49) ok dX1_advance_48 rfl rfl ?_
  refine fg_X1_X1_place (n := 52) 15 rfl ok dX1_advance_49 rfl ?_
  refine g_iconst (v := 1) (n := 53) ok dX1_advance_52 rfl (by decide) ?_
  refine g_iadd (n := 54) ok dX1_advance_53 rfl ?_
  refine fp_X1_X1_place (n := 57) 15 rfl ok dX1_advance_54 rfl ?_
  refine g_mem (fun S1 eS1 => ?_)
  replace h := h S1 eS1
  refine g_goto (t := 8) ok dX1_advance_57 (by decide) ?_
  exact g_sub [0] rfl (hK8  S1 h)
def w_X1_advance_197 (post : Mem → Prop) (S : Mem) : Prop := post S
set_option maxHeartbeats 4000000 in
set_option maxRecDepth 20000 in
theorem b_X1_advance_197 {v : VxT} {l : Launch} {g : CxT} (ok : Ok l g (oX v) 1 cX1_advance RX1 none) {post : Mem → Prop} (he : EndQ g (oX v) (va_Qv post (fun S1 t => BX (oX v) S1 t) (AX (oX v)))) (S : Mem) (h : w_X1_advance_197 post  S) : G g (oX v) 7 1 197 [] [] S := by
  unfold w_X1_advance_197 at h
  exact g_vret ok he h dX1_advance_197
def w_X1_advance_60 (post : Mem → Prop) (S : Mem) : Prop := (∀ S1 : Mem, S1 = mset S 15 (upd (S 15) 5 (S 15 4)) → (((S1 15 4) < (S1 15 2) → (vp_in (S1 15 4) 160 ∧ w_X7_within (S1 16 (S1 15 4).toNatClampNeg) (97 : Int32) (122 : Int32) S1 (fun r2 S2 => ((r2 = 0 → (vp_in (S2 15 4) 160 ∧ w_X7_within (S2 16 (S2 15 4).toNatClampNeg) (48 : Int32) (57 : Int32) S2 (fun r3 S3 => ((r3 = 0 → (∀ S4 : Mem, S4 = mset S3 15 (upd (S3 15) 5 ((S3 15 4) + (1 : Int32))) → (vp_in (S4 15 4) 160 ∧ w_X6_ofSign (S4 16 (S4 15 4).toNatClampNeg) S4 (fun r5 S5 => (∀ S6 : Mem, S6 = mset S5 15 (upd (S5 15) 3 r5) → w_X1_advance_197 post  S6))))) ∧ (¬ r3 = 0 → w_X1_endOfRun (48 : Int32) (57 : Int32) S3 (fun r7 S7 => (∀ S8 : Mem, S8 = mset S7 15 (upd (S7 15) 5 r7) → w_X1_numberToken  S8 (fun r9 S9 => (∀ S10 : Mem, S10 = mset S9 15 (upd (S9 15) 3 r9) → w_X1_advance_197 post  S10))))))))) ∧ (¬ r2 = 0 → w_X1_endOfRun (97 : Int32) (122 : Int32) S2 (fun r12 S12 => (∀ S13 : Mem, S13 = mset S12 15 (upd (S12 15) 5 r12) → w_X1_wordToken  S13 (fun r14 S14 => (∀ S15 : Mem, S15 = mset S14 15 (upd (S14 15) 3 r14) → w_X1_advance_197 post  S15))))))))) ∧ (¬ (S1 15 4) < (S1 15 2) → (∀ S17 : Mem, S17 = mset S1 15 (upd (S1 15) 3 (0 : Int32)) → w_X1_advance_197 post  S17))))
set_option maxHeartbeats 4000000 in
set_option maxRecDepth 20000 in
theorem b_X1_advance_60 {v : VxT} {l : Launch} {g : CxT} (ok : Ok l g (oX v) 1 cX1_advance RX1 none) {post : Mem → Prop} (he : EndQ g (oX v) (va_Qv post (fun S1 t => BX (oX v) S1 t) (AX (oX v)))) (S : Mem) (h : w_X1_advance_60 post  S) : G g (oX v) 7 1 60 [(0, .ref (v.1 15))] [] S := by
  unfold w_X1_advance_60 at h
  refine g_aload_n 0 (n := 61) ok dX1_advance_60 rfl rfl ?_
  refine g_aload_n 0 (n := 62) ok dX1_advance_61 rfl rfl ?_
  refine fg_X1_X1_place (n := 65) 15 rfl ok dX1_advance_62 rfl ?_
  refine fp_X1_X1_behind (n := 68) 15 rfl ok dX1_advance_65 rfl ?_
  refine g_mem (fun S1 eS1 => ?_)
  replace h := h S1 eS1
  refine g_aload_n 0 (n := 69) ok dX1_advance_68 rfl rfl ?_
  refine fg_X1_X1_place (n := 72) 15 rfl ok dX1_advance_69 rfl ?_
  refine g_aload_n 0 (n := 73) ok dX1_advance_72 rfl rfl ?_
  refine fg_X1_X1_size (n := 76) 15 rfl ok dX1_advance_73 rfl ?_
  refine g_icmp_lt (t := 87) (n := 79) ok dX1_advance_76 (by decide) rfl (fun e18 => ?_) (fun e18 => ?_)
  · replace h := h.1 e18
    refine g_aload_n 0 (n := 88) ok dX1_advance_87 rfl rfl ?_
    refine fg_X1_X1_tape (n := 91) 15 rfl ok dX1_advance_88 rfl ?_
    refine g_aload_n 0 (n := 92) ok dX1_advance_91 rfl rfl ?_
    refine fg_X1_X1_place (n := 95) 15 rfl ok dX1_advance_92 rfl ?_
    obtain ⟨h0, h⟩ := h
    refine g_iald (c := 16) (t0 := 0) (n := 96) ok (lt6 rfl) (sh6 rfl _) rfl h0 dX1_advance_95 rfl ?_
    refine g_bipush (v := 97) (n := 98) ok dX1_advance_96 rfl (by decide) ?_
    refine g_bipush (v := 122) (n := 100) ok dX1_advance_98 rfl (by decide) ?_
    refine g_callSNi (n := 103) (As := [.int (S1 16 (S1 15 4).toNatClampNeg), .int (97 : Int32), .int (122 : Int32)]) (rest := []) ok (c_X7_within l v (S1 16 (S1 15 4).toNatClampNeg) (97 : Int32) (122 : Int32) S1 _ h) cal_X7_within tw_252 tw_253 (by decide) (by decide) rfl (Nat.le_of_ble_eq_true rfl) dX1_advance_100 rfl rfl (fun r2 S2 h => ?_)
    refine g_if_eq (t := 129) (n := 106) ok dX1_advance_103 (by decide) rfl (fun e16 => ?_) (fun e16 => ?_)
    · replace h := h.1 e16
      refine g_aload_n 0 (n := 130) ok dX1_advance_129 rfl rfl ?_
      refine fg_X1_X1_tape (n := 133) 15 rfl ok dX1_advance_130 rfl ?_
      refine g_aload_n 0 (n := 134) ok dX1_advance_133 rfl rfl ?_
      refine fg_X1_X1_place (n := 137) 15 rfl ok dX1_advance_134 rfl ?_
      obtain ⟨h0, h⟩ := h
      refine g_iald (c := 16) (t0 := 0) (n := 138) ok (lt6 rfl) (sh6 rfl _) rfl h0 dX1_advance_137 rfl ?_
      refine g_bipush (v := 48) (n := 140) ok dX1_advance_138 rfl (by decide) ?_
      refine g_bipush (v := 57) (n := 142) ok dX1_advance_140 rfl (by decide) ?_
      refine g_callSNi (n := 145) (As := [.int (S2 16 (S2 15 4).toNatClampNeg), .int (48 : Int32), .int (57 : Int32)]) (rest := []) ok (c_X7_within l v (S2 16 (S2 15 4).toNatClampNeg) (48 : Int32) (57 : Int32) S2 _ h) cal_X7_within tw_252 tw_253 (by decide) (by decide) rfl (Nat.le_of_ble_eq_true rfl) dX1_advance_142 rfl rfl (fun r3 S3 h => ?_)
      refine g_if_eq (t := 171) (n := 148) ok dX1_advance_145 (by decide) rfl (fun e11 => ?_) (fun e11 => ?_)
      · replace h := h.1 e11
        refine g_aload_n 0 (n := 172) ok dX1_advance_171 rfl rfl ?_
        refine g_aload_n 0 (n := 173) ok dX1_advance_172 rfl rfl ?_
        refine fg_X1_X1_place (n := 176) 15 rfl ok dX1_advance_173 rfl ?_
        refine g_iconst (v := 1) (n := 177) ok dX1_advance_176 rfl (by decide) ?_
        refine g_iadd (n := 178) ok dX1_advance_177 rfl ?_
        refine fp_X1_X1_behind (n := 181) 15 rfl ok dX1_advance_178 rfl ?_
        refine g_mem (fun S4 eS4 => ?_)
        replace h := h S4 eS4
        refine g_aload_n 0 (n := 182) ok dX1_advance_181 rfl rfl ?_
        refine g_aload_n 0 (n := 183) ok dX1_advance_182 rfl rfl ?_
        refine fg_X1_X1_tape (n := 186) 15 rfl ok dX1_advance_183 rfl ?_
        refine g_aload_n 0 (n := 187) ok dX1_advance_186 rfl rfl ?_
        refine fg_X1_X1_place (n := 190) 15 rfl ok dX1_advance_187 rfl ?_
        obtain ⟨h0, h⟩ := h
        refine g_iald (c := 16) (t0 := 0) (n := 191) ok (lt6 rfl) (sh6 rfl _) rfl h0 dX1_advance_190 rfl ?_
        refine g_callSNi (n := 194) (As := [.int (S4 16 (S4 15 4).toNatClampNeg)]) (rest := [.ref (v.1 15)]) ok (c_X6_ofSign l v (S4 16 (S4 15 4).toNatClampNeg) S4 _ h) cal_X6_ofSign tw_285 tw_286 (by decide) (by decide) rfl (Nat.le_of_ble_eq_true rfl) dX1_advance_191 rfl rfl (fun r5 S5 h => ?_)
        refine fp_X1_X1_token (n := 197) 15 rfl ok dX1_advance_194 rfl ?_
        refine g_mem (fun S6 eS6 => ?_)
        replace h := h S6 eS6
        exact g_sub [] rfl (b_X1_advance_197 ok he  S6 h)
      · replace h := h.2 e11
        refine g_aload_n 0 (n := 149) ok dX1_advance_148 rfl rfl ?_
        refine g_aload_n 0 (n := 150) ok dX1_advance_149 rfl rfl ?_
        refine g_bipush (v := 48) (n := 152) ok dX1_advance_150 rfl (by decide) ?_
        refine g_bipush (v := 57) (n := 154) ok dX1_advance_152 rfl (by decide) ?_
        refine g_callVi (n := 157) (As := [.int (48 : Int32), .int (57 : Int32)]) (rest := [.ref (v.1 15)]) (c := 15) ok (c_X1_endOfRun l v (48 : Int32) (57 : Int32) S3 _ h) cal_X1_endOfRun tw_255 tw_257 tp_3 (lt5 rfl) (sh5 rfl _) rfl (by decide) (by decide) rfl (Nat.le_of_ble_eq_true rfl) dX1_advance_154 rfl rfl (fun r7 S7 h => ?_)
        refine fp_X1_X1_behind (n := 160) 15 rfl ok dX1_advance_157 rfl ?_
        refine g_mem (fun S8 eS8 => ?_)
        replace h := h S8 eS8
        refine g_aload_n 0 (n := 161) ok dX1_advance_160 rfl rfl ?_
        refine g_aload_n 0 (n := 162) ok dX1_advance_161 rfl rfl ?_
        refine g_callVi (n := 165) (As := []) (rest := [.ref (v.1 15)]) (c := 15) ok (c_X1_numberToken l v  S8 _ h) cal_X1_numberToken tw_281 tw_283 tp_6 (lt5 rfl) (sh5 rfl _) rfl (by decide) (by decide) rfl (Nat.le_of_ble_eq_true rfl) dX1_advance_162 rfl rfl (fun r9 S9 h => ?_)
        refine fp_X1_X1_token (n := 168) 15 rfl ok dX1_advance_165 rfl ?_
        refine g_mem (fun S10 eS10 => ?_)
        replace h := h S10 eS10
        refine g_goto (t := 197) ok dX1_advance_168 (by decide) ?_
        exact g_sub [] rfl (b_X1_advance_197 ok he  S10 h)
    · replace h := h.2 e16
      refine g_aload_n 0 (n := 107) ok dX1_advance_106 rfl rfl ?_
      refine g_aload_n 0 (n := 108) ok dX1_advance_107 rfl rfl ?_
      refine g_bipush (v := 97) (n := 110) ok dX1_advance_108 rfl (by decide) ?_
      refine g_bipush (v := 122) (n := 112) ok dX1_advance_110 rfl (by decide) ?_
      refine g_callVi (n := 115) (As := [.int (97 : Int32), .int (122 : Int32)]) (rest := [.ref (v.1 15)]) (c := 15) ok (c_X1_endOfRun l v (97 : Int32) (122 : Int32) S2 _ h) cal_X1_endOfRun tw_255 tw_257 tp_3 (lt5 rfl) (sh5 rfl _) rfl (by decide) (by decide) rfl (Nat.le_of_ble_eq_true rfl) dX1_advance_112 rfl rfl (fun r12 S12 h => ?_)
      refine fp_X1_X1_behind (n := 118) 15 rfl ok dX1_advance_115 rfl ?_
      refine g_mem (fun S13 eS13 => ?_)
      replace h := h S13 eS13
      refine g_aload_n 0 (n := 119) ok dX1_advance_118 rfl rfl ?_
      refine g_aload_n 0 (n := 120) ok dX1_advance_119 rfl rfl ?_
      refine g_callVi (n := 123) (As := []) (rest := [.ref (v.1 15)]) (c := 15) ok (c_X1_wordToken l v  S13 _ h) cal_X1_wordToken tw_259 tw_261 tp_4 (lt5 rfl) (sh5 rfl _) rfl (by decide) (by decide) rfl (Nat.le_of_ble_eq_true rfl) dX1_advance_120 rfl rfl (fun r14 S14 h => ?_)
      refine fp_X1_X1_token (n := 126) 15 rfl ok dX1_advance_123 rfl ?_
      refine g_mem (fun S15 eS15 => ?_)
      replace h := h S15 eS15
      refine g_goto (t := 197) ok dX1_advance_126 (by decide) ?_
      exact g_sub [] rfl (b_X1_advance_197 ok he  S15 h)
  · replace h := h.2 e18
    refine g_aload_n 0 (n := 80) ok dX1_advance_79 rfl rfl ?_
    refine g_iconst (v := 0) (n := 81) ok dX1_advance_80 rfl (by decide) ?_
    refine fp_X1_X1_token (n := 84) 15 rfl ok dX1_advance_81 rfl ?_
    refine g_mem (fun S17 eS17 => ?_)
    replace h := h S17 eS17
    refine g_goto (t := 197) ok dX1_advance_84 (by decide) ?_
    exact g_sub [] rfl (b_X1_advance_197 ok he  S17 h)
def w_X1_advance_8 (post : Mem → Prop) : Nat → Mem → Prop
  | 0, _ => False
  | n + 1, S => (((S 15 2) ≤ (S 15 4) → w_X1_advance_60 post  S) ∧ (¬ (S 15 2) ≤ (S 15 4) → (vp_in (S 15 4) 160 ∧ (((S 16 (S 15 4).toNatClampNeg) = (32 : Int32) → w_X1_advance_47 (w_X1_advance_8 post n) post  S) ∧ (¬ (S 16 (S 15 4).toNatClampNeg) = (32 : Int32) → (vp_in (S 15 4) 160 ∧ ((¬ (S 16 (S 15 4).toNatClampNeg) = (10 : Int32) → w_X1_advance_60 post  S) ∧ ((S 16 (S 15 4).toNatClampNeg) = (10 : Int32) → w_X1_advance_47 (w_X1_advance_8 post n) post  S))))))))
set_option maxHeartbeats 4000000 in
set_option maxRecDepth 20000 in
theorem b_X1_advance_8 {v : VxT} {l : Launch} {g : CxT} (ok : Ok l g (oX v) 1 cX1_advance RX1 none) {post : Mem → Prop} (he : EndQ g (oX v) (va_Qv post (fun S1 t => BX (oX v) S1 t) (AX (oX v)))) : ∀ (n : Nat) (S : Mem), w_X1_advance_8 post n  S → G g (oX v) 7 1 8 [(0, .ref (v.1 15))] [] S := by
  intro n
  induction n with
  | zero =>
    intro S h
    exact h.elim
  | succ n ih =>
    intro S h
    rw [w_X1_advance_8] at h
    refine g_aload_n 0 (n := 9) ok dX1_advance_8 rfl rfl ?_
    refine fg_X1_X1_place (n := 12) 15 rfl ok dX1_advance_9 rfl ?_
    refine g_aload_n 0 (n := 13) ok dX1_advance_12 rfl rfl ?_
    refine fg_X1_X1_size (n := 16) 15 rfl ok dX1_advance_13 rfl ?_
    refine g_icmp_ge (t := 60) (n := 19) ok dX1_advance_16 (by decide) rfl (fun e3 => ?_) (fun e3 => ?_)
    · replace h := h.1 e3
      exact g_sub [0] rfl (b_X1_advance_60 ok he  S h)
    · replace h := h.2 e3
      refine g_aload_n 0 (n := 20) ok dX1_advance_19 rfl rfl ?_
      refine fg_X1_X1_tape (n := 23) 15 rfl ok dX1_advance_20 rfl ?_
      refine g_aload_n 0 (n := 24) ok dX1_advance_23 rfl rfl ?_
      refine fg_X1_X1_place (n := 27) 15 rfl ok dX1_advance_24 rfl ?_
      obtain ⟨h0, h⟩ := h
      refine g_iald (c := 16) (t0 := 0) (n := 28) ok (lt6 rfl) (sh6 rfl _) rfl h0 dX1_advance_27 rfl ?_
      refine g_bipush (v := 32) (n := 30) ok dX1_advance_28 rfl (by decide) ?_
      refine g_icmp_eq (t := 47) (n := 33) ok dX1_advance_30 (by decide) rfl (fun e2 => ?_) (fun e2 => ?_)
      · replace h := h.1 e2
        exact g_sub [0] rfl (b_X1_advance_47 ok ih he  S h)
      · replace h := h.2 e2
        refine g_aload_n 0 (n := 34) ok dX1_advance_33 rfl rfl ?_
        refine fg_X1_X1_tape (n := 37) 15 rfl ok dX1_advance_34 rfl ?_
        refine g_aload_n 0 (n := 38) ok dX1_advance_37 rfl rfl ?_
        refine fg_X1_X1_place (n := 41) 15 rfl ok dX1_advance_38 rfl ?_
        obtain ⟨h0, h⟩ := h
        refine g_iald (c := 16) (t0 := 0) (n := 42) ok (lt6 rfl) (sh6 rfl _) rfl h0 dX1_advance_41 rfl ?_
        refine g_bipush (v := 10) (n := 44) ok dX1_advance_42 rfl (by decide) ?_
        refine g_icmp_ne (t := 60) (n := 47) ok dX1_advance_44 (by decide) rfl (fun e1 => ?_) (fun e1 => ?_)
        · replace h := h.1 e1
          exact g_sub [0] rfl (b_X1_advance_60 ok he  S h)
        · replace h := h.2 e1
          exact g_sub [0] rfl (b_X1_advance_47 ok ih he  S h)
def w_X1_advance (S : Mem) (post : Mem → Prop) : Prop := (∀ S1 : Mem, S1 = mset S 15 (upd (S 15) 4 (S 15 5)) → ∃ n, w_X1_advance_8 post n  S1)
set_option maxHeartbeats 4000000 in
set_option maxRecDepth 20000 in
theorem c_X1_advance (l : Launch) (v : VxT) (S : Mem) (post : Mem → Prop) (h : w_X1_advance  S post) : MV l yX1_advance cX1_advance 1 none 7 (oX v) [.ref (v.1 15)] S post := by
  refine met_start (by decide +kernel) (Nat.le_of_ble_eq_true rfl) (fun g ok he => ?_)
  refine g_eq (L' := [(0, .ref (v.1 15))]) (st' := []) ?_ rfl rfl
  unfold w_X1_advance at h
  refine g_aload_n 0 (n := 1) ok dX1_advance_0 rfl rfl ?_
  refine g_aload_n 0 (n := 2) ok dX1_advance_1 rfl rfl ?_
  refine fg_X1_X1_behind (n := 5) 15 rfl ok dX1_advance_2 rfl ?_
  refine fp_X1_X1_place (n := 8) 15 rfl ok dX1_advance_5 rfl ?_
  refine g_mem (fun S1 eS1 => ?_)
  replace h := h S1 eS1
  obtain ⟨n0, h⟩ := h
  exact g_sub [0] rfl (b_X1_advance_8 ok he n0  S1 h)
def w_X1_fail_16 (post : Mem → Prop) (S : Mem) : Prop := (∀ S1 : Mem, S1 = mset S 15 (upd (S 15) 3 (1 : Int32)) → post S1)
set_option maxHeartbeats 4000000 in
set_option maxRecDepth 20000 in
theorem b_X1_fail_16 {v : VxT} {l : Launch} {g : CxT} (ok : Ok l g (oX v) 1 cX1_fail RX1 none) {post : Mem → Prop} (he : EndQ g (oX v) (va_Qv post (fun S1 t => BX (oX v) S1 t) (AX (oX v)))) (S : Mem) (h : w_X1_fail_16 post  S) : G g (oX v) 1 1 16 [(0, .ref (v.1 15))] [] S := by
  unfold w_X1_fail_16 at h
  refine g_aload_n 0 (n := 17) ok dX1_fail_16 rfl rfl ?_
  refine g_iconst (v := 1) (n := 18) ok dX1_fail_17 rfl (by decide) ?_
  refine fp_X1_X1_token (n := 21) 15 rfl ok dX1_fail_18 rfl ?_
  refine g_mem (fun S1 eS1 => ?_)
  replace h := h S1 eS1
  exact g_vret ok he h dX1_fail_21
def w_X1_fail (S : Mem) (post : Mem → Prop) : Prop := ((¬ (S 15 7) = (-1 : Int32) → w_X1_fail_16 post  S) ∧ ((S 15 7) = (-1 : Int32) → (∀ S1 : Mem, S1 = mset S 15 (upd (S 15) 7 (S 15 4)) → w_X1_fail_16 post  S1)))
set_option maxHeartbeats 4000000 in
set_option maxRecDepth 20000 in
theorem c_X1_fail (l : Launch) (v : VxT) (S : Mem) (post : Mem → Prop) (h : w_X1_fail  S post) : MV l yX1_fail cX1_fail 1 none 1 (oX v) [.ref (v.1 15)] S post := by
  refine met_start (by decide +kernel) (Nat.le_of_ble_eq_true rfl) (fun g ok he => ?_)
  refine g_eq (L' := [(0, .ref (v.1 15))]) (st' := []) ?_ rfl rfl
  unfold w_X1_fail at h
  refine g_aload_n 0 (n := 1) ok dX1_fail_0 rfl rfl ?_
  refine fg_X1_X1_fault (n := 4) 15 rfl ok dX1_fail_1 rfl ?_
  refine g_iconst (v := -1) (n := 5) ok dX1_fail_4 rfl (by decide) ?_
  refine g_icmp_ne (t := 16) (n := 8) ok dX1_fail_5 (by decide) rfl (fun e2 => ?_) (fun e2 => ?_)
  · replace h := h.1 e2
    exact g_sub [0] rfl (b_X1_fail_16 ok he  S h)
  · replace h := h.2 e2
    refine g_aload_n 0 (n := 9) ok dX1_fail_8 rfl rfl ?_
    refine g_aload_n 0 (n := 10) ok dX1_fail_9 rfl rfl ?_
    refine fg_X1_X1_place (n := 13) 15 rfl ok dX1_fail_10 rfl ?_
    refine fp_X1_X1_fault (n := 16) 15 rfl ok dX1_fail_13 rfl ?_
    refine g_mem (fun S1 eS1 => ?_)
    replace h := h S1 eS1
    exact g_sub [0] rfl (b_X1_fail_16 ok he  S1 h)
def w_X1_accept_19 (post : Mem → Prop) (S : Mem) : Prop := post S
set_option maxHeartbeats 4000000 in
set_option maxRecDepth 20000 in
theorem b_X1_accept_19 {v : VxT} {l : Launch} {g : CxT} (ok : Ok l g (oX v) 2 cX1_accept RX1 none) {post : Mem → Prop} (he : EndQ g (oX v) (va_Qv post (fun S1 t => BX (oX v) S1 t) (AX (oX v)))) (S : Mem) (h : w_X1_accept_19 post  S) : G g (oX v) 8 2 19 [] [] S := by
  unfold w_X1_accept_19 at h
  exact g_vret ok he h dX1_accept_19
def w_X1_accept (p1 : Int32) (S : Mem) (post : Mem → Prop) : Prop := ((¬ (S 15 3) = p1 → w_X1_fail  S (fun S1 => w_X1_accept_19 post  S1)) ∧ ((S 15 3) = p1 → w_X1_advance  S (fun S2 => w_X1_accept_19 post  S2)))
set_option maxHeartbeats 4000000 in
set_option maxRecDepth 20000 in
theorem c_X1_accept (l : Launch) (v : VxT) (p1 : Int32) (S : Mem) (post : Mem → Prop) (h : w_X1_accept p1 S post) : MV l yX1_accept cX1_accept 2 none 8 (oX v) [.ref (v.1 15), .int p1] S post := by
  refine met_start (by decide +kernel) (Nat.le_of_ble_eq_true rfl) (fun g ok he => ?_)
  refine g_eq (L' := [(0, .ref (v.1 15)), (1, .int p1)]) (st' := []) ?_ rfl rfl
  unfold w_X1_accept at h
  refine g_aload_n 0 (n := 1) ok dX1_accept_0 rfl rfl ?_
  refine fg_X1_X1_token (n := 4) 15 rfl ok dX1_accept_1 rfl ?_
  refine g_iload_n 1 (n := 5) ok dX1_accept_4 rfl rfl ?_
  refine g_icmp_ne (t := 15) (n := 8) ok dX1_accept_5 (by decide) rfl (fun e3 => ?_) (fun e3 => ?_)
  · replace h := h.1 e3
    refine g_aload_n 0 (n := 16) ok dX1_accept_15 rfl rfl ?_
    refine g_callVv (n := 19) (As := []) (rest := []) (c := 15) ok (c_X1_fail l v  S _ h) cal_X1_fail tw_292 tw_294 tp_8 (lt5 rfl) (sh5 rfl _) rfl (by decide) (by decide) rfl (Nat.le_of_ble_eq_true rfl) dX1_accept_16 rfl rfl (fun S1 h => ?_)
    exact g_sub [] rfl (b_X1_accept_19 ok he  S1 h)
  · replace h := h.2 e3
    refine g_aload_n 0 (n := 9) ok dX1_accept_8 rfl rfl ?_
    refine g_callVv (n := 12) (As := []) (rest := []) (c := 15) ok (c_X1_advance l v  S _ h) cal_X1_advance tw_248 tw_250 tp_2 (lt5 rfl) (sh5 rfl _) rfl (by decide) (by decide) rfl (Nat.le_of_ble_eq_true rfl) dX1_accept_9 rfl rfl (fun S2 h => ?_)
    refine g_goto (t := 19) ok dX1_accept_12 (by decide) ?_
    exact g_sub [] rfl (b_X1_accept_19 ok he  S2 h)
