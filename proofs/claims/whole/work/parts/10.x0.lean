def w_X0_feltTall (c : Nat) (p1 : Int32) (S : Mem) (post : Int32 → Mem → Prop) : Prop := post (((S c 1) + (S c 2)) - (p1 / (2 : Int32))) S
set_option maxHeartbeats 4000000 in
set_option maxRecDepth 20000 in
theorem c_X0_feltTall (l : Launch) (v : VxT) (c : Nat) (hc : kdX c = 4) (p1 : Int32) (S : Mem) (post : Int32 → Mem → Prop) (h : w_X0_feltTall c p1 S post) : MI l yX0_feltTall cX0_feltTall 2 (some .int) 1 (oX v) [.ref (v.1 c), .int p1] S post := by
  refine met_start (by decide +kernel) (Nat.le_of_ble_eq_true rfl) (fun g ok he => ?_)
  refine g_eq (L' := [(0, .ref (v.1 c)), (1, .int p1)]) (st' := []) ?_ rfl rfl
  unfold w_X0_feltTall at h
  refine g_aload_n 0 (n := 1) ok dX0_feltTall_0 rfl rfl ?_
  refine fg_X0_X0_length (n := 4) c hc ok dX0_feltTall_1 rfl ?_
  refine g_aload_n 0 (n := 5) ok dX0_feltTall_4 rfl rfl ?_
  refine fg_X0_X0_number (n := 8) c hc ok dX0_feltTall_5 rfl ?_
  refine g_iadd (n := 9) ok dX0_feltTall_8 rfl ?_
  refine g_iload_n 1 (n := 10) ok dX0_feltTall_9 rfl rfl ?_
  refine g_iconst (v := 2) (n := 11) ok dX0_feltTall_10 rfl (by decide) ?_
  refine g_idiv (n := 12) ok dX0_feltTall_11 rfl (by decide) ?_
  refine g_isub (n := 13) ok dX0_feltTall_12 rfl ?_
  exact g_iret ok he h dX0_feltTall_13
def w_X0_screwTall (c : Nat) (S : Mem) (post : Int32 → Mem → Prop) : Prop := post ((S c 1) + ((3 : Int32) * (S c 2))) S
set_option maxHeartbeats 4000000 in
set_option maxRecDepth 20000 in
theorem c_X0_screwTall (l : Launch) (v : VxT) (c : Nat) (hc : kdX c = 4) (S : Mem) (post : Int32 → Mem → Prop) (h : w_X0_screwTall c S post) : MI l yX0_screwTall cX0_screwTall 1 (some .int) 1 (oX v) [.ref (v.1 c)] S post := by
  refine met_start (by decide +kernel) (Nat.le_of_ble_eq_true rfl) (fun g ok he => ?_)
  refine g_eq (L' := [(0, .ref (v.1 c))]) (st' := []) ?_ rfl rfl
  unfold w_X0_screwTall at h
  refine g_aload_n 0 (n := 1) ok dX0_screwTall_0 rfl rfl ?_
  refine fg_X0_X0_length (n := 4) c hc ok dX0_screwTall_1 rfl ?_
  refine g_iconst (v := 3) (n := 5) ok dX0_screwTall_4 rfl (by decide) ?_
  refine g_aload_n 0 (n := 6) ok dX0_screwTall_5 rfl rfl ?_
  refine fg_X0_X0_number (n := 9) c hc ok dX0_screwTall_6 rfl ?_
  refine g_imul (n := 10) ok dX0_screwTall_9 rfl ?_
  refine g_iadd (n := 11) ok dX0_screwTall_10 rfl ?_
  exact g_iret ok he h dX0_screwTall_11
def w_X0_tall_97 (post : Int32 → Mem → Prop) (c : Nat) (x2 : Int32) (S : Mem) : Prop := post (jmax (0 : Int32) x2) S
set_option maxHeartbeats 4000000 in
set_option maxRecDepth 20000 in
theorem b_X0_tall_97 {v : VxT} {l : Launch} {g : CxT} (ok : Ok l g (oX v) 3 cX0_tall RX0 (some .int)) {post : Int32 → Mem → Prop} (he : EndQ g (oX v) (va_Qi post (fun S1 t => BX (oX v) S1 t) (AX (oX v)))) (c : Nat) (hc : kdX c = 4) (x2 : Int32) (S : Mem) (h : w_X0_tall_97 post c x2 S) : G g (oX v) 2 3 97 [(2, .int x2)] [] S := by
  unfold w_X0_tall_97 at h
  refine g_iconst (v := 0) (n := 98) ok dX0_tall_97 rfl (by decide) ?_
  refine g_iload_n 0 (n := 99) ok dX0_tall_98 rfl rfl ?_
  refine g_mmax (n := 102) ok tw_416 tw_417 tw_15 tw_418 (by decide) (Nat.le_of_ble_eq_true rfl) dX0_tall_99 rfl ?_
  exact g_iret ok he h dX0_tall_102
def w_X0_tall (c : Nat) (p1 : Int32) (S : Mem) (post : Int32 → Mem → Prop) : Prop := (∀ z1 : Int32, z1 = S c 1 → (∀ z2 : Int32, z2 = S c 0 → ((z2 = 1 → w_X0_feltTall c p1 S (fun r4 S4 => w_X0_tall_97 post c r4 S4)) ∧ (¬ z2 = 1 → ((z2 = 2 → w_X0_screwTall c S (fun r6 S6 => w_X0_tall_97 post c r6 S6)) ∧ (¬ z2 = 2 → ((z2 = 3 → w_X0_feltTall c p1 S (fun r8 S8 => (∀ z9 : Int32, z9 = r8 / (2 : Int32) → w_X0_tall_97 post c z9 S8))) ∧ (¬ z2 = 3 → ((z2 = 4 → w_X0_screwTall c S (fun r11 S11 => (∀ z12 : Int32, z12 = r11 + (2 : Int32) → w_X0_tall_97 post c z12 S11))) ∧ (¬ z2 = 4 → ((z2 = 5 → (∀ z14 : Int32, z14 = (S c 1) - (p1 * (S c 2)) → w_X0_tall_97 post c z14 S)) ∧ (¬ z2 = 5 → w_X0_tall_97 post c z1 S))))))))))))
set_option maxHeartbeats 4000000 in
set_option maxRecDepth 20000 in
theorem c_X0_tall (l : Launch) (v : VxT) (c : Nat) (hc : kdX c = 4) (p1 : Int32) (S : Mem) (post : Int32 → Mem → Prop) (h : w_X0_tall c p1 S post) : MI l yX0_tall cX0_tall 3 (some .int) 2 (oX v) [.ref (v.1 c), .int p1] S post := by
  refine met_start (by decide +kernel) (Nat.le_of_ble_eq_true rfl) (fun g ok he => ?_)
  refine g_eq (L' := [(0, .ref (v.1 c)), (1, .int p1)]) (st' := []) ?_ rfl rfl
  unfold w_X0_tall at h
  refine g_aload_n 0 (n := 1) ok dX0_tall_0 rfl rfl ?_
  refine fg_X0_X0_length (n := 4) c hc ok dX0_tall_1 rfl ?_
  refine g_topi (fun z1 ez1 => ?_)
  replace h := h z1 ez1
  refine g_istore_n [(2, .int z1), (0, .ref (v.1 c)), (1, .int p1)] (n := 5) ok dX0_tall_4 rfl (by decide) rfl ?_
  refine g_aload_n 1 (n := 6) ok dX0_tall_5 rfl rfl ?_
  refine fg_X0_X0_kind (n := 9) c hc ok dX0_tall_6 rfl ?_
  refine g_topi (fun z2 ez2 => ?_)
  replace h := h z2 ez2
  by_cases e3 : z2 = 1
  · replace h := h.1 e3
    refine g_tsIn (off := 35) (t := 44) ok dX0_tall_9 (by rw [e3]; decide) (by rw [e3]; decide) (by rw [e3]; rfl) (by decide) ?_
    refine g_aload_n 1 (n := 45) ok dX0_tall_44 rfl rfl ?_
    refine g_iload_n 2 (n := 46) ok dX0_tall_45 rfl rfl ?_
    refine g_callVi (n := 49) (As := [.int p1]) (rest := []) (c := c) ok (c_X0_feltTall l v c hc p1 S _ h) cal_X0_feltTall tw_408 tw_410 tp_21 (lt4 hc) (sh4 hc _) rfl (by decide) (by decide) rfl (Nat.le_of_ble_eq_true rfl) dX0_tall_46 rfl rfl (fun r4 S4 h => ?_)
    refine g_istore_n [(2, .int r4), (0, .ref (v.1 c)), (1, .int p1)] (n := 50) ok dX0_tall_49 rfl (by decide) rfl ?_
    refine g_goto (t := 97) ok dX0_tall_50 (by decide) ?_
    exact g_sub [0] rfl (b_X0_tall_97 ok he c hc r4 S4 h)
  · replace h := h.2 e3
    by_cases e5 : z2 = 2
    · replace h := h.1 e5
      refine g_tsIn (off := 44) (t := 53) ok dX0_tall_9 (by rw [e5]; decide) (by rw [e5]; decide) (by rw [e5]; rfl) (by decide) ?_
      refine g_aload_n 1 (n := 54) ok dX0_tall_53 rfl rfl ?_
      refine g_callVi (n := 57) (As := []) (rest := []) (c := c) ok (c_X0_screwTall l v c hc S _ h) cal_X0_screwTall tw_412 tw_414 tp_22 (lt4 hc) (sh4 hc _) rfl (by decide) (by decide) rfl (Nat.le_of_ble_eq_true rfl) dX0_tall_54 rfl rfl (fun r6 S6 h => ?_)
      refine g_istore_n [(2, .int r6), (0, .ref (v.1 c)), (1, .int p1)] (n := 58) ok dX0_tall_57 rfl (by decide) rfl ?_
      refine g_goto (t := 97) ok dX0_tall_58 (by decide) ?_
      exact g_sub [0] rfl (b_X0_tall_97 ok he c hc r6 S6 h)
    · replace h := h.2 e5
      by_cases e7 : z2 = 3
      · replace h := h.1 e7
        refine g_tsIn (off := 52) (t := 61) ok dX0_tall_9 (by rw [e7]; decide) (by rw [e7]; decide) (by rw [e7]; rfl) (by decide) ?_
        refine g_aload_n 1 (n := 62) ok dX0_tall_61 rfl rfl ?_
        refine g_iload_n 2 (n := 63) ok dX0_tall_62 rfl rfl ?_
        refine g_callVi (n := 66) (As := [.int p1]) (rest := []) (c := c) ok (c_X0_feltTall l v c hc p1 S _ h) cal_X0_feltTall tw_408 tw_410 tp_21 (lt4 hc) (sh4 hc _) rfl (by decide) (by decide) rfl (Nat.le_of_ble_eq_true rfl) dX0_tall_63 rfl rfl (fun r8 S8 h => ?_)
        refine g_iconst (v := 2) (n := 67) ok dX0_tall_66 rfl (by decide) ?_
        refine g_idiv (n := 68) ok dX0_tall_67 rfl (by decide) ?_
        refine g_topi (fun z9 ez9 => ?_)
        replace h := h z9 ez9
        refine g_istore_n [(2, .int z9), (0, .ref (v.1 c)), (1, .int p1)] (n := 69) ok dX0_tall_68 rfl (by decide) rfl ?_
        refine g_goto (t := 97) ok dX0_tall_69 (by decide) ?_
        exact g_sub [0] rfl (b_X0_tall_97 ok he c hc z9 S8 h)
      · replace h := h.2 e7
        by_cases e10 : z2 = 4
        · replace h := h.1 e10
          refine g_tsIn (off := 63) (t := 72) ok dX0_tall_9 (by rw [e10]; decide) (by rw [e10]; decide) (by rw [e10]; rfl) (by decide) ?_
          refine g_aload_n 1 (n := 73) ok dX0_tall_72 rfl rfl ?_
          refine g_callVi (n := 76) (As := []) (rest := []) (c := c) ok (c_X0_screwTall l v c hc S _ h) cal_X0_screwTall tw_412 tw_414 tp_22 (lt4 hc) (sh4 hc _) rfl (by decide) (by decide) rfl (Nat.le_of_ble_eq_true rfl) dX0_tall_73 rfl rfl (fun r11 S11 h => ?_)
          refine g_iconst (v := 2) (n := 77) ok dX0_tall_76 rfl (by decide) ?_
          refine g_iadd (n := 78) ok dX0_tall_77 rfl ?_
          refine g_topi (fun z12 ez12 => ?_)
          replace h := h z12 ez12
          refine g_istore_n [(2, .int z12), (0, .ref (v.1 c)), (1, .int p1)] (n := 79) ok dX0_tall_78 rfl (by decide) rfl ?_
          refine g_goto (t := 97) ok dX0_tall_79 (by decide) ?_
          exact g_sub [0] rfl (b_X0_tall_97 ok he c hc z12 S11 h)
        · replace h := h.2 e10
          by_cases e13 : z2 = 5
          · replace h := h.1 e13
            refine g_tsIn (off := 73) (t := 82) ok dX0_tall_9 (by rw [e13]; decide) (by rw [e13]; decide) (by rw [e13]; rfl) (by decide) ?_
            refine g_aload_n 1 (n := 83) ok dX0_tall_82 rfl rfl ?_
            refine fg_X0_X0_length (n := 86) c hc ok dX0_tall_83 rfl ?_
            refine g_iload_n 2 (n := 87) ok dX0_tall_86 rfl rfl ?_
            refine g_aload_n 1 (n := 88) ok dX0_tall_87 rfl rfl ?_
            refine fg_X0_X0_number (n := 91) c hc ok dX0_tall_88 rfl ?_
            refine g_imul (n := 92) ok dX0_tall_91 rfl ?_
            refine g_isub (n := 93) ok dX0_tall_92 rfl ?_
            refine g_topi (fun z14 ez14 => ?_)
            replace h := h z14 ez14
            refine g_istore_n [(2, .int z14), (0, .ref (v.1 c)), (1, .int p1)] (n := 94) ok dX0_tall_93 rfl (by decide) rfl ?_
            refine g_goto (t := 97) ok dX0_tall_94 (by decide) ?_
            exact g_sub [0] rfl (b_X0_tall_97 ok he c hc z14 S h)
          · replace h := h.2 e13
            refine g_tsOut (t := 97) ok dX0_tall_9 (by have q0 := lv_neT (a := 1) e3 rfl; have q1 := lv_neT (a := 2) e5 rfl; have q2 := lv_neT (a := 3) e7 rfl; have q3 := lv_neT (a := 4) e10 rfl; have q4 := lv_neT (a := 5) e13 rfl; omega) (by decide) ?_
            exact g_sub [0] rfl (b_X0_tall_97 ok he c hc z1 S h)
def w_X0_feltGives (c : Nat) (p1 : Int32) (S : Mem) (post : Int32 → Mem → Prop) : Prop := post (jmin (p1 / (2 : Int32)) (S c 2)) S
set_option maxHeartbeats 4000000 in
set_option maxRecDepth 20000 in
theorem c_X0_feltGives (l : Launch) (v : VxT) (c : Nat) (hc : kdX c = 4) (p1 : Int32) (S : Mem) (post : Int32 → Mem → Prop) (h : w_X0_feltGives c p1 S post) : MI l yX0_feltGives cX0_feltGives 2 (some .int) 2 (oX v) [.ref (v.1 c), .int p1] S post := by
  refine met_start (by decide +kernel) (Nat.le_of_ble_eq_true rfl) (fun g ok he => ?_)
  refine g_eq (L' := [(0, .ref (v.1 c)), (1, .int p1)]) (st' := []) ?_ rfl rfl
  unfold w_X0_feltGives at h
  refine g_iload_n 1 (n := 1) ok dX0_feltGives_0 rfl rfl ?_
  refine g_iconst (v := 2) (n := 2) ok dX0_feltGives_1 rfl (by decide) ?_
  refine g_idiv (n := 3) ok dX0_feltGives_2 rfl (by decide) ?_
  refine g_aload_n 0 (n := 4) ok dX0_feltGives_3 rfl rfl ?_
  refine fg_X0_X0_number (n := 7) c hc ok dX0_feltGives_4 rfl ?_
  refine g_mmin (n := 10) ok tw_504 tw_486 tw_15 tw_487 (by decide) (Nat.le_of_ble_eq_true rfl) dX0_feltGives_7 rfl ?_
  exact g_iret ok he h dX0_feltGives_10
def w_X0_gives_63 (post : Int32 → Mem → Prop) (c : Nat) (S : Mem) : Prop := post (0 : Int32) S
set_option maxHeartbeats 4000000 in
set_option maxRecDepth 20000 in
theorem b_X0_gives_63 {v : VxT} {l : Launch} {g : CxT} (ok : Ok l g (oX v) 2 cX0_gives RX0 (some .int)) {post : Int32 → Mem → Prop} (he : EndQ g (oX v) (va_Qi post (fun S1 t => BX (oX v) S1 t) (AX (oX v)))) (c : Nat) (hc : kdX c = 4) (S : Mem) (h : w_X0_gives_63 post c  S) : G g (oX v) 3 2 63 [] [] S := by
  unfold w_X0_gives_63 at h
  refine g_iconst (v := 0) (n := 64) ok dX0_gives_63 rfl (by decide) ?_
  exact g_iret ok he h dX0_gives_64
def w_X0_gives (c : Nat) (p1 : Int32) (S : Mem) (post : Int32 → Mem → Prop) : Prop := (∀ z1 : Int32, z1 = S c 0 → ((z1 = 1 → w_X0_feltGives c p1 S (fun r3 S3 => post r3 S3)) ∧ (¬ z1 = 1 → ((z1 = 2 → w_X0_gives_63 post c  S) ∧ (¬ z1 = 2 → ((z1 = 3 → w_X0_feltGives c p1 S (fun r6 S6 => post (r6 + (1 : Int32)) S6)) ∧ (¬ z1 = 3 → ((z1 = 4 → w_X0_gives_63 post c  S) ∧ (¬ z1 = 4 → ((z1 = 5 → post (jmin p1 (S c 2)) S) ∧ (¬ z1 = 5 → w_X0_gives_63 post c  S)))))))))))
set_option maxHeartbeats 4000000 in
set_option maxRecDepth 20000 in
theorem c_X0_gives (l : Launch) (v : VxT) (c : Nat) (hc : kdX c = 4) (p1 : Int32) (S : Mem) (post : Int32 → Mem → Prop) (h : w_X0_gives c p1 S post) : MI l yX0_gives cX0_gives 2 (some .int) 3 (oX v) [.ref (v.1 c), .int p1] S post := by
  refine met_start (by decide +kernel) (Nat.le_of_ble_eq_true rfl) (fun g ok he => ?_)
  refine g_eq (L' := [(0, .ref (v.1 c)), (1, .int p1)]) (st' := []) ?_ rfl rfl
  unfold w_X0_gives at h
  refine g_aload_n 0 (n := 1) ok dX0_gives_0 rfl rfl ?_
  refine fg_X0_X0_kind (n := 4) c hc ok dX0_gives_1 rfl ?_
  refine g_topi (fun z1 ez1 => ?_)
  replace h := h z1 ez1
  by_cases e2 : z1 = 1
  · replace h := h.1 e2
    refine g_tsIn (off := 36) (t := 40) ok dX0_gives_4 (by rw [e2]; decide) (by rw [e2]; decide) (by rw [e2]; rfl) (by decide) ?_
    refine g_aload_n 0 (n := 41) ok dX0_gives_40 rfl rfl ?_
    refine g_iload_n 1 (n := 42) ok dX0_gives_41 rfl rfl ?_
    refine g_callVi (n := 45) (As := [.int p1]) (rest := []) (c := c) ok (c_X0_feltGives l v c hc p1 S _ h) cal_X0_feltGives tw_500 tw_502 tp_34 (lt4 hc) (sh4 hc _) rfl (by decide) (by decide) rfl (Nat.le_of_ble_eq_true rfl) dX0_gives_42 rfl rfl (fun r3 S3 h => ?_)
    exact g_iret ok he h dX0_gives_45
  · replace h := h.2 e2
    by_cases e4 : z1 = 2
    · replace h := h.1 e4
      refine g_tsIn (off := 59) (t := 63) ok dX0_gives_4 (by rw [e4]; decide) (by rw [e4]; decide) (by rw [e4]; rfl) (by decide) ?_
      exact g_sub [] rfl (b_X0_gives_63 ok he c hc  S h)
    · replace h := h.2 e4
      by_cases e5 : z1 = 3
      · replace h := h.1 e5
        refine g_tsIn (off := 42) (t := 46) ok dX0_gives_4 (by rw [e5]; decide) (by rw [e5]; decide) (by rw [e5]; rfl) (by decide) ?_
        refine g_aload_n 0 (n := 47) ok dX0_gives_46 rfl rfl ?_
        refine g_iload_n 1 (n := 48) ok dX0_gives_47 rfl rfl ?_
        refine g_callVi (n := 51) (As := [.int p1]) (rest := []) (c := c) ok (c_X0_feltGives l v c hc p1 S _ h) cal_X0_feltGives tw_500 tw_502 tp_34 (lt4 hc) (sh4 hc _) rfl (by decide) (by decide) rfl (Nat.le_of_ble_eq_true rfl) dX0_gives_48 rfl rfl (fun r6 S6 h => ?_)
        refine g_iconst (v := 1) (n := 52) ok dX0_gives_51 rfl (by decide) ?_
        refine g_iadd (n := 53) ok dX0_gives_52 rfl ?_
        exact g_iret ok he h dX0_gives_53
      · replace h := h.2 e5
        by_cases e7 : z1 = 4
        · replace h := h.1 e7
          refine g_tsIn (off := 59) (t := 63) ok dX0_gives_4 (by rw [e7]; decide) (by rw [e7]; decide) (by rw [e7]; rfl) (by decide) ?_
          exact g_sub [] rfl (b_X0_gives_63 ok he c hc  S h)
        · replace h := h.2 e7
          by_cases e8 : z1 = 5
          · replace h := h.1 e8
            refine g_tsIn (off := 50) (t := 54) ok dX0_gives_4 (by rw [e8]; decide) (by rw [e8]; decide) (by rw [e8]; rfl) (by decide) ?_
            refine g_iload_n 1 (n := 55) ok dX0_gives_54 rfl rfl ?_
            refine g_aload_n 0 (n := 56) ok dX0_gives_55 rfl rfl ?_
            refine fg_X0_X0_number (n := 59) c hc ok dX0_gives_56 rfl ?_
            refine g_mmin (n := 62) ok tw_504 tw_486 tw_15 tw_487 (by decide) (Nat.le_of_ble_eq_true rfl) dX0_gives_59 rfl ?_
            exact g_iret ok he h dX0_gives_62
          · replace h := h.2 e8
            refine g_tsOut (t := 63) ok dX0_gives_4 (by have q0 := lv_neT (a := 1) e2 rfl; have q1 := lv_neT (a := 2) e4 rfl; have q2 := lv_neT (a := 3) e5 rfl; have q3 := lv_neT (a := 4) e7 rfl; have q4 := lv_neT (a := 5) e8 rfl; omega) (by decide) ?_
            exact g_sub [] rfl (b_X0_gives_63 ok he c hc  S h)
def w_X7_within_15 (post : Int32 → Mem → Prop) (y0 : Int32) (S : Mem) : Prop := (y0 = 0 ∨ y0 = 1) ∧ post y0 S
set_option maxHeartbeats 4000000 in
set_option maxRecDepth 20000 in
theorem b_X7_within_15 {v : VxT} {l : Launch} {g : CxT} (ok : Ok l g (oX v) 3 cX7_within RX7 (some .boolean)) {post : Int32 → Mem → Prop} (he : EndQ g (oX v) (va_Qi post (fun S1 t => BX (oX v) S1 t) (AX (oX v)))) (y0 : Int32) (S : Mem) (h : w_X7_within_15 post y0 S) : G g (oX v) 1 3 15 [] [.int y0] S := by
  unfold w_X7_within_15 at h
  exact g_zret ok he h.1 h.2 dX7_within_15
def w_X7_within_14 (post : Int32 → Mem → Prop) (S : Mem) : Prop := w_X7_within_15 post (0 : Int32) S
set_option maxHeartbeats 4000000 in
set_option maxRecDepth 20000 in
theorem b_X7_within_14 {v : VxT} {l : Launch} {g : CxT} (ok : Ok l g (oX v) 3 cX7_within RX7 (some .boolean)) {post : Int32 → Mem → Prop} (he : EndQ g (oX v) (va_Qi post (fun S1 t => BX (oX v) S1 t) (AX (oX v)))) (S : Mem) (h : w_X7_within_14 post  S) : G g (oX v) 1 3 14 [] [] S := by
  unfold w_X7_within_14 at h
  refine g_iconst (v := 0) (n := 15) ok dX7_within_14 rfl (by decide) ?_
  exact g_sub [] rfl (b_X7_within_15 ok he (0 : Int32) S h)
def w_X7_within (p0 : Int32) (p1 : Int32) (p2 : Int32) (S : Mem) (post : Int32 → Mem → Prop) : Prop := ((p0 < p1 → w_X7_within_14 post  S) ∧ (¬ p0 < p1 → ((p2 < p0 → w_X7_within_14 post  S) ∧ (¬ p2 < p0 → w_X7_within_15 post (1 : Int32) S))))
set_option maxHeartbeats 4000000 in
set_option maxRecDepth 20000 in
theorem c_X7_within (l : Launch) (v : VxT) (p0 : Int32) (p1 : Int32) (p2 : Int32) (S : Mem) (post : Int32 → Mem → Prop) (h : w_X7_within p0 p1 p2 S post) : MI l yX7_within cX7_within 3 (some .boolean) 1 (oX v) [.int p0, .int p1, .int p2] S post := by
  refine met_start (by decide +kernel) (Nat.le_of_ble_eq_true rfl) (fun g ok he => ?_)
  refine g_eq (L' := [(0, .int p0), (1, .int p1), (2, .int p2)]) (st' := []) ?_ rfl rfl
  unfold w_X7_within at h
  refine g_iload_n 0 (n := 1) ok dX7_within_0 rfl rfl ?_
  refine g_iload_n 1 (n := 2) ok dX7_within_1 rfl rfl ?_
  refine g_icmp_lt (t := 14) (n := 5) ok dX7_within_2 (by decide) rfl (fun e2 => ?_) (fun e2 => ?_)
  · replace h := h.1 e2
    exact g_sub [] rfl (b_X7_within_14 ok he  S h)
  · replace h := h.2 e2
    refine g_iload_n 0 (n := 6) ok dX7_within_5 rfl rfl ?_
    refine g_iload_n 2 (n := 7) ok dX7_within_6 rfl rfl ?_
    refine g_icmp_gt (t := 14) (n := 10) ok dX7_within_7 (by decide) rfl (fun e1 => ?_) (fun e1 => ?_)
    · replace h := h.1 e1
      exact g_sub [] rfl (b_X7_within_14 ok he  S h)
    · replace h := h.2 e1
      refine g_iconst (v := 1) (n := 11) ok dX7_within_10 rfl (by decide) ?_
      refine g_goto (t := 15) ok dX7_within_11 (by decide) ?_
      exact g_sub [] rfl (b_X7_within_15 ok he (1 : Int32) S h)
def w_X7_isKind (p0 : Int32) (S : Mem) (post : Int32 → Mem → Prop) : Prop := w_X7_within p0 (0 : Int32) (5 : Int32) S (fun r1 S1 => (r1 = 0 ∨ r1 = 1) ∧ post r1 S1)
set_option maxHeartbeats 4000000 in
set_option maxRecDepth 20000 in
theorem c_X7_isKind (l : Launch) (v : VxT) (p0 : Int32) (S : Mem) (post : Int32 → Mem → Prop) (h : w_X7_isKind p0 S post) : MI l yX7_isKind cX7_isKind 1 (some .boolean) 2 (oX v) [.int p0] S post := by
  refine met_start (by decide +kernel) (Nat.le_of_ble_eq_true rfl) (fun g ok he => ?_)
  refine g_eq (L' := [(0, .int p0)]) (st' := []) ?_ rfl rfl
  unfold w_X7_isKind at h
  refine g_iload_n 0 (n := 1) ok dX7_isKind_0 rfl rfl ?_
  refine g_iconst (v := 0) (n := 2) ok dX7_isKind_1 rfl (by decide) ?_
  refine g_iconst (v := 5) (n := 3) ok dX7_isKind_2 rfl (by decide) ?_
  refine g_callSi (n := 6) (As := [.int p0, .int (0 : Int32), .int (5 : Int32)]) (rest := []) ok (c_X7_within l v p0 (0 : Int32) (5 : Int32) S _ h) cal_X7_within tw_373 tw_253 (by decide) (by decide) rfl (Nat.le_of_ble_eq_true rfl) dX7_isKind_3 rfl rfl (fun r1 S1 h => ?_)
  exact g_zret ok he h.1 h.2 dX7_isKind_6
def w_X0_isOne_47 (post : Int32 → Mem → Prop) (c : Nat) (y0 : Int32) (S : Mem) : Prop := (y0 = 0 ∨ y0 = 1) ∧ post y0 S
set_option maxHeartbeats 4000000 in
set_option maxRecDepth 20000 in
theorem b_X0_isOne_47 {v : VxT} {l : Launch} {g : CxT} (ok : Ok l g (oX v) 4 cX0_isOne RX0 (some .boolean)) {post : Int32 → Mem → Prop} (he : EndQ g (oX v) (va_Qi post (fun S1 t => BX (oX v) S1 t) (AX (oX v)))) (c : Nat) (hc : kdX c = 4) (y0 : Int32) (S : Mem) (h : w_X0_isOne_47 post c y0 S) : G g (oX v) 3 4 47 [] [.int y0] S := by
  unfold w_X0_isOne_47 at h
  exact g_zret ok he h.1 h.2 dX0_isOne_47
def w_X0_isOne_37 (post : Int32 → Mem → Prop) (c : Nat) (x1 : Int32) (x2 : Int32) (S : Mem) : Prop := ((¬ x2 = x1 → w_X0_isOne_47 post c (0 : Int32) S) ∧ (x2 = x1 → w_X0_isOne_47 post c (1 : Int32) S))
set_option maxHeartbeats 4000000 in
set_option maxRecDepth 20000 in
theorem b_X0_isOne_37 {v : VxT} {l : Launch} {g : CxT} (ok : Ok l g (oX v) 4 cX0_isOne RX0 (some .boolean)) {post : Int32 → Mem → Prop} (he : EndQ g (oX v) (va_Qi post (fun S1 t => BX (oX v) S1 t) (AX (oX v)))) (c : Nat) (hc : kdX c = 4) (x1 : Int32) (x2 : Int32) (S : Mem) (h : w_X0_isOne_37 post c x1 x2 S) : G g (oX v) 3 4 37 [(1, .int x1), (2, .int x2)] [] S := by
  unfold w_X0_isOne_37 at h
  refine g_iload_n 1 (n := 38) ok dX0_isOne_37 rfl rfl ?_
  refine g_iload_n 0 (n := 39) ok dX0_isOne_38 rfl rfl ?_
  refine g_icmp_ne (t := 46) (n := 42) ok dX0_isOne_39 (by decide) rfl (fun e1 => ?_) (fun e1 => ?_)
  · replace h := h.1 e1
    refine g_iconst (v := 0) (n := 47) ok dX0_isOne_46 rfl (by decide) ?_
    exact g_sub [] rfl (b_X0_isOne_47 ok he c hc (0 : Int32) S h)
  · replace h := h.2 e1
    refine g_iconst (v := 1) (n := 43) ok dX0_isOne_42 rfl (by decide) ?_
    refine g_goto (t := 47) ok dX0_isOne_43 (by decide) ?_
    exact g_sub [] rfl (b_X0_isOne_47 ok he c hc (1 : Int32) S h)
def w_X0_isOne_7 (post : Int32 → Mem → Prop) (c : Nat) : Nat → Int32 → Int32 → Int32 → Mem → Prop
  | 0, _, _, _, _ => False
  | n + 1, x1, x2, x3, S => (((6 : Int32) ≤ x3 → w_X0_isOne_37 post c x1 x2 S) ∧ (¬ (6 : Int32) ≤ x3 → ((x2 = x1 → w_X0_isOne_37 post c x1 x2 S) ∧ (¬ x2 = x1 → w_X7_isKind x2 S (fun r1 S1 => ((r1 = 0 → w_X0_isOne_37 post c x1 x2 S1) ∧ (¬ r1 = 0 → (vp_in x2 6 ∧ (∀ z2 : Int32, z2 = tUnder.getD x2.toNatClampNeg 0 → (∀ z3 : Int32, z3 = x3 + 1 → w_X0_isOne_7 post c n x1 z2 z3 S1))))))))))
set_option maxHeartbeats 4000000 in
set_option maxRecDepth 20000 in
theorem b_X0_isOne_7 {v : VxT} {l : Launch} {g : CxT} (ok : Ok l g (oX v) 4 cX0_isOne RX0 (some .boolean)) {post : Int32 → Mem → Prop} (he : EndQ g (oX v) (va_Qi post (fun S1 t => BX (oX v) S1 t) (AX (oX v)))) (c : Nat) (hc : kdX c = 4) : ∀ (n : Nat) (x1 : Int32) (x2 : Int32) (x3 : Int32) (S : Mem), w_X0_isOne_7 post c n x1 x2 x3 S → G g (oX v) 3 4 7 [(1, .int x1), (2, .int x2), (3, .int x3)] [] S := by
  intro n
  induction n with
  | zero =>
    intro x1 x2 x3 S h
    exact h.elim
  | succ n ih =>
    intro x1 x2 x3 S h
    rw [w_X0_isOne_7] at h
    refine g_iload_n 2 (n := 8) ok dX0_isOne_7 rfl rfl ?_
    refine g_bipush (v := 6) (n := 10) ok dX0_isOne_8 rfl (by decide) ?_
    refine g_icmp_ge (t := 37) (n := 13) ok dX0_isOne_10 (by decide) rfl (fun e6 => ?_) (fun e6 => ?_)
    · replace h := h.1 e6
      exact g_sub [0, 1] rfl (b_X0_isOne_37 ok he c hc x1 x2 S h)
    · replace h := h.2 e6
      refine g_iload_n 1 (n := 14) ok dX0_isOne_13 rfl rfl ?_
      refine g_iload_n 0 (n := 15) ok dX0_isOne_14 rfl rfl ?_
      refine g_icmp_eq (t := 37) (n := 18) ok dX0_isOne_15 (by decide) rfl (fun e5 => ?_) (fun e5 => ?_)
      · replace h := h.1 e5
        exact g_sub [0, 1] rfl (b_X0_isOne_37 ok he c hc x1 x2 S h)
      · replace h := h.2 e5
        refine g_iload_n 1 (n := 19) ok dX0_isOne_18 rfl rfl ?_
        refine g_callSNi (n := 22) (As := [.int x2]) (rest := []) ok (c_X7_isKind l v x2 S _ h) cal_X7_isKind tw_615 tw_386 (by decide) (by decide) rfl (Nat.le_of_ble_eq_true rfl) dX0_isOne_19 rfl rfl (fun r1 S1 h => ?_)
        refine g_if_eq (t := 37) (n := 25) ok dX0_isOne_22 (by decide) rfl (fun e4 => ?_) (fun e4 => ?_)
        · replace h := h.1 e4
          exact g_sub [0, 1] rfl (b_X0_isOne_37 ok he c hc x1 x2 S1 h)
        · replace h := h.2 e4
          refine g_gets (C := "TableRocks$Leg") (n := 28) ok (fun _ _ h => h.1.1) tw_616 dX0_isOne_25 rfl ?_
          refine g_iload_n 1 (n := 29) ok dX0_isOne_28 rfl rfl ?_
          obtain ⟨h0, h⟩ := h
          refine g_ti (n := 30) (f := fun j => tUnder.getD j 0) ok (fun _ _ h => h.1.2) h0 dX0_isOne_29 rfl ?_
          refine g_topi (fun z2 ez2 => ?_)
          replace h := h z2 ez2
          refine g_istore_n [(2, .int z2), (1, .int x1), (3, .int x3)] (n := 31) ok dX0_isOne_30 rfl (by decide) rfl ?_
          obtain ⟨z3, ez3⟩ : ∃ y : Int32, y = x3 + 1 := ⟨_, rfl⟩
          replace h := h z3 ez3
          refine g_iinc 2 [(3, .int z3), (2, .int z2), (1, .int x1)] (v := z3) (n := 34) ok dX0_isOne_31 rfl rfl (by rw [ez3]; rfl) (by decide) rfl ?_
          refine g_goto (t := 7) ok dX0_isOne_34 (by decide) ?_
          exact g_sub [2, 1, 0] rfl (ih x1 z2 z3 S1 h)
def w_X0_isOne (c : Nat) (p1 : Int32) (S : Mem) (post : Int32 → Mem → Prop) : Prop := (∀ z1 : Int32, z1 = S c 0 → ∃ n, w_X0_isOne_7 post c n p1 z1 (0 : Int32) S)
set_option maxHeartbeats 4000000 in
set_option maxRecDepth 20000 in
theorem c_X0_isOne (l : Launch) (v : VxT) (c : Nat) (hc : kdX c = 4) (p1 : Int32) (S : Mem) (post : Int32 → Mem → Prop) (h : w_X0_isOne c p1 S post) : MI l yX0_isOne cX0_isOne 4 (some .boolean) 3 (oX v) [.ref (v.1 c), .int p1] S post := by
  refine met_start (by decide +kernel) (Nat.le_of_ble_eq_true rfl) (fun g ok he => ?_)
  refine g_eq (L' := [(0, .ref (v.1 c)), (1, .int p1)]) (st' := []) ?_ rfl rfl
  unfold w_X0_isOne at h
  refine g_aload_n 0 (n := 1) ok dX0_isOne_0 rfl rfl ?_
  refine fg_X0_X0_kind (n := 4) c hc ok dX0_isOne_1 rfl ?_
  refine g_topi (fun z1 ez1 => ?_)
  replace h := h z1 ez1
  refine g_istore_n [(2, .int z1), (0, .ref (v.1 c)), (1, .int p1)] (n := 5) ok dX0_isOne_4 rfl (by decide) rfl ?_
  refine g_iconst (v := 0) (n := 6) ok dX0_isOne_5 rfl (by decide) ?_
  refine g_istore_n [(3, .int (0 : Int32)), (2, .int z1), (0, .ref (v.1 c)), (1, .int p1)] (n := 7) ok dX0_isOne_6 rfl (by decide) rfl ?_
  obtain ⟨n0, h⟩ := h
  exact g_sub [3, 1, 0] rfl (b_X0_isOne_7 ok he c hc n0 p1 z1 (0 : Int32) S h)
def w_X0_canScrew_28 (post : Int32 → Mem → Prop) (c : Nat) (y0 : Int32) (S : Mem) : Prop := (y0 = 0 ∨ y0 = 1) ∧ post y0 S
set_option maxHeartbeats 4000000 in
set_option maxRecDepth 20000 in
theorem b_X0_canScrew_28 {v : VxT} {l : Launch} {g : CxT} (ok : Ok l g (oX v) 2 cX0_canScrew RX0 (some .boolean)) {post : Int32 → Mem → Prop} (he : EndQ g (oX v) (va_Qi post (fun S1 t => BX (oX v) S1 t) (AX (oX v)))) (c : Nat) (hc : kdX c = 4) (y0 : Int32) (S : Mem) (h : w_X0_canScrew_28 post c y0 S) : G g (oX v) 4 2 28 [] [.int y0] S := by
  unfold w_X0_canScrew_28 at h
  exact g_zret ok he h.1 h.2 dX0_canScrew_28
def w_X0_canScrew_27 (post : Int32 → Mem → Prop) (c : Nat) (S : Mem) : Prop := w_X0_canScrew_28 post c (0 : Int32) S
set_option maxHeartbeats 4000000 in
set_option maxRecDepth 20000 in
theorem b_X0_canScrew_27 {v : VxT} {l : Launch} {g : CxT} (ok : Ok l g (oX v) 2 cX0_canScrew RX0 (some .boolean)) {post : Int32 → Mem → Prop} (he : EndQ g (oX v) (va_Qi post (fun S1 t => BX (oX v) S1 t) (AX (oX v)))) (c : Nat) (hc : kdX c = 4) (S : Mem) (h : w_X0_canScrew_27 post c  S) : G g (oX v) 4 2 27 [] [] S := by
  unfold w_X0_canScrew_27 at h
  refine g_iconst (v := 0) (n := 28) ok dX0_canScrew_27 rfl (by decide) ?_
  exact g_sub [] rfl (b_X0_canScrew_28 ok he c hc (0 : Int32) S h)
def w_X0_canScrew (c : Nat) (p1 : Int32) (S : Mem) (post : Int32 → Mem → Prop) : Prop := w_X0_isOne c (2 : Int32) S (fun r1 S1 => ((r1 = 0 → w_X0_canScrew_27 post c  S1) ∧ (¬ r1 = 0 → w_X7_within ((S1 c 2) + p1) (0 : Int32) (9 : Int32) S1 (fun r2 S2 => ((r2 = 0 → w_X0_canScrew_27 post c  S2) ∧ (¬ r2 = 0 → w_X0_canScrew_28 post c (1 : Int32) S2))))))
set_option maxHeartbeats 4000000 in
set_option maxRecDepth 20000 in
theorem c_X0_canScrew (l : Launch) (v : VxT) (c : Nat) (hc : kdX c = 4) (p1 : Int32) (S : Mem) (post : Int32 → Mem → Prop) (h : w_X0_canScrew c p1 S post) : MI l yX0_canScrew cX0_canScrew 2 (some .boolean) 4 (oX v) [.ref (v.1 c), .int p1] S post := by
  refine met_start (by decide +kernel) (Nat.le_of_ble_eq_true rfl) (fun g ok he => ?_)
  refine g_eq (L' := [(0, .ref (v.1 c)), (1, .int p1)]) (st' := []) ?_ rfl rfl
  unfold w_X0_canScrew at h
  refine g_aload_n 0 (n := 1) ok dX0_canScrew_0 rfl rfl ?_
  refine g_iconst (v := 2) (n := 2) ok dX0_canScrew_1 rfl (by decide) ?_
  refine g_callVi (n := 5) (As := [.int (2 : Int32)]) (rest := []) (c := c) ok (c_X0_isOne l v c hc (2 : Int32) S _ h) cal_X0_isOne tw_611 tw_613 tp_48 (lt4 hc) (sh4 hc _) rfl (by decide) (by decide) rfl (Nat.le_of_ble_eq_true rfl) dX0_canScrew_2 rfl rfl (fun r1 S1 h => ?_)
  refine g_if_eq (t := 27) (n := 8) ok dX0_canScrew_5 (by decide) rfl (fun e4 => ?_) (fun e4 => ?_)
  · replace h := h.1 e4
    exact g_sub [] rfl (b_X0_canScrew_27 ok he c hc  S1 h)
  · replace h := h.2 e4
    refine g_aload_n 0 (n := 9) ok dX0_canScrew_8 rfl rfl ?_
    refine fg_X0_X0_number (n := 12) c hc ok dX0_canScrew_9 rfl ?_
    refine g_iload_n 1 (n := 13) ok dX0_canScrew_12 rfl rfl ?_
    refine g_iadd (n := 14) ok dX0_canScrew_13 rfl ?_
    refine g_iconst (v := 0) (n := 15) ok dX0_canScrew_14 rfl (by decide) ?_
    refine g_bipush (v := 9) (n := 17) ok dX0_canScrew_15 rfl (by decide) ?_
    refine g_callSNi (n := 20) (As := [.int ((S1 c 2) + p1), .int (0 : Int32), .int (9 : Int32)]) (rest := []) ok (c_X7_within l v ((S1 c 2) + p1) (0 : Int32) (9 : Int32) S1 _ h) cal_X7_within tw_618 tw_253 (by decide) (by decide) rfl (Nat.le_of_ble_eq_true rfl) dX0_canScrew_17 rfl rfl (fun r2 S2 h => ?_)
    refine g_if_eq (t := 27) (n := 23) ok dX0_canScrew_20 (by decide) rfl (fun e3 => ?_) (fun e3 => ?_)
    · replace h := h.1 e3
      exact g_sub [] rfl (b_X0_canScrew_27 ok he c hc  S2 h)
    · replace h := h.2 e3
      refine g_iconst (v := 1) (n := 24) ok dX0_canScrew_23 rfl (by decide) ?_
      refine g_goto (t := 28) ok dX0_canScrew_24 (by decide) ?_
      exact g_sub [] rfl (b_X0_canScrew_28 ok he c hc (1 : Int32) S2 h)
def w_X0_shorten (c : Nat) (p1 : Int32) (S : Mem) (post : Mem → Prop) : Prop := (∀ S1 : Mem, S1 = mset S c (upd (S c) 1 (jmax (0 : Int32) ((S c 1) - p1))) → post S1)
set_option maxHeartbeats 4000000 in
set_option maxRecDepth 20000 in
theorem c_X0_shorten (l : Launch) (v : VxT) (c : Nat) (hc : kdX c = 4) (p1 : Int32) (S : Mem) (post : Mem → Prop) (h : w_X0_shorten c p1 S post) : MV l yX0_shorten cX0_shorten 2 none 2 (oX v) [.ref (v.1 c), .int p1] S post := by
  refine met_start (by decide +kernel) (Nat.le_of_ble_eq_true rfl) (fun g ok he => ?_)
  refine g_eq (L' := [(0, .ref (v.1 c)), (1, .int p1)]) (st' := []) ?_ rfl rfl
  unfold w_X0_shorten at h
  refine g_aload_n 0 (n := 1) ok dX0_shorten_0 rfl rfl ?_
  refine g_iconst (v := 0) (n := 2) ok dX0_shorten_1 rfl (by decide) ?_
  refine g_aload_n 0 (n := 3) ok dX0_shorten_2 rfl rfl ?_
  refine fg_X0_X0_length (n := 6) c hc ok dX0_shorten_3 rfl ?_
  refine g_iload_n 1 (n := 7) ok dX0_shorten_6 rfl rfl ?_
  refine g_isub (n := 8) ok dX0_shorten_7 rfl ?_
  refine g_mmax (n := 11) ok tw_416 tw_417 tw_15 tw_418 (by decide) (Nat.le_of_ble_eq_true rfl) dX0_shorten_8 rfl ?_
  refine fp_X0_X0_length (n := 14) c hc ok dX0_shorten_11 rfl ?_
  refine g_mem (fun S1 eS1 => ?_)
  replace h := h S1 eS1
  exact g_vret ok he h dX0_shorten_14
def w_J9_floorMod_7cf53_18 (post : Int32 → Mem → Prop) (x2 : Int32) (S : Mem) : Prop := post x2 S
set_option maxHeartbeats 4000000 in
set_option maxRecDepth 20000 in
theorem b_J9_floorMod_7cf53_18 {v : VxT} {l : Launch} {g : CxT} (ok : Ok l g (oX v) 3 cJ9_floorMod_7cf53 RJ9 (some .int)) {post : Int32 → Mem → Prop} (he : EndQ g (oX v) (va_Qi post (fun S1 t => BX (oX v) S1 t) (AX (oX v)))) (x2 : Int32) (S : Mem) (h : w_J9_floorMod_7cf53_18 post x2 S) : G g (oX v) 1 3 18 [(2, .int x2)] [] S := by
  unfold w_J9_floorMod_7cf53_18 at h
  refine g_iload_n 0 (n := 19) ok dJ9_floorMod_7cf53_18 rfl rfl ?_
  exact g_iret ok he h dJ9_floorMod_7cf53_19
def w_J9_floorMod_7cf53 (p0 : Int32) (p1 : Int32) (S : Mem) (post : Int32 → Mem → Prop) : Prop := (¬ p1 = 0 ∧ (∀ z1 : Int32, z1 = jrem p0 p1 → ((0 ≤ (p0 ^^^ p1) → w_J9_floorMod_7cf53_18 post z1 S) ∧ (¬ 0 ≤ (p0 ^^^ p1) → ((z1 = 0 → w_J9_floorMod_7cf53_18 post z1 S) ∧ (¬ z1 = 0 → post (z1 + p1) S))))))
set_option maxHeartbeats 4000000 in
set_option maxRecDepth 20000 in
theorem c_J9_floorMod_7cf53 (l : Launch) (v : VxT) (p0 : Int32) (p1 : Int32) (S : Mem) (post : Int32 → Mem → Prop) (h : w_J9_floorMod_7cf53 p0 p1 S post) : MI l yJ9_floorMod_7cf53 cJ9_floorMod_7cf53 3 (some .int) 1 (oX v) [.int p0, .int p1] S post := by
  refine met_startF (by decide +kernel) (Nat.le_of_ble_eq_true rfl) (fun g ok he => ?_)
  refine g_eq (L' := [(0, .int p0), (1, .int p1)]) (st' := []) ?_ rfl rfl
  unfold w_J9_floorMod_7cf53 at h
  refine g_iload_n 0 (n := 1) ok dJ9_floorMod_7cf53_0 rfl rfl ?_
  refine g_iload_n 1 (n := 2) ok dJ9_floorMod_7cf53_1 rfl rfl ?_
  obtain ⟨h0, h⟩ := h
  refine g_irem (n := 3) ok dJ9_floorMod_7cf53_2 rfl h0 ?_
  refine g_topi (fun z1 ez1 => ?_)
  replace h := h z1 ez1
  refine g_istore_n [(2, .int z1), (0, .int p0), (1, .int p1)] (n := 4) ok dJ9_floorMod_7cf53_3 rfl (by decide) rfl ?_
  refine g_iload_n 1 (n := 5) ok dJ9_floorMod_7cf53_4 rfl rfl ?_
  refine g_iload_n 2 (n := 6) ok dJ9_floorMod_7cf53_5 rfl rfl ?_
  refine g_ixor (n := 7) ok dJ9_floorMod_7cf53_6 rfl ?_
  refine g_if_ge (t := 18) (n := 10) ok dJ9_floorMod_7cf53_7 (by decide) rfl (fun e3 => ?_) (fun e3 => ?_)
  · replace h := h.1 e3
    exact g_sub [0] rfl (b_J9_floorMod_7cf53_18 ok he z1 S h)
  · replace h := h.2 e3
    refine g_iload_n 0 (n := 11) ok dJ9_floorMod_7cf53_10 rfl rfl ?_
    refine g_if_eq (t := 18) (n := 14) ok dJ9_floorMod_7cf53_11 (by decide) rfl (fun e2 => ?_) (fun e2 => ?_)
    · replace h := h.1 e2
      exact g_sub [0] rfl (b_J9_floorMod_7cf53_18 ok he z1 S h)
    · replace h := h.2 e2
      refine g_iload_n 0 (n := 15) ok dJ9_floorMod_7cf53_14 rfl rfl ?_
      refine g_iload_n 2 (n := 16) ok dJ9_floorMod_7cf53_15 rfl rfl ?_
      refine g_iadd (n := 17) ok dJ9_floorMod_7cf53_16 rfl ?_
      exact g_iret ok he h dJ9_floorMod_7cf53_17
