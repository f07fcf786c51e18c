def w_X2_append_30 (post : Mem → Prop) (c : Nat) (S : Mem) : Prop := post S
set_option maxHeartbeats 4000000 in
set_option maxRecDepth 20000 in
theorem b_X2_append_30 {v : VxT} {l : Launch} {g : CxT} (ok : Ok l g (oX v) 2 cX2_append RX2 none) (c : Nat) (hc : kdX c = 7) {post : Mem → Prop} (he : EndQ g (oX v) (va_Qv post (fun S1 t => BX (oX v) S1 t) (AX (oX v)))) (S : Mem) (h : w_X2_append_30 post c  S) : G g (oX v) 1 2 30 [] [] S := by
  unfold w_X2_append_30 at h
  exact g_vret ok he h dX2_append_30
def w_X2_append (c : Nat) (p1 : Int32) (S : Mem) (post : Mem → Prop) : Prop := (((160 : Int32) ≤ (S c 2) → w_X2_append_30 post c  S) ∧ (¬ (160 : Int32) ≤ (S c 2) → (vp_in (S c 2) 160 ∧ (∀ S1 : Mem, S1 = mset S (c + 1) (upd (S (c + 1)) (S c 2).toNatClampNeg p1) → (∀ S2 : Mem, S2 = mset S1 c (upd (S1 c) 2 ((S1 c 2) + (1 : Int32))) → w_X2_append_30 post c  S2)))))
set_option maxHeartbeats 4000000 in
set_option maxRecDepth 20000 in
theorem c_X2_append (l : Launch) (v : VxT) (c : Nat) (hc : kdX c = 7) (p1 : Int32) (S : Mem) (post : Mem → Prop) (h : w_X2_append c p1 S post) : MV l yX2_append cX2_append 2 none 1 (oX v) [.ref (v.1 c), .int p1] S post := by
  refine met_start (by decide +kernel) (Nat.le_of_ble_eq_true rfl) (fun g ok he => ?_)
  refine g_eq (L' := [(0, .ref (v.1 c)), (1, .int p1)]) (st' := []) ?_ rfl rfl
  unfold w_X2_append at h
  refine g_aload_n 0 (n := 1) ok dX2_append_0 rfl rfl ?_
  refine fg_X2_X2_size (n := 4) c hc ok dX2_append_1 rfl ?_
  refine g_sipush (v := 160) (n := 7) ok dX2_append_4 rfl (by decide) ?_
  refine g_icmp_ge (t := 30) (n := 10) ok dX2_append_7 (by decide) rfl (fun e3 => ?_) (fun e3 => ?_)
  · replace h := h.1 e3
    exact g_sub [] rfl (b_X2_append_30 ok c hc he  S h)
  · replace h := h.2 e3
    refine g_aload_n 0 (n := 11) ok dX2_append_10 rfl rfl ?_
    refine fg_X2_X2_code (n := 14) c hc ok dX2_append_11 rfl ?_
    refine g_aload_n 0 (n := 15) ok dX2_append_14 rfl rfl ?_
    refine fg_X2_X2_size (n := 18) c hc ok dX2_append_15 rfl ?_
    refine g_iload_n 1 (n := 19) ok dX2_append_18 rfl rfl ?_
    obtain ⟨h0, h⟩ := h
    refine g_iast (c := (c + 1)) (t0 := 0) (n := 20) ok (lt6 (kd7_code hc)) (fun f => sh6 (kd7_code hc) f) rfl h0 dX2_append_19 rfl ?_
    refine g_mem (fun S1 eS1 => ?_)
    replace h := h S1 eS1
    refine g_aload_n 0 (n := 21) ok dX2_append_20 rfl rfl ?_
    refine g_dup (n := 22) ok dX2_append_21 rfl rfl ?_
    refine fg_X2_X2_size (n := 25) c hc ok dX2_append_22 rfl ?_
    refine g_iconst (v := 1) (n := 26) ok dX2_append_25 rfl (by decide) ?_
    refine g_iadd (n := 27) ok dX2_append_26 rfl ?_
    refine fp_X2_X2_size (n := 30) c hc ok dX2_append_27 rfl ?_
    refine g_mem (fun S2 eS2 => ?_)
    replace h := h S2 eS2
    exact g_sub [] rfl (b_X2_append_30 ok c hc he  S2 h)
def w_X6_nameIndex (p0 : Int32) (S : Mem) (post : Int32 → Mem → Prop) : Prop := post ((-1 : Int32) - p0) S
set_option maxHeartbeats 4000000 in
set_option maxRecDepth 20000 in
theorem c_X6_nameIndex (l : Launch) (v : VxT) (p0 : Int32) (S : Mem) (post : Int32 → Mem → Prop) (h : w_X6_nameIndex p0 S post) : MI l yX6_nameIndex cX6_nameIndex 1 (some .int) 1 (oX v) [.int p0] S post := by
  refine met_start (by decide +kernel) (Nat.le_of_ble_eq_true rfl) (fun g ok he => ?_)
  refine g_eq (L' := [(0, .int p0)]) (st' := []) ?_ rfl rfl
  unfold w_X6_nameIndex at h
  refine g_iconst (v := -1) (n := 1) ok dX6_nameIndex_0 rfl (by decide) ?_
  refine g_iload_n 0 (n := 2) ok dX6_nameIndex_1 rfl rfl ?_
  refine g_isub (n := 3) ok dX6_nameIndex_2 rfl ?_
  exact g_iret ok he h dX6_nameIndex_3
def w_X6_isName (p0 : Int32) (S : Mem) (post : Int32 → Mem → Prop) : Prop := w_X6_nameIndex p0 S (fun r1 S1 => w_X7_within r1 (0 : Int32) (5 : Int32) S1 (fun r2 S2 => (r2 = 0 ∨ r2 = 1) ∧ post r2 S2))
set_option maxHeartbeats 4000000 in
set_option maxRecDepth 20000 in
theorem c_X6_isName (l : Launch) (v : VxT) (p0 : Int32) (S : Mem) (post : Int32 → Mem → Prop) (h : w_X6_isName p0 S post) : MI l yX6_isName cX6_isName 1 (some .boolean) 2 (oX v) [.int p0] S post := by
  refine met_start (by decide +kernel) (Nat.le_of_ble_eq_true rfl) (fun g ok he => ?_)
  refine g_eq (L' := [(0, .int p0)]) (st' := []) ?_ rfl rfl
  unfold w_X6_isName at h
  refine g_iload_n 0 (n := 1) ok dX6_isName_0 rfl rfl ?_
  refine g_callSi (n := 4) (As := [.int p0]) (rest := []) ok (c_X6_nameIndex l v p0 S _ h) cal_X6_nameIndex tw_327 tw_328 (by decide) (by decide) rfl (Nat.le_of_ble_eq_true rfl) dX6_isName_1 rfl rfl (fun r1 S1 h => ?_)
  refine g_iconst (v := 0) (n := 5) ok dX6_isName_4 rfl (by decide) ?_
  refine g_iconst (v := 5) (n := 6) ok dX6_isName_5 rfl (by decide) ?_
  refine g_callSNi (n := 9) (As := [.int r1, .int (0 : Int32), .int (5 : Int32)]) (rest := []) ok (c_X7_within l v r1 (0 : Int32) (5 : Int32) S1 _ h) cal_X7_within tw_330 tw_253 (by decide) (by decide) rfl (Nat.le_of_ble_eq_true rfl) dX6_isName_6 rfl rfl (fun r2 S2 h => ?_)
  exact g_zret ok he h.1 h.2 dX6_isName_9
def w_X1_readOneB_127 (Q_readOne : Int32 → Mem → (Mem → Prop) → Prop) (Q_readOr : Int32 → Mem → (Mem → Prop) → Prop) (post : Mem → Prop) (S : Mem) : Prop := post S
set_option maxHeartbeats 4000000 in
set_option maxRecDepth 20000 in
theorem b_X1_readOneB_127 {v : VxT} {l : Launch} {g : CxT} {Q_readOne : Int32 → Mem → (Mem → Prop) → Prop} {Q_readOr : Int32 → Mem → (Mem → Prop) → Prop} (ok : Ok l g (oX v) 2 cX1_readOne RX1 none) {lv : Nat} (hlv : 10 ≤ lv) (HQ_readOne : ∀ (p1 : Int32) (S : Mem) (post : Mem → Prop), Q_readOne p1 S post → MV l yX1_readOne cX1_readOne 2 none lv (oX v) [.ref (v.1 15), .int p1] S post) (HQ_readOr : ∀ (p1 : Int32) (S : Mem) (post : Mem → Prop), Q_readOr p1 S post → MV l yX1_readOr cX1_readOr 3 none lv (oX v) [.ref (v.1 15), .int p1] S post) {post : Mem → Prop} (he : EndQ g (oX v) (va_Qv post (fun S1 t => BX (oX v) S1 t) (AX (oX v)))) (S : Mem) (h : w_X1_readOneB_127 Q_readOne Q_readOr post  S) : G g (oX v) (lv + 1) 2 127 [] [] S := by
  unfold w_X1_readOneB_127 at h
  exact g_vret ok he h dX1_readOne_127
def w_X1_readOneB_123 (Q_readOne : Int32 → Mem → (Mem → Prop) → Prop) (Q_readOr : Int32 → Mem → (Mem → Prop) → Prop) (post : Mem → Prop) (S : Mem) : Prop := w_X1_fail  S (fun S1 => w_X1_readOneB_127 Q_readOne Q_readOr post  S1)
set_option maxHeartbeats 4000000 in
set_option maxRecDepth 20000 in
theorem b_X1_readOneB_123 {v : VxT} {l : Launch} {g : CxT} {Q_readOne : Int32 → Mem → (Mem → Prop) → Prop} {Q_readOr : Int32 → Mem → (Mem → Prop) → Prop} (ok : Ok l g (oX v) 2 cX1_readOne RX1 none) {lv : Nat} (hlv : 10 ≤ lv) (HQ_readOne : ∀ (p1 : Int32) (S : Mem) (post : Mem → Prop), Q_readOne p1 S post → MV l yX1_readOne cX1_readOne 2 none lv (oX v) [.ref (v.1 15), .int p1] S post) (HQ_readOr : ∀ (p1 : Int32) (S : Mem) (post : Mem → Prop), Q_readOr p1 S post → MV l yX1_readOr cX1_readOr 3 none lv (oX v) [.ref (v.1 15), .int p1] S post) {post : Mem → Prop} (he : EndQ g (oX v) (va_Qv post (fun S1 t => BX (oX v) S1 t) (AX (oX v)))) (S : Mem) (h : w_X1_readOneB_123 Q_readOne Q_readOr post  S) : G g (oX v) (lv + 1) 2 123 [(0, .ref (v.1 15))] [] S := by
  unfold w_X1_readOneB_123 at h
  refine g_aload_n 0 (n := 124) ok dX1_readOne_123 rfl rfl ?_
  refine g_callVv (n := 127) (As := []) (rest := []) (c := 15) ok (c_X1_fail l v  S _ h) cal_X1_fail tw_292 tw_294 tp_8 (lt5 rfl) (sh5 rfl _) rfl (by omega) (by decide) rfl (Nat.le_of_ble_eq_true rfl) dX1_readOne_124 rfl rfl (fun S1 h => ?_)
  exact g_sub [] rfl (b_X1_readOneB_127 ok hlv HQ_readOne HQ_readOr he  S1 h)
def w_X1_readOneB_91 (Q_readOne : Int32 → Mem → (Mem → Prop) → Prop) (Q_readOr : Int32 → Mem → (Mem → Prop) → Prop) (post : Mem → Prop) (x1 : Int32) (S : Mem) : Prop := ((¬ (S 15 3) = (3 : Int32) → w_X1_readOneB_123 Q_readOne Q_readOr post  S) ∧ ((S 15 3) = (3 : Int32) → (((5 : Int32) ≤ x1 → w_X1_readOneB_123 Q_readOne Q_readOr post  S) ∧ (¬ (5 : Int32) ≤ x1 → w_X1_advance  S (fun S1 => Q_readOr (x1 + (1 : Int32)) S1 (fun S2 => w_X1_accept (4 : Int32) S2 (fun S3 => w_X1_readOneB_127 Q_readOne Q_readOr post  S3)))))))
set_option maxHeartbeats 4000000 in
set_option maxRecDepth 20000 in
theorem b_X1_readOneB_91 {v : VxT} {l : Launch} {g : CxT} {Q_readOne : Int32 → Mem → (Mem → Prop) → Prop} {Q_readOr : Int32 → Mem → (Mem → Prop) → Prop} (ok : Ok l g (oX v) 2 cX1_readOne RX1 none) {lv : Nat} (hlv : 10 ≤ lv) (HQ_readOne : ∀ (p1 : Int32) (S : Mem) (post : Mem → Prop), Q_readOne p1 S post → MV l yX1_readOne cX1_readOne 2 none lv (oX v) [.ref (v.1 15), .int p1] S post) (HQ_readOr : ∀ (p1 : Int32) (S : Mem) (post : Mem → Prop), Q_readOr p1 S post → MV l yX1_readOr cX1_readOr 3 none lv (oX v) [.ref (v.1 15), .int p1] S post) {post : Mem → Prop} (he : EndQ g (oX v) (va_Qv post (fun S1 t => BX (oX v) S1 t) (AX (oX v)))) (x1 : Int32) (S : Mem) (h : w_X1_readOneB_91 Q_readOne Q_readOr post x1 S) : G g (oX v) (lv + 1) 2 91 [(0, .ref (v.1 15)), (1, .int x1)] [] S := by
  unfold w_X1_readOneB_91 at h
  refine g_aload_n 0 (n := 92) ok dX1_readOne_91 rfl rfl ?_
  refine fg_X1_X1_token (n := 95) 15 rfl ok dX1_readOne_92 rfl ?_
  refine g_iconst (v := 3) (n := 96) ok dX1_readOne_95 rfl (by decide) ?_
  refine g_icmp_ne (t := 123) (n := 99) ok dX1_readOne_96 (by decide) rfl (fun e5 => ?_) (fun e5 => ?_)
  · replace h := h.1 e5
    exact g_sub [0] rfl (b_X1_readOneB_123 ok hlv HQ_readOne HQ_readOr he  S h)
  · replace h := h.2 e5
    refine g_iload_n 1 (n := 100) ok dX1_readOne_99 rfl rfl ?_
    refine g_iconst (v := 5) (n := 101) ok dX1_readOne_100 rfl (by decide) ?_
    refine g_icmp_ge (t := 123) (n := 104) ok dX1_readOne_101 (by decide) rfl (fun e4 => ?_) (fun e4 => ?_)
    · replace h := h.1 e4
      exact g_sub [0] rfl (b_X1_readOneB_123 ok hlv HQ_readOne HQ_readOr he  S h)
    · replace h := h.2 e4
      refine g_aload_n 0 (n := 105) ok dX1_readOne_104 rfl rfl ?_
      refine g_callVv (n := 108) (As := []) (rest := []) (c := 15) ok (c_X1_advance l v  S _ h) cal_X1_advance tw_248 tw_250 tp_2 (lt5 rfl) (sh5 rfl _) rfl (by omega) (by decide) rfl (Nat.le_of_ble_eq_true rfl) dX1_readOne_105 rfl rfl (fun S1 h => ?_)
      refine g_aload_n 0 (n := 109) ok dX1_readOne_108 rfl rfl ?_
      refine g_iload_n 1 (n := 110) ok dX1_readOne_109 rfl rfl ?_
      refine g_iconst (v := 1) (n := 111) ok dX1_readOne_110 rfl (by decide) ?_
      refine g_iadd (n := 112) ok dX1_readOne_111 rfl ?_
      refine g_callVv (n := 115) (As := [.int (x1 + (1 : Int32))]) (rest := []) (c := 15) ok (HQ_readOr (x1 + (1 : Int32)) S1 _ h) cal_X1_readOr tw_296 tw_298 tp_9 (lt5 rfl) (sh5 rfl _) rfl (by omega) (by decide) rfl (Nat.le_of_ble_eq_true rfl) dX1_readOne_112 rfl rfl (fun S2 h => ?_)
      refine g_aload_n 0 (n := 116) ok dX1_readOne_115 rfl rfl ?_
      refine g_iconst (v := 4) (n := 117) ok dX1_readOne_116 rfl (by decide) ?_
      refine g_callVv (n := 120) (As := [.int (4 : Int32)]) (rest := []) (c := 15) ok (c_X1_accept l v (4 : Int32) S2 _ h) cal_X1_accept tw_288 tw_290 tp_7 (lt5 rfl) (sh5 rfl _) rfl (by omega) (by decide) rfl (Nat.le_of_ble_eq_true rfl) dX1_readOne_117 rfl rfl (fun S3 h => ?_)
      refine g_goto (t := 127) ok dX1_readOne_120 (by decide) ?_
      exact g_sub [] rfl (b_X1_readOneB_127 ok hlv HQ_readOne HQ_readOr he  S3 h)
def w_X1_readOneB (Q_readOne : Int32 → Mem → (Mem → Prop) → Prop) (Q_readOr : Int32 → Mem → (Mem → Prop) → Prop) (p1 : Int32) (S : Mem) (post : Mem → Prop) : Prop := ((¬ (S 15 3) = (2 : Int32) → w_X6_isName (S 15 3) S (fun r1 S1 => ((r1 = 0 → ((¬ (S1 15 3) = (-13 : Int32) → w_X1_readOneB_91 Q_readOne Q_readOr post p1 S1) ∧ ((S1 15 3) = (-13 : Int32) → (((5 : Int32) ≤ p1 → w_X1_readOneB_91 Q_readOne Q_readOr post p1 S1) ∧ (¬ (5 : Int32) ≤ p1 → w_X1_advance  S1 (fun S2 => Q_readOne (p1 + (1 : Int32)) S2 (fun S3 => w_X2_append 17 (-15 : Int32) S3 (fun S4 => w_X1_readOneB_127 Q_readOne Q_readOr post  S4)))))))) ∧ (¬ r1 = 0 → w_X2_append 17 (S1 15 3) S1 (fun S7 => w_X1_advance  S7 (fun S8 => w_X1_readOneB_127 Q_readOne Q_readOr post  S8)))))) ∧ ((S 15 3) = (2 : Int32) → w_X2_append 17 (S 15 6) S (fun S10 => w_X1_advance  S10 (fun S11 => w_X1_readOneB_127 Q_readOne Q_readOr post  S11))))
set_option maxHeartbeats 4000000 in
set_option maxRecDepth 20000 in
theorem c_X1_readOneB {Q_readOne : Int32 → Mem → (Mem → Prop) → Prop} {Q_readOr : Int32 → Mem → (Mem → Prop) → Prop} (l : Launch) (v : VxT) {lv : Nat} (hlv : 10 ≤ lv) (HQ_readOne : ∀ (p1 : Int32) (S : Mem) (post : Mem → Prop), Q_readOne p1 S post → MV l yX1_readOne cX1_readOne 2 none lv (oX v) [.ref (v.1 15), .int p1] S post) (HQ_readOr : ∀ (p1 : Int32) (S : Mem) (post : Mem → Prop), Q_readOr p1 S post → MV l yX1_readOr cX1_readOr 3 none lv (oX v) [.ref (v.1 15), .int p1] S post) (p1 : Int32) (S : Mem) (post : Mem → Prop) (h : w_X1_readOneB Q_readOne Q_readOr p1 S post) : MV l yX1_readOne cX1_readOne 2 none (lv + 1) (oX v) [.ref (v.1 15), .int p1] S post := by
  refine met_start (by decide +kernel) (Nat.le_of_ble_eq_true rfl) (fun g ok he => ?_)
  refine g_eq (L' := [(0, .ref (v.1 15)), (1, .int p1)]) (st' := []) ?_ rfl rfl
  unfold w_X1_readOneB at h
  refine g_aload_n 0 (n := 1) ok dX1_readOne_0 rfl rfl ?_
  refine fg_X1_X1_token (n := 4) 15 rfl ok dX1_readOne_1 rfl ?_
  refine g_iconst (v := 2) (n := 5) ok dX1_readOne_4 rfl (by decide) ?_
  refine g_icmp_ne (t := 26) (n := 8) ok dX1_readOne_5 (by decide) rfl (fun e12 => ?_) (fun e12 => ?_)
  · replace h := h.1 e12
    refine g_aload_n 0 (n := 27) ok dX1_readOne_26 rfl rfl ?_
    refine fg_X1_X1_token (n := 30) 15 rfl ok dX1_readOne_27 rfl ?_
    refine g_callSNi (n := 33) (As := [.int (S 15 3)]) (rest := []) ok (c_X6_isName l v (S 15 3) S _ h) cal_X6_isName tw_324 tw_325 (by omega) (by decide) rfl (Nat.le_of_ble_eq_true rfl) dX1_readOne_30 rfl rfl (fun r1 S1 h => ?_)
    refine g_if_eq (t := 54) (n := 36) ok dX1_readOne_33 (by decide) rfl (fun e9 => ?_) (fun e9 => ?_)
    · replace h := h.1 e9
      refine g_aload_n 0 (n := 55) ok dX1_readOne_54 rfl rfl ?_
      refine fg_X1_X1_token (n := 58) 15 rfl ok dX1_readOne_55 rfl ?_
      refine g_bipush (v := -13) (n := 60) ok dX1_readOne_58 rfl (by decide) ?_
      refine g_icmp_ne (t := 91) (n := 63) ok dX1_readOne_60 (by decide) rfl (fun e6 => ?_) (fun e6 => ?_)
      · replace h := h.1 e6
        exact g_sub [0, 1] rfl (b_X1_readOneB_91 ok hlv HQ_readOne HQ_readOr he p1 S1 h)
      · replace h := h.2 e6
        refine g_iload_n 1 (n := 64) ok dX1_readOne_63 rfl rfl ?_
        refine g_iconst (v := 5) (n := 65) ok dX1_readOne_64 rfl (by decide) ?_
        refine g_icmp_ge (t := 91) (n := 68) ok dX1_readOne_65 (by decide) rfl (fun e5 => ?_) (fun e5 => ?_)
        · replace h := h.1 e5
          exact g_sub [0, 1] rfl (b_X1_readOneB_91 ok hlv HQ_readOne HQ_readOr he p1 S1 h)
        · replace h := h.2 e5
          refine g_aload_n 0 (n := 69) ok dX1_readOne_68 rfl rfl ?_
          refine g_callVv (n := 72) (As := []) (rest := []) (c := 15) ok (c_X1_advance l v  S1 _ h) cal_X1_advance tw_248 tw_250 tp_2 (lt5 rfl) (sh5 rfl _) rfl (by omega) (by decide) rfl (Nat.le_of_ble_eq_true rfl) dX1_readOne_69 rfl rfl (fun S2 h => ?_)
          refine g_aload_n 0 (n := 73) ok dX1_readOne_72 rfl rfl ?_
          refine g_iload_n 1 (n := 74) ok dX1_readOne_73 rfl rfl ?_
          refine g_iconst (v := 1) (n := 75) ok dX1_readOne_74 rfl (by decide) ?_
          refine g_iadd (n := 76) ok dX1_readOne_75 rfl ?_
          refine g_callVv (n := 79) (As := [.int (p1 + (1 : Int32))]) (rest := []) (c := 15) ok (HQ_readOne (p1 + (1 : Int32)) S2 _ h) cal_X1_readOne tw_320 tw_322 tp_15 (lt5 rfl) (sh5 rfl _) rfl (by omega) (by decide) rfl (Nat.le_of_ble_eq_true rfl) dX1_readOne_76 rfl rfl (fun S3 h => ?_)
          refine g_aload_n 0 (n := 80) ok dX1_readOne_79 rfl rfl ?_
          refine fg_X1_X1_rule (n := 83) 15 rfl ok dX1_readOne_80 rfl ?_
          refine g_bipush (v := -15) (n := 85) ok dX1_readOne_83 rfl (by decide) ?_
          refine g_callVNv (n := 88) (As := [.int (-15 : Int32)]) (rest := []) (c := 17) ok (c_X2_append l v 17 rfl (-15 : Int32) S3 _ h) cal_X2_append tw_308 tw_310 tp_12 (lt7 rfl) (sh7 rfl _) rfl (by omega) (by decide) rfl (Nat.le_of_ble_eq_true rfl) dX1_readOne_85 rfl rfl (fun S4 h => ?_)
          refine g_goto (t := 127) ok dX1_readOne_88 (by decide) ?_
          exact g_sub [] rfl (b_X1_readOneB_127 ok hlv HQ_readOne HQ_readOr he  S4 h)
    · replace h := h.2 e9
      refine g_aload_n 0 (n := 37) ok dX1_readOne_36 rfl rfl ?_
      refine fg_X1_X1_rule (n := 40) 15 rfl ok dX1_readOne_37 rfl ?_
      refine g_aload_n 0 (n := 41) ok dX1_readOne_40 rfl rfl ?_
      refine fg_X1_X1_token (n := 44) 15 rfl ok dX1_readOne_41 rfl ?_
      refine g_callVNv (n := 47) (As := [.int (S1 15 3)]) (rest := []) (c := 17) ok (c_X2_append l v 17 rfl (S1 15 3) S1 _ h) cal_X2_append tw_308 tw_310 tp_12 (lt7 rfl) (sh7 rfl _) rfl (by omega) (by decide) rfl (Nat.le_of_ble_eq_true rfl) dX1_readOne_44 rfl rfl (fun S7 h => ?_)
      refine g_aload_n 0 (n := 48) ok dX1_readOne_47 rfl rfl ?_
      refine g_callVv (n := 51) (As := []) (rest := []) (c := 15) ok (c_X1_advance l v  S7 _ h) cal_X1_advance tw_248 tw_250 tp_2 (lt5 rfl) (sh5 rfl _) rfl (by omega) (by decide) rfl (Nat.le_of_ble_eq_true rfl) dX1_readOne_48 rfl rfl (fun S8 h => ?_)
      refine g_goto (t := 127) ok dX1_readOne_51 (by decide) ?_
      exact g_sub [] rfl (b_X1_readOneB_127 ok hlv HQ_readOne HQ_readOr he  S8 h)
  · replace h := h.2 e12
    refine g_aload_n 0 (n := 9) ok dX1_readOne_8 rfl rfl ?_
    refine fg_X1_X1_rule (n := 12) 15 rfl ok dX1_readOne_9 rfl ?_
    refine g_aload_n 0 (n := 13) ok dX1_readOne_12 rfl rfl ?_
    refine fg_X1_X1_number (n := 16) 15 rfl ok dX1_readOne_13 rfl ?_
    refine g_callVNv (n := 19) (As := [.int (S 15 6)]) (rest := []) (c := 17) ok (c_X2_append l v 17 rfl (S 15 6) S _ h) cal_X2_append tw_308 tw_310 tp_12 (lt7 rfl) (sh7 rfl _) rfl (by omega) (by decide) rfl (Nat.le_of_ble_eq_true rfl) dX1_readOne_16 rfl rfl (fun S10 h => ?_)
    refine g_aload_n 0 (n := 20) ok dX1_readOne_19 rfl rfl ?_
    refine g_callVv (n := 23) (As := []) (rest := []) (c := 15) ok (c_X1_advance l v  S10 _ h) cal_X1_advance tw_248 tw_250 tp_2 (lt5 rfl) (sh5 rfl _) rfl (by omega) (by decide) rfl (Nat.le_of_ble_eq_true rfl) dX1_readOne_20 rfl rfl (fun S11 h => ?_)
    refine g_goto (t := 127) ok dX1_readOne_23 (by decide) ?_
    exact g_sub [] rfl (b_X1_readOneB_127 ok hlv HQ_readOne HQ_readOr he  S11 h)
def w_X1_readTermB_47 (Q_readOne : Int32 → Mem → (Mem → Prop) → Prop) (post : Mem → Prop) (S : Mem) : Prop := post S
set_option maxHeartbeats 4000000 in
set_option maxRecDepth 20000 in
theorem b_X1_readTermB_47 {v : VxT} {l : Launch} {g : CxT} {Q_readOne : Int32 → Mem → (Mem → Prop) → Prop} (ok : Ok l g (oX v) 3 cX1_readTerm RX1 none) {lv : Nat} (hlv : 10 ≤ lv) (HQ_readOne : ∀ (p1 : Int32) (S : Mem) (post : Mem → Prop), Q_readOne p1 S post → MV l yX1_readOne cX1_readOne 2 none lv (oX v) [.ref (v.1 15), .int p1] S post) {post : Mem → Prop} (he : EndQ g (oX v) (va_Qv post (fun S1 t => BX (oX v) S1 t) (AX (oX v)))) (S : Mem) (h : w_X1_readTermB_47 Q_readOne post  S) : G g (oX v) (lv + 1) 3 47 [] [] S := by
  unfold w_X1_readTermB_47 at h
  exact g_vret ok he h dX1_readTerm_47
def w_X1_readTermB_7 (Q_readOne : Int32 → Mem → (Mem → Prop) → Prop) (post : Mem → Prop) : Nat → Int32 → Int32 → Mem → Prop
  | 0, _, _, _ => False
  | n + 1, x1, x2, S => (((160 : Int32) ≤ x2 → w_X1_readTermB_47 Q_readOne post  S) ∧ (¬ (160 : Int32) ≤ x2 → ((¬ (S 15 3) = (-14 : Int32) → w_X1_readTermB_47 Q_readOne post  S) ∧ ((S 15 3) = (-14 : Int32) → w_X1_advance  S (fun S1 => Q_readOne x1 S1 (fun S2 => w_X2_append 17 (-14 : Int32) S2 (fun S3 => (∀ z4 : Int32, z4 = x2 + 1 → w_X1_readTermB_7 Q_readOne post n x1 z4 S3))))))))
set_option maxHeartbeats 4000000 in
set_option maxRecDepth 20000 in
theorem b_X1_readTermB_7 {v : VxT} {l : Launch} {g : CxT} {Q_readOne : Int32 → Mem → (Mem → Prop) → Prop} (ok : Ok l g (oX v) 3 cX1_readTerm RX1 none) {lv : Nat} (hlv : 10 ≤ lv) (HQ_readOne : ∀ (p1 : Int32) (S : Mem) (post : Mem → Prop), Q_readOne p1 S post → MV l yX1_readOne cX1_readOne 2 none lv (oX v) [.ref (v.1 15), .int p1] S post) {post : Mem → Prop} (he : EndQ g (oX v) (va_Qv post (fun S1 t => BX (oX v) S1 t) (AX (oX v)))) : ∀ (n : Nat) (x1 : Int32) (x2 : Int32) (S : Mem), w_X1_readTermB_7 Q_readOne post n x1 x2 S → G g (oX v) (lv + 1) 3 7 [(0, .ref (v.1 15)), (1, .int x1), (2, .int x2)] [] S := by
  intro n
  induction n with
  | zero =>
    intro x1 x2 S h
    exact h.elim
  | succ n ih =>
    intro x1 x2 S h
    rw [w_X1_readTermB_7] at h
    refine g_iload_n 2 (n := 8) ok dX1_readTerm_7 rfl rfl ?_
    refine g_sipush (v := 160) (n := 11) ok dX1_readTerm_8 rfl (by decide) ?_
    refine g_icmp_ge (t := 47) (n := 14) ok dX1_readTerm_11 (by decide) rfl (fun e6 => ?_) (fun e6 => ?_)
    · replace h := h.1 e6
      exact g_sub [] rfl (b_X1_readTermB_47 ok hlv HQ_readOne he  S h)
    · replace h := h.2 e6
      refine g_aload_n 0 (n := 15) ok dX1_readTerm_14 rfl rfl ?_
      refine fg_X1_X1_token (n := 18) 15 rfl ok dX1_readTerm_15 rfl ?_
      refine g_bipush (v := -14) (n := 20) ok dX1_readTerm_18 rfl (by decide) ?_
      refine g_icmp_ne (t := 47) (n := 23) ok dX1_readTerm_20 (by decide) rfl (fun e5 => ?_) (fun e5 => ?_)
      · replace h := h.1 e5
        exact g_sub [] rfl (b_X1_readTermB_47 ok hlv HQ_readOne he  S h)
      · replace h := h.2 e5
        refine g_aload_n 0 (n := 24) ok dX1_readTerm_23 rfl rfl ?_
        refine g_callVv (n := 27) (As := []) (rest := []) (c := 15) ok (c_X1_advance l v  S _ h) cal_X1_advance tw_248 tw_250 tp_2 (lt5 rfl) (sh5 rfl _) rfl (by omega) (by decide) rfl (Nat.le_of_ble_eq_true rfl) dX1_readTerm_24 rfl rfl (fun S1 h => ?_)
        refine g_aload_n 0 (n := 28) ok dX1_readTerm_27 rfl rfl ?_
        refine g_iload_n 1 (n := 29) ok dX1_readTerm_28 rfl rfl ?_
        refine g_callVv (n := 32) (As := [.int x1]) (rest := []) (c := 15) ok (HQ_readOne x1 S1 _ h) cal_X1_readOne tw_320 tw_322 tp_15 (lt5 rfl) (sh5 rfl _) rfl (by omega) (by decide) rfl (Nat.le_of_ble_eq_true rfl) dX1_readTerm_29 rfl rfl (fun S2 h => ?_)
        refine g_aload_n 0 (n := 33) ok dX1_readTerm_32 rfl rfl ?_
        refine fg_X1_X1_rule (n := 36) 15 rfl ok dX1_readTerm_33 rfl ?_
        refine g_bipush (v := -14) (n := 38) ok dX1_readTerm_36 rfl (by decide) ?_
        refine g_callVNv (n := 41) (As := [.int (-14 : Int32)]) (rest := []) (c := 17) ok (c_X2_append l v 17 rfl (-14 : Int32) S2 _ h) cal_X2_append tw_308 tw_310 tp_12 (lt7 rfl) (sh7 rfl _) rfl (by omega) (by decide) rfl (Nat.le_of_ble_eq_true rfl) dX1_readTerm_38 rfl rfl (fun S3 h => ?_)
        obtain ⟨z4, ez4⟩ : ∃ y : Int32, y = x2 + 1 := ⟨_, rfl⟩
        replace h := h z4 ez4
        refine g_iinc 2 [(2, .int z4), (0, .ref (v.1 15)), (1, .int x1)] (v := z4) (n := 44) ok dX1_readTerm_41 rfl rfl (by rw [ez4]; rfl) (by decide) rfl ?_
        refine g_goto (t := 7) ok dX1_readTerm_44 (by decide) ?_
        exact g_sub [1, 2, 0] rfl (ih x1 z4 S3 h)
def w_X1_readTermB (Q_readOne : Int32 → Mem → (Mem → Prop) → Prop) (p1 : Int32) (S : Mem) (post : Mem → Prop) : Prop := Q_readOne p1 S (fun S1 => ∃ n, w_X1_readTermB_7 Q_readOne post n p1 (0 : Int32) S1)
set_option maxHeartbeats 4000000 in
set_option maxRecDepth 20000 in
theorem c_X1_readTermB {Q_readOne : Int32 → Mem → (Mem → Prop) → Prop} (l : Launch) (v : VxT) {lv : Nat} (hlv : 10 ≤ lv) (HQ_readOne : ∀ (p1 : Int32) (S : Mem) (post : Mem → Prop), Q_readOne p1 S post → MV l yX1_readOne cX1_readOne 2 none lv (oX v) [.ref (v.1 15), .int p1] S post) (p1 : Int32) (S : Mem) (post : Mem → Prop) (h : w_X1_readTermB Q_readOne p1 S post) : MV l yX1_readTerm cX1_readTerm 3 none (lv + 1) (oX v) [.ref (v.1 15), .int p1] S post := by
  refine met_start (by decide +kernel) (Nat.le_of_ble_eq_true rfl) (fun g ok he => ?_)
  refine g_eq (L' := [(0, .ref (v.1 15)), (1, .int p1)]) (st' := []) ?_ rfl rfl
  unfold w_X1_readTermB at h
  refine g_aload_n 0 (n := 1) ok dX1_readTerm_0 rfl rfl ?_
  refine g_iload_n 1 (n := 2) ok dX1_readTerm_1 rfl rfl ?_
  refine g_callVv (n := 5) (As := [.int p1]) (rest := []) (c := 15) ok (HQ_readOne p1 S _ h) cal_X1_readOne tw_320 tw_322 tp_15 (lt5 rfl) (sh5 rfl _) rfl (by omega) (by decide) rfl (Nat.le_of_ble_eq_true rfl) dX1_readTerm_2 rfl rfl (fun S1 h => ?_)
  refine g_iconst (v := 0) (n := 6) ok dX1_readTerm_5 rfl (by decide) ?_
  refine g_istore_n [(2, .int (0 : Int32)), (0, .ref (v.1 15)), (1, .int p1)] (n := 7) ok dX1_readTerm_6 rfl (by decide) rfl ?_
  obtain ⟨n0, h⟩ := h
  exact g_sub [1, 2, 0] rfl (b_X1_readTermB_7 ok hlv HQ_readOne he n0 p1 (0 : Int32) S1 h)
def w_X1_readSumB_32 (Q_readTerm : Int32 → Mem → (Mem → Prop) → Prop) (K7 : Int32 → Int32 → Mem → Prop) (post : Mem → Prop) (x1 : Int32) (x2 : Int32) (S : Mem) : Prop := (∀ z1 : Int32, z1 = S 15 3 → w_X1_advance  S (fun S2 => Q_readTerm x1 S2 (fun S3 => w_X2_append 17 z1 S3 (fun S4 => (∀ z5 : Int32, z5 = x2 + 1 → K7 x1 z5 S4)))))
set_option maxHeartbeats 4000000 in
set_option maxRecDepth 20000 in
theorem b_X1_readSumB_32 {v : VxT} {l : Launch} {g : CxT} {Q_readTerm : Int32 → Mem → (Mem → Prop) → Prop} {K7 : Int32 → Int32 → Mem → Prop} (ok : Ok l g (oX v) 4 cX1_readSum RX1 none) {lv : Nat} (hlv : 10 ≤ lv) (HQ_readTerm : ∀ (p1 : Int32) (S : Mem) (post : Mem → Prop), Q_readTerm p1 S post → MV l yX1_readTerm cX1_readTerm 3 none lv (oX v) [.ref (v.1 15), .int p1] S post) (hK7 : ∀ (x1 : Int32) (x2 : Int32) (S : Mem), K7 x1 x2 S → G g (oX v) (lv + 1) 4 7 [(0, .ref (v.1 15)), (1, .int x1), (2, .int x2)] [] S) {post : Mem → Prop} (he : EndQ g (oX v) (va_Qv post (fun S1 t => BX (oX v) S1 t) (AX (oX v)))) (x1 : Int32) (x2 : Int32) (S : Mem) (h : w_X1_readSumB_32 Q_readTerm K7 post x1 x2 S) : G g (oX v) (lv + 1) 4 32 [(0, .ref (v.1 15)), (1, .int x1), (2, .int x2)] [] S := by
  unfold w_X1_readSumB_32 at h
  refine g_aload_n 0 (n := 33) ok dX1_readSum_32 rfl rfl ?_
  refine fg_X1_X1_token (n := 36) 15 rfl ok dX1_readSum_33 rfl ?_
  refine g_topi (fun z1 ez1 => ?_)
  replace h := h z1 ez1
  refine g_istore_n [(3, .int z1), (0, .ref (v.1 15)), (1, .int x1), (2, .int x2)] (n := 37) ok dX1_readSum_36 rfl (by decide) rfl ?_
  refine g_aload_n 1 (n := 38) ok dX1_readSum_37 rfl rfl ?_
  refine g_callVv (n := 41) (As := []) (rest := []) (c := 15) ok (c_X1_advance l v  S _ h) cal_X1_advance tw_248 tw_250 tp_2 (lt5 rfl) (sh5 rfl _) rfl (by omega) (by decide) rfl (Nat.le_of_ble_eq_true rfl) dX1_readSum_38 rfl rfl (fun S2 h => ?_)
  refine g_aload_n 1 (n := 42) ok dX1_readSum_41 rfl rfl ?_
  refine g_iload_n 2 (n := 43) ok dX1_readSum_42 rfl rfl ?_
  refine g_callVv (n := 46) (As := [.int x1]) (rest := []) (c := 15) ok (HQ_readTerm x1 S2 _ h) cal_X1_readTerm tw_316 tw_318 tp_14 (lt5 rfl) (sh5 rfl _) rfl (by omega) (by decide) rfl (Nat.le_of_ble_eq_true rfl) dX1_readSum_43 rfl rfl (fun S3 h => ?_)
  refine g_aload_n 1 (n := 47) ok dX1_readSum_46 rfl rfl ?_
  refine fg_X1_X1_rule (n := 50) 15 rfl ok dX1_readSum_47 rfl ?_
  refine g_iload_n 0 (n := 51) ok dX1_readSum_50 rfl rfl ?_
  refine g_callVNv (n := 54) (As := [.int z1]) (rest := []) (c := 17) ok (c_X2_append l v 17 rfl z1 S3 _ h) cal_X2_append tw_308 tw_310 tp_12 (lt7 rfl) (sh7 rfl _) rfl (by omega) (by decide) rfl (Nat.le_of_ble_eq_true rfl) dX1_readSum_51 rfl rfl (fun S4 h => ?_)
  obtain ⟨z5, ez5⟩ : ∃ y : Int32, y = x2 + 1 := ⟨_, rfl⟩
  replace h := h z5 ez5
  refine g_iinc 3 [(2, .int z5), (3, .int z1), (0, .ref (v.1 15)), (1, .int x1)] (v := z5) (n := 57) ok dX1_readSum_54 rfl rfl (by rw [ez5]; rfl) (by decide) rfl ?_
  refine g_goto (t := 7) ok dX1_readSum_57 (by decide) ?_
  exact g_sub [2, 3, 0] rfl (hK7 x1 z5 S4 h)
def w_X1_readSumB_60 (Q_readTerm : Int32 → Mem → (Mem → Prop) → Prop) (post : Mem → Prop) (S : Mem) : Prop := post S
set_option maxHeartbeats 4000000 in
set_option maxRecDepth 20000 in
theorem b_X1_readSumB_60 {v : VxT} {l : Launch} {g : CxT} {Q_readTerm : Int32 → Mem → (Mem → Prop) → Prop} (ok : Ok l g (oX v) 4 cX1_readSum RX1 none) {lv : Nat} (hlv : 10 ≤ lv) (HQ_readTerm : ∀ (p1 : Int32) (S : Mem) (post : Mem → Prop), Q_readTerm p1 S post → MV l yX1_readTerm cX1_readTerm 3 none lv (oX v) [.ref (v.1 15), .int p1] S post) {post : Mem → Prop} (he : EndQ g (oX v) (va_Qv post (fun S1 t => BX (oX v) S1 t) (AX (oX v)))) (S : Mem) (h : w_X1_readSumB_60 Q_readTerm post  S) : G g (oX v) (lv + 1) 4 60 [] [] S := by
  unfold w_X1_readSumB_60 at h
  exact g_vret ok he h dX1_readSum_60
def w_X1_readSumB_7 (Q_readTerm : Int32 → Mem → (Mem → Prop) → Prop) (post : Mem → Prop) : Nat → Int32 → Int32 → Mem → Prop
  | 0, _, _, _ => False
  | n + 1, x1, x2, S => (((160 : Int32) ≤ x2 → w_X1_readSumB_60 Q_readTerm post  S) ∧ (¬ (160 : Int32) ≤ x2 → (((S 15 3) = (-12 : Int32) → w_X1_readSumB_32 Q_readTerm (w_X1_readSumB_7 Q_readTerm post n) post x1 x2 S) ∧ (¬ (S 15 3) = (-12 : Int32) → ((¬ (S 15 3) = (-13 : Int32) → w_X1_readSumB_60 Q_readTerm post  S) ∧ ((S 15 3) = (-13 : Int32) → w_X1_readSumB_32 Q_readTerm (w_X1_readSumB_7 Q_readTerm post n) post x1 x2 S))))))
set_option maxHeartbeats 4000000 in
set_option maxRecDepth 20000 in
theorem b_X1_readSumB_7 {v : VxT} {l : Launch} {g : CxT} {Q_readTerm : Int32 → Mem → (Mem → Prop) → Prop} (ok : Ok l g (oX v) 4 cX1_readSum RX1 none) {lv : Nat} (hlv : 10 ≤ lv) (HQ_readTerm : ∀ (p1 : Int32) (S : Mem) (post : Mem → Prop), Q_readTerm p1 S post → MV l yX1_readTerm cX1_readTerm 3 none lv (oX v) [.ref (v.1 15), .int p1] S post) {post : Mem → Prop} (he : EndQ g (oX v) (va_Qv post (fun S1 t => BX (oX v) S1 t) (AX (oX v)))) : ∀ (n : Nat) (x1 : Int32) (x2 : Int32) (S : Mem), w_X1_readSumB_7 Q_readTerm post n x1 x2 S → G g (oX v) (lv + 1) 4 7 [(0, .ref (v.1 15)), (1, .int x1), (2, .int x2)] [] S := by
  intro n
  induction n with
  | zero =>
    intro x1 x2 S h
    exact h.elim
  | succ n ih =>
    intro x1 x2 S h
    rw [w_X1_readSumB_7] at h
    refine g_iload_n 2 (n := 8) ok dX1_readSum_7 rfl rfl ?_
    refine g_sipush (v := 160) (n := 11) ok dX1_readSum_8 rfl (by decide) ?_
    refine g_icmp_ge (t := 60) (n := 14) ok dX1_readSum_11 (by decide) rfl (fun e3 => ?_) (fun e3 => ?_)
    · replace h := h.1 e3
      exact g_sub [] rfl (b_X1_readSumB_60 ok hlv HQ_readTerm he  S h)
    · replace h := h.2 e3
      refine g_aload_n 0 (n := 15) ok dX1_readSum_14 rfl rfl ?_
      refine fg_X1_X1_token (n := 18) 15 rfl ok dX1_readSum_15 rfl ?_
      refine g_bipush (v := -12) (n := 20) ok dX1_readSum_18 rfl (by decide) ?_
      refine g_icmp_eq (t := 32) (n := 23) ok dX1_readSum_20 (by decide) rfl (fun e2 => ?_) (fun e2 => ?_)
      · replace h := h.1 e2
        exact g_sub [0, 1, 2] rfl (b_X1_readSumB_32 ok hlv HQ_readTerm ih he x1 x2 S h)
      · replace h := h.2 e2
        refine g_aload_n 0 (n := 24) ok dX1_readSum_23 rfl rfl ?_
        refine fg_X1_X1_token (n := 27) 15 rfl ok dX1_readSum_24 rfl ?_
        refine g_bipush (v := -13) (n := 29) ok dX1_readSum_27 rfl (by decide) ?_
        refine g_icmp_ne (t := 60) (n := 32) ok dX1_readSum_29 (by decide) rfl (fun e1 => ?_) (fun e1 => ?_)
        · replace h := h.1 e1
          exact g_sub [] rfl (b_X1_readSumB_60 ok hlv HQ_readTerm he  S h)
        · replace h := h.2 e1
          exact g_sub [0, 1, 2] rfl (b_X1_readSumB_32 ok hlv HQ_readTerm ih he x1 x2 S h)
def w_X1_readSumB (Q_readTerm : Int32 → Mem → (Mem → Prop) → Prop) (p1 : Int32) (S : Mem) (post : Mem → Prop) : Prop := Q_readTerm p1 S (fun S1 => ∃ n, w_X1_readSumB_7 Q_readTerm post n p1 (0 : Int32) S1)
set_option maxHeartbeats 4000000 in
set_option maxRecDepth 20000 in
theorem c_X1_readSumB {Q_readTerm : Int32 → Mem → (Mem → Prop) → Prop} (l : Launch) (v : VxT) {lv : Nat} (hlv : 10 ≤ lv) (HQ_readTerm : ∀ (p1 : Int32) (S : Mem) (post : Mem → Prop), Q_readTerm p1 S post → MV l yX1_readTerm cX1_readTerm 3 none lv (oX v) [.ref (v.1 15), .int p1] S post) (p1 : Int32) (S : Mem) (post : Mem → Prop) (h : w_X1_readSumB Q_readTerm p1 S post) : MV l yX1_readSum cX1_readSum 4 none (lv + 1) (oX v) [.ref (v.1 15), .int p1] S post := by
  refine met_start (by decide +kernel) (Nat.le_of_ble_eq_true rfl) (fun g ok he => ?_)
  refine g_eq (L' := [(0, .ref (v.1 15)), (1, .int p1)]) (st' := []) ?_ rfl rfl
  unfold w_X1_readSumB at h
  refine g_aload_n 0 (n := 1) ok dX1_readSum_0 rfl rfl ?_
  refine g_iload_n 1 (n := 2) ok dX1_readSum_1 rfl rfl ?_
  refine g_callVv (n := 5) (As := [.int p1]) (rest := []) (c := 15) ok (HQ_readTerm p1 S _ h) cal_X1_readTerm tw_316 tw_318 tp_14 (lt5 rfl) (sh5 rfl _) rfl (by omega) (by decide) rfl (Nat.le_of_ble_eq_true rfl) dX1_readSum_2 rfl rfl (fun S1 h => ?_)
  refine g_iconst (v := 0) (n := 6) ok dX1_readSum_5 rfl (by decide) ?_
  refine g_istore_n [(2, .int (0 : Int32)), (0, .ref (v.1 15)), (1, .int p1)] (n := 7) ok dX1_readSum_6 rfl (by decide) rfl ?_
  obtain ⟨n0, h⟩ := h
  exact g_sub [1, 2, 0] rfl (b_X1_readSumB_7 ok hlv HQ_readTerm he n0 p1 (0 : Int32) S1 h)
def w_X1_readNotB_85 (Q_readNot : Int32 → Mem → (Mem → Prop) → Prop) (Q_readSum : Int32 → Mem → (Mem → Prop) → Prop) (post : Mem → Prop) (S : Mem) : Prop := post S
set_option maxHeartbeats 4000000 in
set_option maxRecDepth 20000 in
theorem b_X1_readNotB_85 {v : VxT} {l : Launch} {g : CxT} {Q_readNot : Int32 → Mem → (Mem → Prop) → Prop} {Q_readSum : Int32 → Mem → (Mem → Prop) → Prop} (ok : Ok l g (oX v) 3 cX1_readNot RX1 none) {lv : Nat} (hlv : 10 ≤ lv) (HQ_readNot : ∀ (p1 : Int32) (S : Mem) (post : Mem → Prop), Q_readNot p1 S post → MV l yX1_readNot cX1_readNot 3 none lv (oX v) [.ref (v.1 15), .int p1] S post) (HQ_readSum : ∀ (p1 : Int32) (S : Mem) (post : Mem → Prop), Q_readSum p1 S post → MV l yX1_readSum cX1_readSum 4 none lv (oX v) [.ref (v.1 15), .int p1] S post) {post : Mem → Prop} (he : EndQ g (oX v) (va_Qv post (fun S1 t => BX (oX v) S1 t) (AX (oX v)))) (S : Mem) (h : w_X1_readNotB_85 Q_readNot Q_readSum post  S) : G g (oX v) (lv + 1) 3 85 [] [] S := by
  unfold w_X1_readNotB_85 at h
  exact g_vret ok he h dX1_readNot_85
def w_X1_readNotB_63 (Q_readNot : Int32 → Mem → (Mem → Prop) → Prop) (Q_readSum : Int32 → Mem → (Mem → Prop) → Prop) (post : Mem → Prop) (x1 : Int32) (S : Mem) : Prop := (∀ z1 : Int32, z1 = S 15 3 → w_X1_advance  S (fun S2 => Q_readSum x1 S2 (fun S3 => w_X2_append 17 z1 S3 (fun S4 => w_X1_readNotB_85 Q_readNot Q_readSum post  S4))))
set_option maxHeartbeats 4000000 in
set_option maxRecDepth 20000 in
theorem b_X1_readNotB_63 {v : VxT} {l : Launch} {g : CxT} {Q_readNot : Int32 → Mem → (Mem → Prop) → Prop} {Q_readSum : Int32 → Mem → (Mem → Prop) → Prop} (ok : Ok l g (oX v) 3 cX1_readNot RX1 none) {lv : Nat} (hlv : 10 ≤ lv) (HQ_readNot : ∀ (p1 : Int32) (S : Mem) (post : Mem → Prop), Q_readNot p1 S post → MV l yX1_readNot cX1_readNot 3 none lv (oX v) [.ref (v.1 15), .int p1] S post) (HQ_readSum : ∀ (p1 : Int32) (S : Mem) (post : Mem → Prop), Q_readSum p1 S post → MV l yX1_readSum cX1_readSum 4 none lv (oX v) [.ref (v.1 15), .int p1] S post) {post : Mem → Prop} (he : EndQ g (oX v) (va_Qv post (fun S1 t => BX (oX v) S1 t) (AX (oX v)))) (x1 : Int32) (S : Mem) (h : w_X1_readNotB_63 Q_readNot Q_readSum post x1 S) : G g (oX v) (lv + 1) 3 63 [(0, .ref (v.1 15)), (1, .int x1)] [] S := by
  unfold w_X1_readNotB_63 at h
  refine g_aload_n 0 (n := 64) ok dX1_readNot_63 rfl rfl ?_
  refine fg_X1_X1_token (n := 67) 15 rfl ok dX1_readNot_64 rfl ?_
  refine g_topi (fun z1 ez1 => ?_)
  replace h := h z1 ez1
  refine g_istore_n [(2, .int z1), (0, .ref (v.1 15)), (1, .int x1)] (n := 68) ok dX1_readNot_67 rfl (by decide) rfl ?_
  refine g_aload_n 1 (n := 69) ok dX1_readNot_68 rfl rfl ?_
  refine g_callVv (n := 72) (As := []) (rest := []) (c := 15) ok (c_X1_advance l v  S _ h) cal_X1_advance tw_248 tw_250 tp_2 (lt5 rfl) (sh5 rfl _) rfl (by omega) (by decide) rfl (Nat.le_of_ble_eq_true rfl) dX1_readNot_69 rfl rfl (fun S2 h => ?_)
  refine g_aload_n 1 (n := 73) ok dX1_readNot_72 rfl rfl ?_
  refine g_iload_n 2 (n := 74) ok dX1_readNot_73 rfl rfl ?_
  refine g_callVv (n := 77) (As := [.int x1]) (rest := []) (c := 15) ok (HQ_readSum x1 S2 _ h) cal_X1_readSum tw_312 tw_314 tp_13 (lt5 rfl) (sh5 rfl _) rfl (by omega) (by decide) rfl (Nat.le_of_ble_eq_true rfl) dX1_readNot_74 rfl rfl (fun S3 h => ?_)
  refine g_aload_n 1 (n := 78) ok dX1_readNot_77 rfl rfl ?_
  refine fg_X1_X1_rule (n := 81) 15 rfl ok dX1_readNot_78 rfl ?_
  refine g_iload_n 0 (n := 82) ok dX1_readNot_81 rfl rfl ?_
  refine g_callVNv (n := 85) (As := [.int z1]) (rest := []) (c := 17) ok (c_X2_append l v 17 rfl z1 S3 _ h) cal_X2_append tw_308 tw_310 tp_12 (lt7 rfl) (sh7 rfl _) rfl (by omega) (by decide) rfl (Nat.le_of_ble_eq_true rfl) dX1_readNot_82 rfl rfl (fun S4 h => ?_)
  exact g_sub [] rfl (b_X1_readNotB_85 ok hlv HQ_readNot HQ_readSum he  S4 h)
def w_X1_readNotB (Q_readNot : Int32 → Mem → (Mem → Prop) → Prop) (Q_readSum : Int32 → Mem → (Mem → Prop) → Prop) (p1 : Int32) (S : Mem) (post : Mem → Prop) : Prop := ((¬ (S 15 3) = (-9 : Int32) → Q_readSum p1 S (fun S1 => (((S1 15 3) = (-10 : Int32) → w_X1_readNotB_63 Q_readNot Q_readSum post p1 S1) ∧ (¬ (S1 15 3) = (-10 : Int32) → ((¬ (S1 15 3) = (-11 : Int32) → w_X1_readNotB_85 Q_readNot Q_readSum post  S1) ∧ ((S1 15 3) = (-11 : Int32) → w_X1_readNotB_63 Q_readNot Q_readSum post p1 S1)))))) ∧ ((S 15 3) = (-9 : Int32) → ((p1 < (5 : Int32) → w_X1_advance  S (fun S4 => Q_readNot (p1 + (1 : Int32)) S4 (fun S5 => w_X2_append 17 (-9 : Int32) S5 (fun S6 => post S6)))) ∧ (¬ p1 < (5 : Int32) → w_X1_fail  S (fun S7 => post S7)))))
set_option maxHeartbeats 4000000 in
set_option maxRecDepth 20000 in
theorem c_X1_readNotB {Q_readNot : Int32 → Mem → (Mem → Prop) → Prop} {Q_readSum : Int32 → Mem → (Mem → Prop) → Prop} (l : Launch) (v : VxT) {lv : Nat} (hlv : 10 ≤ lv) (HQ_readNot : ∀ (p1 : Int32) (S : Mem) (post : Mem → Prop), Q_readNot p1 S post → MV l yX1_readNot cX1_readNot 3 none lv (oX v) [.ref (v.1 15), .int p1] S post) (HQ_readSum : ∀ (p1 : Int32) (S : Mem) (post : Mem → Prop), Q_readSum p1 S post → MV l yX1_readSum cX1_readSum 4 none lv (oX v) [.ref (v.1 15), .int p1] S post) (p1 : Int32) (S : Mem) (post : Mem → Prop) (h : w_X1_readNotB Q_readNot Q_readSum p1 S post) : MV l yX1_readNot cX1_readNot 3 none (lv + 1) (oX v) [.ref (v.1 15), .int p1] S post := by
  refine met_start (by decide +kernel) (Nat.le_of_ble_eq_true rfl) (fun g ok he => ?_)
  refine g_eq (L' := [(0, .ref (v.1 15)), (1, .int p1)]) (st' := []) ?_ rfl rfl
  unfold w_X1_readNotB at h
  refine g_aload_n 0 (n := 1) ok dX1_readNot_0 rfl rfl ?_
  refine fg_X1_X1_token (n := 4) 15 rfl ok dX1_readNot_1 rfl ?_
  refine g_bipush (v := -9) (n := 6) ok dX1_readNot_4 rfl (by decide) ?_
  refine g_icmp_ne (t := 40) (n := 9) ok dX1_readNot_6 (by decide) rfl (fun e9 => ?_) (fun e9 => ?_)
  · replace h := h.1 e9
    refine g_aload_n 0 (n := 41) ok dX1_readNot_40 rfl rfl ?_
    refine g_iload_n 1 (n := 42) ok dX1_readNot_41 rfl rfl ?_
    refine g_callVv (n := 45) (As := [.int p1]) (rest := []) (c := 15) ok (HQ_readSum p1 S _ h) cal_X1_readSum tw_312 tw_314 tp_13 (lt5 rfl) (sh5 rfl _) rfl (by omega) (by decide) rfl (Nat.le_of_ble_eq_true rfl) dX1_readNot_42 rfl rfl (fun S1 h => ?_)
    refine g_aload_n 0 (n := 46) ok dX1_readNot_45 rfl rfl ?_
    refine fg_X1_X1_token (n := 49) 15 rfl ok dX1_readNot_46 rfl ?_
    refine g_bipush (v := -10) (n := 51) ok dX1_readNot_49 rfl (by decide) ?_
    refine g_icmp_eq (t := 63) (n := 54) ok dX1_readNot_51 (by decide) rfl (fun e3 => ?_) (fun e3 => ?_)
    · replace h := h.1 e3
      exact g_sub [0, 1] rfl (b_X1_readNotB_63 ok hlv HQ_readNot HQ_readSum he p1 S1 h)
    · replace h := h.2 e3
      refine g_aload_n 0 (n := 55) ok dX1_readNot_54 rfl rfl ?_
      refine fg_X1_X1_token (n := 58) 15 rfl ok dX1_readNot_55 rfl ?_
      refine g_bipush (v := -11) (n := 60) ok dX1_readNot_58 rfl (by decide) ?_
      refine g_icmp_ne (t := 85) (n := 63) ok dX1_readNot_60 (by decide) rfl (fun e2 => ?_) (fun e2 => ?_)
      · replace h := h.1 e2
        exact g_sub [] rfl (b_X1_readNotB_85 ok hlv HQ_readNot HQ_readSum he  S1 h)
      · replace h := h.2 e2
        exact g_sub [0, 1] rfl (b_X1_readNotB_63 ok hlv HQ_readNot HQ_readSum he p1 S1 h)
  · replace h := h.2 e9
    refine g_iload_n 1 (n := 10) ok dX1_readNot_9 rfl rfl ?_
    refine g_iconst (v := 5) (n := 11) ok dX1_readNot_10 rfl (by decide) ?_
    refine g_icmp_lt (t := 19) (n := 14) ok dX1_readNot_11 (by decide) rfl (fun e8 => ?_) (fun e8 => ?_)
    · replace h := h.1 e8
      refine g_aload_n 0 (n := 20) ok dX1_readNot_19 rfl rfl ?_
      refine g_callVv (n := 23) (As := []) (rest := []) (c := 15) ok (c_X1_advance l v  S _ h) cal_X1_advance tw_248 tw_250 tp_2 (lt5 rfl) (sh5 rfl _) rfl (by omega) (by decide) rfl (Nat.le_of_ble_eq_true rfl) dX1_readNot_20 rfl rfl (fun S4 h => ?_)
      refine g_aload_n 0 (n := 24) ok dX1_readNot_23 rfl rfl ?_
      refine g_iload_n 1 (n := 25) ok dX1_readNot_24 rfl rfl ?_
      refine g_iconst (v := 1) (n := 26) ok dX1_readNot_25 rfl (by decide) ?_
      refine g_iadd (n := 27) ok dX1_readNot_26 rfl ?_
      refine g_callVv (n := 30) (As := [.int (p1 + (1 : Int32))]) (rest := []) (c := 15) ok (HQ_readNot (p1 + (1 : Int32)) S4 _ h) cal_X1_readNot tw_304 tw_306 tp_11 (lt5 rfl) (sh5 rfl _) rfl (by omega) (by decide) rfl (Nat.le_of_ble_eq_true rfl) dX1_readNot_27 rfl rfl (fun S5 h => ?_)
      refine g_aload_n 0 (n := 31) ok dX1_readNot_30 rfl rfl ?_
      refine fg_X1_X1_rule (n := 34) 15 rfl ok dX1_readNot_31 rfl ?_
      refine g_bipush (v := -9) (n := 36) ok dX1_readNot_34 rfl (by decide) ?_
      refine g_callVNv (n := 39) (As := [.int (-9 : Int32)]) (rest := []) (c := 17) ok (c_X2_append l v 17 rfl (-9 : Int32) S5 _ h) cal_X2_append tw_308 tw_310 tp_12 (lt7 rfl) (sh7 rfl _) rfl (by omega) (by decide) rfl (Nat.le_of_ble_eq_true rfl) dX1_readNot_36 rfl rfl (fun S6 h => ?_)
      exact g_vret ok he h dX1_readNot_39
    · replace h := h.2 e8
      refine g_aload_n 0 (n := 15) ok dX1_readNot_14 rfl rfl ?_
      refine g_callVv (n := 18) (As := []) (rest := []) (c := 15) ok (c_X1_fail l v  S _ h) cal_X1_fail tw_292 tw_294 tp_8 (lt5 rfl) (sh5 rfl _) rfl (by omega) (by decide) rfl (Nat.le_of_ble_eq_true rfl) dX1_readNot_15 rfl rfl (fun S7 h => ?_)
      exact g_vret ok he h dX1_readNot_18
def w_X1_readAndB_47 (Q_readNot : Int32 → Mem → (Mem → Prop) → Prop) (post : Mem → Prop) (S : Mem) : Prop := post S
set_option maxHeartbeats 4000000 in
set_option maxRecDepth 20000 in
theorem b_X1_readAndB_47 {v : VxT} {l : Launch} {g : CxT} {Q_readNot : Int32 → Mem → (Mem → Prop) → Prop} (ok : Ok l g (oX v) 3 cX1_readAnd RX1 none) {lv : Nat} (hlv : 10 ≤ lv) (HQ_readNot : ∀ (p1 : Int32) (S : Mem) (post : Mem → Prop), Q_readNot p1 S post → MV l yX1_readNot cX1_readNot 3 none lv (oX v) [.ref (v.1 15), .int p1] S post) {post : Mem → Prop} (he : EndQ g (oX v) (va_Qv post (fun S1 t => BX (oX v) S1 t) (AX (oX v)))) (S : Mem) (h : w_X1_readAndB_47 Q_readNot post  S) : G g (oX v) (lv + 1) 3 47 [] [] S := by
  unfold w_X1_readAndB_47 at h
  exact g_vret ok he h dX1_readAnd_47
def w_X1_readAndB_7 (Q_readNot : Int32 → Mem → (Mem → Prop) → Prop) (post : Mem → Prop) : Nat → Int32 → Int32 → Mem → Prop
  | 0, _, _, _ => False
  | n + 1, x1, x2, S => (((160 : Int32) ≤ x2 → w_X1_readAndB_47 Q_readNot post  S) ∧ (¬ (160 : Int32) ≤ x2 → ((¬ (S 15 3) = (-8 : Int32) → w_X1_readAndB_47 Q_readNot post  S) ∧ ((S 15 3) = (-8 : Int32) → w_X1_advance  S (fun S1 => Q_readNot x1 S1 (fun S2 => w_X2_append 17 (-8 : Int32) S2 (fun S3 => (∀ z4 : Int32, z4 = x2 + 1 → w_X1_readAndB_7 Q_readNot post n x1 z4 S3))))))))
set_option maxHeartbeats 4000000 in
set_option maxRecDepth 20000 in
theorem b_X1_readAndB_7 {v : VxT} {l : Launch} {g : CxT} {Q_readNot : Int32 → Mem → (Mem → Prop) → Prop} (ok : Ok l g (oX v) 3 cX1_readAnd RX1 none) {lv : Nat} (hlv : 10 ≤ lv) (HQ_readNot : ∀ (p1 : Int32) (S : Mem) (post : Mem → Prop), Q_readNot p1 S post → MV l yX1_readNot cX1_readNot 3 none lv (oX v) [.ref (v.1 15), .int p1] S post) {post : Mem → Prop} (he : EndQ g (oX v) (va_Qv post (fun S1 t => BX (oX v) S1 t) (AX (oX v)))) : ∀ (n : Nat) (x1 : Int32) (x2 : Int32) (S : Mem), w_X1_readAndB_7 Q_readNot post n x1 x2 S → G g (oX v) (lv + 1) 3 7 [(0, .ref (v.1 15)), (1, .int x1), (2, .int x2)] [] S := by
  intro n
  induction n with
  | zero =>
    intro x1 x2 S h
    exact h.elim
  | succ n ih =>
    intro x1 x2 S h
    rw [w_X1_readAndB_7] at h
    refine g_iload_n 2 (n := 8) ok dX1_readAnd_7 rfl rfl ?_
    refine g_sipush (v := 160) (n := 11) ok dX1_readAnd_8 rfl (by decide) ?_
    refine g_icmp_ge (t := 47) (n := 14) ok dX1_readAnd_11 (by decide) rfl (fun e6 => ?_) (fun e6 => ?_)
    · replace h := h.1 e6
      exact g_sub [] rfl (b_X1_readAndB_47 ok hlv HQ_readNot he  S h)
    · replace h := h.2 e6
      refine g_aload_n 0 (n := 15) ok dX1_readAnd_14 rfl rfl ?_
      refine fg_X1_X1_token (n := 18) 15 rfl ok dX1_readAnd_15 rfl ?_
      refine g_bipush (v := -8) (n := 20) ok dX1_readAnd_18 rfl (by decide) ?_
      refine g_icmp_ne (t := 47) (n := 23) ok dX1_readAnd_20 (by decide) rfl (fun e5 => ?_) (fun e5 => ?_)
      · replace h := h.1 e5
        exact g_sub [] rfl (b_X1_readAndB_47 ok hlv HQ_readNot he  S h)
      · replace h := h.2 e5
        refine g_aload_n 0 (n := 24) ok dX1_readAnd_23 rfl rfl ?_
        refine g_callVv (n := 27) (As := []) (rest := []) (c := 15) ok (c_X1_advance l v  S _ h) cal_X1_advance tw_248 tw_250 tp_2 (lt5 rfl) (sh5 rfl _) rfl (by omega) (by decide) rfl (Nat.le_of_ble_eq_true rfl) dX1_readAnd_24 rfl rfl (fun S1 h => ?_)
        refine g_aload_n 0 (n := 28) ok dX1_readAnd_27 rfl rfl ?_
        refine g_iload_n 1 (n := 29) ok dX1_readAnd_28 rfl rfl ?_
        refine g_callVv (n := 32) (As := [.int x1]) (rest := []) (c := 15) ok (HQ_readNot x1 S1 _ h) cal_X1_readNot tw_304 tw_306 tp_11 (lt5 rfl) (sh5 rfl _) rfl (by omega) (by decide) rfl (Nat.le_of_ble_eq_true rfl) dX1_readAnd_29 rfl rfl (fun S2 h => ?_)
        refine g_aload_n 0 (n := 33) ok dX1_readAnd_32 rfl rfl ?_
        refine fg_X1_X1_rule (n := 36) 15 rfl ok dX1_readAnd_33 rfl ?_
        refine g_bipush (v := -8) (n := 38) ok dX1_readAnd_36 rfl (by decide) ?_
        refine g_callVNv (n := 41) (As := [.int (-8 : Int32)]) (rest := []) (c := 17) ok (c_X2_append l v 17 rfl (-8 : Int32) S2 _ h) cal_X2_append tw_308 tw_310 tp_12 (lt7 rfl) (sh7 rfl _) rfl (by omega) (by decide) rfl (Nat.le_of_ble_eq_true rfl) dX1_readAnd_38 rfl rfl (fun S3 h => ?_)
        obtain ⟨z4, ez4⟩ : ∃ y : Int32, y = x2 + 1 := ⟨_, rfl⟩
        replace h := h z4 ez4
        refine g_iinc 2 [(2, .int z4), (0, .ref (v.1 15)), (1, .int x1)] (v := z4) (n := 44) ok dX1_readAnd_41 rfl rfl (by rw [ez4]; rfl) (by decide) rfl ?_
        refine g_goto (t := 7) ok dX1_readAnd_44 (by decide) ?_
        exact g_sub [1, 2, 0] rfl (ih x1 z4 S3 h)
def w_X1_readAndB (Q_readNot : Int32 → Mem → (Mem → Prop) → Prop) (p1 : Int32) (S : Mem) (post : Mem → Prop) : Prop := Q_readNot p1 S (fun S1 => ∃ n, w_X1_readAndB_7 Q_readNot post n p1 (0 : Int32) S1)
set_option maxHeartbeats 4000000 in
set_option maxRecDepth 20000 in
theorem c_X1_readAndB {Q_readNot : Int32 → Mem → (Mem → Prop) → Prop} (l : Launch) (v : VxT) {lv : Nat} (hlv : 10 ≤ lv) (HQ_readNot : ∀ (p1 : Int32) (S : Mem) (post : Mem → Prop), Q_readNot p1 S post → MV l yX1_readNot cX1_readNot 3 none lv (oX v) [.ref (v.1 15), .int p1] S post) (p1 : Int32) (S : Mem) (post : Mem → Prop) (h : w_X1_readAndB Q_readNot p1 S post) : MV l yX1_readAnd cX1_readAnd 3 none (lv + 1) (oX v) [.ref (v.1 15), .int p1] S post := by
  refine met_start (by decide +kernel) (Nat.le_of_ble_eq_true rfl) (fun g ok he => ?_)
  refine g_eq (L' := [(0, .ref (v.1 15)), (1, .int p1)]) (st' := []) ?_ rfl rfl
  unfold w_X1_readAndB at h
  refine g_aload_n 0 (n := 1) ok dX1_readAnd_0 rfl rfl ?_
  refine g_iload_n 1 (n := 2) ok dX1_readAnd_1 rfl rfl ?_
  refine g_callVv (n := 5) (As := [.int p1]) (rest := []) (c := 15) ok (HQ_readNot p1 S _ h) cal_X1_readNot tw_304 tw_306 tp_11 (lt5 rfl) (sh5 rfl _) rfl (by omega) (by decide) rfl (Nat.le_of_ble_eq_true rfl) dX1_readAnd_2 rfl rfl (fun S1 h => ?_)
  refine g_iconst (v := 0) (n := 6) ok dX1_readAnd_5 rfl (by decide) ?_
  refine g_istore_n [(2, .int (0 : Int32)), (0, .ref (v.1 15)), (1, .int p1)] (n := 7) ok dX1_readAnd_6 rfl (by decide) rfl ?_
  obtain ⟨n0, h⟩ := h
  exact g_sub [1, 2, 0] rfl (b_X1_readAndB_7 ok hlv HQ_readNot he n0 p1 (0 : Int32) S1 h)
def w_X1_readOrB_47 (Q_readAnd : Int32 → Mem → (Mem → Prop) → Prop) (post : Mem → Prop) (S : Mem) : Prop := post S
set_option maxHeartbeats 4000000 in
set_option maxRecDepth 20000 in
theorem b_X1_readOrB_47 {v : VxT} {l : Launch} {g : CxT} {Q_readAnd : Int32 → Mem → (Mem → Prop) → Prop} (ok : Ok l g (oX v) 3 cX1_readOr RX1 none) {lv : Nat} (hlv : 10 ≤ lv) (HQ_readAnd : ∀ (p1 : Int32) (S : Mem) (post : Mem → Prop), Q_readAnd p1 S post → MV l yX1_readAnd cX1_readAnd 3 none lv (oX v) [.ref (v.1 15), .int p1] S post) {post : Mem → Prop} (he : EndQ g (oX v) (va_Qv post (fun S1 t => BX (oX v) S1 t) (AX (oX v)))) (S : Mem) (h : w_X1_readOrB_47 Q_readAnd post  S) : G g (oX v) (lv + 1) 3 47 [] [] S := by
  unfold w_X1_readOrB_47 at h
  exact g_vret ok he h dX1_readOr_47
def w_X1_readOrB_7 (Q_readAnd : Int32 → Mem → (Mem → Prop) → Prop) (post : Mem → Prop) : Nat → Int32 → Int32 → Mem → Prop
  | 0, _, _, _ => False
  | n + 1, x1, x2, S => (((160 : Int32) ≤ x2 → w_X1_readOrB_47 Q_readAnd post  S) ∧ (¬ (160 : Int32) ≤ x2 → ((¬ (S 15 3) = (-7 : Int32) → w_X1_readOrB_47 Q_readAnd post  S) ∧ ((S 15 3) = (-7 : Int32) → w_X1_advance  S (fun S1 => Q_readAnd x1 S1 (fun S2 => w_X2_append 17 (-7 : Int32) S2 (fun S3 => (∀ z4 : Int32, z4 = x2 + 1 → w_X1_readOrB_7 Q_readAnd post n x1 z4 S3))))))))
set_option maxHeartbeats 4000000 in
set_option maxRecDepth 20000 in
theorem b_X1_readOrB_7 {v : VxT} {l : Launch} {g : CxT} {Q_readAnd : Int32 → Mem → (Mem → Prop) → Prop} (ok : Ok l g (oX v) 3 cX1_readOr RX1 none) {lv : Nat} (hlv : 10 ≤ lv) (HQ_readAnd : ∀ (p1 : Int32) (S : Mem) (post : Mem → Prop), Q_readAnd p1 S post → MV l yX1_readAnd cX1_readAnd 3 none lv (oX v) [.ref (v.1 15), .int p1] S post) {post : Mem → Prop} (he : EndQ g (oX v) (va_Qv post (fun S1 t => BX (oX v) S1 t) (AX (oX v)))) : ∀ (n : Nat) (x1 : Int32) (x2 : Int32) (S : Mem), w_X1_readOrB_7 Q_readAnd post n x1 x2 S → G g (oX v) (lv + 1) 3 7 [(0, .ref (v.1 15)), (1, .int x1), (2, .int x2)] [] S := by
  intro n
  induction n with
  | zero =>
    intro x1 x2 S h
    exact h.elim
  | succ n ih =>
    intro x1 x2 S h
    rw [w_X1_readOrB_7] at h
    refine g_iload_n 2 (n := 8) ok dX1_readOr_7 rfl rfl ?_
    refine g_sipush (v := 160) (n := 11) ok dX1_readOr_8 rfl (by decide) ?_
    refine g_icmp_ge (t := 47) (n := 14) ok dX1_readOr_11 (by decide) rfl (fun e6 => ?_) (fun e6 => ?_)
    · replace h := h.1 e6
      exact g_sub [] rfl (b_X1_readOrB_47 ok hlv HQ_readAnd he  S h)
    · replace h := h.2 e6
      refine g_aload_n 0 (n := 15) ok dX1_readOr_14 rfl rfl ?_
      refine fg_X1_X1_token (n := 18) 15 rfl ok dX1_readOr_15 rfl ?_
      refine g_bipush (v := -7) (n := 20) ok dX1_readOr_18 rfl (by decide) ?_
      refine g_icmp_ne (t := 47) (n := 23) ok dX1_readOr_20 (by decide) rfl (fun e5 => ?_) (fun e5 => ?_)
      · replace h := h.1 e5
        exact g_sub [] rfl (b_X1_readOrB_47 ok hlv HQ_readAnd he  S h)
      · replace h := h.2 e5
        refine g_aload_n 0 (n := 24) ok dX1_readOr_23 rfl rfl ?_
        refine g_callVv (n := 27) (As := []) (rest := []) (c := 15) ok (c_X1_advance l v  S _ h) cal_X1_advance tw_248 tw_250 tp_2 (lt5 rfl) (sh5 rfl _) rfl (by omega) (by decide) rfl (Nat.le_of_ble_eq_true rfl) dX1_readOr_24 rfl rfl (fun S1 h => ?_)
        refine g_aload_n 0 (n := 28) ok dX1_readOr_27 rfl rfl ?_
        refine g_iload_n 1 (n := 29) ok dX1_readOr_28 rfl rfl ?_
        refine g_callVv (n := 32) (As := [.int x1]) (rest := []) (c := 15) ok (HQ_readAnd x1 S1 _ h) cal_X1_readAnd tw_300 tw_302 tp_10 (lt5 rfl) (sh5 rfl _) rfl (by omega) (by decide) rfl (Nat.le_of_ble_eq_true rfl) dX1_readOr_29 rfl rfl (fun S2 h => ?_)
        refine g_aload_n 0 (n := 33) ok dX1_readOr_32 rfl rfl ?_
        refine fg_X1_X1_rule (n := 36) 15 rfl ok dX1_readOr_33 rfl ?_
        refine g_bipush (v := -7) (n := 38) ok dX1_readOr_36 rfl (by decide) ?_
        refine g_callVNv (n := 41) (As := [.int (-7 : Int32)]) (rest := []) (c := 17) ok (c_X2_append l v 17 rfl (-7 : Int32) S2 _ h) cal_X2_append tw_308 tw_310 tp_12 (lt7 rfl) (sh7 rfl _) rfl (by omega) (by decide) rfl (Nat.le_of_ble_eq_true rfl) dX1_readOr_38 rfl rfl (fun S3 h => ?_)
        obtain ⟨z4, ez4⟩ : ∃ y : Int32, y = x2 + 1 := ⟨_, rfl⟩
        replace h := h z4 ez4
        refine g_iinc 2 [(2, .int z4), (0, .ref (v.1 15)), (1, .int x1)] (v := z4) (n := 44) ok dX1_readOr_41 rfl rfl (by rw [ez4]; rfl) (by decide) rfl ?_
        refine g_goto (t := 7) ok dX1_readOr_44 (by decide) ?_
        exact g_sub [1, 2, 0] rfl (ih x1 z4 S3 h)
def w_X1_readOrB (Q_readAnd : Int32 → Mem → (Mem → Prop) → Prop) (p1 : Int32) (S : Mem) (post : Mem → Prop) : Prop := Q_readAnd p1 S (fun S1 => ∃ n, w_X1_readOrB_7 Q_readAnd post n p1 (0 : Int32) S1)
set_option maxHeartbeats 4000000 in
set_option maxRecDepth 20000 in
theorem c_X1_readOrB {Q_readAnd : Int32 → Mem → (Mem → Prop) → Prop} (l : Launch) (v : VxT) {lv : Nat} (hlv : 10 ≤ lv) (HQ_readAnd : ∀ (p1 : Int32) (S : Mem) (post : Mem → Prop), Q_readAnd p1 S post → MV l yX1_readAnd cX1_readAnd 3 none lv (oX v) [.ref (v.1 15), .int p1] S post) (p1 : Int32) (S : Mem) (post : Mem → Prop) (h : w_X1_readOrB Q_readAnd p1 S post) : MV l yX1_readOr cX1_readOr 3 none (lv + 1) (oX v) [.ref (v.1 15), .int p1] S post := by
  refine met_start (by decide +kernel) (Nat.le_of_ble_eq_true rfl) (fun g ok he => ?_)
  refine g_eq (L' := [(0, .ref (v.1 15)), (1, .int p1)]) (st' := []) ?_ rfl rfl
  unfold w_X1_readOrB at h
  refine g_aload_n 0 (n := 1) ok dX1_readOr_0 rfl rfl ?_
  refine g_iload_n 1 (n := 2) ok dX1_readOr_1 rfl rfl ?_
  refine g_callVv (n := 5) (As := [.int p1]) (rest := []) (c := 15) ok (HQ_readAnd p1 S _ h) cal_X1_readAnd tw_300 tw_302 tp_10 (lt5 rfl) (sh5 rfl _) rfl (by omega) (by decide) rfl (Nat.le_of_ble_eq_true rfl) dX1_readOr_2 rfl rfl (fun S1 h => ?_)
  refine g_iconst (v := 0) (n := 6) ok dX1_readOr_5 rfl (by decide) ?_
  refine g_istore_n [(2, .int (0 : Int32)), (0, .ref (v.1 15)), (1, .int p1)] (n := 7) ok dX1_readOr_6 rfl (by decide) rfl ?_
  obtain ⟨n0, h⟩ := h
  exact g_sub [1, 2, 0] rfl (b_X1_readOrB_7 ok hlv HQ_readAnd he n0 p1 (0 : Int32) S1 h)
def wRec : Nat → Nat → Int32 → Mem → (Mem → Prop) → Prop
  | 0, _, _, _, _ => False
  | d + 1, 0, p, S, post => w_X1_readOrB (wRec d 1) p S post
  | d + 1, 1, p, S, post => w_X1_readAndB (wRec d 2) p S post
  | d + 1, 2, p, S, post => w_X1_readNotB (wRec d 2) (wRec d 3) p S post
  | d + 1, 3, p, S, post => w_X1_readSumB (wRec d 4) p S post
  | d + 1, 4, p, S, post => w_X1_readTermB (wRec d 5) p S post
  | d + 1, _, p, S, post => w_X1_readOneB (wRec d 5) (wRec d 0) p S post
theorem c_rec (l : Launch) (v : VxT) : ∀ d : Nat, (∀ (p1 : Int32) (S : Mem) (post : Mem → Prop), wRec d 0 p1 S post → MV l yX1_readOr cX1_readOr 3 none (10 + d) (oX v) [.ref (v.1 15), .int p1] S post) ∧ (∀ (p1 : Int32) (S : Mem) (post : Mem → Prop), wRec d 1 p1 S post → MV l yX1_readAnd cX1_readAnd 3 none (10 + d) (oX v) [.ref (v.1 15), .int p1] S post) ∧ (∀ (p1 : Int32) (S : Mem) (post : Mem → Prop), wRec d 2 p1 S post → MV l yX1_readNot cX1_readNot 3 none (10 + d) (oX v) [.ref (v.1 15), .int p1] S post) ∧ (∀ (p1 : Int32) (S : Mem) (post : Mem → Prop), wRec d 3 p1 S post → MV l yX1_readSum cX1_readSum 4 none (10 + d) (oX v) [.ref (v.1 15), .int p1] S post) ∧ (∀ (p1 : Int32) (S : Mem) (post : Mem → Prop), wRec d 4 p1 S post → MV l yX1_readTerm cX1_readTerm 3 none (10 + d) (oX v) [.ref (v.1 15), .int p1] S post) ∧ (∀ (p1 : Int32) (S : Mem) (post : Mem → Prop), wRec d 5 p1 S post → MV l yX1_readOne cX1_readOne 2 none (10 + d) (oX v) [.ref (v.1 15), .int p1] S post) := by
  intro d
  induction d with
  | zero => exact ⟨fun _ _ _ h => h.elim, fun _ _ _ h => h.elim, fun _ _ _ h => h.elim, fun _ _ _ h => h.elim, fun _ _ _ h => h.elim, fun _ _ _ h => h.elim⟩
  | succ d ih =>
    obtain ⟨h0, h1, h2, h3, h4, h5⟩ := ih
    have hlv : 10 ≤ 10 + d := Nat.le_add_right _ _
    exact ⟨fun p S post h => c_X1_readOrB l v hlv h1 p S post h, fun p S post h => c_X1_readAndB l v hlv h2 p S post h, fun p S post h => c_X1_readNotB l v hlv h2 h3 p S post h, fun p S post h => c_X1_readSumB l v hlv h4 p S post h, fun p S post h => c_X1_readTermB l v hlv h5 p S post h, fun p S post h => c_X1_readOneB l v hlv h5 h0 p S post h⟩
def w_X1_readOr (p1 : Int32) (S : Mem) (post : Mem → Prop) : Prop := wRec 60 0 p1 S post
theorem c_X1_readOr (l : Launch) (v : VxT) (p1 : Int32) (S : Mem) (post : Mem → Prop) (h : w_X1_readOr p1 S post) : MV l yX1_readOr cX1_readOr 3 none 70 (oX v) [.ref (v.1 15), .int p1] S post := (c_rec l v 60).1 p1 S post h
def w_X1_readAnd (p1 : Int32) (S : Mem) (post : Mem → Prop) : Prop := wRec 60 1 p1 S post
theorem c_X1_readAnd (l : Launch) (v : VxT) (p1 : Int32) (S : Mem) (post : Mem → Prop) (h : w_X1_readAnd p1 S post) : MV l yX1_readAnd cX1_readAnd 3 none 70 (oX v) [.ref (v.1 15), .int p1] S post := (c_rec l v 60).2.1 p1 S post h
def w_X1_readNot (p1 : Int32) (S : Mem) (post : Mem → Prop) : Prop := wRec 60 2 p1 S post
theorem c_X1_readNot (l : Launch) (v : VxT) (p1 : Int32) (S : Mem) (post : Mem → Prop) (h : w_X1_readNot p1 S post) : MV l yX1_readNot cX1_readNot 3 none 70 (oX v) [.ref (v.1 15), .int p1] S post := (c_rec l v 60).2.2.1 p1 S post h
def w_X1_readSum (p1 : Int32) (S : Mem) (post : Mem → Prop) : Prop := wRec 60 3 p1 S post
theorem c_X1_readSum (l : Launch) (v : VxT) (p1 : Int32) (S : Mem) (post : Mem → Prop) (h : w_X1_readSum p1 S post) : MV l yX1_readSum cX1_readSum 4 none 70 (oX v) [.ref (v.1 15), .int p1] S post := (c_rec l v 60).2.2.2.1 p1 S post h
def w_X1_readTerm (p1 : Int32) (S : Mem) (post : Mem → Prop) : Prop := wRec 60 4 p1 S post
theorem c_X1_readTerm (l : Launch) (v : VxT) (p1 : Int32) (S : Mem) (post : Mem → Prop) (h : w_X1_readTerm p1 S post) : MV l yX1_readTerm cX1_readTerm 3 none 70 (oX v) [.ref (v.1 15), .int p1] S post := (c_rec l v 60).2.2.2.2.1 p1 S post h
def w_X1_readOne (p1 : Int32) (S : Mem) (post : Mem → Prop) : Prop := wRec 60 5 p1 S post
theorem c_X1_readOne (l : Launch) (v : VxT) (p1 : Int32) (S : Mem) (post : Mem → Prop) (h : w_X1_readOne p1 S post) : MV l yX1_readOne cX1_readOne 2 none 70 (oX v) [.ref (v.1 15), .int p1] S post := (c_rec l v 60).2.2.2.2.2 p1 S post h
def w_X2_endPart_19 (post : Mem → Prop) (c : Nat) (S : Mem) : Prop := post S
set_option maxHeartbeats 4000000 in
set_option maxRecDepth 20000 in
theorem b_X2_endPart_19 {v : VxT} {l : Launch} {g : CxT} (ok : Ok l g (oX v) 2 cX2_endPart RX2 none) (c : Nat) (hc : kdX c = 7) {post : Mem → Prop} (he : EndQ g (oX v) (va_Qv post (fun S1 t => BX (oX v) S1 t) (AX (oX v)))) (S : Mem) (h : w_X2_endPart_19 post c  S) : G g (oX v) 2 2 19 [] [] S := by
  unfold w_X2_endPart_19 at h
  exact g_vret ok he h dX2_endPart_19
def w_X2_endPart (c : Nat) (p1 : Int32) (S : Mem) (post : Mem → Prop) : Prop := w_X7_within p1 (0 : Int32) (2 : Int32) S (fun r1 S1 => ((r1 = 0 → w_X2_endPart_19 post c  S1) ∧ (¬ r1 = 0 → (vp_in p1 3 ∧ (∀ S2 : Mem, S2 = mset S1 (c + 2) (upd (S1 (c + 2)) p1.toNatClampNeg (S1 c 2)) → w_X2_endPart_19 post c  S2)))))
set_option maxHeartbeats 4000000 in
set_option maxRecDepth 20000 in
theorem c_X2_endPart (l : Launch) (v : VxT) (c : Nat) (hc : kdX c = 7) (p1 : Int32) (S : Mem) (post : Mem → Prop) (h : w_X2_endPart c p1 S post) : MV l yX2_endPart cX2_endPart 2 none 2 (oX v) [.ref (v.1 c), .int p1] S post := by
  refine met_start (by decide +kernel) (Nat.le_of_ble_eq_true rfl) (fun g ok he => ?_)
  refine g_eq (L' := [(0, .ref (v.1 c)), (1, .int p1)]) (st' := []) ?_ rfl rfl
  unfold w_X2_endPart at h
  refine g_iload_n 1 (n := 1) ok dX2_endPart_0 rfl rfl ?_
  refine g_iconst (v := 0) (n := 2) ok dX2_endPart_1 rfl (by decide) ?_
  refine g_iconst (v := 2) (n := 3) ok dX2_endPart_2 rfl (by decide) ?_
  refine g_callSNi (n := 6) (As := [.int p1, .int (0 : Int32), .int (2 : Int32)]) (rest := []) ok (c_X7_within l v p1 (0 : Int32) (2 : Int32) S _ h) cal_X7_within tw_335 tw_253 (by decide) (by decide) rfl (Nat.le_of_ble_eq_true rfl) dX2_endPart_3 rfl rfl (fun r1 S1 h => ?_)
  refine g_if_eq (t := 19) (n := 9) ok dX2_endPart_6 (by decide) rfl (fun e3 => ?_) (fun e3 => ?_)
  · replace h := h.1 e3
    exact g_sub [] rfl (b_X2_endPart_19 ok c hc he  S1 h)
  · replace h := h.2 e3
    refine g_aload_n 0 (n := 10) ok dX2_endPart_9 rfl rfl ?_
    refine fg_X2_X2_ends (n := 13) c hc ok dX2_endPart_10 rfl ?_
    refine g_iload_n 1 (n := 14) ok dX2_endPart_13 rfl rfl ?_
    refine g_aload_n 0 (n := 15) ok dX2_endPart_14 rfl rfl ?_
    refine fg_X2_X2_size (n := 18) c hc ok dX2_endPart_15 rfl ?_
    obtain ⟨h0, h⟩ := h
    refine g_iast (c := (c + 2)) (t0 := 0) (n := 19) ok (lt8 (kd7_ends hc)) (fun f => sh8 (kd7_ends hc) f) rfl h0 dX2_endPart_18 rfl ?_
    refine g_mem (fun S2 eS2 => ?_)
    replace h := h S2 eS2
    exact g_sub [] rfl (b_X2_endPart_19 ok c hc he  S2 h)
def w_X1_readTape_72 (post : Int32 → Mem → Prop) (S : Mem) : Prop := (∀ S1 : Mem, S1 = mset S 15 (upd (S 15) 2 (0 : Int32)) → post (S1 15 7) S1)
set_option maxHeartbeats 4000000 in
set_option maxRecDepth 20000 in
theorem b_X1_readTape_72 {v : VxT} {l : Launch} {g : CxT} (ok : Ok l g (oX v) 2 cX1_readTape RX1 (some .int)) {post : Int32 → Mem → Prop} (he : EndQ g (oX v) (va_Qi post (fun S1 t => BX (oX v) S1 t) (AX (oX v)))) (S : Mem) (h : w_X1_readTape_72 post  S) : G g (oX v) 71 2 72 [(0, .ref (v.1 15))] [] S := by
  unfold w_X1_readTape_72 at h
  refine g_aload_n 0 (n := 73) ok dX1_readTape_72 rfl rfl ?_
  refine g_iconst (v := 0) (n := 74) ok dX1_readTape_73 rfl (by decide) ?_
  refine fp_X1_X1_size (n := 77) 15 rfl ok dX1_readTape_74 rfl ?_
  refine g_mem (fun S1 eS1 => ?_)
  replace h := h S1 eS1
  refine g_aload_n 0 (n := 78) ok dX1_readTape_77 rfl rfl ?_
  refine fg_X1_X1_fault (n := 81) 15 rfl ok dX1_readTape_78 rfl ?_
  exact g_iret ok he h dX1_readTape_81
def w_X1_readTape_24 (post : Int32 → Mem → Prop) : Nat → Int32 → Mem → Prop
  | 0, _, _ => False
  | n + 1, x1, S => (((3 : Int32) ≤ x1 → (((S 15 3) = 0 → w_X1_readTape_72 post  S) ∧ (¬ (S 15 3) = 0 → w_X1_fail  S (fun S1 => w_X1_readTape_72 post  S1)))) ∧ (¬ (3 : Int32) ≤ x1 → w_X1_accept ((6 : Int32) + x1) S (fun S3 => w_X1_readOr (0 : Int32) S3 (fun S4 => w_X1_accept (5 : Int32) S4 (fun S5 => w_X2_endPart 17 x1 S5 (fun S6 => (∀ z7 : Int32, z7 = x1 + 1 → w_X1_readTape_24 post n z7 S6)))))))
set_option maxHeartbeats 4000000 in
set_option maxRecDepth 20000 in
theorem b_X1_readTape_24 {v : VxT} {l : Launch} {g : CxT} (ok : Ok l g (oX v) 2 cX1_readTape RX1 (some .int)) {post : Int32 → Mem → Prop} (he : EndQ g (oX v) (va_Qi post (fun S1 t => BX (oX v) S1 t) (AX (oX v)))) : ∀ (n : Nat) (x1 : Int32) (S : Mem), w_X1_readTape_24 post n x1 S → G g (oX v) 71 2 24 [(0, .ref (v.1 15)), (1, .int x1)] [] S := by
  intro n
  induction n with
  | zero =>
    intro x1 S h
    exact h.elim
  | succ n ih =>
    intro x1 S h
    rw [w_X1_readTape_24] at h
    refine g_iload_n 1 (n := 25) ok dX1_readTape_24 rfl rfl ?_
    refine g_iconst (v := 3) (n := 26) ok dX1_readTape_25 rfl (by decide) ?_
    refine g_icmp_ge (t := 61) (n := 29) ok dX1_readTape_26 (by decide) rfl (fun e8 => ?_) (fun e8 => ?_)
    · replace h := h.1 e8
      refine g_aload_n 0 (n := 62) ok dX1_readTape_61 rfl rfl ?_
      refine fg_X1_X1_token (n := 65) 15 rfl ok dX1_readTape_62 rfl ?_
      refine g_if_eq (t := 72) (n := 68) ok dX1_readTape_65 (by decide) rfl (fun e2 => ?_) (fun e2 => ?_)
      · replace h := h.1 e2
        exact g_sub [0] rfl (b_X1_readTape_72 ok he  S h)
      · replace h := h.2 e2
        refine g_aload_n 0 (n := 69) ok dX1_readTape_68 rfl rfl ?_
        refine g_callVv (n := 72) (As := []) (rest := []) (c := 15) ok (c_X1_fail l v  S _ h) cal_X1_fail tw_292 tw_294 tp_8 (lt5 rfl) (sh5 rfl _) rfl (by decide) (by decide) rfl (Nat.le_of_ble_eq_true rfl) dX1_readTape_69 rfl rfl (fun S1 h => ?_)
        exact g_sub [0] rfl (b_X1_readTape_72 ok he  S1 h)
    · replace h := h.2 e8
      refine g_aload_n 0 (n := 30) ok dX1_readTape_29 rfl rfl ?_
      refine g_bipush (v := 6) (n := 32) ok dX1_readTape_30 rfl (by decide) ?_
      refine g_iload_n 1 (n := 33) ok dX1_readTape_32 rfl rfl ?_
      refine g_iadd (n := 34) ok dX1_readTape_33 rfl ?_
      refine g_callVv (n := 37) (As := [.int ((6 : Int32) + x1)]) (rest := []) (c := 15) ok (c_X1_accept l v ((6 : Int32) + x1) S _ h) cal_X1_accept tw_288 tw_290 tp_7 (lt5 rfl) (sh5 rfl _) rfl (by decide) (by decide) rfl (Nat.le_of_ble_eq_true rfl) dX1_readTape_34 rfl rfl (fun S3 h => ?_)
      refine g_aload_n 0 (n := 38) ok dX1_readTape_37 rfl rfl ?_
      refine g_iconst (v := 0) (n := 39) ok dX1_readTape_38 rfl (by decide) ?_
      refine g_callVv (n := 42) (As := [.int (0 : Int32)]) (rest := []) (c := 15) ok (c_X1_readOr l v (0 : Int32) S3 _ h) cal_X1_readOr tw_296 tw_298 tp_9 (lt5 rfl) (sh5 rfl _) rfl (by decide) (by decide) rfl (Nat.le_of_ble_eq_true rfl) dX1_readTape_39 rfl rfl (fun S4 h => ?_)
      refine g_aload_n 0 (n := 43) ok dX1_readTape_42 rfl rfl ?_
      refine g_iconst (v := 5) (n := 44) ok dX1_readTape_43 rfl (by decide) ?_
      refine g_callVv (n := 47) (As := [.int (5 : Int32)]) (rest := []) (c := 15) ok (c_X1_accept l v (5 : Int32) S4 _ h) cal_X1_accept tw_288 tw_290 tp_7 (lt5 rfl) (sh5 rfl _) rfl (by decide) (by decide) rfl (Nat.le_of_ble_eq_true rfl) dX1_readTape_44 rfl rfl (fun S5 h => ?_)
      refine g_aload_n 0 (n := 48) ok dX1_readTape_47 rfl rfl ?_
      refine fg_X1_X1_rule (n := 51) 15 rfl ok dX1_readTape_48 rfl ?_
      refine g_iload_n 1 (n := 52) ok dX1_readTape_51 rfl rfl ?_
      refine g_callVNv (n := 55) (As := [.int x1]) (rest := []) (c := 17) ok (c_X2_endPart l v 17 rfl x1 S5 _ h) cal_X2_endPart tw_331 tw_333 tp_16 (lt7 rfl) (sh7 rfl _) rfl (by decide) (by decide) rfl (Nat.le_of_ble_eq_true rfl) dX1_readTape_52 rfl rfl (fun S6 h => ?_)
      obtain ⟨z7, ez7⟩ : ∃ y : Int32, y = x1 + 1 := ⟨_, rfl⟩
      replace h := h z7 ez7
      refine g_iinc 1 [(1, .int z7), (0, .ref (v.1 15))] (v := z7) (n := 58) ok dX1_readTape_55 rfl rfl (by rw [ez7]; rfl) (by decide) rfl ?_
      refine g_goto (t := 24) ok dX1_readTape_58 (by decide) ?_
      exact g_sub [1, 0] rfl (ih z7 S6 h)
def w_X1_readTape (S : Mem) (post : Int32 → Mem → Prop) : Prop := (∀ S1 : Mem, S1 = mset S 17 (upd (S 17) 2 (0 : Int32)) → (∀ S2 : Mem, S2 = mset S1 15 (upd (S1 15) 5 (0 : Int32)) → (∀ S3 : Mem, S3 = mset S2 15 (upd (S2 15) 7 (-1 : Int32)) → w_X1_advance  S3 (fun S4 => ∃ n, w_X1_readTape_24 post n (0 : Int32) S4))))
set_option maxHeartbeats 4000000 in
set_option maxRecDepth 20000 in
theorem c_X1_readTape (l : Launch) (v : VxT) (S : Mem) (post : Int32 → Mem → Prop) (h : w_X1_readTape  S post) : MI l yX1_readTape cX1_readTape 2 (some .int) 71 (oX v) [.ref (v.1 15)] S post := by
  refine met_start (by decide +kernel) (Nat.le_of_ble_eq_true rfl) (fun g ok he => ?_)
  refine g_eq (L' := [(0, .ref (v.1 15))]) (st' := []) ?_ rfl rfl
  unfold w_X1_readTape at h
  refine g_aload_n 0 (n := 1) ok dX1_readTape_0 rfl rfl ?_
  refine fg_X1_X1_rule (n := 4) 15 rfl ok dX1_readTape_1 rfl ?_
  refine g_iconst (v := 0) (n := 5) ok dX1_readTape_4 rfl (by decide) ?_
  refine fp_X1_X2_size (n := 8) 17 rfl ok dX1_readTape_5 rfl ?_
  refine g_mem (fun S1 eS1 => ?_)
  replace h := h S1 eS1
  refine g_aload_n 0 (n := 9) ok dX1_readTape_8 rfl rfl ?_
  refine g_iconst (v := 0) (n := 10) ok dX1_readTape_9 rfl (by decide) ?_
  refine fp_X1_X1_behind (n := 13) 15 rfl ok dX1_readTape_10 rfl ?_
  refine g_mem (fun S2 eS2 => ?_)
  replace h := h S2 eS2
  refine g_aload_n 0 (n := 14) ok dX1_readTape_13 rfl rfl ?_
  refine g_iconst (v := -1) (n := 15) ok dX1_readTape_14 rfl (by decide) ?_
  refine fp_X1_X1_fault (n := 18) 15 rfl ok dX1_readTape_15 rfl ?_
  refine g_mem (fun S3 eS3 => ?_)
  replace h := h S3 eS3
  refine g_aload_n 0 (n := 19) ok dX1_readTape_18 rfl rfl ?_
  refine g_callVv (n := 22) (As := []) (rest := []) (c := 15) ok (c_X1_advance l v  S3 _ h) cal_X1_advance tw_248 tw_250 tp_2 (lt5 rfl) (sh5 rfl _) rfl (by decide) (by decide) rfl (Nat.le_of_ble_eq_true rfl) dX1_readTape_19 rfl rfl (fun S4 h => ?_)
  refine g_iconst (v := 0) (n := 23) ok dX1_readTape_22 rfl (by decide) ?_
  refine g_istore_n [(1, .int (0 : Int32)), (0, .ref (v.1 15))] (n := 24) ok dX1_readTape_23 rfl (by decide) rfl ?_
  obtain ⟨n0, h⟩ := h
  exact g_sub [1, 0] rfl (b_X1_readTape_24 ok he n0 (0 : Int32) S4 h)
def w_X2_becomeLike (c : Nat) (c1 : Nat) (S : Mem) (post : Mem → Prop) : Prop := ((¬ (0 : Int32) < 0 ∧ ¬ (0 : Int32) < 0 ∧ ¬ (160 : Int32) < 0 ∧ (0 : Int32).toNatClampNeg + (160 : Int32).toNatClampNeg ≤ 160 ∧ (0 : Int32).toNatClampNeg + (160 : Int32).toNatClampNeg ≤ 160) ∧ (∀ S1 : Mem, S1 = mset S (c + 1) (va_cpy (S (c1 + 1)) (S (c + 1)) (0 : Int32).toNatClampNeg (0 : Int32).toNatClampNeg (160 : Int32).toNatClampNeg) → ((¬ (0 : Int32) < 0 ∧ ¬ (0 : Int32) < 0 ∧ ¬ (3 : Int32) < 0 ∧ (0 : Int32).toNatClampNeg + (3 : Int32).toNatClampNeg ≤ 3 ∧ (0 : Int32).toNatClampNeg + (3 : Int32).toNatClampNeg ≤ 3) ∧ (∀ S2 : Mem, S2 = mset S1 (c + 2) (va_cpy (S1 (c1 + 2)) (S1 (c + 2)) (0 : Int32).toNatClampNeg (0 : Int32).toNatClampNeg (3 : Int32).toNatClampNeg) → (∀ S3 : Mem, S3 = mset S2 c (upd (S2 c) 2 (S2 c1 2)) → post S3)))))
set_option maxHeartbeats 4000000 in
set_option maxRecDepth 20000 in
theorem c_X2_becomeLike (l : Launch) (v : VxT) (c : Nat) (hc : kdX c = 7) (c1 : Nat) (hc1 : kdX c1 = 7) (S : Mem) (post : Mem → Prop) (h : w_X2_becomeLike c c1 S post) : MV l yX2_becomeLike cX2_becomeLike 2 none 1 (oX v) [.ref (v.1 c), .ref (v.1 c1)] S post := by
  refine met_start (by decide +kernel) (Nat.le_of_ble_eq_true rfl) (fun g ok he => ?_)
  refine g_eq (L' := [(0, .ref (v.1 c)), (1, .ref (v.1 c1))]) (st' := []) ?_ rfl rfl
  unfold w_X2_becomeLike at h
  refine g_aload_n 1 (n := 1) ok dX2_becomeLike_0 rfl rfl ?_
  refine fg_X2_X2_code (n := 4) c1 hc1 ok dX2_becomeLike_1 rfl ?_
  refine g_iconst (v := 0) (n := 5) ok dX2_becomeLike_4 rfl (by decide) ?_
  refine g_aload_n 0 (n := 6) ok dX2_becomeLike_5 rfl rfl ?_
  refine fg_X2_X2_code (n := 9) c hc ok dX2_becomeLike_6 rfl ?_
  refine g_iconst (v := 0) (n := 10) ok dX2_becomeLike_9 rfl (by decide) ?_
  refine g_sipush (v := 160) (n := 13) ok dX2_becomeLike_10 rfl (by decide) ?_
  obtain ⟨h0, h⟩ := h
  refine g_copy (c0 := (c1 + 1)) (c1 := (c + 1)) (t0 := 0) (n := 16) ok tw_340 tw_342 tw_341 tw_13 (lt6 (kd7_code hc1)) (fun f => sh6 (kd7_code hc1) f) (lt6 (kd7_code hc)) (fun f => sh6 (kd7_code hc) f) rfl h0 (by decide) (Nat.le_of_ble_eq_true rfl) dX2_becomeLike_13 rfl ?_
  refine g_mem (fun S1 eS1 => ?_)
  replace h := h S1 eS1
  refine g_aload_n 1 (n := 17) ok dX2_becomeLike_16 rfl rfl ?_
  refine fg_X2_X2_ends (n := 20) c1 hc1 ok dX2_becomeLike_17 rfl ?_
  refine g_iconst (v := 0) (n := 21) ok dX2_becomeLike_20 rfl (by decide) ?_
  refine g_aload_n 0 (n := 22) ok dX2_becomeLike_21 rfl rfl ?_
  refine fg_X2_X2_ends (n := 25) c hc ok dX2_becomeLike_22 rfl ?_
  refine g_iconst (v := 0) (n := 26) ok dX2_becomeLike_25 rfl (by decide) ?_
  refine g_iconst (v := 3) (n := 27) ok dX2_becomeLike_26 rfl (by decide) ?_
  obtain ⟨h0, h⟩ := h
  refine g_copy (c0 := (c1 + 2)) (c1 := (c + 2)) (t0 := 0) (n := 30) ok tw_340 tw_342 tw_341 tw_13 (lt8 (kd7_ends hc1)) (fun f => sh8 (kd7_ends hc1) f) (lt8 (kd7_ends hc)) (fun f => sh8 (kd7_ends hc) f) rfl h0 (by decide) (Nat.le_of_ble_eq_true rfl) dX2_becomeLike_27 rfl ?_
  refine g_mem (fun S2 eS2 => ?_)
  replace h := h S2 eS2
  refine g_aload_n 0 (n := 31) ok dX2_becomeLike_30 rfl rfl ?_
  refine g_aload_n 1 (n := 32) ok dX2_becomeLike_31 rfl rfl ?_
  refine fg_X2_X2_size (n := 35) c1 hc1 ok dX2_becomeLike_32 rfl ?_
  refine fp_X2_X2_size (n := 38) c hc ok dX2_becomeLike_35 rfl ?_
  refine g_mem (fun S3 eS3 => ?_)
  replace h := h S3 eS3
  exact g_vret ok he h dX2_becomeLike_38
def w_X2_turnedRound_18 (post : Int32 → Mem → Prop) (y0 : Int32) (S : Mem) : Prop := post y0 S
set_option maxHeartbeats 4000000 in
set_option maxRecDepth 20000 in
theorem b_X2_turnedRound_18 {v : VxT} {l : Launch} {g : CxT} (ok : Ok l g (oX v) 2 cX2_turnedRound RX2 (some .int)) {post : Int32 → Mem → Prop} (he : EndQ g (oX v) (va_Qi post (fun S1 t => BX (oX v) S1 t) (AX (oX v)))) (y0 : Int32) (S : Mem) (h : w_X2_turnedRound_18 post y0 S) : G g (oX v) 1 2 18 [] [.int y0] S := by
  unfold w_X2_turnedRound_18 at h
  exact g_iret ok he h dX2_turnedRound_18
def w_X2_turnedRound (p0 : Int32) (p1 : Int32) (S : Mem) (post : Int32 → Mem → Prop) : Prop := ((¬ p0 = (-15 : Int32) → ((¬ p1 = 0 → w_X2_turnedRound_18 post (0 : Int32) S) ∧ (p1 = 0 → w_X2_turnedRound_18 post (1 : Int32) S))) ∧ (p0 = (-15 : Int32) → post (-p1) S))
set_option maxHeartbeats 4000000 in
set_option maxRecDepth 20000 in
theorem c_X2_turnedRound (l : Launch) (v : VxT) (p0 : Int32) (p1 : Int32) (S : Mem) (post : Int32 → Mem → Prop) (h : w_X2_turnedRound p0 p1 S post) : MI l yX2_turnedRound cX2_turnedRound 2 (some .int) 1 (oX v) [.int p0, .int p1] S post := by
  refine met_start (by decide +kernel) (Nat.le_of_ble_eq_true rfl) (fun g ok he => ?_)
  refine g_eq (L' := [(0, .int p0), (1, .int p1)]) (st' := []) ?_ rfl rfl
  unfold w_X2_turnedRound at h
  refine g_iload_n 0 (n := 1) ok dX2_turnedRound_0 rfl rfl ?_
  refine g_bipush (v := -15) (n := 3) ok dX2_turnedRound_1 rfl (by decide) ?_
  refine g_icmp_ne (t := 9) (n := 6) ok dX2_turnedRound_3 (by decide) rfl (fun e2 => ?_) (fun e2 => ?_)
  · replace h := h.1 e2
    refine g_iload_n 1 (n := 10) ok dX2_turnedRound_9 rfl rfl ?_
    refine g_if_ne (t := 17) (n := 13) ok dX2_turnedRound_10 (by decide) rfl (fun e1 => ?_) (fun e1 => ?_)
    · replace h := h.1 e1
      refine g_iconst (v := 0) (n := 18) ok dX2_turnedRound_17 rfl (by decide) ?_
      exact g_sub [] rfl (b_X2_turnedRound_18 ok he (0 : Int32) S h)
    · replace h := h.2 e1
      refine g_iconst (v := 1) (n := 14) ok dX2_turnedRound_13 rfl (by decide) ?_
      refine g_goto (t := 18) ok dX2_turnedRound_14 (by decide) ?_
      exact g_sub [] rfl (b_X2_turnedRound_18 ok he (1 : Int32) S h)
  · replace h := h.2 e2
    refine g_iload_n 1 (n := 7) ok dX2_turnedRound_6 rfl rfl ?_
    refine g_ineg (n := 8) ok dX2_turnedRound_7 rfl ?_
    exact g_iret ok he h dX2_turnedRound_8
def w_X2_joined_57 (post : Int32 → Mem → Prop) (y0 : Int32) (S : Mem) : Prop := post y0 S
set_option maxHeartbeats 4000000 in
set_option maxRecDepth 20000 in
theorem b_X2_joined_57 {v : VxT} {l : Launch} {g : CxT} (ok : Ok l g (oX v) 3 cX2_joined RX2 (some .int)) {post : Int32 → Mem → Prop} (he : EndQ g (oX v) (va_Qi post (fun S1 t => BX (oX v) S1 t) (AX (oX v)))) (y0 : Int32) (S : Mem) (h : w_X2_joined_57 post y0 S) : G g (oX v) 1 3 57 [] [.int y0] S := by
  unfold w_X2_joined_57 at h
  exact g_iret ok he h dX2_joined_57
def w_X2_joined_52 (post : Int32 → Mem → Prop) (S : Mem) : Prop := w_X2_joined_57 post (1 : Int32) S
set_option maxHeartbeats 4000000 in
set_option maxRecDepth 20000 in
theorem b_X2_joined_52 {v : VxT} {l : Launch} {g : CxT} (ok : Ok l g (oX v) 3 cX2_joined RX2 (some .int)) {post : Int32 → Mem → Prop} (he : EndQ g (oX v) (va_Qi post (fun S1 t => BX (oX v) S1 t) (AX (oX v)))) (S : Mem) (h : w_X2_joined_52 post  S) : G g (oX v) 1 3 52 [] [] S := by
  unfold w_X2_joined_52 at h
  refine g_iconst (v := 1) (n := 53) ok dX2_joined_52 rfl (by decide) ?_
  refine g_goto (t := 57) ok dX2_joined_53 (by decide) ?_
  exact g_sub [] rfl (b_X2_joined_57 ok he (1 : Int32) S h)
def w_X2_joined_71 (post : Int32 → Mem → Prop) (y0 : Int32) (S : Mem) : Prop := post y0 S
set_option maxHeartbeats 4000000 in
set_option maxRecDepth 20000 in
theorem b_X2_joined_71 {v : VxT} {l : Launch} {g : CxT} (ok : Ok l g (oX v) 3 cX2_joined RX2 (some .int)) {post : Int32 → Mem → Prop} (he : EndQ g (oX v) (va_Qi post (fun S1 t => BX (oX v) S1 t) (AX (oX v)))) (y0 : Int32) (S : Mem) (h : w_X2_joined_71 post y0 S) : G g (oX v) 1 3 71 [] [.int y0] S := by
  unfold w_X2_joined_71 at h
  exact g_iret ok he h dX2_joined_71
def w_X2_joined_70 (post : Int32 → Mem → Prop) (S : Mem) : Prop := w_X2_joined_71 post (0 : Int32) S
set_option maxHeartbeats 4000000 in
set_option maxRecDepth 20000 in
theorem b_X2_joined_70 {v : VxT} {l : Launch} {g : CxT} (ok : Ok l g (oX v) 3 cX2_joined RX2 (some .int)) {post : Int32 → Mem → Prop} (he : EndQ g (oX v) (va_Qi post (fun S1 t => BX (oX v) S1 t) (AX (oX v)))) (S : Mem) (h : w_X2_joined_70 post  S) : G g (oX v) 1 3 70 [] [] S := by
  unfold w_X2_joined_70 at h
  refine g_iconst (v := 0) (n := 71) ok dX2_joined_70 rfl (by decide) ?_
  exact g_sub [] rfl (b_X2_joined_71 ok he (0 : Int32) S h)
def w_X2_joined_102 (post : Int32 → Mem → Prop) (x1 : Int32) (x2 : Int32) (S : Mem) : Prop := post (x1 * x2) S
set_option maxHeartbeats 4000000 in
set_option maxRecDepth 20000 in
theorem b_X2_joined_102 {v : VxT} {l : Launch} {g : CxT} (ok : Ok l g (oX v) 3 cX2_joined RX2 (some .int)) {post : Int32 → Mem → Prop} (he : EndQ g (oX v) (va_Qi post (fun S1 t => BX (oX v) S1 t) (AX (oX v)))) (x1 : Int32) (x2 : Int32) (S : Mem) (h : w_X2_joined_102 post x1 x2 S) : G g (oX v) 1 3 102 [(1, .int x1), (2, .int x2)] [] S := by
  unfold w_X2_joined_102 at h
  refine g_iload_n 0 (n := 103) ok dX2_joined_102 rfl rfl ?_
  refine g_iload_n 1 (n := 104) ok dX2_joined_103 rfl rfl ?_
  refine g_imul (n := 105) ok dX2_joined_104 rfl ?_
  exact g_iret ok he h dX2_joined_105
def w_X2_joined_82 (post : Int32 → Mem → Prop) (y0 : Int32) (S : Mem) : Prop := post y0 S
set_option maxHeartbeats 4000000 in
set_option maxRecDepth 20000 in
theorem b_X2_joined_82 {v : VxT} {l : Launch} {g : CxT} (ok : Ok l g (oX v) 3 cX2_joined RX2 (some .int)) {post : Int32 → Mem → Prop} (he : EndQ g (oX v) (va_Qi post (fun S1 t => BX (oX v) S1 t) (AX (oX v)))) (y0 : Int32) (S : Mem) (h : w_X2_joined_82 post y0 S) : G g (oX v) 1 3 82 [] [.int y0] S := by
  unfold w_X2_joined_82 at h
  exact g_iret ok he h dX2_joined_82
def w_X2_joined_93 (post : Int32 → Mem → Prop) (y0 : Int32) (S : Mem) : Prop := post y0 S
set_option maxHeartbeats 4000000 in
set_option maxRecDepth 20000 in
theorem b_X2_joined_93 {v : VxT} {l : Launch} {g : CxT} (ok : Ok l g (oX v) 3 cX2_joined RX2 (some .int)) {post : Int32 → Mem → Prop} (he : EndQ g (oX v) (va_Qi post (fun S1 t => BX (oX v) S1 t) (AX (oX v)))) (y0 : Int32) (S : Mem) (h : w_X2_joined_93 post y0 S) : G g (oX v) 1 3 93 [] [.int y0] S := by
  unfold w_X2_joined_93 at h
  exact g_iret ok he h dX2_joined_93
def w_X2_joined (p0 : Int32) (p1 : Int32) (p2 : Int32) (S : Mem) (post : Int32 → Mem → Prop) : Prop := ((p0 = -13 → post (p1 - p2) S) ∧ (¬ p0 = -13 → ((p0 = -12 → post (p1 + p2) S) ∧ (¬ p0 = -12 → ((p0 = -11 → ((¬ p1 = p2 → w_X2_joined_93 post (0 : Int32) S) ∧ (p1 = p2 → w_X2_joined_93 post (1 : Int32) S))) ∧ (¬ p0 = -11 → ((p0 = -10 → ((p2 ≤ p1 → w_X2_joined_82 post (0 : Int32) S) ∧ (¬ p2 ≤ p1 → w_X2_joined_82 post (1 : Int32) S))) ∧ (¬ p0 = -10 → ((p0 = -9 → w_X2_joined_102 post p1 p2 S) ∧ (¬ p0 = -9 → ((p0 = -8 → ((p1 = 0 → w_X2_joined_70 post  S) ∧ (¬ p1 = 0 → ((p2 = 0 → w_X2_joined_70 post  S) ∧ (¬ p2 = 0 → w_X2_joined_71 post (1 : Int32) S))))) ∧ (¬ p0 = -8 → ((p0 = -7 → ((¬ p1 = 0 → w_X2_joined_52 post  S) ∧ (p1 = 0 → ((p2 = 0 → w_X2_joined_57 post (0 : Int32) S) ∧ (¬ p2 = 0 → w_X2_joined_52 post  S))))) ∧ (¬ p0 = -7 → w_X2_joined_102 post p1 p2 S))))))))))))))
set_option maxHeartbeats 4000000 in
set_option maxRecDepth 20000 in
theorem c_X2_joined (l : Launch) (v : VxT) (p0 : Int32) (p1 : Int32) (p2 : Int32) (S : Mem) (post : Int32 → Mem → Prop) (h : w_X2_joined p0 p1 p2 S post) : MI l yX2_joined cX2_joined 3 (some .int) 1 (oX v) [.int p0, .int p1, .int p2] S post := by
  refine met_start (by decide +kernel) (Nat.le_of_ble_eq_true rfl) (fun g ok he => ?_)
  refine g_eq (L' := [(0, .int p0), (1, .int p1), (2, .int p2)]) (st' := []) ?_ rfl rfl
  unfold w_X2_joined at h
  refine g_iload_n 0 (n := 1) ok dX2_joined_0 rfl rfl ?_
  by_cases e1 : p0 = -13
  · replace h := h.1 e1
    refine g_tsIn (off := 97) (t := 98) ok dX2_joined_1 (by rw [e1]; decide) (by rw [e1]; decide) (by rw [e1]; rfl) (by decide) ?_
    refine g_iload_n 1 (n := 99) ok dX2_joined_98 rfl rfl ?_
    refine g_iload_n 2 (n := 100) ok dX2_joined_99 rfl rfl ?_
    refine g_isub (n := 101) ok dX2_joined_100 rfl ?_
    exact g_iret ok he h dX2_joined_101
  · replace h := h.2 e1
    by_cases e2 : p0 = -12
    · replace h := h.1 e2
      refine g_tsIn (off := 93) (t := 94) ok dX2_joined_1 (by rw [e2]; decide) (by rw [e2]; decide) (by rw [e2]; rfl) (by decide) ?_
      refine g_iload_n 1 (n := 95) ok dX2_joined_94 rfl rfl ?_
      refine g_iload_n 2 (n := 96) ok dX2_joined_95 rfl rfl ?_
      refine g_iadd (n := 97) ok dX2_joined_96 rfl ?_
      exact g_iret ok he h dX2_joined_97
    · replace h := h.2 e2
      by_cases e3 : p0 = -11
      · replace h := h.1 e3
        refine g_tsIn (off := 82) (t := 83) ok dX2_joined_1 (by rw [e3]; decide) (by rw [e3]; decide) (by rw [e3]; rfl) (by decide) ?_
        refine g_iload_n 1 (n := 84) ok dX2_joined_83 rfl rfl ?_
        refine g_iload_n 2 (n := 85) ok dX2_joined_84 rfl rfl ?_
        refine g_icmp_ne (t := 92) (n := 88) ok dX2_joined_85 (by decide) rfl (fun e4 => ?_) (fun e4 => ?_)
        · replace h := h.1 e4
          refine g_iconst (v := 0) (n := 93) ok dX2_joined_92 rfl (by decide) ?_
          exact g_sub [] rfl (b_X2_joined_93 ok he (0 : Int32) S h)
        · replace h := h.2 e4
          refine g_iconst (v := 1) (n := 89) ok dX2_joined_88 rfl (by decide) ?_
          refine g_goto (t := 93) ok dX2_joined_89 (by decide) ?_
          exact g_sub [] rfl (b_X2_joined_93 ok he (1 : Int32) S h)
      · replace h := h.2 e3
        by_cases e5 : p0 = -10
        · replace h := h.1 e5
          refine g_tsIn (off := 71) (t := 72) ok dX2_joined_1 (by rw [e5]; decide) (by rw [e5]; decide) (by rw [e5]; rfl) (by decide) ?_
          refine g_iload_n 1 (n := 73) ok dX2_joined_72 rfl rfl ?_
          refine g_iload_n 2 (n := 74) ok dX2_joined_73 rfl rfl ?_
          refine g_icmp_ge (t := 81) (n := 77) ok dX2_joined_74 (by decide) rfl (fun e6 => ?_) (fun e6 => ?_)
          · replace h := h.1 e6
            refine g_iconst (v := 0) (n := 82) ok dX2_joined_81 rfl (by decide) ?_
            exact g_sub [] rfl (b_X2_joined_82 ok he (0 : Int32) S h)
          · replace h := h.2 e6
            refine g_iconst (v := 1) (n := 78) ok dX2_joined_77 rfl (by decide) ?_
            refine g_goto (t := 82) ok dX2_joined_78 (by decide) ?_
            exact g_sub [] rfl (b_X2_joined_82 ok he (1 : Int32) S h)
        · replace h := h.2 e5
          by_cases e7 : p0 = -9
          · replace h := h.1 e7
            refine g_tsIn (off := 101) (t := 102) ok dX2_joined_1 (by rw [e7]; decide) (by rw [e7]; decide) (by rw [e7]; rfl) (by decide) ?_
            exact g_sub [1, 2] rfl (b_X2_joined_102 ok he p1 p2 S h)
          · replace h := h.2 e7
            by_cases e8 : p0 = -8
            · replace h := h.1 e8
              refine g_tsIn (off := 57) (t := 58) ok dX2_joined_1 (by rw [e8]; decide) (by rw [e8]; decide) (by rw [e8]; rfl) (by decide) ?_
              refine g_iload_n 1 (n := 59) ok dX2_joined_58 rfl rfl ?_
              refine g_if_eq (t := 70) (n := 62) ok dX2_joined_59 (by decide) rfl (fun e10 => ?_) (fun e10 => ?_)
              · replace h := h.1 e10
                exact g_sub [] rfl (b_X2_joined_70 ok he  S h)
              · replace h := h.2 e10
                refine g_iload_n 2 (n := 63) ok dX2_joined_62 rfl rfl ?_
                refine g_if_eq (t := 70) (n := 66) ok dX2_joined_63 (by decide) rfl (fun e9 => ?_) (fun e9 => ?_)
                · replace h := h.1 e9
                  exact g_sub [] rfl (b_X2_joined_70 ok he  S h)
                · replace h := h.2 e9
                  refine g_iconst (v := 1) (n := 67) ok dX2_joined_66 rfl (by decide) ?_
                  refine g_goto (t := 71) ok dX2_joined_67 (by decide) ?_
                  exact g_sub [] rfl (b_X2_joined_71 ok he (1 : Int32) S h)
            · replace h := h.2 e8
              by_cases e11 : p0 = -7
              · replace h := h.1 e11
                refine g_tsIn (off := 43) (t := 44) ok dX2_joined_1 (by rw [e11]; decide) (by rw [e11]; decide) (by rw [e11]; rfl) (by decide) ?_
                refine g_iload_n 1 (n := 45) ok dX2_joined_44 rfl rfl ?_
                refine g_if_ne (t := 52) (n := 48) ok dX2_joined_45 (by decide) rfl (fun e13 => ?_) (fun e13 => ?_)
                · replace h := h.1 e13
                  exact g_sub [] rfl (b_X2_joined_52 ok he  S h)
                · replace h := h.2 e13
                  refine g_iload_n 2 (n := 49) ok dX2_joined_48 rfl rfl ?_
                  refine g_if_eq (t := 56) (n := 52) ok dX2_joined_49 (by decide) rfl (fun e12 => ?_) (fun e12 => ?_)
                  · replace h := h.1 e12
                    refine g_iconst (v := 0) (n := 57) ok dX2_joined_56 rfl (by decide) ?_
                    exact g_sub [] rfl (b_X2_joined_57 ok he (0 : Int32) S h)
                  · replace h := h.2 e12
                    exact g_sub [] rfl (b_X2_joined_52 ok he  S h)
              · replace h := h.2 e11
                refine g_tsOut (t := 102) ok dX2_joined_1 (by have q0 := lv_neT (a := -13) e1 rfl; have q1 := lv_neT (a := -12) e2 rfl; have q2 := lv_neT (a := -11) e3 rfl; have q3 := lv_neT (a := -10) e5 rfl; have q4 := lv_neT (a := -9) e7 rfl; have q5 := lv_neT (a := -8) e8 rfl; have q6 := lv_neT (a := -7) e11 rfl; omega) (by decide) ?_
                exact g_sub [1, 2] rfl (b_X2_joined_102 ok he p1 p2 S h)
def w_X2_value_171 (K32 : Int32 → Int32 → Int32 → Mem → Prop) (post : Int32 → Mem → Prop) (c : Nat) (c2 : Nat) (c3 : Nat) (x1 : Int32) (x4 : Int32) (x5 : Int32) (S : Mem) : Prop := (∀ z1 : Int32, z1 = x5 + 1 → K32 x1 x4 z1 S)
set_option maxHeartbeats 4000000 in
set_option maxRecDepth 20000 in
theorem b_X2_value_171 {v : VxT} {l : Launch} {g : CxT} {K32 : Int32 → Int32 → Int32 → Mem → Prop} (ok : Ok l g (oX v) 7 cX2_value RX2 (some .int)) (c : Nat) (c2 : Nat) (c3 : Nat) (hc : kdX c = 7) (hc2 : kdX c2 = 12) (hc3 : kdX c3 = 6) (hK32 : ∀ (x1 : Int32) (x4 : Int32) (x5 : Int32) (S : Mem), K32 x1 x4 x5 S → G g (oX v) 3 7 32 [(0, .ref (v.1 c)), (1, .int x1), (2, .ref (v.1 c2)), (3, .ref (v.1 c3)), (4, .int x4), (5, .int x5)] [] S) {post : Int32 → Mem → Prop} (he : EndQ g (oX v) (va_Qi post (fun S1 t => BX (oX v) S1 t) (AX (oX v)))) (x1 : Int32) (x4 : Int32) (x5 : Int32) (S : Mem) (h : w_X2_value_171 K32 post c c2 c3 x1 x4 x5 S) : G g (oX v) 3 7 171 [(0, .ref (v.1 c)), (1, .int x1), (2, .ref (v.1 c2)), (3, .ref (v.1 c3)), (4, .int x4), (5, .int x5)] [] S := by
  unfold w_X2_value_171 at h
  obtain ⟨z1, ez1⟩ : ∃ y : Int32, y = x5 + 1 := ⟨_, rfl⟩
  replace h := h z1 ez1
  refine g_iinc 5 [(5, .int z1), (0, .ref (v.1 c)), (1, .int x1), (2, .ref (v.1 c2)), (3, .ref (v.1 c3)), (4, .int x4)] (v := z1) (n := 174) ok dX2_value_171 rfl rfl (by rw [ez1]; rfl) (by decide) rfl ?_
  refine g_goto (t := 32) ok dX2_value_174 (by decide) ?_
  exact g_sub [1, 2, 3, 4, 5, 0] rfl (hK32 x1 x4 z1 S h)
def w_X2_value_92 (K32 : Int32 → Int32 → Int32 → Mem → Prop) (post : Int32 → Mem → Prop) (c : Nat) (c2 : Nat) (c3 : Nat) (x1 : Int32) (x4 : Int32) (x5 : Int32) (y0 : Int32) (y1 : Int32) (S : Mem) : Prop := (vp_in y1 160 ∧ (∀ S1 : Mem, S1 = mset S c3 (upd (S c3) y1.toNatClampNeg y0) → (∀ z2 : Int32, z2 = x4 + 1 → w_X2_value_171 K32 post c c2 c3 x1 z2 x5 S1)))
set_option maxHeartbeats 4000000 in
set_option maxRecDepth 20000 in
theorem b_X2_value_92 {v : VxT} {l : Launch} {g : CxT} {K32 : Int32 → Int32 → Int32 → Mem → Prop} (ok : Ok l g (oX v) 7 cX2_value RX2 (some .int)) (c : Nat) (c2 : Nat) (c3 : Nat) (hc : kdX c = 7) (hc2 : kdX c2 = 12) (hc3 : kdX c3 = 6) (hK32 : ∀ (x1 : Int32) (x4 : Int32) (x5 : Int32) (S : Mem), K32 x1 x4 x5 S → G g (oX v) 3 7 32 [(0, .ref (v.1 c)), (1, .int x1), (2, .ref (v.1 c2)), (3, .ref (v.1 c3)), (4, .int x4), (5, .int x5)] [] S) {post : Int32 → Mem → Prop} (he : EndQ g (oX v) (va_Qi post (fun S1 t => BX (oX v) S1 t) (AX (oX v)))) (x1 : Int32) (x4 : Int32) (x5 : Int32) (y0 : Int32) (y1 : Int32) (S : Mem) (h : w_X2_value_92 K32 post c c2 c3 x1 x4 x5 y0 y1 S) : G g (oX v) 3 7 92 [(0, .ref (v.1 c)), (1, .int x1), (2, .ref (v.1 c2)), (3, .ref (v.1 c3)), (4, .int x4), (5, .int x5)] [.int y0, .int y1, .ref (v.1 c3)] S := by
  unfold w_X2_value_92 at h
  obtain ⟨h0, h⟩ := h
  refine g_iast (c := c3) (t0 := 0) (n := 93) ok (lt6 hc3) (fun f => sh6 hc3 f) rfl h0 dX2_value_92 rfl ?_
  refine g_mem (fun S1 eS1 => ?_)
  replace h := h S1 eS1
  obtain ⟨z2, ez2⟩ : ∃ y : Int32, y = x4 + 1 := ⟨_, rfl⟩
  replace h := h z2 ez2
  refine g_iinc 4 [(4, .int z2), (0, .ref (v.1 c)), (1, .int x1), (2, .ref (v.1 c2)), (3, .ref (v.1 c3)), (5, .int x5)] (v := z2) (n := 96) ok dX2_value_93 rfl rfl (by rw [ez2]; rfl) (by decide) rfl ?_
  refine g_goto (t := 171) ok dX2_value_96 (by decide) ?_
  exact g_sub [1, 2, 3, 4, 0, 5] rfl (b_X2_value_171 ok c c2 c3 hc hc2 hc3 hK32 he x1 z2 x5 S1 h)
def w_X2_value_65 (K32 : Int32 → Int32 → Int32 → Mem → Prop) (post : Int32 → Mem → Prop) (c : Nat) (c2 : Nat) (c3 : Nat) (x1 : Int32) (x4 : Int32) (x5 : Int32) (x6 : Int32) (S : Mem) : Prop := (((160 : Int32) ≤ x4 → w_X2_value_171 K32 post c c2 c3 x1 x4 x5 S) ∧ (¬ (160 : Int32) ≤ x4 → ((x6 < 0 → w_X6_nameIndex x6 S (fun r1 S1 => (vp_in r1 6 ∧ w_X2_value_92 K32 post c c2 c3 x1 x4 x5 (S1 c2 r1.toNatClampNeg) x4 S1))) ∧ (¬ x6 < 0 → w_X2_value_92 K32 post c c2 c3 x1 x4 x5 x6 x4 S))))
set_option maxHeartbeats 4000000 in
set_option maxRecDepth 20000 in
theorem b_X2_value_65 {v : VxT} {l : Launch} {g : CxT} {K32 : Int32 → Int32 → Int32 → Mem → Prop} (ok : Ok l g (oX v) 7 cX2_value RX2 (some .int)) (c : Nat) (c2 : Nat) (c3 : Nat) (hc : kdX c = 7) (hc2 : kdX c2 = 12) (hc3 : kdX c3 = 6) (hK32 : ∀ (x1 : Int32) (x4 : Int32) (x5 : Int32) (S : Mem), K32 x1 x4 x5 S → G g (oX v) 3 7 32 [(0, .ref (v.1 c)), (1, .int x1), (2, .ref (v.1 c2)), (3, .ref (v.1 c3)), (4, .int x4), (5, .int x5)] [] S) {post : Int32 → Mem → Prop} (he : EndQ g (oX v) (va_Qi post (fun S1 t => BX (oX v) S1 t) (AX (oX v)))) (x1 : Int32) (x4 : Int32) (x5 : Int32) (x6 : Int32) (S : Mem) (h : w_X2_value_65 K32 post c c2 c3 x1 x4 x5 x6 S) : G g (oX v) 3 7 65 [(0, .ref (v.1 c)), (1, .int x1), (2, .ref (v.1 c2)), (3, .ref (v.1 c3)), (4, .int x4), (5, .int x5), (6, .int x6)] [] S := by
  unfold w_X2_value_65 at h
  refine g_iload 4 (n := 67) ok dX2_value_65 rfl rfl ?_
  refine g_aload_n 3 (n := 68) ok dX2_value_67 rfl rfl ?_
  refine g_alen (c := c3) (t0 := 0) (v := 160) (n := 69) ok (lt6 hc3) (sh6 hc3 _) rfl rfl dX2_value_68 rfl ?_
  refine g_icmp_ge (t := 171) (n := 72) ok dX2_value_69 (by decide) rfl (fun e3 => ?_) (fun e3 => ?_)
  · replace h := h.1 e3
    exact g_sub [0, 1, 2, 3, 4, 5] rfl (b_X2_value_171 ok c c2 c3 hc hc2 hc3 hK32 he x1 x4 x5 S h)
  · replace h := h.2 e3
    refine g_aload_n 3 (n := 73) ok dX2_value_72 rfl rfl ?_
    refine g_iload 4 (n := 75) ok dX2_value_73 rfl rfl ?_
    refine g_iload 6 (n := 77) ok dX2_value_75 rfl rfl ?_
    refine g_if_lt (t := 85) (n := 80) ok dX2_value_77 (by decide) rfl (fun e2 => ?_) (fun e2 => ?_)
    · replace h := h.1 e2
      refine g_aload_n 2 (n := 86) ok dX2_value_85 rfl rfl ?_
      refine g_iload 6 (n := 88) ok dX2_value_86 rfl rfl ?_
      refine g_callSNi (n := 91) (As := [.int x6]) (rest := [.ref (v.1 c2), .int x4, .ref (v.1 c3)]) ok (c_X6_nameIndex l v x6 S _ h) cal_X6_nameIndex tw_520 tw_328 (by decide) (by decide) rfl (Nat.le_of_ble_eq_true rfl) dX2_value_88 rfl rfl (fun r1 S1 h => ?_)
      obtain ⟨h0, h⟩ := h
      refine g_iald (c := c2) (t0 := 0) (n := 92) ok (lt12 hc2) (sh12 hc2 _) rfl h0 dX2_value_91 rfl ?_
      exact g_sub [0, 1, 2, 3, 4, 5] rfl (b_X2_value_92 ok c c2 c3 hc hc2 hc3 hK32 he x1 x4 x5 (S1 c2 r1.toNatClampNeg) x4 S1 h)
    · replace h := h.2 e2
      refine g_iload 6 (n := 82) ok dX2_value_80 rfl rfl ?_
      refine g_goto (t := 92) ok dX2_value_82 (by decide) ?_
      exact g_sub [0, 1, 2, 3, 4, 5] rfl (b_X2_value_92 ok c c2 c3 hc hc2 hc3 hK32 he x1 x4 x5 x6 x4 S h)
def w_X2_value_113 (K32 : Int32 → Int32 → Int32 → Mem → Prop) (post : Int32 → Mem → Prop) (c : Nat) (c2 : Nat) (c3 : Nat) (x1 : Int32) (x4 : Int32) (x5 : Int32) (x6 : Int32) (S : Mem) : Prop := ((x4 < (1 : Int32) → w_X2_value_171 K32 post c c2 c3 x1 x4 x5 S) ∧ (¬ x4 < (1 : Int32) → (vp_in (x4 - (1 : Int32)) 160 ∧ w_X2_turnedRound x6 (S c3 (x4 - (1 : Int32)).toNatClampNeg) S (fun r1 S1 => (vp_in (x4 - (1 : Int32)) 160 ∧ (∀ S2 : Mem, S2 = mset S1 c3 (upd (S1 c3) (x4 - (1 : Int32)).toNatClampNeg r1) → w_X2_value_171 K32 post c c2 c3 x1 x4 x5 S2))))))
set_option maxHeartbeats 4000000 in
set_option maxRecDepth 20000 in
theorem b_X2_value_113 {v : VxT} {l : Launch} {g : CxT} {K32 : Int32 → Int32 → Int32 → Mem → Prop} (ok : Ok l g (oX v) 7 cX2_value RX2 (some .int)) (c : Nat) (c2 : Nat) (c3 : Nat) (hc : kdX c = 7) (hc2 : kdX c2 = 12) (hc3 : kdX c3 = 6) (hK32 : ∀ (x1 : Int32) (x4 : Int32) (x5 : Int32) (S : Mem), K32 x1 x4 x5 S → G g (oX v) 3 7 32 [(0, .ref (v.1 c)), (1, .int x1), (2, .ref (v.1 c2)), (3, .ref (v.1 c3)), (4, .int x4), (5, .int x5)] [] S) {post : Int32 → Mem → Prop} (he : EndQ g (oX v) (va_Qi post (fun S1 t => BX (oX v) S1 t) (AX (oX v)))) (x1 : Int32) (x4 : Int32) (x5 : Int32) (x6 : Int32) (S : Mem) (h : w_X2_value_113 K32 post c c2 c3 x1 x4 x5 x6 S) : G g (oX v) 3 7 113 [(0, .ref (v.1 c)), (1, .int x1), (2, .ref (v.1 c2)), (3, .ref (v.1 c3)), (4, .int x4), (5, .int x5), (6, .int x6)] [] S := by
  unfold w_X2_value_113 at h
  refine g_iload 4 (n := 115) ok dX2_value_113 rfl rfl ?_
  refine g_iconst (v := 1) (n := 116) ok dX2_value_115 rfl (by decide) ?_
  refine g_icmp_lt (t := 171) (n := 119) ok dX2_value_116 (by decide) rfl (fun e3 => ?_) (fun e3 => ?_)
  · replace h := h.1 e3
    exact g_sub [0, 1, 2, 3, 4, 5] rfl (b_X2_value_171 ok c c2 c3 hc hc2 hc3 hK32 he x1 x4 x5 S h)
  · replace h := h.2 e3
    refine g_aload_n 3 (n := 120) ok dX2_value_119 rfl rfl ?_
    refine g_iload 4 (n := 122) ok dX2_value_120 rfl rfl ?_
    refine g_iconst (v := 1) (n := 123) ok dX2_value_122 rfl (by decide) ?_
    refine g_isub (n := 124) ok dX2_value_123 rfl ?_
    refine g_iload 6 (n := 126) ok dX2_value_124 rfl rfl ?_
    refine g_aload_n 3 (n := 127) ok dX2_value_126 rfl rfl ?_
    refine g_iload 4 (n := 129) ok dX2_value_127 rfl rfl ?_
    refine g_iconst (v := 1) (n := 130) ok dX2_value_129 rfl (by decide) ?_
    refine g_isub (n := 131) ok dX2_value_130 rfl ?_
    obtain ⟨h0, h⟩ := h
    refine g_iald (c := c3) (t0 := 0) (n := 132) ok (lt6 hc3) (sh6 hc3 _) rfl h0 dX2_value_131 rfl ?_
    refine g_callSi (n := 135) (As := [.int x6, .int (S c3 (x4 - (1 : Int32)).toNatClampNeg)]) (rest := [.int (x4 - (1 : Int32)), .ref (v.1 c3)]) ok (c_X2_turnedRound l v x6 (S c3 (x4 - (1 : Int32)).toNatClampNeg) S _ h) cal_X2_turnedRound tw_521 tw_522 (by decide) (by decide) rfl (Nat.le_of_ble_eq_true rfl) dX2_value_132 rfl rfl (fun r1 S1 h => ?_)
    obtain ⟨h0, h⟩ := h
    refine g_iast (c := c3) (t0 := 0) (n := 136) ok (lt6 hc3) (fun f => sh6 hc3 f) rfl h0 dX2_value_135 rfl ?_
    refine g_mem (fun S2 eS2 => ?_)
    replace h := h S2 eS2
    refine g_goto (t := 171) ok dX2_value_136 (by decide) ?_
    exact g_sub [0, 1, 2, 3, 4, 5] rfl (b_X2_value_171 ok c c2 c3 hc hc2 hc3 hK32 he x1 x4 x5 S2 h)
def w_X2_value_190 (post : Int32 → Mem → Prop) (c : Nat) (c2 : Nat) (c3 : Nat) (y0 : Int32) (S : Mem) : Prop := post y0 S
set_option maxHeartbeats 4000000 in
set_option maxRecDepth 20000 in
theorem b_X2_value_190 {v : VxT} {l : Launch} {g : CxT} (ok : Ok l g (oX v) 7 cX2_value RX2 (some .int)) (c : Nat) (c2 : Nat) (c3 : Nat) (hc : kdX c = 7) (hc2 : kdX c2 = 12) (hc3 : kdX c3 = 6) {post : Int32 → Mem → Prop} (he : EndQ g (oX v) (va_Qi post (fun S1 t => BX (oX v) S1 t) (AX (oX v)))) (y0 : Int32) (S : Mem) (h : w_X2_value_190 post c c2 c3 y0 S) : G g (oX v) 3 7 190 [] [.int y0] S := by
  unfold w_X2_value_190 at h
  exact g_iret ok he h dX2_value_190
def w_X2_value_32 (post : Int32 → Mem → Prop) (c : Nat) (c2 : Nat) (c3 : Nat) : Nat → Int32 → Int32 → Int32 → Mem → Prop
  | 0, _, _, _, _ => False
  | n + 1, x1, x4, x5, S => (vp_in x1 3 ∧ (((S (c + 2) x1.toNatClampNeg) ≤ x5 → ((x4 < (1 : Int32) → w_X2_value_190 post c c2 c3 (0 : Int32) S) ∧ (¬ x4 < (1 : Int32) → w_X2_value_190 post c c2 c3 (S c3 (0 : Int32).toNatClampNeg) S))) ∧ (¬ (S (c + 2) x1.toNatClampNeg) ≤ x5 → (vp_in x5 160 ∧ (∀ z2 : Int32, z2 = S (c + 1) x5.toNatClampNeg → ((0 ≤ z2 → w_X2_value_65 (w_X2_value_32 post c c2 c3 n) post c c2 c3 x1 x4 x5 z2 S) ∧ (¬ 0 ≤ z2 → w_X6_isName z2 S (fun r3 S3 => ((r3 = 0 → ((z2 = (-9 : Int32) → w_X2_value_113 (w_X2_value_32 post c c2 c3 n) post c c2 c3 x1 x4 x5 z2 S3) ∧ (¬ z2 = (-9 : Int32) → ((¬ z2 = (-15 : Int32) → ((x4 < (2 : Int32) → w_X2_value_171 (w_X2_value_32 post c c2 c3 n) post c c2 c3 x1 x4 x5 S3) ∧ (¬ x4 < (2 : Int32) → (vp_in (x4 - (2 : Int32)) 160 ∧ (vp_in (x4 - (1 : Int32)) 160 ∧ w_X2_joined z2 (S3 c3 (x4 - (2 : Int32)).toNatClampNeg) (S3 c3 (x4 - (1 : Int32)).toNatClampNeg) S3 (fun r4 S4 => (vp_in (x4 - (2 : Int32)) 160 ∧ (∀ S5 : Mem, S5 = mset S4 c3 (upd (S4 c3) (x4 - (2 : Int32)).toNatClampNeg r4) → (∀ z6 : Int32, z6 = x4 + (-1) → w_X2_value_171 (w_X2_value_32 post c c2 c3 n) post c c2 c3 x1 z6 x5 S5))))))))) ∧ (z2 = (-15 : Int32) → w_X2_value_113 (w_X2_value_32 post c c2 c3 n) post c c2 c3 x1 x4 x5 z2 S3))))) ∧ (¬ r3 = 0 → w_X2_value_65 (w_X2_value_32 post c c2 c3 n) post c c2 c3 x1 x4 x5 z2 S3))))))))))
set_option maxHeartbeats 4000000 in
set_option maxRecDepth 20000 in
theorem b_X2_value_32 {v : VxT} {l : Launch} {g : CxT} (ok : Ok l g (oX v) 7 cX2_value RX2 (some .int)) (c : Nat) (c2 : Nat) (c3 : Nat) (hc : kdX c = 7) (hc2 : kdX c2 = 12) (hc3 : kdX c3 = 6) {post : Int32 → Mem → Prop} (he : EndQ g (oX v) (va_Qi post (fun S1 t => BX (oX v) S1 t) (AX (oX v)))) : ∀ (n : Nat) (x1 : Int32) (x4 : Int32) (x5 : Int32) (S : Mem), w_X2_value_32 post c c2 c3 n x1 x4 x5 S → G g (oX v) 3 7 32 [(0, .ref (v.1 c)), (1, .int x1), (2, .ref (v.1 c2)), (3, .ref (v.1 c3)), (4, .int x4), (5, .int x5)] [] S := by
  intro n
  induction n with
  | zero =>
    intro x1 x4 x5 S h
    exact h.elim
  | succ n ih =>
    intro x1 x4 x5 S h
    rw [w_X2_value_32] at h
    refine g_iload 5 (n := 34) ok dX2_value_32 rfl rfl ?_
    refine g_aload_n 0 (n := 35) ok dX2_value_34 rfl rfl ?_
    refine fg_X2_X2_ends (n := 38) c hc ok dX2_value_35 rfl ?_
    refine g_iload_n 1 (n := 39) ok dX2_value_38 rfl rfl ?_
    obtain ⟨h0, h⟩ := h
    refine g_iald (c := (c + 2)) (t0 := 0) (n := 40) ok (lt8 (kd7_ends hc)) (sh8 (kd7_ends hc) _) rfl h0 dX2_value_39 rfl ?_
    refine g_icmp_ge (t := 177) (n := 43) ok dX2_value_40 (by decide) rfl (fun e12 => ?_) (fun e12 => ?_)
    · replace h := h.1 e12
      refine g_iload 4 (n := 179) ok dX2_value_177 rfl rfl ?_
      refine g_iconst (v := 1) (n := 180) ok dX2_value_179 rfl (by decide) ?_
      refine g_icmp_lt (t := 189) (n := 183) ok dX2_value_180 (by decide) rfl (fun e1 => ?_) (fun e1 => ?_)
      · replace h := h.1 e1
        refine g_iconst (v := 0) (n := 190) ok dX2_value_189 rfl (by decide) ?_
        exact g_sub [] rfl (b_X2_value_190 ok c c2 c3 hc hc2 hc3 he (0 : Int32) S h)
      · replace h := h.2 e1
        refine g_aload_n 3 (n := 184) ok dX2_value_183 rfl rfl ?_
        refine g_iconst (v := 0) (n := 185) ok dX2_value_184 rfl (by decide) ?_
        refine g_iald (c := c3) (t0 := 0) (n := 186) ok (lt6 hc3) (sh6 hc3 _) rfl (vp_dec rfl) dX2_value_185 rfl ?_
        refine g_goto (t := 190) ok dX2_value_186 (by decide) ?_
        exact g_sub [] rfl (b_X2_value_190 ok c c2 c3 hc hc2 hc3 he (S c3 (0 : Int32).toNatClampNeg) S h)
    · replace h := h.2 e12
      refine g_aload_n 0 (n := 44) ok dX2_value_43 rfl rfl ?_
      refine fg_X2_X2_code (n := 47) c hc ok dX2_value_44 rfl ?_
      refine g_iload 5 (n := 49) ok dX2_value_47 rfl rfl ?_
      obtain ⟨h0, h⟩ := h
      refine g_iald (c := (c + 1)) (t0 := 0) (n := 50) ok (lt6 (kd7_code hc)) (sh6 (kd7_code hc) _) rfl h0 dX2_value_49 rfl ?_
      refine g_topi (fun z2 ez2 => ?_)
      replace h := h z2 ez2
      refine g_istore [(6, .int z2), (0, .ref (v.1 c)), (1, .int x1), (2, .ref (v.1 c2)), (3, .ref (v.1 c3)), (4, .int x4), (5, .int x5)] (n := 52) ok dX2_value_50 rfl (by decide) rfl ?_
      refine g_iload 0 (n := 54) ok dX2_value_52 rfl rfl ?_
      refine g_if_ge (t := 65) (n := 57) ok dX2_value_54 (by decide) rfl (fun e11 => ?_) (fun e11 => ?_)
      · replace h := h.1 e11
        exact g_sub [1, 2, 3, 4, 5, 6, 0] rfl (b_X2_value_65 ok c c2 c3 hc hc2 hc3 ih he x1 x4 x5 z2 S h)
      · replace h := h.2 e11
        refine g_iload 0 (n := 59) ok dX2_value_57 rfl rfl ?_
        refine g_callSNi (n := 62) (As := [.int z2]) (rest := []) ok (c_X6_isName l v z2 S _ h) cal_X6_isName tw_519 tw_325 (by decide) (by decide) rfl (Nat.le_of_ble_eq_true rfl) dX2_value_59 rfl rfl (fun r3 S3 h => ?_)
        refine g_if_eq (t := 99) (n := 65) ok dX2_value_62 (by decide) rfl (fun e10 => ?_) (fun e10 => ?_)
        · replace h := h.1 e10
          refine g_iload 0 (n := 101) ok dX2_value_99 rfl rfl ?_
          refine g_bipush (v := -9) (n := 103) ok dX2_value_101 rfl (by decide) ?_
          refine g_icmp_eq (t := 113) (n := 106) ok dX2_value_103 (by decide) rfl (fun e9 => ?_) (fun e9 => ?_)
          · replace h := h.1 e9
            exact g_sub [1, 2, 3, 4, 5, 6, 0] rfl (b_X2_value_113 ok c c2 c3 hc hc2 hc3 ih he x1 x4 x5 z2 S3 h)
          · replace h := h.2 e9
            refine g_iload 0 (n := 108) ok dX2_value_106 rfl rfl ?_
            refine g_bipush (v := -15) (n := 110) ok dX2_value_108 rfl (by decide) ?_
            refine g_icmp_ne (t := 139) (n := 113) ok dX2_value_110 (by decide) rfl (fun e8 => ?_) (fun e8 => ?_)
            · replace h := h.1 e8
              refine g_iload 5 (n := 141) ok dX2_value_139 rfl rfl ?_
              refine g_iconst (v := 2) (n := 142) ok dX2_value_141 rfl (by decide) ?_
              refine g_icmp_lt (t := 171) (n := 145) ok dX2_value_142 (by decide) rfl (fun e7 => ?_) (fun e7 => ?_)
              · replace h := h.1 e7
                exact g_sub [1, 2, 3, 4, 5, 6] rfl (b_X2_value_171 ok c c2 c3 hc hc2 hc3 ih he x1 x4 x5 S3 h)
              · replace h := h.2 e7
                refine g_aload_n 4 (n := 146) ok dX2_value_145 rfl rfl ?_
                refine g_iload 5 (n := 148) ok dX2_value_146 rfl rfl ?_
                refine g_iconst (v := 2) (n := 149) ok dX2_value_148 rfl (by decide) ?_
                refine g_isub (n := 150) ok dX2_value_149 rfl ?_
                refine g_iload 0 (n := 152) ok dX2_value_150 rfl rfl ?_
                refine g_aload_n 4 (n := 153) ok dX2_value_152 rfl rfl ?_
                refine g_iload 5 (n := 155) ok dX2_value_153 rfl rfl ?_
                refine g_iconst (v := 2) (n := 156) ok dX2_value_155 rfl (by decide) ?_
                refine g_isub (n := 157) ok dX2_value_156 rfl ?_
                obtain ⟨h0, h⟩ := h
                refine g_iald (c := c3) (t0 := 0) (n := 158) ok (lt6 hc3) (sh6 hc3 _) rfl h0 dX2_value_157 rfl ?_
                refine g_aload_n 4 (n := 159) ok dX2_value_158 rfl rfl ?_
                refine g_iload 5 (n := 161) ok dX2_value_159 rfl rfl ?_
                refine g_iconst (v := 1) (n := 162) ok dX2_value_161 rfl (by decide) ?_
                refine g_isub (n := 163) ok dX2_value_162 rfl ?_
                obtain ⟨h0, h⟩ := h
                refine g_iald (c := c3) (t0 := 0) (n := 164) ok (lt6 hc3) (sh6 hc3 _) rfl h0 dX2_value_163 rfl ?_
                refine g_callSi (n := 167) (As := [.int z2, .int (S3 c3 (x4 - (2 : Int32)).toNatClampNeg), .int (S3 c3 (x4 - (1 : Int32)).toNatClampNeg)]) (rest := [.int (x4 - (2 : Int32)), .ref (v.1 c3)]) ok (c_X2_joined l v z2 (S3 c3 (x4 - (2 : Int32)).toNatClampNeg) (S3 c3 (x4 - (1 : Int32)).toNatClampNeg) S3 _ h) cal_X2_joined tw_524 tw_525 (by decide) (by decide) rfl (Nat.le_of_ble_eq_true rfl) dX2_value_164 rfl rfl (fun r4 S4 h => ?_)
                obtain ⟨h0, h⟩ := h
                refine g_iast (c := c3) (t0 := 0) (n := 168) ok (lt6 hc3) (fun f => sh6 hc3 f) rfl h0 dX2_value_167 rfl ?_
                refine g_mem (fun S5 eS5 => ?_)
                replace h := h S5 eS5
                obtain ⟨z6, ez6⟩ : ∃ y : Int32, y = x4 + (-1) := ⟨_, rfl⟩
                replace h := h z6 ez6
                refine g_iinc 5 [(4, .int z6), (6, .int z2), (0, .ref (v.1 c)), (1, .int x1), (2, .ref (v.1 c2)), (3, .ref (v.1 c3)), (5, .int x5)] (v := z6) (n := 171) ok dX2_value_168 rfl rfl (by rw [ez6]; rfl) (by decide) rfl ?_
                exact g_sub [2, 3, 4, 5, 0, 6] rfl (b_X2_value_171 ok c c2 c3 hc hc2 hc3 ih he x1 z6 x5 S5 h)
            · replace h := h.2 e8
              exact g_sub [1, 2, 3, 4, 5, 6, 0] rfl (b_X2_value_113 ok c c2 c3 hc hc2 hc3 ih he x1 x4 x5 z2 S3 h)
        · replace h := h.2 e10
          exact g_sub [1, 2, 3, 4, 5, 6, 0] rfl (b_X2_value_65 ok c c2 c3 hc hc2 hc3 ih he x1 x4 x5 z2 S3 h)
def w_X2_value_30 (post : Int32 → Mem → Prop) (c : Nat) (c2 : Nat) (c3 : Nat) (x1 : Int32) (x4 : Int32) (y0 : Int32) (S : Mem) : Prop := ∃ n, w_X2_value_32 post c c2 c3 n x1 x4 y0 S
set_option maxHeartbeats 4000000 in
set_option maxRecDepth 20000 in
theorem b_X2_value_30 {v : VxT} {l : Launch} {g : CxT} (ok : Ok l g (oX v) 7 cX2_value RX2 (some .int)) (c : Nat) (c2 : Nat) (c3 : Nat) (hc : kdX c = 7) (hc2 : kdX c2 = 12) (hc3 : kdX c3 = 6) {post : Int32 → Mem → Prop} (he : EndQ g (oX v) (va_Qi post (fun S1 t => BX (oX v) S1 t) (AX (oX v)))) (x1 : Int32) (x4 : Int32) (y0 : Int32) (S : Mem) (h : w_X2_value_30 post c c2 c3 x1 x4 y0 S) : G g (oX v) 3 7 30 [(0, .ref (v.1 c)), (1, .int x1), (2, .ref (v.1 c2)), (3, .ref (v.1 c3)), (4, .int x4)] [.int y0] S := by
  unfold w_X2_value_30 at h
  refine g_istore [(5, .int y0), (0, .ref (v.1 c)), (1, .int x1), (2, .ref (v.1 c2)), (3, .ref (v.1 c3)), (4, .int x4)] (n := 32) ok dX2_value_30 rfl (by decide) rfl ?_
  obtain ⟨n0, h⟩ := h
  exact g_sub [1, 2, 3, 4, 5, 0] rfl (b_X2_value_32 ok c c2 c3 hc hc2 hc3 he n0 x1 x4 y0 S h)
def w_X2_value (c : Nat) (p1 : Int32) (c2 : Nat) (c3 : Nat) (S : Mem) (post : Int32 → Mem → Prop) : Prop := w_X7_within p1 (0 : Int32) (2 : Int32) S (fun r1 S1 => ((¬ r1 = 0 → ((¬ p1 = 0 → (vp_in (p1 - (1 : Int32)) 3 ∧ w_X2_value_30 post c c2 c3 p1 (0 : Int32) (S1 (c + 2) (p1 - (1 : Int32)).toNatClampNeg) S1)) ∧ (p1 = 0 → w_X2_value_30 post c c2 c3 p1 (0 : Int32) (0 : Int32) S1))) ∧ (r1 = 0 → post (0 : Int32) S1)))
set_option maxHeartbeats 4000000 in
set_option maxRecDepth 20000 in
theorem c_X2_value (l : Launch) (v : VxT) (c : Nat) (hc : kdX c = 7) (p1 : Int32) (c2 : Nat) (hc2 : kdX c2 = 12) (c3 : Nat) (hc3 : kdX c3 = 6) (S : Mem) (post : Int32 → Mem → Prop) (h : w_X2_value c p1 c2 c3 S post) : MI l yX2_value cX2_value 7 (some .int) 3 (oX v) [.ref (v.1 c), .int p1, .ref (v.1 c2), .ref (v.1 c3)] S post := by
  refine met_start (by decide +kernel) (Nat.le_of_ble_eq_true rfl) (fun g ok he => ?_)
  refine g_eq (L' := [(0, .ref (v.1 c)), (1, .int p1), (2, .ref (v.1 c2)), (3, .ref (v.1 c3))]) (st' := []) ?_ rfl rfl
  unfold w_X2_value at h
  refine g_iload_n 1 (n := 1) ok dX2_value_0 rfl rfl ?_
  refine g_iconst (v := 0) (n := 2) ok dX2_value_1 rfl (by decide) ?_
  refine g_iconst (v := 2) (n := 3) ok dX2_value_2 rfl (by decide) ?_
  refine g_callSNi (n := 6) (As := [.int p1, .int (0 : Int32), .int (2 : Int32)]) (rest := []) ok (c_X7_within l v p1 (0 : Int32) (2 : Int32) S _ h) cal_X7_within tw_335 tw_253 (by decide) (by decide) rfl (Nat.le_of_ble_eq_true rfl) dX2_value_3 rfl rfl (fun r1 S1 h => ?_)
  refine g_if_ne (t := 11) (n := 9) ok dX2_value_6 (by decide) rfl (fun e3 => ?_) (fun e3 => ?_)
  · replace h := h.1 e3
    refine g_iconst (v := 0) (n := 12) ok dX2_value_11 rfl (by decide) ?_
    refine g_istore [(4, .int (0 : Int32)), (0, .ref (v.1 c)), (1, .int p1), (2, .ref (v.1 c2)), (3, .ref (v.1 c3))] (n := 14) ok dX2_value_12 rfl (by decide) rfl ?_
    refine g_iload_n 2 (n := 15) ok dX2_value_14 rfl rfl ?_
    refine g_if_ne (t := 22) (n := 18) ok dX2_value_15 (by decide) rfl (fun e2 => ?_) (fun e2 => ?_)
    · replace h := h.1 e2
      refine g_aload_n 1 (n := 23) ok dX2_value_22 rfl rfl ?_
      refine fg_X2_X2_ends (n := 26) c hc ok dX2_value_23 rfl ?_
      refine g_iload_n 2 (n := 27) ok dX2_value_26 rfl rfl ?_
      refine g_iconst (v := 1) (n := 28) ok dX2_value_27 rfl (by decide) ?_
      refine g_isub (n := 29) ok dX2_value_28 rfl ?_
      obtain ⟨h0, h⟩ := h
      refine g_iald (c := (c + 2)) (t0 := 0) (n := 30) ok (lt8 (kd7_ends hc)) (sh8 (kd7_ends hc) _) rfl h0 dX2_value_29 rfl ?_
      exact g_sub [1, 2, 3, 4, 0] rfl (b_X2_value_30 ok c c2 c3 hc hc2 hc3 he p1 (0 : Int32) (S1 (c + 2) (p1 - (1 : Int32)).toNatClampNeg) S1 h)
    · replace h := h.2 e2
      refine g_iconst (v := 0) (n := 19) ok dX2_value_18 rfl (by decide) ?_
      refine g_goto (t := 30) ok dX2_value_19 (by decide) ?_
      exact g_sub [1, 2, 3, 4, 0] rfl (b_X2_value_30 ok c c2 c3 hc hc2 hc3 he p1 (0 : Int32) (0 : Int32) S1 h)
  · replace h := h.2 e3
    refine g_iconst (v := 0) (n := 10) ok dX2_value_9 rfl (by decide) ?_
    exact g_iret ok he h dX2_value_10
def w_X3_isMissing_13 (post : Int32 → Mem → Prop) (c : Nat) (y0 : Int32) (S : Mem) : Prop := (y0 = 0 ∨ y0 = 1) ∧ post y0 S
set_option maxHeartbeats 4000000 in
set_option maxRecDepth 20000 in
theorem b_X3_isMissing_13 {v : VxT} {l : Launch} {g : CxT} (ok : Ok l g (oX v) 1 cX3_isMissing RX3 (some .boolean)) (c : Nat) (hc : kdX c = 14) {post : Int32 → Mem → Prop} (he : EndQ g (oX v) (va_Qi post (fun S1 t => BX (oX v) S1 t) (AX (oX v)))) (y0 : Int32) (S : Mem) (h : w_X3_isMissing_13 post c y0 S) : G g (oX v) 1 1 13 [] [.int y0] S := by
  unfold w_X3_isMissing_13 at h
  exact g_zret ok he h.1 h.2 dX3_isMissing_13
def w_X3_isMissing (c : Nat) (S : Mem) (post : Int32 → Mem → Prop) : Prop := ((¬ (S c 0) = (-1 : Int32) → w_X3_isMissing_13 post c (0 : Int32) S) ∧ ((S c 0) = (-1 : Int32) → w_X3_isMissing_13 post c (1 : Int32) S))
set_option maxHeartbeats 4000000 in
set_option maxRecDepth 20000 in
theorem c_X3_isMissing (l : Launch) (v : VxT) (c : Nat) (hc : kdX c = 14) (S : Mem) (post : Int32 → Mem → Prop) (h : w_X3_isMissing c S post) : MI l yX3_isMissing cX3_isMissing 1 (some .boolean) 1 (oX v) [.ref (v.1 c)] S post := by
  refine met_start (by decide +kernel) (Nat.le_of_ble_eq_true rfl) (fun g ok he => ?_)
  refine g_eq (L' := [(0, .ref (v.1 c))]) (st' := []) ?_ rfl rfl
  unfold w_X3_isMissing at h
  refine g_aload_n 0 (n := 1) ok dX3_isMissing_0 rfl rfl ?_
  refine fg_X3_X3_sort (n := 4) c hc ok dX3_isMissing_1 rfl ?_
  refine g_iconst (v := -1) (n := 5) ok dX3_isMissing_4 rfl (by decide) ?_
  refine g_icmp_ne (t := 12) (n := 8) ok dX3_isMissing_5 (by decide) rfl (fun e1 => ?_) (fun e1 => ?_)
  · replace h := h.1 e1
    refine g_iconst (v := 0) (n := 13) ok dX3_isMissing_12 rfl (by decide) ?_
    exact g_sub [] rfl (b_X3_isMissing_13 ok c hc he (0 : Int32) S h)
  · replace h := h.2 e1
    refine g_iconst (v := 1) (n := 9) ok dX3_isMissing_8 rfl (by decide) ?_
    refine g_goto (t := 13) ok dX3_isMissing_9 (by decide) ?_
    exact g_sub [] rfl (b_X3_isMissing_13 ok c hc he (1 : Int32) S h)
