def w_X3_vanish (c : Nat) (S : Mem) (post : Mem → Prop) : Prop := (∀ S1 : Mem, S1 = mset S c (upd (S c) 0 (-1 : Int32)) → (∀ S2 : Mem, S2 = mset S1 c (upd (S1 c) 1 (0 : Int32)) → post S2))
set_option maxHeartbeats 4000000 in
set_option maxRecDepth 20000 in
theorem c_X3_vanish (l : Launch) (v : VxT) (c : Nat) (hc : kdX c = 14) (S : Mem) (post : Mem → Prop) (h : w_X3_vanish c S post) : MV l yX3_vanish cX3_vanish 1 none 1 (oX v) [.ref (v.1 c)] S post := by
  refine met_start (by decide +kernel) (Nat.le_of_ble_eq_true rfl) (fun g ok he => ?_)
  refine g_eq (L' := [(0, .ref (v.1 c))]) (st' := []) ?_ rfl rfl
  unfold w_X3_vanish at h
  refine g_aload_n 0 (n := 1) ok dX3_vanish_0 rfl rfl ?_
  refine g_iconst (v := -1) (n := 2) ok dX3_vanish_1 rfl (by decide) ?_
  refine fp_X3_X3_sort (n := 5) c hc ok dX3_vanish_2 rfl ?_
  refine g_mem (fun S1 eS1 => ?_)
  replace h := h S1 eS1
  refine g_aload_n 0 (n := 6) ok dX3_vanish_5 rfl rfl ?_
  refine g_iconst (v := 0) (n := 7) ok dX3_vanish_6 rfl (by decide) ?_
  refine fp_X3_X3_size (n := 10) c hc ok dX3_vanish_7 rfl ?_
  refine g_mem (fun S2 eS2 => ?_)
  replace h := h S2 eS2
  exact g_vret ok he h dX3_vanish_10
def w_X7_held_17 (post : Int32 → Mem → Prop) (y0 : Int32) (S : Mem) : Prop := post y0 S
set_option maxHeartbeats 4000000 in
set_option maxRecDepth 20000 in
theorem b_X7_held_17 {v : VxT} {l : Launch} {g : CxT} (ok : Ok l g (oX v) 3 cX7_held RX7 (some .int)) {post : Int32 → Mem → Prop} (he : EndQ g (oX v) (va_Qi post (fun S1 t => BX (oX v) S1 t) (AX (oX v)))) (y0 : Int32) (S : Mem) (h : w_X7_held_17 post y0 S) : G g (oX v) 1 3 17 [] [.int y0] S := by
  unfold w_X7_held_17 at h
  exact g_iret ok he h dX7_held_17
def w_X7_held (p0 : Int32) (p1 : Int32) (p2 : Int32) (S : Mem) (post : Int32 → Mem → Prop) : Prop := ((p1 ≤ p0 → ((p0 ≤ p2 → w_X7_held_17 post p0 S) ∧ (¬ p0 ≤ p2 → w_X7_held_17 post p2 S))) ∧ (¬ p1 ≤ p0 → post p1 S))
set_option maxHeartbeats 4000000 in
set_option maxRecDepth 20000 in
theorem c_X7_held (l : Launch) (v : VxT) (p0 : Int32) (p1 : Int32) (p2 : Int32) (S : Mem) (post : Int32 → Mem → Prop) (h : w_X7_held p0 p1 p2 S post) : MI l yX7_held cX7_held 3 (some .int) 1 (oX v) [.int p0, .int p1, .int p2] S post := by
  refine met_start (by decide +kernel) (Nat.le_of_ble_eq_true rfl) (fun g ok he => ?_)
  refine g_eq (L' := [(0, .int p0), (1, .int p1), (2, .int p2)]) (st' := []) ?_ rfl rfl
  unfold w_X7_held at h
  refine g_iload_n 0 (n := 1) ok dX7_held_0 rfl rfl ?_
  refine g_iload_n 1 (n := 2) ok dX7_held_1 rfl rfl ?_
  refine g_icmp_ge (t := 7) (n := 5) ok dX7_held_2 (by decide) rfl (fun e2 => ?_) (fun e2 => ?_)
  · replace h := h.1 e2
    refine g_iload_n 0 (n := 8) ok dX7_held_7 rfl rfl ?_
    refine g_iload_n 2 (n := 9) ok dX7_held_8 rfl rfl ?_
    refine g_icmp_le (t := 16) (n := 12) ok dX7_held_9 (by decide) rfl (fun e1 => ?_) (fun e1 => ?_)
    · replace h := h.1 e1
      refine g_iload_n 0 (n := 17) ok dX7_held_16 rfl rfl ?_
      exact g_sub [] rfl (b_X7_held_17 ok he p0 S h)
    · replace h := h.2 e1
      refine g_iload_n 2 (n := 13) ok dX7_held_12 rfl rfl ?_
      refine g_goto (t := 17) ok dX7_held_13 (by decide) ?_
      exact g_sub [] rfl (b_X7_held_17 ok he p2 S h)
  · replace h := h.2 e2
    refine g_iload_n 1 (n := 6) ok dX7_held_5 rfl rfl ?_
    exact g_iret ok he h dX7_held_6
def w_X3_become_18 (post : Mem → Prop) (c : Nat) : Nat → Int32 → Mem → Prop
  | 0, _, _ => False
  | n + 1, x3, S => (((40 : Int32) ≤ x3 → post S) ∧ (¬ (40 : Int32) ≤ x3 → (vp_in x3 40 ∧ (∀ S1 : Mem, S1 = mset S (c + 1) (upd (S (c + 1)) x3.toNatClampNeg (0 : Int32)) → (∀ z2 : Int32, z2 = x3 + 1 → w_X3_become_18 post c n z2 S1)))))
set_option maxHeartbeats 4000000 in
set_option maxRecDepth 20000 in
theorem b_X3_become_18 {v : VxT} {l : Launch} {g : CxT} (ok : Ok l g (oX v) 4 cX3_become RX3 none) (c : Nat) (hc : kdX c = 14) {post : Mem → Prop} (he : EndQ g (oX v) (va_Qv post (fun S1 t => BX (oX v) S1 t) (AX (oX v)))) : ∀ (n : Nat) (x3 : Int32) (S : Mem), w_X3_become_18 post c n x3 S → G g (oX v) 2 4 18 [(0, .ref (v.1 c)), (3, .int x3)] [] S := by
  intro n
  induction n with
  | zero =>
    intro x3 S h
    exact h.elim
  | succ n ih =>
    intro x3 S h
    rw [w_X3_become_18] at h
    refine g_iload_n 1 (n := 19) ok dX3_become_18 rfl rfl ?_
    refine g_bipush (v := 40) (n := 21) ok dX3_become_19 rfl (by decide) ?_
    refine g_icmp_ge (t := 37) (n := 24) ok dX3_become_21 (by decide) rfl (fun e3 => ?_) (fun e3 => ?_)
    · replace h := h.1 e3
      exact g_vret ok he h dX3_become_37
    · replace h := h.2 e3
      refine g_aload_n 0 (n := 25) ok dX3_become_24 rfl rfl ?_
      refine fg_X3_X3_items (n := 28) c hc ok dX3_become_25 rfl ?_
      refine g_iload_n 1 (n := 29) ok dX3_become_28 rfl rfl ?_
      refine g_iconst (v := 0) (n := 30) ok dX3_become_29 rfl (by decide) ?_
      obtain ⟨h0, h⟩ := h
      refine g_iast (c := (c + 1)) (t0 := 0) (n := 31) ok (lt15 (kd14_items hc)) (fun f => sh15 (kd14_items hc) f) rfl h0 dX3_become_30 rfl ?_
      refine g_mem (fun S1 eS1 => ?_)
      replace h := h S1 eS1
      obtain ⟨z2, ez2⟩ : ∃ y : Int32, y = x3 + 1 := ⟨_, rfl⟩
      replace h := h z2 ez2
      refine g_iinc 1 [(3, .int z2), (0, .ref (v.1 c))] (v := z2) (n := 34) ok dX3_become_31 rfl rfl (by rw [ez2]; rfl) (by decide) rfl ?_
      refine g_goto (t := 18) ok dX3_become_34 (by decide) ?_
      exact g_sub [1, 0] rfl (ih z2 S1 h)
def w_X3_become (c : Nat) (p1 : Int32) (p2 : Int32) (S : Mem) (post : Mem → Prop) : Prop := (∀ S1 : Mem, S1 = mset S c (upd (S c) 0 p1) → w_X7_held p2 (0 : Int32) (40 : Int32) S1 (fun r2 S2 => (∀ S3 : Mem, S3 = mset S2 c (upd (S2 c) 1 r2) → ∃ n, w_X3_become_18 post c n (0 : Int32) S3)))
set_option maxHeartbeats 4000000 in
set_option maxRecDepth 20000 in
theorem c_X3_become (l : Launch) (v : VxT) (c : Nat) (hc : kdX c = 14) (p1 : Int32) (p2 : Int32) (S : Mem) (post : Mem → Prop) (h : w_X3_become c p1 p2 S post) : MV l yX3_become cX3_become 4 none 2 (oX v) [.ref (v.1 c), .int p1, .int p2] S post := by
  refine met_start (by decide +kernel) (Nat.le_of_ble_eq_true rfl) (fun g ok he => ?_)
  refine g_eq (L' := [(0, .ref (v.1 c)), (1, .int p1), (2, .int p2)]) (st' := []) ?_ rfl rfl
  unfold w_X3_become at h
  refine g_aload_n 0 (n := 1) ok dX3_become_0 rfl rfl ?_
  refine g_iload_n 1 (n := 2) ok dX3_become_1 rfl rfl ?_
  refine fp_X3_X3_sort (n := 5) c hc ok dX3_become_2 rfl ?_
  refine g_mem (fun S1 eS1 => ?_)
  replace h := h S1 eS1
  refine g_aload_n 0 (n := 6) ok dX3_become_5 rfl rfl ?_
  refine g_iload_n 2 (n := 7) ok dX3_become_6 rfl rfl ?_
  refine g_iconst (v := 0) (n := 8) ok dX3_become_7 rfl (by decide) ?_
  refine g_bipush (v := 40) (n := 10) ok dX3_become_8 rfl (by decide) ?_
  refine g_callSNi (n := 13) (As := [.int p2, .int (0 : Int32), .int (40 : Int32)]) (rest := [.ref (v.1 c)]) ok (c_X7_held l v p2 (0 : Int32) (40 : Int32) S1 _ h) cal_X7_held tw_718 tw_432 (by decide) (by decide) rfl (Nat.le_of_ble_eq_true rfl) dX3_become_10 rfl rfl (fun r2 S2 h => ?_)
  refine fp_X3_X3_size (n := 16) c hc ok dX3_become_13 rfl ?_
  refine g_mem (fun S3 eS3 => ?_)
  replace h := h S3 eS3
  refine g_iconst (v := 0) (n := 17) ok dX3_become_16 rfl (by decide) ?_
  refine g_istore_n [(3, .int (0 : Int32)), (0, .ref (v.1 c)), (1, .int p1), (2, .int p2)] (n := 18) ok dX3_become_17 rfl (by decide) rfl ?_
  obtain ⟨n0, h⟩ := h
  exact g_sub [1, 0] rfl (b_X3_become_18 ok c hc he n0 (0 : Int32) S3 h)
def w_X3_hasItem_17 (post : Int32 → Mem → Prop) (c : Nat) (y0 : Int32) (S : Mem) : Prop := (y0 = 0 ∨ y0 = 1) ∧ post y0 S
set_option maxHeartbeats 4000000 in
set_option maxRecDepth 20000 in
theorem b_X3_hasItem_17 {v : VxT} {l : Launch} {g : CxT} (ok : Ok l g (oX v) 2 cX3_hasItem RX3 (some .boolean)) (c : Nat) (hc : kdX c = 14) {post : Int32 → Mem → Prop} (he : EndQ g (oX v) (va_Qi post (fun S1 t => BX (oX v) S1 t) (AX (oX v)))) (y0 : Int32) (S : Mem) (h : w_X3_hasItem_17 post c y0 S) : G g (oX v) 1 2 17 [] [.int y0] S := by
  unfold w_X3_hasItem_17 at h
  exact g_zret ok he h.1 h.2 dX3_hasItem_17
def w_X3_hasItem_16 (post : Int32 → Mem → Prop) (c : Nat) (S : Mem) : Prop := w_X3_hasItem_17 post c (0 : Int32) S
set_option maxHeartbeats 4000000 in
set_option maxRecDepth 20000 in
theorem b_X3_hasItem_16 {v : VxT} {l : Launch} {g : CxT} (ok : Ok l g (oX v) 2 cX3_hasItem RX3 (some .boolean)) (c : Nat) (hc : kdX c = 14) {post : Int32 → Mem → Prop} (he : EndQ g (oX v) (va_Qi post (fun S1 t => BX (oX v) S1 t) (AX (oX v)))) (S : Mem) (h : w_X3_hasItem_16 post c  S) : G g (oX v) 1 2 16 [] [] S := by
  unfold w_X3_hasItem_16 at h
  refine g_iconst (v := 0) (n := 17) ok dX3_hasItem_16 rfl (by decide) ?_
  exact g_sub [] rfl (b_X3_hasItem_17 ok c hc he (0 : Int32) S h)
def w_X3_hasItem (c : Nat) (p1 : Int32) (S : Mem) (post : Int32 → Mem → Prop) : Prop := ((p1 < 0 → w_X3_hasItem_16 post c  S) ∧ (¬ p1 < 0 → (((S c 1) ≤ p1 → w_X3_hasItem_16 post c  S) ∧ (¬ (S c 1) ≤ p1 → w_X3_hasItem_17 post c (1 : Int32) S))))
set_option maxHeartbeats 4000000 in
set_option maxRecDepth 20000 in
theorem c_X3_hasItem (l : Launch) (v : VxT) (c : Nat) (hc : kdX c = 14) (p1 : Int32) (S : Mem) (post : Int32 → Mem → Prop) (h : w_X3_hasItem c p1 S post) : MI l yX3_hasItem cX3_hasItem 2 (some .boolean) 1 (oX v) [.ref (v.1 c), .int p1] S post := by
  refine met_start (by decide +kernel) (Nat.le_of_ble_eq_true rfl) (fun g ok he => ?_)
  refine g_eq (L' := [(0, .ref (v.1 c)), (1, .int p1)]) (st' := []) ?_ rfl rfl
  unfold w_X3_hasItem at h
  refine g_iload_n 1 (n := 1) ok dX3_hasItem_0 rfl rfl ?_
  refine g_if_lt (t := 16) (n := 4) ok dX3_hasItem_1 (by decide) rfl (fun e2 => ?_) (fun e2 => ?_)
  · replace h := h.1 e2
    exact g_sub [] rfl (b_X3_hasItem_16 ok c hc he  S h)
  · replace h := h.2 e2
    refine g_iload_n 1 (n := 5) ok dX3_hasItem_4 rfl rfl ?_
    refine g_aload_n 0 (n := 6) ok dX3_hasItem_5 rfl rfl ?_
    refine fg_X3_X3_size (n := 9) c hc ok dX3_hasItem_6 rfl ?_
    refine g_icmp_ge (t := 16) (n := 12) ok dX3_hasItem_9 (by decide) rfl (fun e1 => ?_) (fun e1 => ?_)
    · replace h := h.1 e1
      exact g_sub [] rfl (b_X3_hasItem_16 ok c hc he  S h)
    · replace h := h.2 e1
      refine g_iconst (v := 1) (n := 13) ok dX3_hasItem_12 rfl (by decide) ?_
      refine g_goto (t := 17) ok dX3_hasItem_13 (by decide) ?_
      exact g_sub [] rfl (b_X3_hasItem_17 ok c hc he (1 : Int32) S h)
def w_X3_hasItems_23 (post : Int32 → Mem → Prop) (c : Nat) (y0 : Int32) (S : Mem) : Prop := (y0 = 0 ∨ y0 = 1) ∧ post y0 S
set_option maxHeartbeats 4000000 in
set_option maxRecDepth 20000 in
theorem b_X3_hasItems_23 {v : VxT} {l : Launch} {g : CxT} (ok : Ok l g (oX v) 3 cX3_hasItems RX3 (some .boolean)) (c : Nat) (hc : kdX c = 14) {post : Int32 → Mem → Prop} (he : EndQ g (oX v) (va_Qi post (fun S1 t => BX (oX v) S1 t) (AX (oX v)))) (y0 : Int32) (S : Mem) (h : w_X3_hasItems_23 post c y0 S) : G g (oX v) 1 3 23 [] [.int y0] S := by
  unfold w_X3_hasItems_23 at h
  exact g_zret ok he h.1 h.2 dX3_hasItems_23
def w_X3_hasItems_22 (post : Int32 → Mem → Prop) (c : Nat) (S : Mem) : Prop := w_X3_hasItems_23 post c (0 : Int32) S
set_option maxHeartbeats 4000000 in
set_option maxRecDepth 20000 in
theorem b_X3_hasItems_22 {v : VxT} {l : Launch} {g : CxT} (ok : Ok l g (oX v) 3 cX3_hasItems RX3 (some .boolean)) (c : Nat) (hc : kdX c = 14) {post : Int32 → Mem → Prop} (he : EndQ g (oX v) (va_Qi post (fun S1 t => BX (oX v) S1 t) (AX (oX v)))) (S : Mem) (h : w_X3_hasItems_22 post c  S) : G g (oX v) 1 3 22 [] [] S := by
  unfold w_X3_hasItems_22 at h
  refine g_iconst (v := 0) (n := 23) ok dX3_hasItems_22 rfl (by decide) ?_
  exact g_sub [] rfl (b_X3_hasItems_23 ok c hc he (0 : Int32) S h)
def w_X3_hasItems (c : Nat) (p1 : Int32) (p2 : Int32) (S : Mem) (post : Int32 → Mem → Prop) : Prop := ((p1 < 0 → w_X3_hasItems_22 post c  S) ∧ (¬ p1 < 0 → ((p2 < 0 → w_X3_hasItems_22 post c  S) ∧ (¬ p2 < 0 → ((((S c 1) - p2) < p1 → w_X3_hasItems_22 post c  S) ∧ (¬ ((S c 1) - p2) < p1 → w_X3_hasItems_23 post c (1 : Int32) S))))))
set_option maxHeartbeats 4000000 in
set_option maxRecDepth 20000 in
theorem c_X3_hasItems (l : Launch) (v : VxT) (c : Nat) (hc : kdX c = 14) (p1 : Int32) (p2 : Int32) (S : Mem) (post : Int32 → Mem → Prop) (h : w_X3_hasItems c p1 p2 S post) : MI l yX3_hasItems cX3_hasItems 3 (some .boolean) 1 (oX v) [.ref (v.1 c), .int p1, .int p2] S post := by
  refine met_start (by decide +kernel) (Nat.le_of_ble_eq_true rfl) (fun g ok he => ?_)
  refine g_eq (L' := [(0, .ref (v.1 c)), (1, .int p1), (2, .int p2)]) (st' := []) ?_ rfl rfl
  unfold w_X3_hasItems at h
  refine g_iload_n 1 (n := 1) ok dX3_hasItems_0 rfl rfl ?_
  refine g_if_lt (t := 22) (n := 4) ok dX3_hasItems_1 (by decide) rfl (fun e3 => ?_) (fun e3 => ?_)
  · replace h := h.1 e3
    exact g_sub [] rfl (b_X3_hasItems_22 ok c hc he  S h)
  · replace h := h.2 e3
    refine g_iload_n 2 (n := 5) ok dX3_hasItems_4 rfl rfl ?_
    refine g_if_lt (t := 22) (n := 8) ok dX3_hasItems_5 (by decide) rfl (fun e2 => ?_) (fun e2 => ?_)
    · replace h := h.1 e2
      exact g_sub [] rfl (b_X3_hasItems_22 ok c hc he  S h)
    · replace h := h.2 e2
      refine g_iload_n 1 (n := 9) ok dX3_hasItems_8 rfl rfl ?_
      refine g_aload_n 0 (n := 10) ok dX3_hasItems_9 rfl rfl ?_
      refine fg_X3_X3_size (n := 13) c hc ok dX3_hasItems_10 rfl ?_
      refine g_iload_n 2 (n := 14) ok dX3_hasItems_13 rfl rfl ?_
      refine g_isub (n := 15) ok dX3_hasItems_14 rfl ?_
      refine g_icmp_gt (t := 22) (n := 18) ok dX3_hasItems_15 (by decide) rfl (fun e1 => ?_) (fun e1 => ?_)
      · replace h := h.1 e1
        exact g_sub [] rfl (b_X3_hasItems_22 ok c hc he  S h)
      · replace h := h.2 e1
        refine g_iconst (v := 1) (n := 19) ok dX3_hasItems_18 rfl (by decide) ?_
        refine g_goto (t := 23) ok dX3_hasItems_19 (by decide) ?_
        exact g_sub [] rfl (b_X3_hasItems_23 ok c hc he (1 : Int32) S h)
def w_X3_put_53 (post : Mem → Prop) (c : Nat) (S : Mem) : Prop := post S
set_option maxHeartbeats 4000000 in
set_option maxRecDepth 20000 in
theorem b_X3_put_53 {v : VxT} {l : Launch} {g : CxT} (ok : Ok l g (oX v) 3 cX3_put RX3 none) (c : Nat) (hc : kdX c = 14) {post : Mem → Prop} (he : EndQ g (oX v) (va_Qv post (fun S1 t => BX (oX v) S1 t) (AX (oX v)))) (S : Mem) (h : w_X3_put_53 post c  S) : G g (oX v) 2 3 53 [] [] S := by
  unfold w_X3_put_53 at h
  exact g_vret ok he h dX3_put_53
def w_X3_put (c : Nat) (p1 : Int32) (p2 : Int32) (S : Mem) (post : Mem → Prop) : Prop := w_X3_hasItem c p1 S (fun r1 S1 => ((¬ r1 = 0 → ((¬ (S1 c 0) = 0 → ((¬ (S1 c 0) = (1 : Int32) → (vp_in p1 40 ∧ (∀ S2 : Mem, S2 = mset S1 (c + 1) (upd (S1 (c + 1)) p1.toNatClampNeg p2) → w_X3_put_53 post c  S2))) ∧ ((S1 c 0) = (1 : Int32) → (vp_in p1 40 ∧ (∀ S3 : Mem, S3 = mset S1 (c + 1) (upd (S1 (c + 1)) p1.toNatClampNeg p2.toInt16.toInt32) → w_X3_put_53 post c  S3))))) ∧ ((S1 c 0) = 0 → (vp_in p1 40 ∧ (∀ S5 : Mem, S5 = mset S1 (c + 1) (upd (S1 (c + 1)) p1.toNatClampNeg p2.toInt8.toInt32) → w_X3_put_53 post c  S5))))) ∧ (r1 = 0 → post S1)))
set_option maxHeartbeats 4000000 in
set_option maxRecDepth 20000 in
theorem c_X3_put (l : Launch) (v : VxT) (c : Nat) (hc : kdX c = 14) (p1 : Int32) (p2 : Int32) (S : Mem) (post : Mem → Prop) (h : w_X3_put c p1 p2 S post) : MV l yX3_put cX3_put 3 none 2 (oX v) [.ref (v.1 c), .int p1, .int p2] S post := by
  refine met_start (by decide +kernel) (Nat.le_of_ble_eq_true rfl) (fun g ok he => ?_)
  refine g_eq (L' := [(0, .ref (v.1 c)), (1, .int p1), (2, .int p2)]) (st' := []) ?_ rfl rfl
  unfold w_X3_put at h
  refine g_aload_n 0 (n := 1) ok dX3_put_0 rfl rfl ?_
  refine g_iload_n 1 (n := 2) ok dX3_put_1 rfl rfl ?_
  refine g_callVi (n := 5) (As := [.int p1]) (rest := []) (c := c) ok (c_X3_hasItem l v c hc p1 S _ h) cal_X3_hasItem tw_731 tw_725 tp_59 (lt14 hc) (sh14 hc _) rfl (by decide) (by decide) rfl (Nat.le_of_ble_eq_true rfl) dX3_put_2 rfl rfl (fun r1 S1 h => ?_)
  refine g_if_ne (t := 9) (n := 8) ok dX3_put_5 (by decide) rfl (fun e7 => ?_) (fun e7 => ?_)
  · replace h := h.1 e7
    refine g_aload_n 0 (n := 10) ok dX3_put_9 rfl rfl ?_
    refine fg_X3_X3_sort (n := 13) c hc ok dX3_put_10 rfl ?_
    refine g_if_ne (t := 27) (n := 16) ok dX3_put_13 (by decide) rfl (fun e6 => ?_) (fun e6 => ?_)
    · replace h := h.1 e6
      refine g_aload_n 0 (n := 28) ok dX3_put_27 rfl rfl ?_
      refine fg_X3_X3_sort (n := 31) c hc ok dX3_put_28 rfl ?_
      refine g_iconst (v := 1) (n := 32) ok dX3_put_31 rfl (by decide) ?_
      refine g_icmp_ne (t := 46) (n := 35) ok dX3_put_32 (by decide) rfl (fun e4 => ?_) (fun e4 => ?_)
      · replace h := h.1 e4
        refine g_aload_n 0 (n := 47) ok dX3_put_46 rfl rfl ?_
        refine fg_X3_X3_items (n := 50) c hc ok dX3_put_47 rfl ?_
        refine g_iload_n 1 (n := 51) ok dX3_put_50 rfl rfl ?_
        refine g_iload_n 2 (n := 52) ok dX3_put_51 rfl rfl ?_
        obtain ⟨h0, h⟩ := h
        refine g_iast (c := (c + 1)) (t0 := 0) (n := 53) ok (lt15 (kd14_items hc)) (fun f => sh15 (kd14_items hc) f) rfl h0 dX3_put_52 rfl ?_
        refine g_mem (fun S2 eS2 => ?_)
        replace h := h S2 eS2
        exact g_sub [] rfl (b_X3_put_53 ok c hc he  S2 h)
      · replace h := h.2 e4
        refine g_aload_n 0 (n := 36) ok dX3_put_35 rfl rfl ?_
        refine fg_X3_X3_items (n := 39) c hc ok dX3_put_36 rfl ?_
        refine g_iload_n 1 (n := 40) ok dX3_put_39 rfl rfl ?_
        refine g_iload_n 2 (n := 41) ok dX3_put_40 rfl rfl ?_
        refine g_i2s (n := 42) ok dX3_put_41 rfl ?_
        obtain ⟨h0, h⟩ := h
        refine g_iast (c := (c + 1)) (t0 := 0) (n := 43) ok (lt15 (kd14_items hc)) (fun f => sh15 (kd14_items hc) f) rfl h0 dX3_put_42 rfl ?_
        refine g_mem (fun S3 eS3 => ?_)
        replace h := h S3 eS3
        refine g_goto (t := 53) ok dX3_put_43 (by decide) ?_
        exact g_sub [] rfl (b_X3_put_53 ok c hc he  S3 h)
    · replace h := h.2 e6
      refine g_aload_n 0 (n := 17) ok dX3_put_16 rfl rfl ?_
      refine fg_X3_X3_items (n := 20) c hc ok dX3_put_17 rfl ?_
      refine g_iload_n 1 (n := 21) ok dX3_put_20 rfl rfl ?_
      refine g_iload_n 2 (n := 22) ok dX3_put_21 rfl rfl ?_
      refine g_i2b (n := 23) ok dX3_put_22 rfl ?_
      obtain ⟨h0, h⟩ := h
      refine g_iast (c := (c + 1)) (t0 := 0) (n := 24) ok (lt15 (kd14_items hc)) (fun f => sh15 (kd14_items hc) f) rfl h0 dX3_put_23 rfl ?_
      refine g_mem (fun S5 eS5 => ?_)
      replace h := h S5 eS5
      refine g_goto (t := 53) ok dX3_put_24 (by decide) ?_
      exact g_sub [] rfl (b_X3_put_53 ok c hc he  S5 h)
  · replace h := h.2 e7
    exact g_vret ok he h dX3_put_8
def w_J9_floorMod_7cf53_18 (post : Int32 → Mem → Prop) (x2 : Int32) (S : Mem) : Prop := post x2 S
set_option maxHeartbeats 4000000 in
set_option maxRecDepth 20000 in
theorem b_J9_floorMod_7cf53_18 {v : VxT} {l : Launch} {g : CxT} (ok : Ok l g (oX v) 3 cJ9_floorMod_7cf53 RJ9 (some .int)) {post : Int32 → Mem → Prop} (he : EndQ g (oX v) (va_Qi post (fun S1 t => BX (oX v) S1 t) (AX (oX v)))) (x2 : Int32) (S : Mem) (h : w_J9_floorMod_7cf53_18 post x2 S) : G g (oX v) 1 3 18 [(2, .int x2)] [] S := by
  unfold w_J9_floorMod_7cf53_18 at h
  refine g_iload_n 0 (n := 19) ok dJ9_floorMod_7cf53_18 rfl rfl ?_
  exact g_iret ok he h dJ9_floorMod_7cf53_19
def w_J9_floorMod_7cf53 (p0 : Int32) (p1 : Int32) (S : Mem) (post : Int32 → Mem → Prop) : Prop := (¬ p1 = 0 ∧ (∀ z1 : Int32, z1 = jrem p0 p1 → ((0 ≤ (p0 ^^^ p1) → w_J9_floorMod_7cf53_18 post z1 S) ∧ (¬ 0 ≤ (p0 ^^^ p1) → ((z1 = 0 → w_J9_floorMod_7cf53_18 post z1 S) ∧ (¬ z1 = 0 → post (z1 + p1) S))))))
set_option maxHeartbeats 4000000 in
set_option maxRecDepth 20000 in
theorem c_J9_floorMod_7cf53 (l : Launch) (v : VxT) (p0 : Int32) (p1 : Int32) (S : Mem) (post : Int32 → Mem → Prop) (h : w_J9_floorMod_7cf53 p0 p1 S post) : MI l yJ9_floorMod_7cf53 cJ9_floorMod_7cf53 3 (some .int) 1 (oX v) [.int p0, .int p1] S post := by
  refine met_startF (by decide +kernel) (Nat.le_of_ble_eq_true rfl) (fun g ok he => ?_)
  refine g_eq (L' := [(0, .int p0), (1, .int p1)]) (st' := []) ?_ rfl rfl
  unfold w_J9_floorMod_7cf53 at h
  refine g_iload_n 0 (n := 1) ok dJ9_floorMod_7cf53_0 rfl rfl ?_
  refine g_iload_n 1 (n := 2) ok dJ9_floorMod_7cf53_1 rfl rfl ?_
  obtain ⟨h0, h⟩ := h
  refine g_irem (n := 3) ok dJ9_floorMod_7cf53_2 rfl h0 ?_
  refine g_topi (fun z1 ez1 => ?_)
  replace h := h z1 ez1
  refine g_istore_n [(2, .int z1), (0, .int p0), (1, .int p1)] (n := 4) ok dJ9_floorMod_7cf53_3 rfl (by decide) rfl ?_
  refine g_iload_n 1 (n := 5) ok dJ9_floorMod_7cf53_4 rfl rfl ?_
  refine g_iload_n 2 (n := 6) ok dJ9_floorMod_7cf53_5 rfl rfl ?_
  refine g_ixor (n := 7) ok dJ9_floorMod_7cf53_6 rfl ?_
  refine g_if_ge (t := 18) (n := 10) ok dJ9_floorMod_7cf53_7 (by decide) rfl (fun e3 => ?_) (fun e3 => ?_)
  · replace h := h.1 e3
    exact g_sub [0] rfl (b_J9_floorMod_7cf53_18 ok he z1 S h)
  · replace h := h.2 e3
    refine g_iload_n 0 (n := 11) ok dJ9_floorMod_7cf53_10 rfl rfl ?_
    refine g_if_eq (t := 18) (n := 14) ok dJ9_floorMod_7cf53_11 (by decide) rfl (fun e2 => ?_) (fun e2 => ?_)
    · replace h := h.1 e2
      exact g_sub [0] rfl (b_J9_floorMod_7cf53_18 ok he z1 S h)
    · replace h := h.2 e2
      refine g_iload_n 0 (n := 15) ok dJ9_floorMod_7cf53_14 rfl rfl ?_
      refine g_iload_n 2 (n := 16) ok dJ9_floorMod_7cf53_15 rfl rfl ?_
      refine g_iadd (n := 17) ok dJ9_floorMod_7cf53_16 rfl ?_
      exact g_iret ok he h dJ9_floorMod_7cf53_17
def w_X7_round (p0 : Int32) (S : Mem) (post : Int32 → Mem → Prop) : Prop := w_J9_floorMod_7cf53 p0 (8 : Int32) S (fun r1 S1 => post r1 S1)
set_option maxHeartbeats 4000000 in
set_option maxRecDepth 20000 in
theorem c_X7_round (l : Launch) (v : VxT) (p0 : Int32) (S : Mem) (post : Int32 → Mem → Prop) (h : w_X7_round p0 S post) : MI l yX7_round cX7_round 1 (some .int) 2 (oX v) [.int p0] S post := by
  refine met_start (by decide +kernel) (Nat.le_of_ble_eq_true rfl) (fun g ok he => ?_)
  refine g_eq (L' := [(0, .int p0)]) (st' := []) ?_ rfl rfl
  unfold w_X7_round at h
  refine g_iload_n 0 (n := 1) ok dX7_round_0 rfl rfl ?_
  refine g_bipush (v := 8) (n := 3) ok dX7_round_1 rfl (by decide) ?_
  refine g_callSi (n := 6) (As := [.int p0, .int (8 : Int32)]) (rest := []) ok (c_J9_floorMod_7cf53 l v p0 (8 : Int32) S _ h) cal_J9_floorMod_7cf53 tw_426 tw_427 (by decide) (by decide) rfl (Nat.le_of_ble_eq_true rfl) dX7_round_3 rfl rfl (fun r1 S1 h => ?_)
  exact g_iret ok he h dX7_round_6
def w_X5_cellBeneath (c : Nat) (p1 : Int32) (p2 : Int32) (p3 : Int32) (S : Mem) (post : Int32 → Mem → Prop) : Prop := w_X7_round (p3 + ((2 : Int32) * p1)) S (fun r1 S1 => (vp_in r1 8 ∧ w_X7_held ((p2 / (8 : Int32)) + ((S1 c 3) * (tWayY.getD r1.toNatClampNeg 0))) (0 : Int32) (7 : Int32) S1 (fun r2 S2 => (vp_in r1 8 ∧ w_X7_held ((jrem p2 (8 : Int32)) + ((S2 c 3) * (tWayX.getD r1.toNatClampNeg 0))) (0 : Int32) (7 : Int32) S2 (fun r3 S3 => post ((r2 * (8 : Int32)) + r3) S3)))))
set_option maxHeartbeats 4000000 in
set_option maxRecDepth 20000 in
theorem c_X5_cellBeneath (l : Launch) (v : VxT) (c : Nat) (hc : kdX c = 1) (p1 : Int32) (p2 : Int32) (p3 : Int32) (S : Mem) (post : Int32 → Mem → Prop) (h : w_X5_cellBeneath c p1 p2 p3 S post) : MI l yX5_cellBeneath cX5_cellBeneath 7 (some .int) 3 (oX v) [.ref (v.1 c), .int p1, .int p2, .int p3] S post := by
  refine met_start (by decide +kernel) (Nat.le_of_ble_eq_true rfl) (fun g ok he => ?_)
  refine g_eq (L' := [(0, .ref (v.1 c)), (1, .int p1), (2, .int p2), (3, .int p3)]) (st' := []) ?_ rfl rfl
  unfold w_X5_cellBeneath at h
  refine g_iload_n 3 (n := 1) ok dX5_cellBeneath_0 rfl rfl ?_
  refine g_iconst (v := 2) (n := 2) ok dX5_cellBeneath_1 rfl (by decide) ?_
  refine g_iload_n 1 (n := 3) ok dX5_cellBeneath_2 rfl rfl ?_
  refine g_imul (n := 4) ok dX5_cellBeneath_3 rfl ?_
  refine g_iadd (n := 5) ok dX5_cellBeneath_4 rfl ?_
  refine g_callSNi (n := 8) (As := [.int (p3 + ((2 : Int32) * p1))]) (rest := []) ok (c_X7_round l v (p3 + ((2 : Int32) * p1)) S _ h) cal_X7_round tw_423 tw_424 (by decide) (by decide) rfl (Nat.le_of_ble_eq_true rfl) dX5_cellBeneath_5 rfl rfl (fun r1 S1 h => ?_)
  refine g_istore [(4, .int r1), (0, .ref (v.1 c)), (1, .int p1), (2, .int p2), (3, .int p3)] (n := 10) ok dX5_cellBeneath_8 rfl (by decide) rfl ?_
  refine g_iload_n 3 (n := 11) ok dX5_cellBeneath_10 rfl rfl ?_
  refine g_bipush (v := 8) (n := 13) ok dX5_cellBeneath_11 rfl (by decide) ?_
  refine g_idiv (n := 14) ok dX5_cellBeneath_13 rfl (by decide) ?_
  refine g_aload_n 1 (n := 15) ok dX5_cellBeneath_14 rfl rfl ?_
  refine fg_X5_X5_radius (n := 18) c hc ok dX5_cellBeneath_15 rfl ?_
  refine g_gets (C := "TableRocks$Table") (n := 21) ok (fun _ _ h => h.2.1.1) tw_429 dX5_cellBeneath_18 rfl ?_
  refine g_iload 0 (n := 23) ok dX5_cellBeneath_21 rfl rfl ?_
  obtain ⟨h0, h⟩ := h
  refine g_ti (n := 24) (f := fun j => tWayY.getD j 0) ok (fun _ _ h => h.2.1.2) h0 dX5_cellBeneath_23 rfl ?_
  refine g_imul (n := 25) ok dX5_cellBeneath_24 rfl ?_
  refine g_iadd (n := 26) ok dX5_cellBeneath_25 rfl ?_
  refine g_iconst (v := 0) (n := 27) ok dX5_cellBeneath_26 rfl (by decide) ?_
  refine g_bipush (v := 7) (n := 29) ok dX5_cellBeneath_27 rfl (by decide) ?_
  refine g_callSNi (n := 32) (As := [.int ((p2 / (8 : Int32)) + ((S1 c 3) * (tWayY.getD r1.toNatClampNeg 0))), .int (0 : Int32), .int (7 : Int32)]) (rest := []) ok (c_X7_held l v ((p2 / (8 : Int32)) + ((S1 c 3) * (tWayY.getD r1.toNatClampNeg 0))) (0 : Int32) (7 : Int32) S1 _ h) cal_X7_held tw_431 tw_432 (by decide) (by decide) rfl (Nat.le_of_ble_eq_true rfl) dX5_cellBeneath_29 rfl rfl (fun r2 S2 h => ?_)
  refine g_istore [(5, .int r2), (4, .int r1), (0, .ref (v.1 c)), (1, .int p1), (2, .int p2), (3, .int p3)] (n := 34) ok dX5_cellBeneath_32 rfl (by decide) rfl ?_
  refine g_iload_n 4 (n := 35) ok dX5_cellBeneath_34 rfl rfl ?_
  refine g_bipush (v := 8) (n := 37) ok dX5_cellBeneath_35 rfl (by decide) ?_
  refine g_irem (n := 38) ok dX5_cellBeneath_37 rfl (by decide) ?_
  refine g_aload_n 2 (n := 39) ok dX5_cellBeneath_38 rfl rfl ?_
  refine fg_X5_X5_radius (n := 42) c hc ok dX5_cellBeneath_39 rfl ?_
  refine g_gets (C := "TableRocks$Table") (n := 45) ok (fun _ _ h => h.2.2.1.1) tw_434 dX5_cellBeneath_42 rfl ?_
  refine g_iload 1 (n := 47) ok dX5_cellBeneath_45 rfl rfl ?_
  obtain ⟨h0, h⟩ := h
  refine g_ti (n := 48) (f := fun j => tWayX.getD j 0) ok (fun _ _ h => h.2.2.1.2) h0 dX5_cellBeneath_47 rfl ?_
  refine g_imul (n := 49) ok dX5_cellBeneath_48 rfl ?_
  refine g_iadd (n := 50) ok dX5_cellBeneath_49 rfl ?_
  refine g_iconst (v := 0) (n := 51) ok dX5_cellBeneath_50 rfl (by decide) ?_
  refine g_bipush (v := 7) (n := 53) ok dX5_cellBeneath_51 rfl (by decide) ?_
  refine g_callSNi (n := 56) (As := [.int ((jrem p2 (8 : Int32)) + ((S2 c 3) * (tWayX.getD r1.toNatClampNeg 0))), .int (0 : Int32), .int (7 : Int32)]) (rest := []) ok (c_X7_held l v ((jrem p2 (8 : Int32)) + ((S2 c 3) * (tWayX.getD r1.toNatClampNeg 0))) (0 : Int32) (7 : Int32) S2 _ h) cal_X7_held tw_431 tw_432 (by decide) (by decide) rfl (Nat.le_of_ble_eq_true rfl) dX5_cellBeneath_53 rfl rfl (fun r3 S3 h => ?_)
  refine g_istore [(6, .int r3), (5, .int r2), (4, .int r1), (0, .ref (v.1 c)), (1, .int p1), (2, .int p2), (3, .int p3)] (n := 58) ok dX5_cellBeneath_56 rfl (by decide) rfl ?_
  refine g_iload 1 (n := 60) ok dX5_cellBeneath_58 rfl rfl ?_
  refine g_bipush (v := 8) (n := 62) ok dX5_cellBeneath_60 rfl (by decide) ?_
  refine g_imul (n := 63) ok dX5_cellBeneath_62 rfl ?_
  refine g_iload 0 (n := 65) ok dX5_cellBeneath_63 rfl rfl ?_
  refine g_iadd (n := 66) ok dX5_cellBeneath_65 rfl ?_
  exact g_iret ok he h dX5_cellBeneath_66
def w_X5_heightOf (c : Nat) (p1 : Int32) (p2 : Int32) (p3 : Int32) (S : Mem) (post : Int32 → Mem → Prop) : Prop := w_X5_cellBeneath c p1 p2 p3 S (fun r1 S1 => (vp_in r1 64 ∧ (vp_in p1 4 ∧ w_X0_tall (c + 2 + 1 + p1.toNatClampNeg) (S1 c 5) S1 (fun r2 S2 => post ((S1 (c + 1) r1.toNatClampNeg) + r2) S2))))
set_option maxHeartbeats 4000000 in
set_option maxRecDepth 20000 in
theorem c_X5_heightOf (l : Launch) (v : VxT) (c : Nat) (hc : kdX c = 1) (p1 : Int32) (p2 : Int32) (p3 : Int32) (S : Mem) (post : Int32 → Mem → Prop) (h : w_X5_heightOf c p1 p2 p3 S post) : MI l yX5_heightOf cX5_heightOf 4 (some .int) 4 (oX v) [.ref (v.1 c), .int p1, .int p2, .int p3] S post := by
  refine met_start (by decide +kernel) (Nat.le_of_ble_eq_true rfl) (fun g ok he => ?_)
  refine g_eq (L' := [(0, .ref (v.1 c)), (1, .int p1), (2, .int p2), (3, .int p3)]) (st' := []) ?_ rfl rfl
  unfold w_X5_heightOf at h
  refine g_aload_n 0 (n := 1) ok dX5_heightOf_0 rfl rfl ?_
  refine fg_X5_X5_heights (n := 4) c hc ok dX5_heightOf_1 rfl ?_
  refine g_aload_n 0 (n := 5) ok dX5_heightOf_4 rfl rfl ?_
  refine g_iload_n 1 (n := 6) ok dX5_heightOf_5 rfl rfl ?_
  refine g_iload_n 2 (n := 7) ok dX5_heightOf_6 rfl rfl ?_
  refine g_iload_n 3 (n := 8) ok dX5_heightOf_7 rfl rfl ?_
  refine g_callVi (n := 11) (As := [.int p1, .int p2, .int p3]) (rest := [.ref (v.1 (c + 1))]) (c := c) ok (c_X5_cellBeneath l v c hc p1 p2 p3 S _ h) cal_X5_cellBeneath tw_440 tw_421 tp_23 (lt1 hc) (sh1 hc _) rfl (by decide) (by decide) rfl (Nat.le_of_ble_eq_true rfl) dX5_heightOf_8 rfl rfl (fun r1 S1 h => ?_)
  obtain ⟨h0, h⟩ := h
  refine g_iald (c := (c + 1)) (t0 := 0) (n := 12) ok (lt2 (kd1_heights hc)) (sh2 (kd1_heights hc) _) rfl h0 dX5_heightOf_11 rfl ?_
  refine g_aload_n 0 (n := 13) ok dX5_heightOf_12 rfl rfl ?_
  refine fg_X5_X5_legs (n := 16) c hc ok dX5_heightOf_13 rfl ?_
  refine g_iload_n 1 (n := 17) ok dX5_heightOf_16 rfl rfl ?_
  obtain ⟨h17, h⟩ := h
  refine g_aald (c := (c + 2)) (t0 := 1) (a := v.1 (c + 2 + 1 + p1.toNatClampNeg)) (n := 18) ok (lt3 (kd1_legs hc)) (sh3 (kd1_legs hc) _) rfl h17 rfl dX5_heightOf_17 rfl ?_
  refine g_aload_n 0 (n := 19) ok dX5_heightOf_18 rfl rfl ?_
  refine fg_X5_X5_load (n := 22) c hc ok dX5_heightOf_19 rfl ?_
  refine g_callVNi (n := 25) (As := [.int (S1 c 5)]) (rest := [.int (S1 (c + 1) r1.toNatClampNeg)]) (c := (c + 2 + 1 + p1.toNatClampNeg)) ok (c_X0_tall l v (c + 2 + 1 + p1.toNatClampNeg) (kdE3 (kd1_legs hc) h17) (S1 c 5) S1 _ h) cal_X0_tall tw_441 tw_406 tp_20 (lt4 (kdE3 (kd1_legs hc) h17)) (sh4 (kdE3 (kd1_legs hc) h17) _) rfl (by decide) (by decide) rfl (Nat.le_of_ble_eq_true rfl) dX5_heightOf_22 rfl rfl (fun r2 S2 h => ?_)
  refine g_iadd (n := 26) ok dX5_heightOf_25 rfl ?_
  exact g_iret ok he h dX5_heightOf_26
def w_X4_firstBearing_12 (post : Int32 → Mem → Prop) (y0 : Int32) (S : Mem) : Prop := post y0 S
set_option maxHeartbeats 4000000 in
set_option maxRecDepth 20000 in
theorem b_X4_firstBearing_12 {v : VxT} {l : Launch} {g : CxT} (ok : Ok l g (oX v) 1 cX4_firstBearing RX4 (some .int)) {post : Int32 → Mem → Prop} (he : EndQ g (oX v) (va_Qi post (fun S1 t => BX (oX v) S1 t) (AX (oX v)))) (y0 : Int32) (S : Mem) (h : w_X4_firstBearing_12 post y0 S) : G g (oX v) 1 1 12 [] [.int y0] S := by
  unfold w_X4_firstBearing_12 at h
  exact g_iret ok he h dX4_firstBearing_12
def w_X4_firstBearing (S : Mem) (post : Int32 → Mem → Prop) : Prop := ((0 ≤ (S 39 3) → w_X4_firstBearing_12 post (0 : Int32) S) ∧ (¬ 0 ≤ (S 39 3) → w_X4_firstBearing_12 post (1 : Int32) S))
set_option maxHeartbeats 4000000 in
set_option maxRecDepth 20000 in
theorem c_X4_firstBearing (l : Launch) (v : VxT) (S : Mem) (post : Int32 → Mem → Prop) (h : w_X4_firstBearing  S post) : MI l yX4_firstBearing cX4_firstBearing 1 (some .int) 1 (oX v) [.ref (v.1 39)] S post := by
  refine met_start (by decide +kernel) (Nat.le_of_ble_eq_true rfl) (fun g ok he => ?_)
  refine g_eq (L' := [(0, .ref (v.1 39))]) (st' := []) ?_ rfl rfl
  unfold w_X4_firstBearing at h
  refine g_aload_n 0 (n := 1) ok dX4_firstBearing_0 rfl rfl ?_
  refine fg_X4_X4_gap (n := 4) 39 rfl ok dX4_firstBearing_1 rfl ?_
  refine g_if_ge (t := 11) (n := 7) ok dX4_firstBearing_4 (by decide) rfl (fun e1 => ?_) (fun e1 => ?_)
  · replace h := h.1 e1
    refine g_iconst (v := 0) (n := 12) ok dX4_firstBearing_11 rfl (by decide) ?_
    exact g_sub [] rfl (b_X4_firstBearing_12 ok he (0 : Int32) S h)
  · replace h := h.2 e1
    refine g_iconst (v := 1) (n := 8) ok dX4_firstBearing_7 rfl (by decide) ?_
    refine g_goto (t := 12) ok dX4_firstBearing_8 (by decide) ?_
    exact g_sub [] rfl (b_X4_firstBearing_12 ok he (1 : Int32) S h)
def w_X4_measureLean (S : Mem) (post : Int32 → Mem → Prop) : Prop := w_X4_firstBearing  S (fun r1 S1 => (vp_in r1 4 ∧ (∀ z2 : Int32, z2 = S1 40 r1.toNatClampNeg → w_X4_firstBearing  S1 (fun r3 S3 => (vp_in (r3 + (2 : Int32)) 4 ∧ (∀ z4 : Int32, z4 = S3 40 (r3 + (2 : Int32)).toNatClampNeg → w_X4_firstBearing  S3 (fun r5 S5 => (vp_in ((1 : Int32) - r5) 4 ∧ (∀ z6 : Int32, z6 = S5 40 ((1 : Int32) - r5).toNatClampNeg → (∀ z7 : Int32, z7 = (z2 + z4) - z6 → (∀ z8 : Int32, z8 = jmax (jmax z2 z4) (jmax z6 z7) → (∀ z9 : Int32, z9 = jmin (jmin z2 z4) (jmin z6 z7) → post (z8 - z9) S5))))))))))))
set_option maxHeartbeats 4000000 in
set_option maxRecDepth 20000 in
theorem c_X4_measureLean (l : Launch) (v : VxT) (S : Mem) (post : Int32 → Mem → Prop) (h : w_X4_measureLean  S post) : MI l yX4_measureLean cX4_measureLean 7 (some .int) 2 (oX v) [.ref (v.1 39)] S post := by
  refine met_start (by decide +kernel) (Nat.le_of_ble_eq_true rfl) (fun g ok he => ?_)
  refine g_eq (L' := [(0, .ref (v.1 39))]) (st' := []) ?_ rfl rfl
  unfold w_X4_measureLean at h
  refine g_aload_n 0 (n := 1) ok dX4_measureLean_0 rfl rfl ?_
  refine fg_X4_X4_at (n := 4) 39 rfl ok dX4_measureLean_1 rfl ?_
  refine g_aload_n 0 (n := 5) ok dX4_measureLean_4 rfl rfl ?_
  refine g_callVi (n := 8) (As := []) (rest := [.ref (v.1 40)]) (c := 39) ok (c_X4_firstBearing l v  S _ h) cal_X4_firstBearing tw_480 tw_482 tp_30 (lt10 rfl) (sh10 rfl _) rfl (by decide) (by decide) rfl (Nat.le_of_ble_eq_true rfl) dX4_measureLean_5 rfl rfl (fun r1 S1 h => ?_)
  obtain ⟨h0, h⟩ := h
  refine g_iald (c := 40) (t0 := 0) (n := 9) ok (lt11 rfl) (sh11 rfl _) rfl h0 dX4_measureLean_8 rfl ?_
  refine g_topi (fun z2 ez2 => ?_)
  replace h := h z2 ez2
  refine g_istore_n [(1, .int z2), (0, .ref (v.1 39))] (n := 10) ok dX4_measureLean_9 rfl (by decide) rfl ?_
  refine g_aload_n 1 (n := 11) ok dX4_measureLean_10 rfl rfl ?_
  refine fg_X4_X4_at (n := 14) 39 rfl ok dX4_measureLean_11 rfl ?_
  refine g_aload_n 1 (n := 15) ok dX4_measureLean_14 rfl rfl ?_
  refine g_callVi (n := 18) (As := []) (rest := [.ref (v.1 40)]) (c := 39) ok (c_X4_firstBearing l v  S1 _ h) cal_X4_firstBearing tw_480 tw_482 tp_30 (lt10 rfl) (sh10 rfl _) rfl (by decide) (by decide) rfl (Nat.le_of_ble_eq_true rfl) dX4_measureLean_15 rfl rfl (fun r3 S3 h => ?_)
  refine g_iconst (v := 2) (n := 19) ok dX4_measureLean_18 rfl (by decide) ?_
  refine g_iadd (n := 20) ok dX4_measureLean_19 rfl ?_
  obtain ⟨h0, h⟩ := h
  refine g_iald (c := 40) (t0 := 0) (n := 21) ok (lt11 rfl) (sh11 rfl _) rfl h0 dX4_measureLean_20 rfl ?_
  refine g_topi (fun z4 ez4 => ?_)
  replace h := h z4 ez4
  refine g_istore_n [(2, .int z4), (1, .int z2), (0, .ref (v.1 39))] (n := 22) ok dX4_measureLean_21 rfl (by decide) rfl ?_
  refine g_aload_n 2 (n := 23) ok dX4_measureLean_22 rfl rfl ?_
  refine fg_X4_X4_at (n := 26) 39 rfl ok dX4_measureLean_23 rfl ?_
  refine g_iconst (v := 1) (n := 27) ok dX4_measureLean_26 rfl (by decide) ?_
  refine g_aload_n 2 (n := 28) ok dX4_measureLean_27 rfl rfl ?_
  refine g_callVi (n := 31) (As := []) (rest := [.int (1 : Int32), .ref (v.1 40)]) (c := 39) ok (c_X4_firstBearing l v  S3 _ h) cal_X4_firstBearing tw_480 tw_482 tp_30 (lt10 rfl) (sh10 rfl _) rfl (by decide) (by decide) rfl (Nat.le_of_ble_eq_true rfl) dX4_measureLean_28 rfl rfl (fun r5 S5 h => ?_)
  refine g_isub (n := 32) ok dX4_measureLean_31 rfl ?_
  obtain ⟨h0, h⟩ := h
  refine g_iald (c := 40) (t0 := 0) (n := 33) ok (lt11 rfl) (sh11 rfl _) rfl h0 dX4_measureLean_32 rfl ?_
  refine g_topi (fun z6 ez6 => ?_)
  replace h := h z6 ez6
  refine g_istore_n [(3, .int z6), (2, .int z4), (1, .int z2), (0, .ref (v.1 39))] (n := 34) ok dX4_measureLean_33 rfl (by decide) rfl ?_
  refine g_iload_n 2 (n := 35) ok dX4_measureLean_34 rfl rfl ?_
  refine g_iload_n 1 (n := 36) ok dX4_measureLean_35 rfl rfl ?_
  refine g_iadd (n := 37) ok dX4_measureLean_36 rfl ?_
  refine g_iload_n 0 (n := 38) ok dX4_measureLean_37 rfl rfl ?_
  refine g_isub (n := 39) ok dX4_measureLean_38 rfl ?_
  refine g_topi (fun z7 ez7 => ?_)
  replace h := h z7 ez7
  refine g_istore [(4, .int z7), (3, .int z6), (2, .int z4), (1, .int z2), (0, .ref (v.1 39))] (n := 41) ok dX4_measureLean_39 rfl (by decide) rfl ?_
  refine g_iload_n 3 (n := 42) ok dX4_measureLean_41 rfl rfl ?_
  refine g_iload_n 2 (n := 43) ok dX4_measureLean_42 rfl rfl ?_
  refine g_mmax (n := 46) ok tw_484 tw_417 tw_15 tw_418 (by decide) (Nat.le_of_ble_eq_true rfl) dX4_measureLean_43 rfl ?_
  refine g_iload_n 1 (n := 47) ok dX4_measureLean_46 rfl rfl ?_
  refine g_iload 0 (n := 49) ok dX4_measureLean_47 rfl rfl ?_
  refine g_mmax (n := 52) ok tw_484 tw_417 tw_15 tw_418 (by decide) (Nat.le_of_ble_eq_true rfl) dX4_measureLean_49 rfl ?_
  refine g_mmax (n := 55) ok tw_484 tw_417 tw_15 tw_418 (by decide) (Nat.le_of_ble_eq_true rfl) dX4_measureLean_52 rfl ?_
  refine g_topi (fun z8 ez8 => ?_)
  replace h := h z8 ez8
  refine g_istore [(5, .int z8), (4, .int z7), (3, .int z6), (2, .int z4), (1, .int z2), (0, .ref (v.1 39))] (n := 57) ok dX4_measureLean_55 rfl (by decide) rfl ?_
  refine g_iload_n 4 (n := 58) ok dX4_measureLean_57 rfl rfl ?_
  refine g_iload_n 3 (n := 59) ok dX4_measureLean_58 rfl rfl ?_
  refine g_mmin (n := 62) ok tw_485 tw_486 tw_15 tw_487 (by decide) (Nat.le_of_ble_eq_true rfl) dX4_measureLean_59 rfl ?_
  refine g_iload_n 2 (n := 63) ok dX4_measureLean_62 rfl rfl ?_
  refine g_iload 1 (n := 65) ok dX4_measureLean_63 rfl rfl ?_
  refine g_mmin (n := 68) ok tw_485 tw_486 tw_15 tw_487 (by decide) (Nat.le_of_ble_eq_true rfl) dX4_measureLean_65 rfl ?_
  refine g_mmin (n := 71) ok tw_485 tw_486 tw_15 tw_487 (by decide) (Nat.le_of_ble_eq_true rfl) dX4_measureLean_68 rfl ?_
  refine g_topi (fun z9 ez9 => ?_)
  replace h := h z9 ez9
  refine g_istore [(6, .int z9), (5, .int z8), (4, .int z7), (3, .int z6), (2, .int z4), (1, .int z2), (0, .ref (v.1 39))] (n := 73) ok dX4_measureLean_71 rfl (by decide) rfl ?_
  refine g_iload 1 (n := 75) ok dX4_measureLean_73 rfl rfl ?_
  refine g_iload 0 (n := 77) ok dX4_measureLean_75 rfl rfl ?_
  refine g_isub (n := 78) ok dX4_measureLean_77 rfl ?_
  exact g_iret ok he h dX4_measureLean_78
def w_X4_firstLoose_12 (post : Int32 → Mem → Prop) (y0 : Int32) (S : Mem) : Prop := post y0 S
set_option maxHeartbeats 4000000 in
set_option maxRecDepth 20000 in
theorem b_X4_firstLoose_12 {v : VxT} {l : Launch} {g : CxT} (ok : Ok l g (oX v) 1 cX4_firstLoose RX4 (some .int)) {post : Int32 → Mem → Prop} (he : EndQ g (oX v) (va_Qi post (fun S1 t => BX (oX v) S1 t) (AX (oX v)))) (y0 : Int32) (S : Mem) (h : w_X4_firstLoose_12 post y0 S) : G g (oX v) 1 1 12 [] [.int y0] S := by
  unfold w_X4_firstLoose_12 at h
  exact g_iret ok he h dX4_firstLoose_12
def w_X4_firstLoose (S : Mem) (post : Int32 → Mem → Prop) : Prop := ((0 ≤ (S 39 3) → w_X4_firstLoose_12 post (1 : Int32) S) ∧ (¬ 0 ≤ (S 39 3) → w_X4_firstLoose_12 post (0 : Int32) S))
set_option maxHeartbeats 4000000 in
set_option maxRecDepth 20000 in
theorem c_X4_firstLoose (l : Launch) (v : VxT) (S : Mem) (post : Int32 → Mem → Prop) (h : w_X4_firstLoose  S post) : MI l yX4_firstLoose cX4_firstLoose 1 (some .int) 1 (oX v) [.ref (v.1 39)] S post := by
  refine met_start (by decide +kernel) (Nat.le_of_ble_eq_true rfl) (fun g ok he => ?_)
  refine g_eq (L' := [(0, .ref (v.1 39))]) (st' := []) ?_ rfl rfl
  unfold w_X4_firstLoose at h
  refine g_aload_n 0 (n := 1) ok dX4_firstLoose_0 rfl rfl ?_
  refine fg_X4_X4_gap (n := 4) 39 rfl ok dX4_firstLoose_1 rfl ?_
  refine g_if_ge (t := 11) (n := 7) ok dX4_firstLoose_4 (by decide) rfl (fun e1 => ?_) (fun e1 => ?_)
  · replace h := h.1 e1
    refine g_iconst (v := 1) (n := 12) ok dX4_firstLoose_11 rfl (by decide) ?_
    exact g_sub [] rfl (b_X4_firstLoose_12 ok he (1 : Int32) S h)
  · replace h := h.2 e1
    refine g_iconst (v := 0) (n := 8) ok dX4_firstLoose_7 rfl (by decide) ?_
    refine g_goto (t := 12) ok dX4_firstLoose_8 (by decide) ?_
    exact g_sub [] rfl (b_X4_firstLoose_12 ok he (0 : Int32) S h)
def w_X4_giveOfLoose (c1 : Nat) (S : Mem) (post : Int32 → Mem → Prop) : Prop := ((¬ (S 39 3) = 0 → w_X4_firstLoose  S (fun r1 S1 => (vp_in r1 4 ∧ w_X0_gives (c1 + 2 + 1 + r1.toNatClampNeg) (S1 39 4) S1 (fun r2 S2 => w_X4_firstLoose  S2 (fun r3 S3 => (vp_in (r3 + (2 : Int32)) 4 ∧ w_X0_gives (c1 + 2 + 1 + (r3 + (2 : Int32)).toNatClampNeg) (S3 39 4) S3 (fun r4 S4 => post (r2 + r4) S4))))))) ∧ ((S 39 3) = 0 → post (0 : Int32) S))
set_option maxHeartbeats 4000000 in
set_option maxRecDepth 20000 in
theorem c_X4_giveOfLoose (l : Launch) (v : VxT) (c1 : Nat) (hc1 : kdX c1 = 1) (S : Mem) (post : Int32 → Mem → Prop) (h : w_X4_giveOfLoose c1 S post) : MI l yX4_giveOfLoose cX4_giveOfLoose 2 (some .int) 4 (oX v) [.ref (v.1 39), .ref (v.1 c1)] S post := by
  refine met_start (by decide +kernel) (Nat.le_of_ble_eq_true rfl) (fun g ok he => ?_)
  refine g_eq (L' := [(0, .ref (v.1 39)), (1, .ref (v.1 c1))]) (st' := []) ?_ rfl rfl
  unfold w_X4_giveOfLoose at h
  refine g_aload_n 0 (n := 1) ok dX4_giveOfLoose_0 rfl rfl ?_
  refine fg_X4_X4_gap (n := 4) 39 rfl ok dX4_giveOfLoose_1 rfl ?_
  refine g_if_ne (t := 9) (n := 7) ok dX4_giveOfLoose_4 (by decide) rfl (fun e5 => ?_) (fun e5 => ?_)
  · replace h := h.1 e5
    refine g_aload_n 1 (n := 10) ok dX4_giveOfLoose_9 rfl rfl ?_
    refine fg_X4_X5_legs (n := 13) c1 hc1 ok dX4_giveOfLoose_10 rfl ?_
    refine g_aload_n 0 (n := 14) ok dX4_giveOfLoose_13 rfl rfl ?_
    refine g_callVi (n := 17) (As := []) (rest := [.ref (v.1 (c1 + 2))]) (c := 39) ok (c_X4_firstLoose l v  S _ h) cal_X4_firstLoose tw_492 tw_494 tp_32 (lt10 rfl) (sh10 rfl _) rfl (by decide) (by decide) rfl (Nat.le_of_ble_eq_true rfl) dX4_giveOfLoose_14 rfl rfl (fun r1 S1 h => ?_)
    obtain ⟨h17, h⟩ := h
    refine g_aald (c := (c1 + 2)) (t0 := 1) (a := v.1 (c1 + 2 + 1 + r1.toNatClampNeg)) (n := 18) ok (lt3 (kd1_legs hc1)) (sh3 (kd1_legs hc1) _) rfl h17 rfl dX4_giveOfLoose_17 rfl ?_
    refine g_aload_n 0 (n := 19) ok dX4_giveOfLoose_18 rfl rfl ?_
    refine fg_X4_X4_size (n := 22) 39 rfl ok dX4_giveOfLoose_19 rfl ?_
    refine g_callVNi (n := 25) (As := [.int (S1 39 4)]) (rest := []) (c := (c1 + 2 + 1 + r1.toNatClampNeg)) ok (c_X0_gives l v (c1 + 2 + 1 + r1.toNatClampNeg) (kdE3 (kd1_legs hc1) h17) (S1 39 4) S1 _ h) cal_X0_gives tw_496 tw_498 tp_33 (lt4 (kdE3 (kd1_legs hc1) h17)) (sh4 (kdE3 (kd1_legs hc1) h17) _) rfl (by decide) (by decide) rfl (Nat.le_of_ble_eq_true rfl) dX4_giveOfLoose_22 rfl rfl (fun r2 S2 h => ?_)
    refine g_aload_n 1 (n := 26) ok dX4_giveOfLoose_25 rfl rfl ?_
    refine fg_X4_X5_legs (n := 29) c1 hc1 ok dX4_giveOfLoose_26 rfl ?_
    refine g_aload_n 0 (n := 30) ok dX4_giveOfLoose_29 rfl rfl ?_
    refine g_callVi (n := 33) (As := []) (rest := [.ref (v.1 (c1 + 2)), .int r2]) (c := 39) ok (c_X4_firstLoose l v  S2 _ h) cal_X4_firstLoose tw_492 tw_494 tp_32 (lt10 rfl) (sh10 rfl _) rfl (by decide) (by decide) rfl (Nat.le_of_ble_eq_true rfl) dX4_giveOfLoose_30 rfl rfl (fun r3 S3 h => ?_)
    refine g_iconst (v := 2) (n := 34) ok dX4_giveOfLoose_33 rfl (by decide) ?_
    refine g_iadd (n := 35) ok dX4_giveOfLoose_34 rfl ?_
    obtain ⟨h35, h⟩ := h
    refine g_aald (c := (c1 + 2)) (t0 := 1) (a := v.1 (c1 + 2 + 1 + (r3 + (2 : Int32)).toNatClampNeg)) (n := 36) ok (lt3 (kd1_legs hc1)) (sh3 (kd1_legs hc1) _) rfl h35 rfl dX4_giveOfLoose_35 rfl ?_
    refine g_aload_n 0 (n := 37) ok dX4_giveOfLoose_36 rfl rfl ?_
    refine fg_X4_X4_size (n := 40) 39 rfl ok dX4_giveOfLoose_37 rfl ?_
    refine g_callVNi (n := 43) (As := [.int (S3 39 4)]) (rest := [.int r2]) (c := (c1 + 2 + 1 + (r3 + (2 : Int32)).toNatClampNeg)) ok (c_X0_gives l v (c1 + 2 + 1 + (r3 + (2 : Int32)).toNatClampNeg) (kdE3 (kd1_legs hc1) h35) (S3 39 4) S3 _ h) cal_X0_gives tw_496 tw_498 tp_33 (lt4 (kdE3 (kd1_legs hc1) h35)) (sh4 (kdE3 (kd1_legs hc1) h35) _) rfl (by decide) (by decide) rfl (Nat.le_of_ble_eq_true rfl) dX4_giveOfLoose_40 rfl rfl (fun r4 S4 h => ?_)
    refine g_iadd (n := 44) ok dX4_giveOfLoose_43 rfl ?_
    exact g_iret ok he h dX4_giveOfLoose_44
  · replace h := h.2 e5
    refine g_iconst (v := 0) (n := 8) ok dX4_giveOfLoose_7 rfl (by decide) ?_
    exact g_iret ok he h dX4_giveOfLoose_8
def w_X4_name_21 (post : Mem → Prop) (S : Mem) : Prop := post S
set_option maxHeartbeats 4000000 in
set_option maxRecDepth 20000 in
theorem b_X4_name_21 {v : VxT} {l : Launch} {g : CxT} (ok : Ok l g (oX v) 4 cX4_name RX4 none) {post : Mem → Prop} (he : EndQ g (oX v) (va_Qv post (fun S1 t => BX (oX v) S1 t) (AX (oX v)))) (S : Mem) (h : w_X4_name_21 post  S) : G g (oX v) 2 4 21 [] [] S := by
  unfold w_X4_name_21 at h
  exact g_vret ok he h dX4_name_21
def w_X4_name (p1 : Int32) (p2 : Int32) (S : Mem) (post : Mem → Prop) : Prop := w_X6_nameIndex p1 S (fun r1 S1 => w_X7_within r1 (0 : Int32) (5 : Int32) S1 (fun r2 S2 => ((r2 = 0 → w_X4_name_21 post  S2) ∧ (¬ r2 = 0 → (vp_in r1 6 ∧ (∀ S3 : Mem, S3 = mset S2 41 (upd (S2 41) r1.toNatClampNeg p2) → w_X4_name_21 post  S3))))))
set_option maxHeartbeats 4000000 in
set_option maxRecDepth 20000 in
theorem c_X4_name (l : Launch) (v : VxT) (p1 : Int32) (p2 : Int32) (S : Mem) (post : Mem → Prop) (h : w_X4_name p1 p2 S post) : MV l yX4_name cX4_name 4 none 2 (oX v) [.ref (v.1 39), .int p1, .int p2] S post := by
  refine met_start (by decide +kernel) (Nat.le_of_ble_eq_true rfl) (fun g ok he => ?_)
  refine g_eq (L' := [(0, .ref (v.1 39)), (1, .int p1), (2, .int p2)]) (st' := []) ?_ rfl rfl
  unfold w_X4_name at h
  refine g_iload_n 1 (n := 1) ok dX4_name_0 rfl rfl ?_
  refine g_callSNi (n := 4) (As := [.int p1]) (rest := []) ok (c_X6_nameIndex l v p1 S _ h) cal_X6_nameIndex tw_509 tw_328 (by decide) (by decide) rfl (Nat.le_of_ble_eq_true rfl) dX4_name_1 rfl rfl (fun r1 S1 h => ?_)
  refine g_istore_n [(3, .int r1), (0, .ref (v.1 39)), (1, .int p1), (2, .int p2)] (n := 5) ok dX4_name_4 rfl (by decide) rfl ?_
  refine g_iload_n 0 (n := 6) ok dX4_name_5 rfl rfl ?_
  refine g_iconst (v := 0) (n := 7) ok dX4_name_6 rfl (by decide) ?_
  refine g_iconst (v := 5) (n := 8) ok dX4_name_7 rfl (by decide) ?_
  refine g_callSNi (n := 11) (As := [.int r1, .int (0 : Int32), .int (5 : Int32)]) (rest := []) ok (c_X7_within l v r1 (0 : Int32) (5 : Int32) S1 _ h) cal_X7_within tw_510 tw_253 (by decide) (by decide) rfl (Nat.le_of_ble_eq_true rfl) dX4_name_8 rfl rfl (fun r2 S2 h => ?_)
  refine g_if_eq (t := 21) (n := 14) ok dX4_name_11 (by decide) rfl (fun e4 => ?_) (fun e4 => ?_)
  · replace h := h.1 e4
    exact g_sub [] rfl (b_X4_name_21 ok he  S2 h)
  · replace h := h.2 e4
    refine g_aload_n 1 (n := 15) ok dX4_name_14 rfl rfl ?_
    refine fg_X4_X4_names (n := 18) 39 rfl ok dX4_name_15 rfl ?_
    refine g_iload_n 0 (n := 19) ok dX4_name_18 rfl rfl ?_
    refine g_iload_n 3 (n := 20) ok dX4_name_19 rfl rfl ?_
    obtain ⟨h0, h⟩ := h
    refine g_iast (c := 41) (t0 := 0) (n := 21) ok (lt12 rfl) (fun f => sh12 rfl f) rfl h0 dX4_name_20 rfl ?_
    refine g_mem (fun S3 eS3 => ?_)
    replace h := h S3 eS3
    exact g_sub [] rfl (b_X4_name_21 ok he  S3 h)
def w_X4_slack (c1 : Nat) (S : Mem) (post : Int32 → Mem → Prop) : Prop := w_X4_name (-1 : Int32) (S 39 4) S (fun S1 => w_X4_name (-2 : Int32) (0 : Int32) S1 (fun S2 => w_X2_value c1 (0 : Int32) 41 42 S2 (fun r3 S3 => w_X7_held r3 (0 : Int32) (9 : Int32) S3 (fun r4 S4 => post r4 S4))))
set_option maxHeartbeats 4000000 in
set_option maxRecDepth 20000 in
theorem c_X4_slack (l : Launch) (v : VxT) (c1 : Nat) (hc1 : kdX c1 = 7) (S : Mem) (post : Int32 → Mem → Prop) (h : w_X4_slack c1 S post) : MI l yX4_slack cX4_slack 2 (some .int) 4 (oX v) [.ref (v.1 39), .ref (v.1 c1)] S post := by
  refine met_start (by decide +kernel) (Nat.le_of_ble_eq_true rfl) (fun g ok he => ?_)
  refine g_eq (L' := [(0, .ref (v.1 39)), (1, .ref (v.1 c1))]) (st' := []) ?_ rfl rfl
  unfold w_X4_slack at h
  refine g_aload_n 0 (n := 1) ok dX4_slack_0 rfl rfl ?_
  refine g_iconst (v := -1) (n := 2) ok dX4_slack_1 rfl (by decide) ?_
  refine g_aload_n 0 (n := 3) ok dX4_slack_2 rfl rfl ?_
  refine fg_X4_X4_size (n := 6) 39 rfl ok dX4_slack_3 rfl ?_
  refine g_callVv (n := 9) (As := [.int (-1 : Int32), .int (S 39 4)]) (rest := []) (c := 39) ok (c_X4_name l v (-1 : Int32) (S 39 4) S _ h) cal_X4_name tw_505 tw_507 tp_35 (lt10 rfl) (sh10 rfl _) rfl (by decide) (by decide) rfl (Nat.le_of_ble_eq_true rfl) dX4_slack_6 rfl rfl (fun S1 h => ?_)
  refine g_aload_n 0 (n := 10) ok dX4_slack_9 rfl rfl ?_
  refine g_bipush (v := -2) (n := 12) ok dX4_slack_10 rfl (by decide) ?_
  refine g_iconst (v := 0) (n := 13) ok dX4_slack_12 rfl (by decide) ?_
  refine g_callVv (n := 16) (As := [.int (-2 : Int32), .int (0 : Int32)]) (rest := []) (c := 39) ok (c_X4_name l v (-2 : Int32) (0 : Int32) S1 _ h) cal_X4_name tw_505 tw_507 tp_35 (lt10 rfl) (sh10 rfl _) rfl (by decide) (by decide) rfl (Nat.le_of_ble_eq_true rfl) dX4_slack_13 rfl rfl (fun S2 h => ?_)
  refine g_aload_n 1 (n := 17) ok dX4_slack_16 rfl rfl ?_
  refine g_iconst (v := 0) (n := 18) ok dX4_slack_17 rfl (by decide) ?_
  refine g_aload_n 0 (n := 19) ok dX4_slack_18 rfl rfl ?_
  refine fg_X4_X4_names (n := 22) 39 rfl ok dX4_slack_19 rfl ?_
  refine g_aload_n 0 (n := 23) ok dX4_slack_22 rfl rfl ?_
  refine fg_X4_X4_stack (n := 26) 39 rfl ok dX4_slack_23 rfl ?_
  refine g_callVNi (n := 29) (As := [.int (0 : Int32), .ref (v.1 41), .ref (v.1 42)]) (rest := []) (c := c1) ok (c_X2_value l v c1 hc1 (0 : Int32) 41 rfl 42 rfl S2 _ h) cal_X2_value tw_515 tw_517 tp_37 (lt7 hc1) (sh7 hc1 _) rfl (by decide) (by decide) rfl (Nat.le_of_ble_eq_true rfl) dX4_slack_26 rfl rfl (fun r3 S3 h => ?_)
  refine g_iconst (v := 0) (n := 30) ok dX4_slack_29 rfl (by decide) ?_
  refine g_bipush (v := 9) (n := 32) ok dX4_slack_30 rfl (by decide) ?_
  refine g_callSNi (n := 35) (As := [.int r3, .int (0 : Int32), .int (9 : Int32)]) (rest := []) ok (c_X7_held l v r3 (0 : Int32) (9 : Int32) S3 _ h) cal_X7_held tw_527 tw_432 (by decide) (by decide) rfl (Nat.le_of_ble_eq_true rfl) dX4_slack_32 rfl rfl (fun r4 S4 h => ?_)
  exact g_iret ok he h dX4_slack_35
def w_X4_measure_152 (post : Mem → Prop) (c1 : Nat) (c2 : Nat) (y0 : Int32) (S : Mem) : Prop := (∀ S1 : Mem, S1 = mset S 39 (upd (S 39) 5 y0) → post S1)
set_option maxHeartbeats 4000000 in
set_option maxRecDepth 20000 in
theorem b_X4_measure_152 {v : VxT} {l : Launch} {g : CxT} (ok : Ok l g (oX v) 6 cX4_measure RX4 none) (c1 : Nat) (c2 : Nat) (hc1 : kdX c1 = 1) (hc2 : kdX c2 = 7) {post : Mem → Prop} (he : EndQ g (oX v) (va_Qv post (fun S1 t => BX (oX v) S1 t) (AX (oX v)))) (y0 : Int32) (S : Mem) (h : w_X4_measure_152 post c1 c2 y0 S) : G g (oX v) 5 6 152 [] [.int y0, .ref (v.1 39)] S := by
  unfold w_X4_measure_152 at h
  refine fp_X4_X4_rock (n := 155) 39 rfl ok dX4_measure_152 rfl ?_
  refine g_mem (fun S1 eS1 => ?_)
  replace h := h S1 eS1
  exact g_vret ok he h dX4_measure_155
def w_X4_measure_3 (post : Mem → Prop) (c1 : Nat) (c2 : Nat) : Nat → Int32 → Int32 → Int32 → Mem → Prop
  | 0, _, _, _, _ => False
  | n + 1, x3, x4, x5, S => (((4 : Int32) ≤ x5 → (∀ S1 : Mem, S1 = mset S 39 (upd (S 39) 3 ((((S 40 (0 : Int32).toNatClampNeg) + (S 40 (2 : Int32).toNatClampNeg)) - (S 40 (1 : Int32).toNatClampNeg)) - (S 40 (3 : Int32).toNatClampNeg))) → (∀ S2 : Mem, S2 = mset S1 39 (upd (S1 39) 4 (jabs (S1 39 3))) → w_X4_measureLean  S2 (fun r3 S3 => (∀ S4 : Mem, S4 = mset S3 39 (upd (S3 39) 6 r3) → w_X4_giveOfLoose c1 S4 (fun r5 S5 => w_X4_name (-3 : Int32) x4 S5 (fun S6 => w_X4_name (-4 : Int32) (x3 / (8 : Int32)) S6 (fun S7 => w_X4_name (-5 : Int32) (jrem x3 (8 : Int32)) S7 (fun S8 => w_X4_name (-6 : Int32) r5 S8 (fun S9 => w_X4_slack c2 S9 (fun r10 S10 => ((r10 < (S9 39 4) → w_X4_measure_152 post c1 c2 (jmax (0 : Int32) ((S10 39 4) - r5)) S10) ∧ (¬ r10 < (S9 39 4) → w_X4_measure_152 post c1 c2 (0 : Int32) S10))))))))))))) ∧ (¬ (4 : Int32) ≤ x5 → w_X5_heightOf c1 x5 x3 x4 S (fun r12 S12 => (vp_in x5 4 ∧ (∀ S13 : Mem, S13 = mset S12 40 (upd (S12 40) x5.toNatClampNeg r12) → (∀ z14 : Int32, z14 = x5 + 1 → w_X4_measure_3 post c1 c2 n x3 x4 z14 S13))))))
set_option maxHeartbeats 4000000 in
set_option maxRecDepth 20000 in
theorem b_X4_measure_3 {v : VxT} {l : Launch} {g : CxT} (ok : Ok l g (oX v) 6 cX4_measure RX4 none) (c1 : Nat) (c2 : Nat) (hc1 : kdX c1 = 1) (hc2 : kdX c2 = 7) {post : Mem → Prop} (he : EndQ g (oX v) (va_Qv post (fun S1 t => BX (oX v) S1 t) (AX (oX v)))) : ∀ (n : Nat) (x3 : Int32) (x4 : Int32) (x5 : Int32) (S : Mem), w_X4_measure_3 post c1 c2 n x3 x4 x5 S → G g (oX v) 5 6 3 [(0, .ref (v.1 39)), (1, .ref (v.1 c1)), (2, .ref (v.1 c2)), (3, .int x3), (4, .int x4), (5, .int x5)] [] S := by
  intro n
  induction n with
  | zero =>
    intro x3 x4 x5 S h
    exact h.elim
  | succ n ih =>
    intro x3 x4 x5 S h
    rw [w_X4_measure_3] at h
    refine g_iload 5 (n := 5) ok dX4_measure_3 rfl rfl ?_
    refine g_iconst (v := 4) (n := 6) ok dX4_measure_5 rfl (by decide) ?_
    refine g_icmp_ge (t := 31) (n := 9) ok dX4_measure_6 (by decide) rfl (fun e15 => ?_) (fun e15 => ?_)
    · replace h := h.1 e15
      refine g_aload_n 0 (n := 32) ok dX4_measure_31 rfl rfl ?_
      refine g_aload_n 0 (n := 33) ok dX4_measure_32 rfl rfl ?_
      refine fg_X4_X4_at (n := 36) 39 rfl ok dX4_measure_33 rfl ?_
      refine g_iconst (v := 0) (n := 37) ok dX4_measure_36 rfl (by decide) ?_
      refine g_iald (c := 40) (t0 := 0) (n := 38) ok (lt11 rfl) (sh11 rfl _) rfl (vp_dec rfl) dX4_measure_37 rfl ?_
      refine g_aload_n 0 (n := 39) ok dX4_measure_38 rfl rfl ?_
      refine fg_X4_X4_at (n := 42) 39 rfl ok dX4_measure_39 rfl ?_
      refine g_iconst (v := 2) (n := 43) ok dX4_measure_42 rfl (by decide) ?_
      refine g_iald (c := 40) (t0 := 0) (n := 44) ok (lt11 rfl) (sh11 rfl _) rfl (vp_dec rfl) dX4_measure_43 rfl ?_
      refine g_iadd (n := 45) ok dX4_measure_44 rfl ?_
      refine g_aload_n 0 (n := 46) ok dX4_measure_45 rfl rfl ?_
      refine fg_X4_X4_at (n := 49) 39 rfl ok dX4_measure_46 rfl ?_
      refine g_iconst (v := 1) (n := 50) ok dX4_measure_49 rfl (by decide) ?_
      refine g_iald (c := 40) (t0 := 0) (n := 51) ok (lt11 rfl) (sh11 rfl _) rfl (vp_dec rfl) dX4_measure_50 rfl ?_
      refine g_isub (n := 52) ok dX4_measure_51 rfl ?_
      refine g_aload_n 0 (n := 53) ok dX4_measure_52 rfl rfl ?_
      refine fg_X4_X4_at (n := 56) 39 rfl ok dX4_measure_53 rfl ?_
      refine g_iconst (v := 3) (n := 57) ok dX4_measure_56 rfl (by decide) ?_
      refine g_iald (c := 40) (t0 := 0) (n := 58) ok (lt11 rfl) (sh11 rfl _) rfl (vp_dec rfl) dX4_measure_57 rfl ?_
      refine g_isub (n := 59) ok dX4_measure_58 rfl ?_
      refine fp_X4_X4_gap (n := 62) 39 rfl ok dX4_measure_59 rfl ?_
      refine g_mem (fun S1 eS1 => ?_)
      replace h := h S1 eS1
      refine g_aload_n 0 (n := 63) ok dX4_measure_62 rfl rfl ?_
      refine g_aload_n 0 (n := 64) ok dX4_measure_63 rfl rfl ?_
      refine fg_X4_X4_gap (n := 67) 39 rfl ok dX4_measure_64 rfl ?_
      refine g_mabs (n := 70) ok tw_473 tw_474 tw_15 tw_475 (by decide) (Nat.le_of_ble_eq_true rfl) dX4_measure_67 rfl ?_
      refine fp_X4_X4_size (n := 73) 39 rfl ok dX4_measure_70 rfl ?_
      refine g_mem (fun S2 eS2 => ?_)
      replace h := h S2 eS2
      refine g_aload_n 0 (n := 74) ok dX4_measure_73 rfl rfl ?_
      refine g_aload_n 0 (n := 75) ok dX4_measure_74 rfl rfl ?_
      refine g_callVi (n := 78) (As := []) (rest := [.ref (v.1 39)]) (c := 39) ok (c_X4_measureLean l v  S2 _ h) cal_X4_measureLean tw_476 tw_478 tp_29 (lt10 rfl) (sh10 rfl _) rfl (by decide) (by decide) rfl (Nat.le_of_ble_eq_true rfl) dX4_measure_75 rfl rfl (fun r3 S3 h => ?_)
      refine fp_X4_X4_lean (n := 81) 39 rfl ok dX4_measure_78 rfl ?_
      refine g_mem (fun S4 eS4 => ?_)
      replace h := h S4 eS4
      refine g_aload_n 0 (n := 82) ok dX4_measure_81 rfl rfl ?_
      refine g_aload_n 1 (n := 83) ok dX4_measure_82 rfl rfl ?_
      refine g_callVi (n := 86) (As := [.ref (v.1 c1)]) (rest := []) (c := 39) ok (c_X4_giveOfLoose l v c1 hc1 S4 _ h) cal_X4_giveOfLoose tw_488 tw_490 tp_31 (lt10 rfl) (sh10 rfl _) rfl (by decide) (by decide) rfl (Nat.le_of_ble_eq_true rfl) dX4_measure_83 rfl rfl (fun r5 S5 h => ?_)
      refine g_istore [(5, .int r5), (0, .ref (v.1 39)), (1, .ref (v.1 c1)), (2, .ref (v.1 c2)), (3, .int x3), (4, .int x4)] (n := 88) ok dX4_measure_86 rfl (by decide) rfl ?_
      refine g_aload_n 1 (n := 89) ok dX4_measure_88 rfl rfl ?_
      refine g_bipush (v := -3) (n := 91) ok dX4_measure_89 rfl (by decide) ?_
      refine g_iload 5 (n := 93) ok dX4_measure_91 rfl rfl ?_
      refine g_callVv (n := 96) (As := [.int (-3 : Int32), .int x4]) (rest := []) (c := 39) ok (c_X4_name l v (-3 : Int32) x4 S5 _ h) cal_X4_name tw_505 tw_507 tp_35 (lt10 rfl) (sh10 rfl _) rfl (by decide) (by decide) rfl (Nat.le_of_ble_eq_true rfl) dX4_measure_93 rfl rfl (fun S6 h => ?_)
      refine g_aload_n 1 (n := 97) ok dX4_measure_96 rfl rfl ?_
      refine g_bipush (v := -4) (n := 99) ok dX4_measure_97 rfl (by decide) ?_
      refine g_iload_n 4 (n := 100) ok dX4_measure_99 rfl rfl ?_
      refine g_bipush (v := 8) (n := 102) ok dX4_measure_100 rfl (by decide) ?_
      refine g_idiv (n := 103) ok dX4_measure_102 rfl (by decide) ?_
      refine g_callVv (n := 106) (As := [.int (-4 : Int32), .int (x3 / (8 : Int32))]) (rest := []) (c := 39) ok (c_X4_name l v (-4 : Int32) (x3 / (8 : Int32)) S6 _ h) cal_X4_name tw_505 tw_507 tp_35 (lt10 rfl) (sh10 rfl _) rfl (by decide) (by decide) rfl (Nat.le_of_ble_eq_true rfl) dX4_measure_103 rfl rfl (fun S7 h => ?_)
      refine g_aload_n 1 (n := 107) ok dX4_measure_106 rfl rfl ?_
      refine g_bipush (v := -5) (n := 109) ok dX4_measure_107 rfl (by decide) ?_
      refine g_iload_n 4 (n := 110) ok dX4_measure_109 rfl rfl ?_
      refine g_bipush (v := 8) (n := 112) ok dX4_measure_110 rfl (by decide) ?_
      refine g_irem (n := 113) ok dX4_measure_112 rfl (by decide) ?_
      refine g_callVv (n := 116) (As := [.int (-5 : Int32), .int (jrem x3 (8 : Int32))]) (rest := []) (c := 39) ok (c_X4_name l v (-5 : Int32) (jrem x3 (8 : Int32)) S7 _ h) cal_X4_name tw_505 tw_507 tp_35 (lt10 rfl) (sh10 rfl _) rfl (by decide) (by decide) rfl (Nat.le_of_ble_eq_true rfl) dX4_measure_113 rfl rfl (fun S8 h => ?_)
      refine g_aload_n 1 (n := 117) ok dX4_measure_116 rfl rfl ?_
      refine g_bipush (v := -6) (n := 119) ok dX4_measure_117 rfl (by decide) ?_
      refine g_iload 0 (n := 121) ok dX4_measure_119 rfl rfl ?_
      refine g_callVv (n := 124) (As := [.int (-6 : Int32), .int r5]) (rest := []) (c := 39) ok (c_X4_name l v (-6 : Int32) r5 S8 _ h) cal_X4_name tw_505 tw_507 tp_35 (lt10 rfl) (sh10 rfl _) rfl (by decide) (by decide) rfl (Nat.le_of_ble_eq_true rfl) dX4_measure_121 rfl rfl (fun S9 h => ?_)
      refine g_aload_n 1 (n := 125) ok dX4_measure_124 rfl rfl ?_
      refine g_aload_n 1 (n := 126) ok dX4_measure_125 rfl rfl ?_
      refine fg_X4_X4_size (n := 129) 39 rfl ok dX4_measure_126 rfl ?_
      refine g_aload_n 1 (n := 130) ok dX4_measure_129 rfl rfl ?_
      refine g_aload_n 3 (n := 131) ok dX4_measure_130 rfl rfl ?_
      refine g_callVi (n := 134) (As := [.ref (v.1 c2)]) (rest := [.int (S9 39 4), .ref (v.1 39)]) (c := 39) ok (c_X4_slack l v c2 hc2 S9 _ h) cal_X4_slack tw_511 tw_513 tp_36 (lt10 rfl) (sh10 rfl _) rfl (by decide) (by decide) rfl (Nat.le_of_ble_eq_true rfl) dX4_measure_131 rfl rfl (fun r10 S10 h => ?_)
      refine g_icmp_gt (t := 141) (n := 137) ok dX4_measure_134 (by decide) rfl (fun e11 => ?_) (fun e11 => ?_)
      · replace h := h.1 e11
        refine g_iconst (v := 0) (n := 142) ok dX4_measure_141 rfl (by decide) ?_
        refine g_aload_n 1 (n := 143) ok dX4_measure_142 rfl rfl ?_
        refine fg_X4_X4_size (n := 146) 39 rfl ok dX4_measure_143 rfl ?_
        refine g_iload 0 (n := 148) ok dX4_measure_146 rfl rfl ?_
        refine g_isub (n := 149) ok dX4_measure_148 rfl ?_
        refine g_mmax (n := 152) ok tw_484 tw_417 tw_15 tw_418 (by decide) (Nat.le_of_ble_eq_true rfl) dX4_measure_149 rfl ?_
        exact g_sub [] rfl (b_X4_measure_152 ok c1 c2 hc1 hc2 he (jmax (0 : Int32) ((S10 39 4) - r5)) S10 h)
      · replace h := h.2 e11
        refine g_iconst (v := 0) (n := 138) ok dX4_measure_137 rfl (by decide) ?_
        refine g_goto (t := 152) ok dX4_measure_138 (by decide) ?_
        exact g_sub [] rfl (b_X4_measure_152 ok c1 c2 hc1 hc2 he (0 : Int32) S10 h)
    · replace h := h.2 e15
      refine g_aload_n 0 (n := 10) ok dX4_measure_9 rfl rfl ?_
      refine fg_X4_X4_at (n := 13) 39 rfl ok dX4_measure_10 rfl ?_
      refine g_iload 5 (n := 15) ok dX4_measure_13 rfl rfl ?_
      refine g_aload_n 1 (n := 16) ok dX4_measure_15 rfl rfl ?_
      refine g_iload 5 (n := 18) ok dX4_measure_16 rfl rfl ?_
      refine g_iload_n 3 (n := 19) ok dX4_measure_18 rfl rfl ?_
      refine g_iload 4 (n := 21) ok dX4_measure_19 rfl rfl ?_
      refine g_callVNi (n := 24) (As := [.int x5, .int x3, .int x4]) (rest := [.int x5, .ref (v.1 40)]) (c := c1) ok (c_X5_heightOf l v c1 hc1 x5 x3 x4 S _ h) cal_X5_heightOf tw_472 tw_438 tp_24 (lt1 hc1) (sh1 hc1 _) rfl (by decide) (by decide) rfl (Nat.le_of_ble_eq_true rfl) dX4_measure_21 rfl rfl (fun r12 S12 h => ?_)
      obtain ⟨h0, h⟩ := h
      refine g_iast (c := 40) (t0 := 0) (n := 25) ok (lt11 rfl) (fun f => sh11 rfl f) rfl h0 dX4_measure_24 rfl ?_
      refine g_mem (fun S13 eS13 => ?_)
      replace h := h S13 eS13
      obtain ⟨z14, ez14⟩ : ∃ y : Int32, y = x5 + 1 := ⟨_, rfl⟩
      replace h := h z14 ez14
      refine g_iinc 5 [(5, .int z14), (0, .ref (v.1 39)), (1, .ref (v.1 c1)), (2, .ref (v.1 c2)), (3, .int x3), (4, .int x4)] (v := z14) (n := 28) ok dX4_measure_25 rfl rfl (by rw [ez14]; rfl) (by decide) rfl ?_
      refine g_goto (t := 3) ok dX4_measure_28 (by decide) ?_
      exact g_sub [1, 2, 3, 4, 5, 0] rfl (ih x3 x4 z14 S13 h)
def w_X4_measure (c1 : Nat) (c2 : Nat) (p3 : Int32) (p4 : Int32) (S : Mem) (post : Mem → Prop) : Prop := ∃ n, w_X4_measure_3 post c1 c2 n p3 p4 (0 : Int32) S
set_option maxHeartbeats 4000000 in
set_option maxRecDepth 20000 in
theorem c_X4_measure (l : Launch) (v : VxT) (c1 : Nat) (hc1 : kdX c1 = 1) (c2 : Nat) (hc2 : kdX c2 = 7) (p3 : Int32) (p4 : Int32) (S : Mem) (post : Mem → Prop) (h : w_X4_measure c1 c2 p3 p4 S post) : MV l yX4_measure cX4_measure 6 none 5 (oX v) [.ref (v.1 39), .ref (v.1 c1), .ref (v.1 c2), .int p3, .int p4] S post := by
  refine met_start (by decide +kernel) (Nat.le_of_ble_eq_true rfl) (fun g ok he => ?_)
  refine g_eq (L' := [(0, .ref (v.1 39)), (1, .ref (v.1 c1)), (2, .ref (v.1 c2)), (3, .int p3), (4, .int p4)]) (st' := []) ?_ rfl rfl
  unfold w_X4_measure at h
  refine g_iconst (v := 0) (n := 1) ok dX4_measure_0 rfl (by decide) ?_
  refine g_istore [(5, .int (0 : Int32)), (0, .ref (v.1 39)), (1, .ref (v.1 c1)), (2, .ref (v.1 c2)), (3, .int p3), (4, .int p4)] (n := 3) ok dX4_measure_1 rfl (by decide) rfl ?_
  obtain ⟨n0, h⟩ := h
  exact g_sub [1, 2, 3, 4, 5, 0] rfl (b_X4_measure_3 ok c1 c2 hc1 hc2 he n0 p3 p4 (0 : Int32) S h)
def w_X4_worth (c1 : Nat) (S : Mem) (post : Int32 → Mem → Prop) : Prop := w_X4_name (-1 : Int32) (S 39 5) S (fun S1 => w_X4_name (-2 : Int32) (S1 39 6) S1 (fun S2 => w_X2_value c1 (1 : Int32) 41 42 S2 (fun r3 S3 => w_X7_held r3 (-999 : Int32) (999 : Int32) S3 (fun r4 S4 => post r4 S4))))
set_option maxHeartbeats 4000000 in
set_option maxRecDepth 20000 in
theorem c_X4_worth (l : Launch) (v : VxT) (c1 : Nat) (hc1 : kdX c1 = 7) (S : Mem) (post : Int32 → Mem → Prop) (h : w_X4_worth c1 S post) : MI l yX4_worth cX4_worth 2 (some .int) 4 (oX v) [.ref (v.1 39), .ref (v.1 c1)] S post := by
  refine met_start (by decide +kernel) (Nat.le_of_ble_eq_true rfl) (fun g ok he => ?_)
  refine g_eq (L' := [(0, .ref (v.1 39)), (1, .ref (v.1 c1))]) (st' := []) ?_ rfl rfl
  unfold w_X4_worth at h
  refine g_aload_n 0 (n := 1) ok dX4_worth_0 rfl rfl ?_
  refine g_iconst (v := -1) (n := 2) ok dX4_worth_1 rfl (by decide) ?_
  refine g_aload_n 0 (n := 3) ok dX4_worth_2 rfl rfl ?_
  refine fg_X4_X4_rock (n := 6) 39 rfl ok dX4_worth_3 rfl ?_
  refine g_callVv (n := 9) (As := [.int (-1 : Int32), .int (S 39 5)]) (rest := []) (c := 39) ok (c_X4_name l v (-1 : Int32) (S 39 5) S _ h) cal_X4_name tw_505 tw_507 tp_35 (lt10 rfl) (sh10 rfl _) rfl (by decide) (by decide) rfl (Nat.le_of_ble_eq_true rfl) dX4_worth_6 rfl rfl (fun S1 h => ?_)
  refine g_aload_n 0 (n := 10) ok dX4_worth_9 rfl rfl ?_
  refine g_bipush (v := -2) (n := 12) ok dX4_worth_10 rfl (by decide) ?_
  refine g_aload_n 0 (n := 13) ok dX4_worth_12 rfl rfl ?_
  refine fg_X4_X4_lean (n := 16) 39 rfl ok dX4_worth_13 rfl ?_
  refine g_callVv (n := 19) (As := [.int (-2 : Int32), .int (S1 39 6)]) (rest := []) (c := 39) ok (c_X4_name l v (-2 : Int32) (S1 39 6) S1 _ h) cal_X4_name tw_505 tw_507 tp_35 (lt10 rfl) (sh10 rfl _) rfl (by decide) (by decide) rfl (Nat.le_of_ble_eq_true rfl) dX4_worth_16 rfl rfl (fun S2 h => ?_)
  refine g_aload_n 1 (n := 20) ok dX4_worth_19 rfl rfl ?_
  refine g_iconst (v := 1) (n := 21) ok dX4_worth_20 rfl (by decide) ?_
  refine g_aload_n 0 (n := 22) ok dX4_worth_21 rfl rfl ?_
  refine fg_X4_X4_names (n := 25) 39 rfl ok dX4_worth_22 rfl ?_
  refine g_aload_n 0 (n := 26) ok dX4_worth_25 rfl rfl ?_
  refine fg_X4_X4_stack (n := 29) 39 rfl ok dX4_worth_26 rfl ?_
  refine g_callVNi (n := 32) (As := [.int (1 : Int32), .ref (v.1 41), .ref (v.1 42)]) (rest := []) (c := c1) ok (c_X2_value l v c1 hc1 (1 : Int32) 41 rfl 42 rfl S2 _ h) cal_X2_value tw_515 tw_517 tp_37 (lt7 hc1) (sh7 hc1 _) rfl (by decide) (by decide) rfl (Nat.le_of_ble_eq_true rfl) dX4_worth_29 rfl rfl (fun r3 S3 h => ?_)
  refine g_sipush (v := -999) (n := 35) ok dX4_worth_32 rfl (by decide) ?_
  refine g_sipush (v := 999) (n := 38) ok dX4_worth_35 rfl (by decide) ?_
  refine g_callSNi (n := 41) (As := [.int r3, .int (-999 : Int32), .int (999 : Int32)]) (rest := []) ok (c_X7_held l v r3 (-999 : Int32) (999 : Int32) S3 _ h) cal_X7_held tw_527 tw_432 (by decide) (by decide) rfl (Nat.le_of_ble_eq_true rfl) dX4_worth_38 rfl rfl (fun r4 S4 h => ?_)
  exact g_iret ok he h dX4_worth_41
def w_X4_spills (c1 : Nat) (S : Mem) (post : Int32 → Mem → Prop) : Prop := w_X4_name (-1 : Int32) (S 39 5) S (fun S1 => w_X4_name (-2 : Int32) (S1 39 6) S1 (fun S2 => w_X2_value c1 (2 : Int32) 41 42 S2 (fun r3 S3 => w_X7_held r3 (0 : Int32) (99 : Int32) S3 (fun r4 S4 => post r4 S4))))
set_option maxHeartbeats 4000000 in
set_option maxRecDepth 20000 in
theorem c_X4_spills (l : Launch) (v : VxT) (c1 : Nat) (hc1 : kdX c1 = 7) (S : Mem) (post : Int32 → Mem → Prop) (h : w_X4_spills c1 S post) : MI l yX4_spills cX4_spills 2 (some .int) 4 (oX v) [.ref (v.1 39), .ref (v.1 c1)] S post := by
  refine met_start (by decide +kernel) (Nat.le_of_ble_eq_true rfl) (fun g ok he => ?_)
  refine g_eq (L' := [(0, .ref (v.1 39)), (1, .ref (v.1 c1))]) (st' := []) ?_ rfl rfl
  unfold w_X4_spills at h
  refine g_aload_n 0 (n := 1) ok dX4_spills_0 rfl rfl ?_
  refine g_iconst (v := -1) (n := 2) ok dX4_spills_1 rfl (by decide) ?_
  refine g_aload_n 0 (n := 3) ok dX4_spills_2 rfl rfl ?_
  refine fg_X4_X4_rock (n := 6) 39 rfl ok dX4_spills_3 rfl ?_
  refine g_callVv (n := 9) (As := [.int (-1 : Int32), .int (S 39 5)]) (rest := []) (c := 39) ok (c_X4_name l v (-1 : Int32) (S 39 5) S _ h) cal_X4_name tw_505 tw_507 tp_35 (lt10 rfl) (sh10 rfl _) rfl (by decide) (by decide) rfl (Nat.le_of_ble_eq_true rfl) dX4_spills_6 rfl rfl (fun S1 h => ?_)
  refine g_aload_n 0 (n := 10) ok dX4_spills_9 rfl rfl ?_
  refine g_bipush (v := -2) (n := 12) ok dX4_spills_10 rfl (by decide) ?_
  refine g_aload_n 0 (n := 13) ok dX4_spills_12 rfl rfl ?_
  refine fg_X4_X4_lean (n := 16) 39 rfl ok dX4_spills_13 rfl ?_
  refine g_callVv (n := 19) (As := [.int (-2 : Int32), .int (S1 39 6)]) (rest := []) (c := 39) ok (c_X4_name l v (-2 : Int32) (S1 39 6) S1 _ h) cal_X4_name tw_505 tw_507 tp_35 (lt10 rfl) (sh10 rfl _) rfl (by decide) (by decide) rfl (Nat.le_of_ble_eq_true rfl) dX4_spills_16 rfl rfl (fun S2 h => ?_)
  refine g_aload_n 1 (n := 20) ok dX4_spills_19 rfl rfl ?_
  refine g_iconst (v := 2) (n := 21) ok dX4_spills_20 rfl (by decide) ?_
  refine g_aload_n 0 (n := 22) ok dX4_spills_21 rfl rfl ?_
  refine fg_X4_X4_names (n := 25) 39 rfl ok dX4_spills_22 rfl ?_
  refine g_aload_n 0 (n := 26) ok dX4_spills_25 rfl rfl ?_
  refine fg_X4_X4_stack (n := 29) 39 rfl ok dX4_spills_26 rfl ?_
  refine g_callVNi (n := 32) (As := [.int (2 : Int32), .ref (v.1 41), .ref (v.1 42)]) (rest := []) (c := c1) ok (c_X2_value l v c1 hc1 (2 : Int32) 41 rfl 42 rfl S2 _ h) cal_X2_value tw_515 tw_517 tp_37 (lt7 hc1) (sh7 hc1 _) rfl (by decide) (by decide) rfl (Nat.le_of_ble_eq_true rfl) dX4_spills_29 rfl rfl (fun r3 S3 h => ?_)
  refine g_iconst (v := 0) (n := 33) ok dX4_spills_32 rfl (by decide) ?_
  refine g_bipush (v := 99) (n := 35) ok dX4_spills_33 rfl (by decide) ?_
  refine g_callSNi (n := 38) (As := [.int r3, .int (0 : Int32), .int (99 : Int32)]) (rest := []) ok (c_X7_held l v r3 (0 : Int32) (99 : Int32) S3 _ h) cal_X7_held tw_527 tw_432 (by decide) (by decide) rfl (Nat.le_of_ble_eq_true rfl) dX4_spills_35 rfl rfl (fun r4 S4 h => ?_)
  exact g_iret ok he h dX4_spills_38
def w_X4_isFirm_12 (post : Int32 → Mem → Prop) (y0 : Int32) (S : Mem) : Prop := (y0 = 0 ∨ y0 = 1) ∧ post y0 S
set_option maxHeartbeats 4000000 in
set_option maxRecDepth 20000 in
theorem b_X4_isFirm_12 {v : VxT} {l : Launch} {g : CxT} (ok : Ok l g (oX v) 1 cX4_isFirm RX4 (some .boolean)) {post : Int32 → Mem → Prop} (he : EndQ g (oX v) (va_Qi post (fun S1 t => BX (oX v) S1 t) (AX (oX v)))) (y0 : Int32) (S : Mem) (h : w_X4_isFirm_12 post y0 S) : G g (oX v) 1 1 12 [] [.int y0] S := by
  unfold w_X4_isFirm_12 at h
  exact g_zret ok he h.1 h.2 dX4_isFirm_12
def w_X4_isFirm (S : Mem) (post : Int32 → Mem → Prop) : Prop := ((¬ (S 39 5) = 0 → w_X4_isFirm_12 post (0 : Int32) S) ∧ ((S 39 5) = 0 → w_X4_isFirm_12 post (1 : Int32) S))
set_option maxHeartbeats 4000000 in
set_option maxRecDepth 20000 in
theorem c_X4_isFirm (l : Launch) (v : VxT) (S : Mem) (post : Int32 → Mem → Prop) (h : w_X4_isFirm  S post) : MI l yX4_isFirm cX4_isFirm 1 (some .boolean) 1 (oX v) [.ref (v.1 39)] S post := by
  refine met_start (by decide +kernel) (Nat.le_of_ble_eq_true rfl) (fun g ok he => ?_)
  refine g_eq (L' := [(0, .ref (v.1 39))]) (st' := []) ?_ rfl rfl
  unfold w_X4_isFirm at h
  refine g_aload_n 0 (n := 1) ok dX4_isFirm_0 rfl rfl ?_
  refine fg_X4_X4_rock (n := 4) 39 rfl ok dX4_isFirm_1 rfl ?_
  refine g_if_ne (t := 11) (n := 7) ok dX4_isFirm_4 (by decide) rfl (fun e1 => ?_) (fun e1 => ?_)
  · replace h := h.1 e1
    refine g_iconst (v := 0) (n := 12) ok dX4_isFirm_11 rfl (by decide) ?_
    exact g_sub [] rfl (b_X4_isFirm_12 ok he (0 : Int32) S h)
  · replace h := h.2 e1
    refine g_iconst (v := 1) (n := 8) ok dX4_isFirm_7 rfl (by decide) ?_
    refine g_goto (t := 12) ok dX4_isFirm_8 (by decide) ?_
    exact g_sub [] rfl (b_X4_isFirm_12 ok he (1 : Int32) S h)
def w_X4_looseBits_22 (post : Int32 → Mem → Prop) (y0 : Int32) (S : Mem) : Prop := post y0 S
set_option maxHeartbeats 4000000 in
set_option maxRecDepth 20000 in
theorem b_X4_looseBits_22 {v : VxT} {l : Launch} {g : CxT} (ok : Ok l g (oX v) 1 cX4_looseBits RX4 (some .int)) {post : Int32 → Mem → Prop} (he : EndQ g (oX v) (va_Qi post (fun S1 t => BX (oX v) S1 t) (AX (oX v)))) (y0 : Int32) (S : Mem) (h : w_X4_looseBits_22 post y0 S) : G g (oX v) 1 1 22 [] [.int y0] S := by
  unfold w_X4_looseBits_22 at h
  exact g_iret ok he h dX4_looseBits_22
def w_X4_looseBits (S : Mem) (post : Int32 → Mem → Prop) : Prop := ((¬ (S 39 3) = 0 → (((S 39 3) ≤ 0 → w_X4_looseBits_22 post (5 : Int32) S) ∧ (¬ (S 39 3) ≤ 0 → w_X4_looseBits_22 post (10 : Int32) S))) ∧ ((S 39 3) = 0 → post (0 : Int32) S))
set_option maxHeartbeats 4000000 in
set_option maxRecDepth 20000 in
theorem c_X4_looseBits (l : Launch) (v : VxT) (S : Mem) (post : Int32 → Mem → Prop) (h : w_X4_looseBits  S post) : MI l yX4_looseBits cX4_looseBits 1 (some .int) 1 (oX v) [.ref (v.1 39)] S post := by
  refine met_start (by decide +kernel) (Nat.le_of_ble_eq_true rfl) (fun g ok he => ?_)
  refine g_eq (L' := [(0, .ref (v.1 39))]) (st' := []) ?_ rfl rfl
  unfold w_X4_looseBits at h
  refine g_aload_n 0 (n := 1) ok dX4_looseBits_0 rfl rfl ?_
  refine fg_X4_X4_gap (n := 4) 39 rfl ok dX4_looseBits_1 rfl ?_
  refine g_if_ne (t := 9) (n := 7) ok dX4_looseBits_4 (by decide) rfl (fun e2 => ?_) (fun e2 => ?_)
  · replace h := h.1 e2
    refine g_aload_n 0 (n := 10) ok dX4_looseBits_9 rfl rfl ?_
    refine fg_X4_X4_gap (n := 13) 39 rfl ok dX4_looseBits_10 rfl ?_
    refine g_if_le (t := 21) (n := 16) ok dX4_looseBits_13 (by decide) rfl (fun e1 => ?_) (fun e1 => ?_)
    · replace h := h.1 e1
      refine g_iconst (v := 5) (n := 22) ok dX4_looseBits_21 rfl (by decide) ?_
      exact g_sub [] rfl (b_X4_looseBits_22 ok he (5 : Int32) S h)
    · replace h := h.2 e1
      refine g_bipush (v := 10) (n := 18) ok dX4_looseBits_16 rfl (by decide) ?_
      refine g_goto (t := 22) ok dX4_looseBits_18 (by decide) ?_
      exact g_sub [] rfl (b_X4_looseBits_22 ok he (10 : Int32) S h)
  · replace h := h.2 e2
    refine g_iconst (v := 0) (n := 8) ok dX4_looseBits_7 rfl (by decide) ?_
    exact g_iret ok he h dX4_looseBits_8
def w_X4_knock_21 (post : Int32 → Mem → Prop) (y0 : Int32) (S : Mem) : Prop := post y0 S
set_option maxHeartbeats 4000000 in
set_option maxRecDepth 20000 in
theorem b_X4_knock_21 {v : VxT} {l : Launch} {g : CxT} (ok : Ok l g (oX v) 1 cX4_knock RX4 (some .int)) {post : Int32 → Mem → Prop} (he : EndQ g (oX v) (va_Qi post (fun S1 t => BX (oX v) S1 t) (AX (oX v)))) (y0 : Int32) (S : Mem) (h : w_X4_knock_21 post y0 S) : G g (oX v) 2 1 21 [] [.int y0] S := by
  unfold w_X4_knock_21 at h
  exact g_iret ok he h dX4_knock_21
def w_X4_knock (S : Mem) (post : Int32 → Mem → Prop) : Prop := w_X4_isFirm  S (fun r1 S1 => ((r1 = 0 → (((S1 39 3) ≤ 0 → w_X4_knock_21 post (2 : Int32) S1) ∧ (¬ (S1 39 3) ≤ 0 → w_X4_knock_21 post (1 : Int32) S1))) ∧ (¬ r1 = 0 → post (0 : Int32) S1)))
set_option maxHeartbeats 4000000 in
set_option maxRecDepth 20000 in
theorem c_X4_knock (l : Launch) (v : VxT) (S : Mem) (post : Int32 → Mem → Prop) (h : w_X4_knock  S post) : MI l yX4_knock cX4_knock 1 (some .int) 2 (oX v) [.ref (v.1 39)] S post := by
  refine met_start (by decide +kernel) (Nat.le_of_ble_eq_true rfl) (fun g ok he => ?_)
  refine g_eq (L' := [(0, .ref (v.1 39))]) (st' := []) ?_ rfl rfl
  unfold w_X4_knock at h
  refine g_aload_n 0 (n := 1) ok dX4_knock_0 rfl rfl ?_
  refine g_callVi (n := 4) (As := []) (rest := []) (c := 39) ok (c_X4_isFirm l v  S _ h) cal_X4_isFirm tw_667 tw_554 tp_42 (lt10 rfl) (sh10 rfl _) rfl (by decide) (by decide) rfl (Nat.le_of_ble_eq_true rfl) dX4_knock_1 rfl rfl (fun r1 S1 h => ?_)
  refine g_if_eq (t := 9) (n := 7) ok dX4_knock_4 (by decide) rfl (fun e3 => ?_) (fun e3 => ?_)
  · replace h := h.1 e3
    refine g_aload_n 0 (n := 10) ok dX4_knock_9 rfl rfl ?_
    refine fg_X4_X4_gap (n := 13) 39 rfl ok dX4_knock_10 rfl ?_
    refine g_if_le (t := 20) (n := 16) ok dX4_knock_13 (by decide) rfl (fun e2 => ?_) (fun e2 => ?_)
    · replace h := h.1 e2
      refine g_iconst (v := 2) (n := 21) ok dX4_knock_20 rfl (by decide) ?_
      exact g_sub [] rfl (b_X4_knock_21 ok he (2 : Int32) S1 h)
    · replace h := h.2 e2
      refine g_iconst (v := 1) (n := 17) ok dX4_knock_16 rfl (by decide) ?_
      refine g_goto (t := 21) ok dX4_knock_17 (by decide) ?_
      exact g_sub [] rfl (b_X4_knock_21 ok he (1 : Int32) S1 h)
  · replace h := h.2 e3
    refine g_iconst (v := 0) (n := 8) ok dX4_knock_7 rfl (by decide) ?_
    exact g_iret ok he h dX4_knock_8
def w_X5_becomeLike_17 (post : Mem → Prop) (c : Nat) (c1 : Nat) : Nat → Int32 → Mem → Prop
  | 0, _, _ => False
  | n + 1, x2, S => (((4 : Int32) ≤ x2 → (∀ S1 : Mem, S1 = mset S c (upd (S c) 2 (S c1 2)) → (∀ S2 : Mem, S2 = mset S1 c (upd (S1 c) 3 (S1 c1 3)) → (∀ S3 : Mem, S3 = mset S2 c (upd (S2 c) 4 (S2 c1 4)) → (∀ S4 : Mem, S4 = mset S3 c (upd (S3 c) 5 (S3 c1 5)) → (∀ S5 : Mem, S5 = mset S4 c (upd (S4 c) 6 (S4 c1 6)) → post S5)))))) ∧ (¬ (4 : Int32) ≤ x2 → (vp_in x2 4 ∧ (vp_in x2 4 ∧ (∀ S6 : Mem, S6 = mset S (c + 2 + 1 + x2.toNatClampNeg) (upd (S (c + 2 + 1 + x2.toNatClampNeg)) 1 (S (c1 + 2 + 1 + x2.toNatClampNeg) 1)) → (vp_in x2 4 ∧ (vp_in x2 4 ∧ (∀ S7 : Mem, S7 = mset S6 (c + 2 + 1 + x2.toNatClampNeg) (upd (S6 (c + 2 + 1 + x2.toNatClampNeg)) 2 (S6 (c1 + 2 + 1 + x2.toNatClampNeg) 2)) → (∀ z8 : Int32, z8 = x2 + 1 → w_X5_becomeLike_17 post c c1 n z8 S7)))))))))
set_option maxHeartbeats 4000000 in
set_option maxRecDepth 20000 in
theorem b_X5_becomeLike_17 {v : VxT} {l : Launch} {g : CxT} (ok : Ok l g (oX v) 3 cX5_becomeLike RX5 none) (c : Nat) (c1 : Nat) (hc : kdX c = 1) (hc1 : kdX c1 = 1) {post : Mem → Prop} (he : EndQ g (oX v) (va_Qv post (fun S1 t => BX (oX v) S1 t) (AX (oX v)))) : ∀ (n : Nat) (x2 : Int32) (S : Mem), w_X5_becomeLike_17 post c c1 n x2 S → G g (oX v) 1 3 17 [(0, .ref (v.1 c)), (1, .ref (v.1 c1)), (2, .int x2)] [] S := by
  intro n
  induction n with
  | zero =>
    intro x2 S h
    exact h.elim
  | succ n ih =>
    intro x2 S h
    rw [w_X5_becomeLike_17] at h
    refine g_iload_n 2 (n := 18) ok dX5_becomeLike_17 rfl rfl ?_
    refine g_iconst (v := 4) (n := 19) ok dX5_becomeLike_18 rfl (by decide) ?_
    refine g_icmp_ge (t := 64) (n := 22) ok dX5_becomeLike_19 (by decide) rfl (fun e9 => ?_) (fun e9 => ?_)
    · replace h := h.1 e9
      refine g_aload_n 0 (n := 65) ok dX5_becomeLike_64 rfl rfl ?_
      refine g_aload_n 1 (n := 66) ok dX5_becomeLike_65 rfl rfl ?_
      refine fg_X5_X5_place (n := 69) c1 hc1 ok dX5_becomeLike_66 rfl ?_
      refine fp_X5_X5_place (n := 72) c hc ok dX5_becomeLike_69 rfl ?_
      refine g_mem (fun S1 eS1 => ?_)
      replace h := h S1 eS1
      refine g_aload_n 0 (n := 73) ok dX5_becomeLike_72 rfl rfl ?_
      refine g_aload_n 1 (n := 74) ok dX5_becomeLike_73 rfl rfl ?_
      refine fg_X5_X5_radius (n := 77) c1 hc1 ok dX5_becomeLike_74 rfl ?_
      refine fp_X5_X5_radius (n := 80) c hc ok dX5_becomeLike_77 rfl ?_
      refine g_mem (fun S2 eS2 => ?_)
      replace h := h S2 eS2
      refine g_aload_n 0 (n := 81) ok dX5_becomeLike_80 rfl rfl ?_
      refine g_aload_n 1 (n := 82) ok dX5_becomeLike_81 rfl rfl ?_
      refine fg_X5_X5_turn (n := 85) c1 hc1 ok dX5_becomeLike_82 rfl ?_
      refine fp_X5_X5_turn (n := 88) c hc ok dX5_becomeLike_85 rfl ?_
      refine g_mem (fun S3 eS3 => ?_)
      replace h := h S3 eS3
      refine g_aload_n 0 (n := 89) ok dX5_becomeLike_88 rfl rfl ?_
      refine g_aload_n 1 (n := 90) ok dX5_becomeLike_89 rfl rfl ?_
      refine fg_X5_X5_load (n := 93) c1 hc1 ok dX5_becomeLike_90 rfl ?_
      refine fp_X5_X5_load (n := 96) c hc ok dX5_becomeLike_93 rfl ?_
      refine g_mem (fun S4 eS4 => ?_)
      replace h := h S4 eS4
      refine g_aload_n 0 (n := 97) ok dX5_becomeLike_96 rfl rfl ?_
      refine g_aload_n 1 (n := 98) ok dX5_becomeLike_97 rfl rfl ?_
      refine fg_X5_X5_rule (n := 101) c1 hc1 ok dX5_becomeLike_98 rfl ?_
      refine fp_X5_X5_rule (n := 104) c hc ok dX5_becomeLike_101 rfl ?_
      refine g_mem (fun S5 eS5 => ?_)
      replace h := h S5 eS5
      exact g_vret ok he h dX5_becomeLike_104
    · replace h := h.2 e9
      refine g_aload_n 0 (n := 23) ok dX5_becomeLike_22 rfl rfl ?_
      refine fg_X5_X5_legs (n := 26) c hc ok dX5_becomeLike_23 rfl ?_
      refine g_iload_n 2 (n := 27) ok dX5_becomeLike_26 rfl rfl ?_
      obtain ⟨h27, h⟩ := h
      refine g_aald (c := (c + 2)) (t0 := 1) (a := v.1 (c + 2 + 1 + x2.toNatClampNeg)) (n := 28) ok (lt3 (kd1_legs hc)) (sh3 (kd1_legs hc) _) rfl h27 rfl dX5_becomeLike_27 rfl ?_
      refine g_aload_n 1 (n := 29) ok dX5_becomeLike_28 rfl rfl ?_
      refine fg_X5_X5_legs (n := 32) c1 hc1 ok dX5_becomeLike_29 rfl ?_
      refine g_iload_n 2 (n := 33) ok dX5_becomeLike_32 rfl rfl ?_
      obtain ⟨h33, h⟩ := h
      refine g_aald (c := (c1 + 2)) (t0 := 1) (a := v.1 (c1 + 2 + 1 + x2.toNatClampNeg)) (n := 34) ok (lt3 (kd1_legs hc1)) (sh3 (kd1_legs hc1) _) rfl h33 rfl dX5_becomeLike_33 rfl ?_
      refine fg_X5_X0_length (n := 37) (c1 + 2 + 1 + x2.toNatClampNeg) (kdE3 (kd1_legs hc1) h33) ok dX5_becomeLike_34 rfl ?_
      refine fp_X5_X0_length (n := 40) (c + 2 + 1 + x2.toNatClampNeg) (kdE3 (kd1_legs hc) h27) ok dX5_becomeLike_37 rfl ?_
      refine g_mem (fun S6 eS6 => ?_)
      replace h := h S6 eS6
      refine g_aload_n 0 (n := 41) ok dX5_becomeLike_40 rfl rfl ?_
      refine fg_X5_X5_legs (n := 44) c hc ok dX5_becomeLike_41 rfl ?_
      refine g_iload_n 2 (n := 45) ok dX5_becomeLike_44 rfl rfl ?_
      obtain ⟨h45, h⟩ := h
      refine g_aald (c := (c + 2)) (t0 := 1) (a := v.1 (c + 2 + 1 + x2.toNatClampNeg)) (n := 46) ok (lt3 (kd1_legs hc)) (sh3 (kd1_legs hc) _) rfl h45 rfl dX5_becomeLike_45 rfl ?_
      refine g_aload_n 1 (n := 47) ok dX5_becomeLike_46 rfl rfl ?_
      refine fg_X5_X5_legs (n := 50) c1 hc1 ok dX5_becomeLike_47 rfl ?_
      refine g_iload_n 2 (n := 51) ok dX5_becomeLike_50 rfl rfl ?_
      obtain ⟨h51, h⟩ := h
      refine g_aald (c := (c1 + 2)) (t0 := 1) (a := v.1 (c1 + 2 + 1 + x2.toNatClampNeg)) (n := 52) ok (lt3 (kd1_legs hc1)) (sh3 (kd1_legs hc1) _) rfl h51 rfl dX5_becomeLike_51 rfl ?_
      refine fg_X5_X0_number (n := 55) (c1 + 2 + 1 + x2.toNatClampNeg) (kdE3 (kd1_legs hc1) h51) ok dX5_becomeLike_52 rfl ?_
      refine fp_X5_X0_number (n := 58) (c + 2 + 1 + x2.toNatClampNeg) (kdE3 (kd1_legs hc) h45) ok dX5_becomeLike_55 rfl ?_
      refine g_mem (fun S7 eS7 => ?_)
      replace h := h S7 eS7
      obtain ⟨z8, ez8⟩ : ∃ y : Int32, y = x2 + 1 := ⟨_, rfl⟩
      replace h := h z8 ez8
      refine g_iinc 2 [(2, .int z8), (0, .ref (v.1 c)), (1, .ref (v.1 c1))] (v := z8) (n := 61) ok dX5_becomeLike_58 rfl rfl (by rw [ez8]; rfl) (by decide) rfl ?_
      refine g_goto (t := 17) ok dX5_becomeLike_61 (by decide) ?_
      exact g_sub [1, 2, 0] rfl (ih z8 S7 h)
def w_X5_becomeLike (c : Nat) (c1 : Nat) (S : Mem) (post : Mem → Prop) : Prop := ((¬ (0 : Int32) < 0 ∧ ¬ (0 : Int32) < 0 ∧ ¬ (64 : Int32) < 0 ∧ (0 : Int32).toNatClampNeg + (64 : Int32).toNatClampNeg ≤ 64 ∧ (0 : Int32).toNatClampNeg + (64 : Int32).toNatClampNeg ≤ 64) ∧ (∀ S1 : Mem, S1 = mset S (c + 1) (va_cpy (S (c1 + 1)) (S (c + 1)) (0 : Int32).toNatClampNeg (0 : Int32).toNatClampNeg (64 : Int32).toNatClampNeg) → ∃ n, w_X5_becomeLike_17 post c c1 n (0 : Int32) S1))
set_option maxHeartbeats 4000000 in
set_option maxRecDepth 20000 in
theorem c_X5_becomeLike (l : Launch) (v : VxT) (c : Nat) (hc : kdX c = 1) (c1 : Nat) (hc1 : kdX c1 = 1) (S : Mem) (post : Mem → Prop) (h : w_X5_becomeLike c c1 S post) : MV l yX5_becomeLike cX5_becomeLike 3 none 1 (oX v) [.ref (v.1 c), .ref (v.1 c1)] S post := by
  refine met_start (by decide +kernel) (Nat.le_of_ble_eq_true rfl) (fun g ok he => ?_)
  refine g_eq (L' := [(0, .ref (v.1 c)), (1, .ref (v.1 c1))]) (st' := []) ?_ rfl rfl
  unfold w_X5_becomeLike at h
  refine g_aload_n 1 (n := 1) ok dX5_becomeLike_0 rfl rfl ?_
  refine fg_X5_X5_heights (n := 4) c1 hc1 ok dX5_becomeLike_1 rfl ?_
  refine g_iconst (v := 0) (n := 5) ok dX5_becomeLike_4 rfl (by decide) ?_
  refine g_aload_n 0 (n := 6) ok dX5_becomeLike_5 rfl rfl ?_
  refine fg_X5_X5_heights (n := 9) c hc ok dX5_becomeLike_6 rfl ?_
  refine g_iconst (v := 0) (n := 10) ok dX5_becomeLike_9 rfl (by decide) ?_
  refine g_bipush (v := 64) (n := 12) ok dX5_becomeLike_10 rfl (by decide) ?_
  obtain ⟨h0, h⟩ := h
  refine g_copy (c0 := (c1 + 1)) (c1 := (c + 1)) (t0 := 0) (n := 15) ok tw_697 tw_342 tw_341 tw_13 (lt2 (kd1_heights hc1)) (fun f => sh2 (kd1_heights hc1) f) (lt2 (kd1_heights hc)) (fun f => sh2 (kd1_heights hc) f) rfl h0 (by decide) (Nat.le_of_ble_eq_true rfl) dX5_becomeLike_12 rfl ?_
  refine g_mem (fun S1 eS1 => ?_)
  replace h := h S1 eS1
  refine g_iconst (v := 0) (n := 16) ok dX5_becomeLike_15 rfl (by decide) ?_
  refine g_istore_n [(2, .int (0 : Int32)), (0, .ref (v.1 c)), (1, .ref (v.1 c1))] (n := 17) ok dX5_becomeLike_16 rfl (by decide) rfl ?_
  obtain ⟨n0, h⟩ := h
  exact g_sub [1, 2, 0] rfl (b_X5_becomeLike_17 ok c c1 hc hc1 he n0 (0 : Int32) S1 h)
def w_X7_floor_20 (post : Int32 → Mem → Prop) (S : Mem) : Prop := post (-2 : Int32) S
set_option maxHeartbeats 4000000 in
set_option maxRecDepth 20000 in
theorem b_X7_floor_20 {v : VxT} {l : Launch} {g : CxT} (ok : Ok l g (oX v) 4 cX7_floor RX7 (some .int)) {post : Int32 → Mem → Prop} (he : EndQ g (oX v) (va_Qi post (fun S1 t => BX (oX v) S1 t) (AX (oX v)))) (S : Mem) (h : w_X7_floor_20 post  S) : G g (oX v) 2 4 20 [] [] S := by
  unfold w_X7_floor_20 at h
  refine g_bipush (v := -2) (n := 22) ok dX7_floor_20 rfl (by decide) ?_
  exact g_iret ok he h dX7_floor_22
def w_X7_floor (p1 : Int32) (p2 : Int32) (S : Mem) (post : Int32 → Mem → Prop) : Prop := w_X7_within p1 (0 : Int32) (63 : Int32) S (fun r1 S1 => ((r1 = 0 → w_X7_floor_20 post  S1) ∧ (¬ r1 = 0 → w_X7_within p2 (0 : Int32) (99 : Int32) S1 (fun r2 S2 => ((¬ r2 = 0 → (vp_in p1 64 ∧ (∀ z3 : Int32, z3 = S2 2 p1.toNatClampNeg → (vp_in p1 64 ∧ (∀ S4 : Mem, S4 = mset S2 2 (upd (S2 2) p1.toNatClampNeg p2) → post z3 S4))))) ∧ (r2 = 0 → w_X7_floor_20 post  S2))))))
set_option maxHeartbeats 4000000 in
set_option maxRecDepth 20000 in
theorem c_X7_floor (l : Launch) (v : VxT) (p1 : Int32) (p2 : Int32) (S : Mem) (post : Int32 → Mem → Prop) (h : w_X7_floor p1 p2 S post) : MI l yX7_floor cX7_floor 4 (some .int) 2 (oX v) [.ref (v.1 0), .int p1, .int p2] S post := by
  refine met_start (by decide +kernel) (Nat.le_of_ble_eq_true rfl) (fun g ok he => ?_)
  refine g_eq (L' := [(0, .ref (v.1 0)), (1, .int p1), (2, .int p2)]) (st' := []) ?_ rfl rfl
  unfold w_X7_floor at h
  refine g_iload_n 1 (n := 1) ok dX7_floor_0 rfl rfl ?_
  refine g_iconst (v := 0) (n := 2) ok dX7_floor_1 rfl (by decide) ?_
  refine g_bipush (v := 63) (n := 4) ok dX7_floor_2 rfl (by decide) ?_
  refine g_callSi (n := 7) (As := [.int p1, .int (0 : Int32), .int (63 : Int32)]) (rest := []) ok (c_X7_within l v p1 (0 : Int32) (63 : Int32) S _ h) cal_X7_within tw_373 tw_253 (by decide) (by decide) rfl (Nat.le_of_ble_eq_true rfl) dX7_floor_4 rfl rfl (fun r1 S1 h => ?_)
  refine g_if_eq (t := 20) (n := 10) ok dX7_floor_7 (by decide) rfl (fun e6 => ?_) (fun e6 => ?_)
  · replace h := h.1 e6
    exact g_sub [] rfl (b_X7_floor_20 ok he  S1 h)
  · replace h := h.2 e6
    refine g_iload_n 2 (n := 11) ok dX7_floor_10 rfl rfl ?_
    refine g_iconst (v := 0) (n := 12) ok dX7_floor_11 rfl (by decide) ?_
    refine g_bipush (v := 99) (n := 14) ok dX7_floor_12 rfl (by decide) ?_
    refine g_callSi (n := 17) (As := [.int p2, .int (0 : Int32), .int (99 : Int32)]) (rest := []) ok (c_X7_within l v p2 (0 : Int32) (99 : Int32) S1 _ h) cal_X7_within tw_373 tw_253 (by decide) (by decide) rfl (Nat.le_of_ble_eq_true rfl) dX7_floor_14 rfl rfl (fun r2 S2 h => ?_)
    refine g_if_ne (t := 23) (n := 20) ok dX7_floor_17 (by decide) rfl (fun e5 => ?_) (fun e5 => ?_)
    · replace h := h.1 e5
      refine g_aload_n 0 (n := 24) ok dX7_floor_23 rfl rfl ?_
      refine fg_X7_X7_table (n := 27) 0 rfl ok dX7_floor_24 rfl ?_
      refine fg_X7_X5_heights (n := 30) 1 rfl ok dX7_floor_27 rfl ?_
      refine g_iload_n 1 (n := 31) ok dX7_floor_30 rfl rfl ?_
      obtain ⟨h0, h⟩ := h
      refine g_iald (c := 2) (t0 := 0) (n := 32) ok (lt2 rfl) (sh2 rfl _) rfl h0 dX7_floor_31 rfl ?_
      refine g_topi (fun z3 ez3 => ?_)
      replace h := h z3 ez3
      refine g_istore_n [(3, .int z3), (0, .ref (v.1 0)), (1, .int p1), (2, .int p2)] (n := 33) ok dX7_floor_32 rfl (by decide) rfl ?_
      refine g_aload_n 1 (n := 34) ok dX7_floor_33 rfl rfl ?_
      refine fg_X7_X7_table (n := 37) 0 rfl ok dX7_floor_34 rfl ?_
      refine fg_X7_X5_heights (n := 40) 1 rfl ok dX7_floor_37 rfl ?_
      refine g_iload_n 2 (n := 41) ok dX7_floor_40 rfl rfl ?_
      refine g_iload_n 3 (n := 42) ok dX7_floor_41 rfl rfl ?_
      obtain ⟨h0, h⟩ := h
      refine g_iast (c := 2) (t0 := 0) (n := 43) ok (lt2 rfl) (fun f => sh2 rfl f) rfl h0 dX7_floor_42 rfl ?_
      refine g_mem (fun S4 eS4 => ?_)
      replace h := h S4 eS4
      refine g_iload_n 0 (n := 44) ok dX7_floor_43 rfl rfl ?_
      exact g_iret ok he h dX7_floor_44
    · replace h := h.2 e5
      exact g_sub [] rfl (b_X7_floor_20 ok he  S2 h)
def w_X7_wave_30 (post : Int32 → Mem → Prop) (S : Mem) : Prop := post (-2 : Int32) S
set_option maxHeartbeats 4000000 in
set_option maxRecDepth 20000 in
theorem b_X7_wave_30 {v : VxT} {l : Launch} {g : CxT} (ok : Ok l g (oX v) 8 cX7_wave RX7 (some .int)) {post : Int32 → Mem → Prop} (he : EndQ g (oX v) (va_Qi post (fun S1 t => BX (oX v) S1 t) (AX (oX v)))) (S : Mem) (h : w_X7_wave_30 post  S) : G g (oX v) 2 8 30 [] [] S := by
  unfold w_X7_wave_30 at h
  refine g_bipush (v := -2) (n := 32) ok dX7_wave_30 rfl (by decide) ?_
  exact g_iret ok he h dX7_wave_32
def w_X7_wave_39 (post : Int32 → Mem → Prop) : Nat → Int32 → Int32 → Int32 → Int32 → Int32 → Mem → Prop
  | 0, _, _, _, _, _, _ => False
  | n + 1, x1, x2, x3, x4, x5, S => (((64 : Int32) ≤ x5 → post x4 S) ∧ (¬ (64 : Int32) ≤ x5 → (∀ z1 : Int32, z1 = x5 / (8 : Int32) → (∀ z2 : Int32, z2 = jrem x5 (8 : Int32) → (vp_in x5 64 ∧ (∀ S3 : Mem, S3 = mset S 2 (upd (S 2) x5.toNatClampNeg (jrem (((z1 * x1) + (z2 * x2)) + ((z1 * z2) * x3)) (100 : Int32))) → (vp_in x5 64 ∧ (∀ z4 : Int32, z4 = x4 + (S3 2 x5.toNatClampNeg) → (∀ z5 : Int32, z5 = x5 + 1 → w_X7_wave_39 post n x1 x2 x3 z4 z5 S3)))))))))
set_option maxHeartbeats 4000000 in
set_option maxRecDepth 20000 in
theorem b_X7_wave_39 {v : VxT} {l : Launch} {g : CxT} (ok : Ok l g (oX v) 8 cX7_wave RX7 (some .int)) {post : Int32 → Mem → Prop} (he : EndQ g (oX v) (va_Qi post (fun S1 t => BX (oX v) S1 t) (AX (oX v)))) : ∀ (n : Nat) (x1 : Int32) (x2 : Int32) (x3 : Int32) (x4 : Int32) (x5 : Int32) (S : Mem), w_X7_wave_39 post n x1 x2 x3 x4 x5 S → G g (oX v) 2 8 39 [(0, .ref (v.1 0)), (1, .int x1), (2, .int x2), (3, .int x3), (4, .int x4), (5, .int x5)] [] S := by
  intro n
  induction n with
  | zero =>
    intro x1 x2 x3 x4 x5 S h
    exact h.elim
  | succ n ih =>
    intro x1 x2 x3 x4 x5 S h
    rw [w_X7_wave_39] at h
    refine g_iload 5 (n := 41) ok dX7_wave_39 rfl rfl ?_
    refine g_bipush (v := 64) (n := 43) ok dX7_wave_41 rfl (by decide) ?_
    refine g_icmp_ge (t := 111) (n := 46) ok dX7_wave_43 (by decide) rfl (fun e6 => ?_) (fun e6 => ?_)
    · replace h := h.1 e6
      refine g_iload 4 (n := 113) ok dX7_wave_111 rfl rfl ?_
      exact g_iret ok he h dX7_wave_113
    · replace h := h.2 e6
      refine g_iload 5 (n := 48) ok dX7_wave_46 rfl rfl ?_
      refine g_bipush (v := 8) (n := 50) ok dX7_wave_48 rfl (by decide) ?_
      refine g_idiv (n := 51) ok dX7_wave_50 rfl (by decide) ?_
      refine g_topi (fun z1 ez1 => ?_)
      replace h := h z1 ez1
      refine g_istore [(6, .int z1), (0, .ref (v.1 0)), (1, .int x1), (2, .int x2), (3, .int x3), (4, .int x4), (5, .int x5)] (n := 53) ok dX7_wave_51 rfl (by decide) rfl ?_
      refine g_iload 6 (n := 55) ok dX7_wave_53 rfl rfl ?_
      refine g_bipush (v := 8) (n := 57) ok dX7_wave_55 rfl (by decide) ?_
      refine g_irem (n := 58) ok dX7_wave_57 rfl (by decide) ?_
      refine g_topi (fun z2 ez2 => ?_)
      replace h := h z2 ez2
      refine g_istore [(7, .int z2), (6, .int z1), (0, .ref (v.1 0)), (1, .int x1), (2, .int x2), (3, .int x3), (4, .int x4), (5, .int x5)] (n := 60) ok dX7_wave_58 rfl (by decide) rfl ?_
      refine g_aload_n 2 (n := 61) ok dX7_wave_60 rfl rfl ?_
      refine fg_X7_X7_table (n := 64) 0 rfl ok dX7_wave_61 rfl ?_
      refine fg_X7_X5_heights (n := 67) 1 rfl ok dX7_wave_64 rfl ?_
      refine g_iload 7 (n := 69) ok dX7_wave_67 rfl rfl ?_
      refine g_iload 1 (n := 71) ok dX7_wave_69 rfl rfl ?_
      refine g_iload_n 3 (n := 72) ok dX7_wave_71 rfl rfl ?_
      refine g_imul (n := 73) ok dX7_wave_72 rfl ?_
      refine g_iload 0 (n := 75) ok dX7_wave_73 rfl rfl ?_
      refine g_iload_n 4 (n := 76) ok dX7_wave_75 rfl rfl ?_
      refine g_imul (n := 77) ok dX7_wave_76 rfl ?_
      refine g_iadd (n := 78) ok dX7_wave_77 rfl ?_
      refine g_iload 1 (n := 80) ok dX7_wave_78 rfl rfl ?_
      refine g_iload 0 (n := 82) ok dX7_wave_80 rfl rfl ?_
      refine g_imul (n := 83) ok dX7_wave_82 rfl ?_
      refine g_iload_n 5 (n := 84) ok dX7_wave_83 rfl rfl ?_
      refine g_imul (n := 85) ok dX7_wave_84 rfl ?_
      refine g_iadd (n := 86) ok dX7_wave_85 rfl ?_
      refine g_bipush (v := 100) (n := 88) ok dX7_wave_86 rfl (by decide) ?_
      refine g_irem (n := 89) ok dX7_wave_88 rfl (by decide) ?_
      obtain ⟨h0, h⟩ := h
      refine g_iast (c := 2) (t0 := 0) (n := 90) ok (lt2 rfl) (fun f => sh2 rfl f) rfl h0 dX7_wave_89 rfl ?_
      refine g_mem (fun S3 eS3 => ?_)
      replace h := h S3 eS3
      refine g_iload 6 (n := 92) ok dX7_wave_90 rfl rfl ?_
      refine g_aload_n 2 (n := 93) ok dX7_wave_92 rfl rfl ?_
      refine fg_X7_X7_table (n := 96) 0 rfl ok dX7_wave_93 rfl ?_
      refine fg_X7_X5_heights (n := 99) 1 rfl ok dX7_wave_96 rfl ?_
      refine g_iload 7 (n := 101) ok dX7_wave_99 rfl rfl ?_
      obtain ⟨h0, h⟩ := h
      refine g_iald (c := 2) (t0 := 0) (n := 102) ok (lt2 rfl) (sh2 rfl _) rfl h0 dX7_wave_101 rfl ?_
      refine g_iadd (n := 103) ok dX7_wave_102 rfl ?_
      refine g_topi (fun z4 ez4 => ?_)
      replace h := h z4 ez4
      refine g_istore [(4, .int z4), (7, .int z2), (6, .int z1), (0, .ref (v.1 0)), (1, .int x1), (2, .int x2), (3, .int x3), (5, .int x5)] (n := 105) ok dX7_wave_103 rfl (by decide) rfl ?_
      obtain ⟨z5, ez5⟩ : ∃ y : Int32, y = x5 + 1 := ⟨_, rfl⟩
      replace h := h z5 ez5
      refine g_iinc 7 [(5, .int z5), (4, .int z4), (7, .int z2), (6, .int z1), (0, .ref (v.1 0)), (1, .int x1), (2, .int x2), (3, .int x3)] (v := z5) (n := 108) ok dX7_wave_105 rfl rfl (by rw [ez5]; rfl) (by decide) rfl ?_
      refine g_goto (t := 39) ok dX7_wave_108 (by decide) ?_
      exact g_sub [4, 5, 6, 7, 1, 0] rfl (ih x1 x2 x3 z4 z5 S3 h)
def w_X7_wave (p1 : Int32) (p2 : Int32) (p3 : Int32) (S : Mem) (post : Int32 → Mem → Prop) : Prop := w_X7_within p1 (0 : Int32) (99 : Int32) S (fun r1 S1 => ((r1 = 0 → w_X7_wave_30 post  S1) ∧ (¬ r1 = 0 → w_X7_within p2 (0 : Int32) (99 : Int32) S1 (fun r2 S2 => ((r2 = 0 → w_X7_wave_30 post  S2) ∧ (¬ r2 = 0 → w_X7_within p3 (0 : Int32) (99 : Int32) S2 (fun r3 S3 => ((¬ r3 = 0 → ∃ n, w_X7_wave_39 post n p1 p2 p3 (0 : Int32) (0 : Int32) S3) ∧ (r3 = 0 → w_X7_wave_30 post  S3)))))))))
set_option maxHeartbeats 4000000 in
set_option maxRecDepth 20000 in
theorem c_X7_wave (l : Launch) (v : VxT) (p1 : Int32) (p2 : Int32) (p3 : Int32) (S : Mem) (post : Int32 → Mem → Prop) (h : w_X7_wave p1 p2 p3 S post) : MI l yX7_wave cX7_wave 8 (some .int) 2 (oX v) [.ref (v.1 0), .int p1, .int p2, .int p3] S post := by
  refine met_start (by decide +kernel) (Nat.le_of_ble_eq_true rfl) (fun g ok he => ?_)
  refine g_eq (L' := [(0, .ref (v.1 0)), (1, .int p1), (2, .int p2), (3, .int p3)]) (st' := []) ?_ rfl rfl
  unfold w_X7_wave at h
  refine g_iload_n 1 (n := 1) ok dX7_wave_0 rfl rfl ?_
  refine g_iconst (v := 0) (n := 2) ok dX7_wave_1 rfl (by decide) ?_
  refine g_bipush (v := 99) (n := 4) ok dX7_wave_2 rfl (by decide) ?_
  refine g_callSi (n := 7) (As := [.int p1, .int (0 : Int32), .int (99 : Int32)]) (rest := []) ok (c_X7_within l v p1 (0 : Int32) (99 : Int32) S _ h) cal_X7_within tw_373 tw_253 (by decide) (by decide) rfl (Nat.le_of_ble_eq_true rfl) dX7_wave_4 rfl rfl (fun r1 S1 h => ?_)
  refine g_if_eq (t := 30) (n := 10) ok dX7_wave_7 (by decide) rfl (fun e6 => ?_) (fun e6 => ?_)
  · replace h := h.1 e6
    exact g_sub [] rfl (b_X7_wave_30 ok he  S1 h)
  · replace h := h.2 e6
    refine g_iload_n 2 (n := 11) ok dX7_wave_10 rfl rfl ?_
    refine g_iconst (v := 0) (n := 12) ok dX7_wave_11 rfl (by decide) ?_
    refine g_bipush (v := 99) (n := 14) ok dX7_wave_12 rfl (by decide) ?_
    refine g_callSi (n := 17) (As := [.int p2, .int (0 : Int32), .int (99 : Int32)]) (rest := []) ok (c_X7_within l v p2 (0 : Int32) (99 : Int32) S1 _ h) cal_X7_within tw_373 tw_253 (by decide) (by decide) rfl (Nat.le_of_ble_eq_true rfl) dX7_wave_14 rfl rfl (fun r2 S2 h => ?_)
    refine g_if_eq (t := 30) (n := 20) ok dX7_wave_17 (by decide) rfl (fun e5 => ?_) (fun e5 => ?_)
    · replace h := h.1 e5
      exact g_sub [] rfl (b_X7_wave_30 ok he  S2 h)
    · replace h := h.2 e5
      refine g_iload_n 3 (n := 21) ok dX7_wave_20 rfl rfl ?_
      refine g_iconst (v := 0) (n := 22) ok dX7_wave_21 rfl (by decide) ?_
      refine g_bipush (v := 99) (n := 24) ok dX7_wave_22 rfl (by decide) ?_
      refine g_callSi (n := 27) (As := [.int p3, .int (0 : Int32), .int (99 : Int32)]) (rest := []) ok (c_X7_within l v p3 (0 : Int32) (99 : Int32) S2 _ h) cal_X7_within tw_373 tw_253 (by decide) (by decide) rfl (Nat.le_of_ble_eq_true rfl) dX7_wave_24 rfl rfl (fun r3 S3 h => ?_)
      refine g_if_ne (t := 33) (n := 30) ok dX7_wave_27 (by decide) rfl (fun e4 => ?_) (fun e4 => ?_)
      · replace h := h.1 e4
        refine g_iconst (v := 0) (n := 34) ok dX7_wave_33 rfl (by decide) ?_
        refine g_istore [(4, .int (0 : Int32)), (0, .ref (v.1 0)), (1, .int p1), (2, .int p2), (3, .int p3)] (n := 36) ok dX7_wave_34 rfl (by decide) rfl ?_
        refine g_iconst (v := 0) (n := 37) ok dX7_wave_36 rfl (by decide) ?_
        refine g_istore [(5, .int (0 : Int32)), (4, .int (0 : Int32)), (0, .ref (v.1 0)), (1, .int p1), (2, .int p2), (3, .int p3)] (n := 39) ok dX7_wave_37 rfl (by decide) rfl ?_
        obtain ⟨n0, h⟩ := h
        exact g_sub [2, 3, 4, 5, 1, 0] rfl (b_X7_wave_39 ok he n0 p1 p2 p3 (0 : Int32) (0 : Int32) S3 h)
      · replace h := h.2 e4
        exact g_sub [] rfl (b_X7_wave_30 ok he  S3 h)
