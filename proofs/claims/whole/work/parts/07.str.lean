/-! TEXT CONSTANTS: loading one, its length, its signs (String.length, charAt and what they call) -/
section
variable {v : VxT} {l : Launch} {g : CxT} {k nL pc : Nat} {cc : ByteArray} {own : String} {ret : Option FieldType} {L : List (Nat × Value)} {st : List Value} {S : Mem}
theorem g_ldcS (ok : Ok l g (oX v) nL cc own ret) {q index n : Nat} {tx : String} (hq : strL[q]? = some (own, index, tx)) (hd : decode cc pc = .ok (.ldc index, 2)) (hn : pc + 2 = n) (h : G g (oX v) k nL n L (.ref (v.2.2.2.2.1 q) :: st) S) : G g (oX v) k nL pc L st S := by
  obtain ⟨p, l', e, s, m, args, below, meth, cD, Q, cs, sl⟩ := g
  obtain ⟨rfl, hx, hb, hml, hown, hts, hr, hlk, hK, hD, hSt, hZ⟩ := ok
  subst hn
  have hq13 : q < 13 := (List.getElem?_eq_some_iff.mp hq).1
  have hZ : StX v s s.heap := hZ
  exact fun ls H locs hl hP hS => va_ldcS hx hb hown (hZ.2.2.2.2.1 q hq13 _ hq) hd (h ls H locs hl hP hS)
theorem g_svalue (ok : Ok l g (oX v) nL cc own ret) {q index n : Nat} (hq : q < 13) (hlink : Cond.fieldLink own index "java/lang/String" "value" "[B" ∈ lw_tbl) (hd : decode cc pc = .ok (.getfield index, 3)) (hn : pc + 3 = n) (h : G g (oX v) k nL n L (.ref (v.2.2.2.2.2 q) :: st) S) : G g (oX v) k nL pc L (.ref (v.2.2.2.2.1 q) :: st) S := by
  obtain ⟨p, l', e, s, m, args, below, meth, cD, Q, cs, sl⟩ := g
  obtain ⟨rfl, hx, hb, hml, hown, hts, hr, hlk, hK, hD, hSt, hZ⟩ := ok
  subst hn
  have hZ : StX v s s.heap := hZ
  exact fun ls H locs hl hP hS => vk_getf hx hb (hZ.2.2.2.2.2.1.1 q hq).2.2.1 hS hown (hts _ hlink rfl _) (fun _ z => z) hd (h ls H locs hl hP hS)
theorem g_scoder (ok : Ok l g (oX v) nL cc own ret) {q index n : Nat} (hq : q < 13) (hlink : Cond.fieldLink own index "java/lang/String" "coder" "B" ∈ lw_tbl) (hd : decode cc pc = .ok (.getfield index, 3)) (hn : pc + 3 = n) (h : G g (oX v) k nL n L (.int 0 :: st) S) : G g (oX v) k nL pc L (.ref (v.2.2.2.2.1 q) :: st) S := by
  obtain ⟨p, l', e, s, m, args, below, meth, cD, Q, cs, sl⟩ := g
  obtain ⟨rfl, hx, hb, hml, hown, hts, hr, hlk, hK, hD, hSt, hZ⟩ := ok
  subst hn
  have hZ : StX v s s.heap := hZ
  exact fun ls H locs hl hP hS => vk_getf hx hb (hZ.2.2.2.2.2.1.1 q hq).2.1 hS hown (hts _ hlink rfl _) (fun _ z => z) hd (h ls H locs hl hP hS)
theorem g_compact (ok : Ok l g (oX v) nL cc own ret) {index n : Nat} (hlink : Cond.fieldLink own index "java/lang/String" "COMPACT_STRINGS" "Z" ∈ lw_tbl) (hd : decode cc pc = .ok (.getstatic index, 3)) (hn : pc + 3 = n) (h : G g (oX v) k nL n L (.int 1 :: st) S) : G g (oX v) k nL pc L st S :=
  g_gets (C := "java/lang/String") (v := .int 1) ok (fun _ _ z => z.2.2.2.1) hlink hd hn h
theorem g_formatter (ok : Ok l g (oX v) nL cc own ret) {index n : Nat} (hlink : Cond.fieldLink own index "jdk/internal/util/Preconditions" "SIOOBE_FORMATTER" "Ljava/util/function/BiFunction;" ∈ lw_tbl) (hd : decode cc pc = .ok (.getstatic index, 3)) (hn : pc + 3 = n) (h : ∀ w : Value, w.category = 1 → (w = .null ∨ ∃ a, w = .ref a) → G g (oX v) k nL n L (w :: st) S) : G g (oX v) k nL pc L st S := by
  obtain ⟨p, l', e, s, m, args, below, meth, cD, Q, cs, sl⟩ := g
  obtain ⟨rfl, hx, hb, hml, hown, hts, hr, hlk, hK, hD, hSt, hZ⟩ := ok
  subst hn
  have hZ : StX v s s.heap := hZ
  intro ls H locs hl hP hS
  rcases hZ.2.2.2.2.2.2 with z | ⟨t, z⟩
  · exact va_gets hx hb z hS hown (hts _ hlink rfl _) (fun _ z => z) hd (h .null rfl (Or.inl rfl) ls H locs hl hP hS)
  · exact va_gets hx hb z hS hown (hts _ hlink rfl _) (fun _ z => z) hd (h (.ref t) rfl (Or.inr ⟨t, rfl⟩) ls H locs hl hP hS)
theorem g_slen (ok : Ok l g (oX v) nL cc own ret) {q n : Nat} (hq : q < 13) (hd : decode cc pc = .ok (.arraylength, 1)) (hn : pc + 1 = n) (h : G g (oX v) k nL n L (.int (Int32.ofNat (strLen.getD q 0)) :: st) S) : G g (oX v) k nL pc L (.ref (v.2.2.2.2.2 q) :: st) S := by
  obtain ⟨p, l', e, s, m, args, below, meth, cD, Q, cs, sl⟩ := g
  obtain ⟨rfl, hx, hb, hml, hown, hts, hr, hlk, hK, hD, hSt, hZ⟩ := ok
  subst hn
  have hZ : StX v s s.heap := hZ
  exact fun ls H locs hl hP hS => va_tlen hx hb (hZ.2.2.2.2.2.1.1 q hq).2.2.2 hS rfl hd (h ls H locs hl hP hS)
theorem g_sbyte (ok : Ok l g (oX v) nL cc own ret) {q n : Nat} {i : Int32} (hq : q < 13) (hin : vp_in i (strLen.getD q 0)) (hd : decode cc pc = .ok (.baload, 1)) (hn : pc + 1 = n) (h : G g (oX v) k nL n L (.int ((strByt.getD q []).getD i.toNatClampNeg 0) :: st) S) : G g (oX v) k nL pc L (.int i :: .ref (v.2.2.2.2.2 q) :: st) S := by
  obtain ⟨p, l', e, s, m, args, below, meth, cD, Q, cs, sl⟩ := g
  obtain ⟨rfl, hx, hb, hml, hown, hts, hr, hlk, hK, hD, hSt, hZ⟩ := ok
  subst hn
  have hZ : StX v s s.heap := hZ
  exact fun ls H locs hl hP hS => va_tb hx hb (hZ.2.2.2.2.2.1.1 q hq).2.2.2 hS hin rfl hd (h ls H locs hl hP hS)
theorem g_callTi (ok : Ok l g (oX v) nL cc own ret) {y : MethodName} {bytes : ByteArray} {maxL na index kc n q : Nat} {rt : Option FieldType} {As rest : List Value} {post : Int32 → Mem → Prop} (hM : MI l y bytes maxL rt kc (oX v) (.ref (v.2.2.2.2.1 q) :: As) S post) (hcal : CalC y bytes maxL rt na) (hlink : Cond.methodLink own index y ∈ lw_tbl) (hinst : Cond.instanceMethod y ∈ lw_tbl) (hsel : Cond.selects "java/lang/String" y y ∈ lw_tbl) (hq : q < 13) (hk : kc + 1 ≤ k) (hmx : maxL ≤ 80) (hna : As.length = na) (hrs : (rest.map fun v => v.category).sum ≤ 8) (hd : decode cc pc = .ok (.invokevirtual index, 3)) (hn : pc + 3 = n) {st : List Value} (hst : st = As.reverse ++ .ref (v.2.2.2.2.1 q) :: rest) (kk : ∀ (r : Int32) (S1 : Mem), post r S1 → G g (oX v) k nL n L (.int r :: rest) S1) : G g (oX v) k nL pc L st S := by
  obtain ⟨p, l', e, s, m, args, below, meth, cD, Q, cs, sl⟩ := g
  obtain ⟨rfl, hx, hb, hml, hown, hts, hr, hlk, hK, hD, hSt, hZ⟩ := ok
  subst hn
  subst hst
  intro ls H locs hl hP hS
  have hZ2 : StX v s s.heap := hZ
  exact va_calli (va_runV (C := "java/lang/String") (As := As) (rest := rest) ⟨hx, hb, hml, hown, (fun (w : Cond) (hw : w ∈ ([] : List Cond)) => by cases hw)⟩ hM ⟨cw_B hts hcal hlink hk hmx, hts _ hinst rfl _, hts _ hsel rfl _⟩ ⟨bx_blind _, vk_recv hZ2.2.2.2.2.2.1 hq hS, fun U hU hW => ⟨rfl, bx_make hK hD hSt hZ hts hP hS hU hW⟩⟩ rfl hna hl.1 rfl (lv_room hrs) hd ⟨Nat.le_refl _, Nat.le_refl _⟩) hS (fun q _ h => h) (fun q h => h) (fun r S1 t H1 locs1 ht hvm hw hB hz hk1 hS1 => kk r S1 hw ls H1 locs1 hl (by rw [← ht]; exact hB.1) hS1)
end
theorem str_c : ∀ q, q < 13 → ∀ j, j < strLen.getD q 0 → ((((strByt.getD q []).getD j 0) &&& 255).toUInt32 % 65536).toInt32 = ((strByt.getD q []).getD j 0) := by decide +kernel
theorem str_n : ∀ q, q < 13 → ∀ j, j < strLen.getD q 0 → narrow .char (.int ((strByt.getD q []).getD j 0)) = .int ((strByt.getD q []).getD j 0) := by decide +kernel

def w_J0_coder_7d493 (t : Nat) (S : Mem) (post : Int32 → Mem → Prop) : Prop := post 0 S
set_option maxHeartbeats 4000000 in
set_option maxRecDepth 20000 in
theorem c_J0_coder_7d493 (l : Launch) (v : VxT) (t : Nat) (ht : t < 13) (S : Mem) (post : Int32 → Mem → Prop) (h : w_J0_coder_7d493 t S post) : MI l yJ0_coder_7d493 cJ0_coder_7d493 1 (some .byte) 1 (oX v) [.ref (v.2.2.2.2.1 t)] S post := by
  refine met_start (by decide +kernel) (Nat.le_of_ble_eq_true rfl) (fun g ok he => ?_)
  refine g_eq (L' := [(0, .ref (v.2.2.2.2.1 t))]) (st' := []) ?_ rfl rfl
  refine g_compact (n := 3) ok tw_196 dJ0_coder_7d493_0 rfl ?_
  refine g_if_eq (t := 13) (n := 6) ok dJ0_coder_7d493_3 (by decide) rfl (fun e => absurd e (by decide)) (fun e => ?_)
  refine g_aload_n 0 (n := 7) ok dJ0_coder_7d493_6 rfl rfl ?_
  refine g_scoder (n := 10) ok ht tw_1204 dJ0_coder_7d493_7 rfl ?_
  refine g_goto (t := 14) ok dJ0_coder_7d493_10 (by decide) ?_
  exact g_nret ok he (by decide) h dJ0_coder_7d493_14
def w_J0_isLatin1_aae02 (t : Nat) (S : Mem) (post : Int32 → Mem → Prop) : Prop := post 1 S
set_option maxHeartbeats 4000000 in
set_option maxRecDepth 20000 in
theorem c_J0_isLatin1_aae02 (l : Launch) (v : VxT) (t : Nat) (ht : t < 13) (S : Mem) (post : Int32 → Mem → Prop) (h : w_J0_isLatin1_aae02 t S post) : MI l yJ0_isLatin1_aae02 cJ0_isLatin1_aae02 1 (some .boolean) 1 (oX v) [.ref (v.2.2.2.2.1 t)] S post := by
  refine met_start (by decide +kernel) (Nat.le_of_ble_eq_true rfl) (fun g ok he => ?_)
  refine g_eq (L' := [(0, .ref (v.2.2.2.2.1 t))]) (st' := []) ?_ rfl rfl
  refine g_compact (n := 3) ok tw_196 dJ0_isLatin1_aae02_0 rfl ?_
  refine g_if_eq (t := 17) (n := 6) ok dJ0_isLatin1_aae02_3 (by decide) rfl (fun e => absurd e (by decide)) (fun e => ?_)
  refine g_aload_n 0 (n := 7) ok dJ0_isLatin1_aae02_6 rfl rfl ?_
  refine g_scoder (n := 10) ok ht tw_1204 dJ0_isLatin1_aae02_7 rfl ?_
  refine g_if_ne (t := 17) (n := 13) ok dJ0_isLatin1_aae02_10 (by decide) rfl (fun e => absurd rfl e) (fun e => ?_)
  refine g_iconst (v := 1) (n := 14) ok dJ0_isLatin1_aae02_13 rfl (by decide) ?_
  refine g_goto (t := 18) ok dJ0_isLatin1_aae02_14 (by decide) ?_
  exact g_zret ok he (Or.inr rfl) h dJ0_isLatin1_aae02_18
def w_J0_length_8abf5 (t : Nat) (S : Mem) (post : Int32 → Mem → Prop) : Prop := post (Int32.ofNat (strLen.getD t 0)) S
set_option maxHeartbeats 4000000 in
set_option maxRecDepth 20000 in
theorem c_J0_length_8abf5 (l : Launch) (v : VxT) (t : Nat) (ht : t < 13) (S : Mem) (post : Int32 → Mem → Prop) (h : w_J0_length_8abf5 t S post) : MI l yJ0_length_8abf5 cJ0_length_8abf5 1 (some .int) 2 (oX v) [.ref (v.2.2.2.2.1 t)] S post := by
  refine met_start (by decide +kernel) (Nat.le_of_ble_eq_true rfl) (fun g ok he => ?_)
  refine g_eq (L' := [(0, .ref (v.2.2.2.2.1 t))]) (st' := []) ?_ rfl rfl
  refine g_aload_n 0 (n := 1) ok dJ0_length_8abf5_0 rfl rfl ?_
  refine g_svalue (n := 4) ok ht tw_1203 dJ0_length_8abf5_1 rfl ?_
  refine g_slen (n := 5) ok ht dJ0_length_8abf5_4 rfl ?_
  refine g_aload_n 0 (n := 6) ok dJ0_length_8abf5_5 rfl rfl ?_
  refine g_callTi (n := 9) (q := t) (As := []) (rest := [.int (Int32.ofNat (strLen.getD t 0))]) (post := fun r S1 => r = 0 ∧ S1 = S) ok (c_J0_coder_7d493 l v t ht S _ ⟨rfl, rfl⟩) cal_J0_coder_7d493 tw_192 tw_193 tw_194 ht (by decide) (by decide) rfl (Nat.le_of_ble_eq_true rfl) dJ0_length_8abf5_6 rfl rfl (fun r S1 h1 => ?_)
  obtain ⟨rfl, rfl⟩ := h1
  refine g_ishr (n := 10) ok dJ0_length_8abf5_9 rfl ?_
  rw [sb_shr0]
  exact g_iret ok he h dJ0_length_8abf5_10
def w_J3_checkIndex_8e157 (p0 p1 : Int32) (S : Mem) (post : Int32 → Mem → Prop) : Prop := ¬ p0 < 0 ∧ p0 < p1 ∧ post p0 S
set_option maxHeartbeats 4000000 in
set_option maxRecDepth 20000 in
theorem c_J3_checkIndex_8e157 (l : Launch) (v : VxT) (p0 p1 : Int32) (w : Value) (hw : w = .null ∨ ∃ a, w = .ref a) (S : Mem) (post : Int32 → Mem → Prop) (h : w_J3_checkIndex_8e157 p0 p1 S post) : MI l yJ3_checkIndex_8e157 cJ3_checkIndex_8e157 3 (some .int) 1 (oX v) [.int p0, .int p1, w] S post := by
  have hlen : (lg_sl [.int p0, .int p1, w]).length ≤ 3 := by
    rcases hw with rfl | ⟨a, rfl⟩ <;> exact Nat.le_of_ble_eq_true rfl
  refine met_start (by decide +kernel) hlen (fun g ok he => ?_)
  refine g_eq (L' := [(0, .int p0), (1, .int p1), (2, w)]) (st' := []) ?_ rfl rfl
  refine g_iload_n 0 (n := 1) ok dJ3_checkIndex_8e157_0 rfl rfl ?_
  refine g_if_lt (t := 9) (n := 4) ok dJ3_checkIndex_8e157_1 (by decide) rfl (fun e => absurd e h.1) (fun e => ?_)
  refine g_iload_n 0 (n := 5) ok dJ3_checkIndex_8e157_4 rfl rfl ?_
  refine g_iload_n 1 (n := 6) ok dJ3_checkIndex_8e157_5 rfl rfl ?_
  refine g_icmp_lt (t := 16) (n := 9) ok dJ3_checkIndex_8e157_6 (by decide) rfl (fun e => ?_) (fun e => absurd h.2.1 e)
  refine g_iload_n 0 (n := 17) ok dJ3_checkIndex_8e157_16 rfl rfl ?_
  exact g_iret ok he h.2.2 dJ3_checkIndex_8e157_17
def w_J0_checkIndex_df160 (p0 p1 : Int32) (S : Mem) (post : Mem → Prop) : Prop := ¬ p0 < 0 ∧ p0 < p1 ∧ post S
set_option maxHeartbeats 4000000 in
set_option maxRecDepth 20000 in
theorem c_J0_checkIndex_df160 (l : Launch) (v : VxT) (p0 p1 : Int32) (S : Mem) (post : Mem → Prop) (h : w_J0_checkIndex_df160 p0 p1 S post) : MV l yJ0_checkIndex_df160 cJ0_checkIndex_df160 2 none 2 (oX v) [.int p0, .int p1] S post := by
  refine met_start (by decide +kernel) (Nat.le_of_ble_eq_true rfl) (fun g ok he => ?_)
  refine g_eq (L' := [(0, .int p0), (1, .int p1)]) (st' := []) ?_ rfl rfl
  refine g_iload_n 0 (n := 1) ok dJ0_checkIndex_df160_0 rfl rfl ?_
  refine g_iload_n 1 (n := 2) ok dJ0_checkIndex_df160_1 rfl rfl ?_
  refine g_formatter (n := 5) ok tw_212 dJ0_checkIndex_df160_2 rfl (fun w hw1 hw2 => ?_)
  refine g_callSi (n := 8) (As := [.int p0, .int p1, w]) (rest := []) (post := fun r S1 => r = p0 ∧ S1 = S) ok (c_J3_checkIndex_8e157 l v p0 p1 w hw2 S _ ⟨h.1, h.2.1, rfl, rfl⟩) cal_J3_checkIndex_8e157 tw_214 tw_215 (by decide) (by decide) rfl (Nat.le_of_ble_eq_true rfl) dJ0_checkIndex_df160_5 rfl rfl (fun r S1 h1 => ?_)
  obtain ⟨rfl, rfl⟩ := h1
  refine g_pop (n := 9) ok dJ0_checkIndex_df160_8 rfl rfl ?_
  exact g_vret ok he h.2.2 dJ0_checkIndex_df160_9
def w_J1_charAt_3b067 (t : Nat) (p1 : Int32) (S : Mem) (post : Int32 → Mem → Prop) : Prop := vp_in p1 (strLen.getD t 0) ∧ post ((strByt.getD t []).getD p1.toNatClampNeg 0) S
theorem str_small : ∀ t, t < 13 → strLen.getD t 0 < 2 ^ 31 := by decide +kernel
theorem vp_in_lt {x : Int32} {n : Nat} (h : vp_in x n) (hn : n < 2 ^ 31) : ¬ x < 0 ∧ x < Int32.ofNat n := by
  obtain ⟨j, hj, rfl⟩ := vp_in_of h hn
  exact ⟨nI_pos (by omega), nI_lt hj hn⟩
set_option maxHeartbeats 4000000 in
set_option maxRecDepth 20000 in
theorem c_J1_charAt_3b067 (l : Launch) (v : VxT) (t : Nat) (ht : t < 13) (p1 : Int32) (S : Mem) (post : Int32 → Mem → Prop) (h : w_J1_charAt_3b067 t p1 S post) : MI l yJ1_charAt_3b067 cJ1_charAt_3b067 2 (some .char) 3 (oX v) [.ref (v.2.2.2.2.2 t), .int p1] S post := by
  refine met_start (by decide +kernel) (Nat.le_of_ble_eq_true rfl) (fun g ok he => ?_)
  refine g_eq (L' := [(0, .ref (v.2.2.2.2.2 t)), (1, .int p1)]) (st' := []) ?_ rfl rfl
  have hlt : p1.toNatClampNeg < strLen.getD t 0 := Nat.not_le.mp fun z => h.1 (Or.inr z)
  have hin := vp_in_lt h.1 (str_small t ht)
  refine g_iload_n 1 (n := 1) ok dJ1_charAt_3b067_0 rfl rfl ?_
  refine g_aload_n 0 (n := 2) ok dJ1_charAt_3b067_1 rfl rfl ?_
  refine g_slen (n := 3) ok ht dJ1_charAt_3b067_2 rfl ?_
  refine g_callSv (n := 6) (As := [.int p1, .int (Int32.ofNat (strLen.getD t 0))]) (rest := []) (post := fun S1 => S1 = S) ok (c_J0_checkIndex_df160 l v p1 _ S _ ⟨hin.1, hin.2, rfl⟩) cal_J0_checkIndex_df160 tw_209 tw_210 (by decide) (by decide) rfl (Nat.le_of_ble_eq_true rfl) dJ1_charAt_3b067_3 rfl rfl (fun S1 h1 => ?_)
  subst h1
  refine g_aload_n 0 (n := 7) ok dJ1_charAt_3b067_6 rfl rfl ?_
  refine g_iload_n 1 (n := 8) ok dJ1_charAt_3b067_7 rfl rfl ?_
  refine g_sbyte (n := 9) ok ht h.1 dJ1_charAt_3b067_8 rfl ?_
  refine g_sipush (v := 255) (n := 12) ok dJ1_charAt_3b067_9 rfl (by decide) ?_
  refine g_iand (n := 13) ok dJ1_charAt_3b067_12 rfl ?_
  refine g_i2c (n := 14) ok dJ1_charAt_3b067_13 rfl ?_
  rw [str_c t ht _ hlt]
  exact g_nret ok he (str_n t ht _ hlt) h.2 dJ1_charAt_3b067_14
def w_J0_charAt_5068e (t : Nat) (p1 : Int32) (S : Mem) (post : Int32 → Mem → Prop) : Prop := vp_in p1 (strLen.getD t 0) ∧ post ((strByt.getD t []).getD p1.toNatClampNeg 0) S
set_option maxHeartbeats 4000000 in
set_option maxRecDepth 20000 in
theorem c_J0_charAt_5068e (l : Launch) (v : VxT) (t : Nat) (ht : t < 13) (p1 : Int32) (S : Mem) (post : Int32 → Mem → Prop) (h : w_J0_charAt_5068e t p1 S post) : MI l yJ0_charAt_5068e cJ0_charAt_5068e 2 (some .char) 4 (oX v) [.ref (v.2.2.2.2.1 t), .int p1] S post := by
  refine met_start (by decide +kernel) (Nat.le_of_ble_eq_true rfl) (fun g ok he => ?_)
  refine g_eq (L' := [(0, .ref (v.2.2.2.2.1 t)), (1, .int p1)]) (st' := []) ?_ rfl rfl
  have hlt : p1.toNatClampNeg < strLen.getD t 0 := Nat.not_le.mp fun z => h.1 (Or.inr z)
  refine g_aload_n 0 (n := 1) ok dJ0_charAt_5068e_0 rfl rfl ?_
  refine g_callTi (n := 4) (q := t) (As := []) (rest := []) (post := fun r S1 => r = 1 ∧ S1 = S) ok (c_J0_isLatin1_aae02 l v t ht S _ ⟨rfl, rfl⟩) cal_J0_isLatin1_aae02 tw_202 tw_203 tw_204 ht (by decide) (by decide) rfl (Nat.le_of_ble_eq_true rfl) dJ0_charAt_5068e_1 rfl rfl (fun r S1 h1 => ?_)
  obtain ⟨rfl, rfl⟩ := h1
  refine g_if_eq (t := 16) (n := 7) ok dJ0_charAt_5068e_4 (by decide) rfl (fun e => absurd e (by decide)) (fun e => ?_)
  refine g_aload_n 0 (n := 8) ok dJ0_charAt_5068e_7 rfl rfl ?_
  refine g_svalue (n := 11) ok ht tw_1203 dJ0_charAt_5068e_8 rfl ?_
  refine g_iload_n 1 (n := 12) ok dJ0_charAt_5068e_11 rfl rfl ?_
  refine g_callSi (n := 15) (As := [.ref (v.2.2.2.2.2 t), .int p1]) (rest := []) (post := fun r S2 => r = ((strByt.getD t []).getD p1.toNatClampNeg 0) ∧ S2 = S1) ok (c_J1_charAt_3b067 l v t ht p1 S1 _ ⟨h.1, rfl, rfl⟩) cal_J1_charAt_3b067 tw_206 tw_207 (by decide) (by decide) rfl (Nat.le_of_ble_eq_true rfl) dJ0_charAt_5068e_12 rfl rfl (fun r S2 h2 => ?_)
  obtain ⟨rfl, rfl⟩ := h2
  exact g_nret ok he (str_n t ht _ hlt) h.2 dJ0_charAt_5068e_15
