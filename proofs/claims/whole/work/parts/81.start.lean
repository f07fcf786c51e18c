theorem tls_0 : Cond.laysStatic RX0 "UNDER" "[I" ∈ lw_tbl := tm3 137 (by decide +kernel)
theorem tls_1 : Cond.laysStatic RX5 "WAY_Y" "[I" ∈ lw_tbl := tm2 190 (by decide +kernel)
theorem tls_2 : Cond.laysStatic RX5 "WAY_X" "[I" ∈ lw_tbl := tm2 195 (by decide +kernel)
theorem tls_3 : Cond.laysStatic "java/lang/String" "COMPACT_STRINGS" "Z" ∈ lw_tbl := tm1 197 (by decide +kernel)
theorem tls_4 : Cond.laysStatic "jdk/internal/util/Preconditions" "SIOOBE_FORMATTER" "Ljava/util/function/BiFunction;" ∈ lw_tbl := tm1 213 (by decide +kernel)
theorem tsr_0 : Cond.stringRef "TableRocks" 55 "slack 0 ; worth 0 - rock * 9 - lean ; spills lean + rock * 2 ;" ∈ lw_tbl := tm1 187 (by decide +kernel)
theorem tsr_1 : Cond.stringRef "TableRocks$Reader" 101 "slack" ∈ lw_tbl := tm2 23 (by decide +kernel)
theorem tsr_2 : Cond.stringRef "TableRocks$Reader" 107 "worth" ∈ lw_tbl := tm2 30 (by decide +kernel)
theorem tsr_3 : Cond.stringRef "TableRocks$Reader" 109 "spills" ∈ lw_tbl := tm2 31 (by decide +kernel)
theorem tsr_4 : Cond.stringRef "TableRocks$Reader" 111 "or" ∈ lw_tbl := tm2 32 (by decide +kernel)
theorem tsr_5 : Cond.stringRef "TableRocks$Reader" 113 "and" ∈ lw_tbl := tm2 33 (by decide +kernel)
theorem tsr_6 : Cond.stringRef "TableRocks$Reader" 115 "not" ∈ lw_tbl := tm2 34 (by decide +kernel)
theorem tsr_7 : Cond.stringRef "TableRocks$Reader" 117 "rock" ∈ lw_tbl := tm2 35 (by decide +kernel)
theorem tsr_8 : Cond.stringRef "TableRocks$Reader" 119 "lean" ∈ lw_tbl := tm2 36 (by decide +kernel)
theorem tsr_9 : Cond.stringRef "TableRocks$Reader" 121 "turn" ∈ lw_tbl := tm2 37 (by decide +kernel)
theorem tsr_10 : Cond.stringRef "TableRocks$Reader" 123 "y" ∈ lw_tbl := tm2 38 (by decide +kernel)
theorem tsr_11 : Cond.stringRef "TableRocks$Reader" 125 "x" ∈ lw_tbl := tm2 39 (by decide +kernel)
theorem tsr_12 : Cond.stringRef "TableRocks$Reader" 127 "give" ∈ lw_tbl := tm2 40 (by decide +kernel)
theorem tao_L : Cond.arrayOver (.object "TableRocks$Leg") ∈ lw_tbl := tm1 31 (by decide +kernel)
theorem tao_R : Cond.arrayOver (.object "TableRocks$Rule") ∈ lw_tbl := tm1 134 (by decide +kernel)
theorem tao_S : Cond.arrayOver (.object "TableRocks$Sheet") ∈ lw_tbl := tm1 167 (by decide +kernel)
abbrev FL : List Cond := flatC (Jvm.Cond.and given_1 narrow_1)
def tmS (i : Nat) : Term := .string (strL.getD i ("", 0, "")).1 (strL.getD i ("", 0, "")).2.1
theorem fl_a0 : Cond.arrayOf (Term.static "TableRocks$Leg" "UNDER" "[I") .int ∈ FL := by decide +kernel
theorem fl_l0 : Cond.eq (.length (Term.static "TableRocks$Leg" "UNDER" "[I")) (.int 6) ∈ FL := by decide +kernel
theorem fl_e0 : ∀ j : Nat, j < 6 → Cond.eq (.elem (Term.static "TableRocks$Leg" "UNDER" "[I") (.int (Int32.ofNat j))) (.int (tUnder.getD j 0)) ∈ FL := by decide +kernel
theorem fl_a1 : Cond.arrayOf (Term.static "TableRocks$Table" "WAY_Y" "[I") .int ∈ FL := by decide +kernel
theorem fl_l1 : Cond.eq (.length (Term.static "TableRocks$Table" "WAY_Y" "[I")) (.int 8) ∈ FL := by decide +kernel
theorem fl_e1 : ∀ j : Nat, j < 8 → Cond.eq (.elem (Term.static "TableRocks$Table" "WAY_Y" "[I") (.int (Int32.ofNat j))) (.int (tWayY.getD j 0)) ∈ FL := by decide +kernel
theorem fl_a2 : Cond.arrayOf (Term.static "TableRocks$Table" "WAY_X" "[I") .int ∈ FL := by decide +kernel
theorem fl_l2 : Cond.eq (.length (Term.static "TableRocks$Table" "WAY_X" "[I")) (.int 8) ∈ FL := by decide +kernel
theorem fl_e2 : ∀ j : Nat, j < 8 → Cond.eq (.elem (Term.static "TableRocks$Table" "WAY_X" "[I") (.int (Int32.ofNat j))) (.int (tWayX.getD j 0)) ∈ FL := by decide +kernel
theorem fl_cs : Cond.eq (.static "java/lang/String" "COMPACT_STRINGS" "Z") (.int 1) ∈ FL := by decide +kernel
theorem fl_si : Cond.isRef (.static "jdk/internal/util/Preconditions" "SIOOBE_FORMATTER" "Ljava/util/function/BiFunction;") ∈ FL := by decide +kernel
theorem fl_s1 : ∀ i : Nat, i < 13 → Cond.exactly (tmS i) "java/lang/String" ∈ FL := by decide +kernel
theorem fl_s2 : ∀ i : Nat, i < 13 → Cond.eq (.field (tmS i) "java/lang/String" "coder" "B") (.int 0) ∈ FL := by decide +kernel
theorem fl_s3 : ∀ i : Nat, i < 13 → Cond.arrayOf (.field (tmS i) "java/lang/String" "value" "[B") .byte ∈ FL := by decide +kernel
theorem fl_s4 : ∀ i : Nat, i < 13 → Cond.eq (.length (.field (tmS i) "java/lang/String" "value" "[B")) (.int (Int32.ofNat (strLen.getD i 0))) ∈ FL := by decide +kernel
theorem fl_s5 : ∀ i : Nat, i < 13 → ∀ j : Nat, j < strLen.getD i 0 → Cond.eq (.elem (.field (tmS i) "java/lang/String" "value" "[B") (.int (Int32.ofNat j))) (.int ((strByt.getD i []).getD j 0)) ∈ FL := by decide +kernel
theorem fl_s6 : ∀ i j : Nat, i < 13 → j < 13 → i < j → Cond.not (Cond.eq (tmS i) (tmS j)) ∈ FL := by
  have h : ∀ i : Nat, i < 13 → ∀ j : Nat, j < 13 → i < j → Cond.not (Cond.eq (tmS i) (tmS j)) ∈ FL := by decide +kernel
  exact fun i j hi hj => h i hi j hj
theorem P_app_l {D : va_G} {cl : List vw_C} {w1 w2 : va_W} {H : Heap} (h : va_P D cl (w1 ++ w2) H) : va_P D cl w1 H := fun k q hk => h k q (by rw [List.getElem?_append_left (List.getElem?_eq_some_iff.mp hk).1]; exact hk)
theorem P_app_r {D : va_G} {cl : List vw_C} {w1 w2 : va_W} {H : Heap} (h : va_P D cl (w1 ++ w2) H) : va_P D cl w2 H := fun k q hk => h (w1.length + k) q (by rw [List.getElem?_append_right (by omega), Nat.add_sub_cancel_left]; exact hk)
theorem D_app_x {A : Nat → Prop} {w1 w2 : va_W} (h : va_D A (w1 ++ w2)) : ∀ (i j : Nat) (p q : Nat × va_E), w1[i]? = some p → w2[j]? = some q → p.1 ≠ q.1 := by
  intro i j p q hi hj e
  have h1 : (w1 ++ w2)[i]? = some p := by rw [List.getElem?_append_left (List.getElem?_eq_some_iff.mp hi).1]; exact hi
  have h2 : (w1 ++ w2)[w1.length + j]? = some q := by rw [List.getElem?_append_right (by omega), Nat.add_sub_cancel_left]; exact hj
  have := h.1 _ _ p q h1 h2 e
  have hl := (List.getElem?_eq_some_iff.mp hi).1
  omega
theorem A_one {q0 sz q : Nat} {e : va_E} (h : va_A [(q0, e)] sz q) : q = q0 ∨ sz ≤ q := by
  rcases h with ⟨k, e, hk⟩ | hq
  · cases k with
    | zero => cases hk; exact Or.inl rfl
    | succ k => simp at hk
  · exact Or.inr hq
theorem st_here {s : State} {args : Array Value} (hts : ∀ w ∈ lw_tbl, w.before args s = true) (hgv : (Jvm.Cond.and given_1 narrow_1).before args s = true) : ∃ ts sa sv : Nat → Nat, StA (A0 s) ts sa sv s s.heap := by
  have hs := flat_of_before _ hgv
  have hnA : ∀ a : Nat, a < s.heap.size → ¬ A0 s a := fun a h => Nat.not_le.mpr h
  obtain ⟨t0, hv0, hT0⟩ := va_Tof (tm := .static "TableRocks$Leg" "UNDER" "[I") (ty := .int) (N := 6) (f := fun j => .int (tUnder.getD j 0)) (A := A0 s) (by decide) (hs _ fl_a0) (va_eqt (hs _ fl_l0)) (fun j hj => va_eqt (hs _ (fl_e0 j hj))) hnA
  obtain ⟨t1, hv1, hT1⟩ := va_Tof (tm := .static "TableRocks$Table" "WAY_Y" "[I") (ty := .int) (N := 8) (f := fun j => .int (tWayY.getD j 0)) (A := A0 s) (by decide) (hs _ fl_a1) (va_eqt (hs _ fl_l1)) (fun j hj => va_eqt (hs _ (fl_e1 j hj))) hnA
  obtain ⟨t2, hv2, hT2⟩ := va_Tof (tm := .static "TableRocks$Table" "WAY_X" "[I") (ty := .int) (N := 8) (f := fun j => .int (tWayX.getD j 0)) (A := A0 s) (by decide) (hs _ fl_a2) (va_eqt (hs _ fl_l2)) (fun j hj => va_eqt (hs _ (fl_e2 j hj))) hnA
  obtain ⟨sa, sv, hvS, hev⟩ := vk_Sof (N := 13) (tm := tmS) (len := strLen) (byt := strByt) (A := A0 s) str_small (fun i hi => hs _ (fl_s1 i hi)) (fun i hi => hs _ (fl_s2 i hi)) (fun i hi => hs _ (fl_s3 i hi)) (fun i hi => hs _ (fl_s4 i hi)) (fun i hi j hj => hs _ (fl_s5 i hi j hj)) (fun i j hi hj hij => by
    rcases Nat.lt_or_gt_of_ne hij with h | h
    · exact Or.inl (hs _ (fl_s6 i j hi hj h))
    · exact Or.inr (hs _ (fl_s6 j i hj hi h))) hnA
  refine ⟨fun i => ([t0, t1, t2] : List Nat).getD i 0, sa, sv, ⟨va_Zref (hts _ tls_0) (hts _ tw_3) hv0 hnA, hT0⟩, ⟨va_Zref (hts _ tls_1) (hts _ tw_2) hv1 hnA, hT1⟩, ⟨va_Zref (hts _ tls_2) (hts _ tw_2) hv2 hnA, hT2⟩, va_Zof (hts _ tls_3) (hts _ tw_8) (va_eqi (hs _ fl_cs)) hnA, ?_, hvS, va_Zqof (hts _ tls_4) (hts _ tw_10) (hs _ fl_si) hnA⟩
  intro i hi x hx
  match i, hi, hx with
  | 0, hi, hx => cases hx; exact vk_R.of (hts _ tsr_0) (hev 0 hi)
  | 1, hi, hx => cases hx; exact vk_R.of (hts _ tsr_1) (hev 1 hi)
  | 2, hi, hx => cases hx; exact vk_R.of (hts _ tsr_2) (hev 2 hi)
  | 3, hi, hx => cases hx; exact vk_R.of (hts _ tsr_3) (hev 3 hi)
  | 4, hi, hx => cases hx; exact vk_R.of (hts _ tsr_4) (hev 4 hi)
  | 5, hi, hx => cases hx; exact vk_R.of (hts _ tsr_5) (hev 5 hi)
  | 6, hi, hx => cases hx; exact vk_R.of (hts _ tsr_6) (hev 6 hi)
  | 7, hi, hx => cases hx; exact vk_R.of (hts _ tsr_7) (hev 7 hi)
  | 8, hi, hx => cases hx; exact vk_R.of (hts _ tsr_8) (hev 8 hi)
  | 9, hi, hx => cases hx; exact vk_R.of (hts _ tsr_9) (hev 9 hi)
  | 10, hi, hx => cases hx; exact vk_R.of (hts _ tsr_10) (hev 10 hi)
  | 11, hi, hx => cases hx; exact vk_R.of (hts _ tsr_11) (hev 11 hi)
  | 12, hi, hx => cases hx; exact vk_R.of (hts _ tsr_12) (hev 12 hi)
  | i + 13, hi, _ => omega
set_option maxHeartbeats 4000000 in
set_option maxRecDepth 20000 in
theorem whole_of {R : Mem → Mem → Prop} (hinit : w_X7_init S0x (fun S => w_X8_init T0m (fun T => R S T))) (hR : ∀ S T, R S T → ∀ k a1 a2 a3 a4 a5, wLaw k a1 a2 a3 a4 a5 S T R) {p : Program} {e : Env} {s : State} {m : MethodId} {below : List Frame} {meth : Method} {c : Code} (l : Launch) {b L : Nat} {xs : Nat → Int32} (hL : L ≤ 384) (C0 : lw_At p s m meth c b L xs) : W p l e room_1 s m #[Value.ref b] below meth c s.heap [] 0 0 (lw_Z below #[Value.ref b] s) (entryFrame m ([Value.ref b] : List Value).toArray 4) := by
  obtain ⟨hx, hb, hr, hml, hown, hts, hX, hbl, hlocks, hgv⟩ := id C0
  have hWD : WD s := WD.of hts
  obtain ⟨ts, sa, sv, hSt⟩ := st_here hts hgv
  obtain ⟨c0, i0, k0⟩ := u_known (C := RX0) (T := TX0) (N := 3) (n := 3) hts (fun w h => (wlX0 w h).1) (hts _ tw_32)
  obtain ⟨c1, i1, k1⟩ := u_known (C := RX1) (T := TX1) (N := 8) (n := 8) hts (fun w h => (wlX1 w h).1) (hts _ tw_84)
  obtain ⟨c2, i2, k2⟩ := u_known (C := RX2) (T := TX2) (N := 3) (n := 3) hts (fun w h => (wlX2 w h).1) (hts _ tw_90)
  obtain ⟨c3, i3, k3⟩ := u_known (C := RX3) (T := TX3) (N := 3) (n := 3) hts (fun w h => (wlX3 w h).1) (hts _ tw_169)
  obtain ⟨c4, i4, k4⟩ := u_known (C := RX4) (T := TX4) (N := 7) (n := 7) hts (fun w h => (wlX4 w h).1) (hts _ tw_136)
  obtain ⟨c5, i5, k5⟩ := u_known (C := RX5) (T := TX5) (N := 7) (n := 7) hts (fun w h => (wlX5 w h).1) (hts _ tw_25)
  obtain ⟨c6, i6, k6⟩ := u_known (C := RX7) (T := TX7) (N := 8) (n := 8) hts (fun w h => (wlX7 w h).1) (hts _ tw_17)
  obtain ⟨c7, i7, k7⟩ := u_known (C := RX8) (T := TX8) (N := 46) (n := 46) hts (fun w h => (wlX8 w h).1) (hts _ tw_752)
  obtain ⟨D, hKc⟩ : ∃ D : va_G, ∀ (k : Nat) (q : vw_C), vwCl[k]? = some q → u_Kn s q.1 q.2.1 q.2.2 (D.1 k) (D.2 k) := by
    refine ⟨(fun k => ([c0, c1, c2, c3, c4, c5, c6, c7] : List ClassId).getD k c0, fun k => ([i0, i1, i2, i3, i4, i5, i6, i7] : List (Nat → Nat)).getD k i0), ?_⟩
    intro k q hq
    match k, hq with
    | 0, hq => cases hq; exact k0
    | 1, hq => cases hq; exact k1
    | 2, hq => cases hq; exact k2
    | 3, hq => cases hq; exact k3
    | 4, hq => cases hq; exact k4
    | 5, hq => cases hq; exact k5
    | 6, hq => cases hq; exact k6
    | 7, hq => cases hq; exact k7
    | k + 8, hq => simp [vwCl] at hq
  obtain ⟨aI, kI, coI, f1, f2, f3⟩ := Cond.arrayClass_spec (hts _ tw_ac)
  obtain ⟨coL, aL, kL, l1, -, l2, l3, l4⟩ := Cond.arrayOver_spec (hts _ tao_L)
  obtain ⟨coR, aR, kR, r1, -, r2, r3, r4⟩ := Cond.arrayOver_spec (hts _ tao_R)
  obtain ⟨coS, aS, kS, s1, -, s2, s3, s4⟩ := Cond.arrayOver_spec (hts _ tao_S)
  have hO : AOs s := ⟨va_AO.of (hts _ tao_L), va_AO.of (hts _ tao_R), va_AO.of (hts _ tao_S)⟩
  obtain ⟨t, hK⟩ : ∃ t : TiT, va_K D vwCl (tysOf t) s := by
    refine ⟨(aI, aL, aR, aS), hKc, ?_⟩
    intro k q hq
    match k, hq with
    | 0, hq => cases hq; exact ⟨fun n z => ⟨fun k h => (by cases h), kI, f2, coI, f3⟩, f1⟩
    | 1, hq => cases hq; exact ⟨fun n z => ⟨fun k h => (by cases h), kL, l2, coL, l3⟩, kL, coL, l2, l3, l1, l4⟩
    | 2, hq => cases hq; exact ⟨fun n z => ⟨fun k h => (by cases h), kR, r2, coR, r3⟩, kR, coR, r2, r3, r1, r4⟩
    | 3, hq => cases hq; exact ⟨fun n z => ⟨fun k h => (by cases h), kS, s2, coS, s3⟩, kS, coS, s2, s3, s1, s4⟩
    | k + 4, hq => simp at hq
  have hA : ∀ q : Nat, s.heap.size ≤ q → A0 s q := fun _ h => h
  have hS : va_S (A0 s) s.heap s.heap [] := va_S.rf
  have hP : va_P D vwCl [] s.heap := fun k q h => by simp at h
  have hD : va_D (A0 s) [] := ⟨fun i j p q h => by simp at h, fun k q h => by simp at h⟩
  have hl := lv_entry ([.ref b]) (n := 4) (Nat.le_of_ble_eq_true rfl)
  rw [lg_entry_eq]
  generalize (lg_sl ([.ref b]) ++ List.replicate (4 - (lg_sl ([.ref b])).length) Slot.unset).toArray = ls at hl ⊢
  have hl : lv_has ls 4 [(0, .ref b)] := hl
  have hnil : ∀ w ∈ ([] : List Cond), w.before #[Value.ref b] s = true := fun w hw => by cases hw
  have hcode : ∀ {y : MethodName} {bytes : ByteArray} {maxL n : Nat}, CalC y bytes maxL none n → ∀ w ∈ [Cond.code y bytes maxL none], ∀ (a' : Array Value) (U : State), s.WarmedH U.vm → w.before a' U = true := fun hc w hw a' U hU => by
    rw [List.mem_singleton.mp hw]
    exact wd_warm (a := #[Value.ref b]) rfl hU (hWD _ hc.1 rfl _)
  refine va_new (ci := 6) (fs := [.null, .null, .int 0, .null, .null, .int 0, .null, .null]) (C := RX7) (T := TX7) (N := 8) hx hb hts (fun w h => (wlX7 w h).1) tyX7 tyX7_ok hown (hts _ tw_16) (hts _ tw_17) (hts _ tw_1) hK hP hD hS hA rfl (fun j hj => by rcases (show j = 0 ∨ j = 1 ∨ j = 2 ∨ j = 3 ∨ j = 4 ∨ j = 5 ∨ j = 6 ∨ j = 7 by omega) with rfl | rfl | rfl | rfl | rfl | rfl | rfl | rfl <;> rfl) (Nat.le_of_ble_eq_true rfl) (Nat.le_of_ble_eq_true rfl) dL_law_0 (fun h0 H hP hD hS => ?_)
  have hP : va_P D vwCl [(h0, .inr (6, [.null, .null, .int 0, .null, .null, .int 0, .null, .null]))] H := hP
  have hD : va_D (A0 s) [(h0, .inr (6, [.null, .null, .int 0, .null, .null, .int 0, .null, .null]))] := hD
  refine lv_dup hx hb dL_law_3 rfl ?_
  have hF : ∀ q, va_A [(h0, .inr (6, [.null, .null, .int 0, .null, .null, .int 0, .null, .null]))] H.size q → A0 s q := fun q hq => by
    rcases A_one hq with rfl | h
    · exact hD.2 0 _ rfl
    · exact Nat.le_trans hS.1 h
  have hpre : ∀ U : State, U.heap = H → s.WarmedH U.vm → va_Pc [.ref h0] (PreXI h0 H.size D t ts sa sv) [Value.ref h0].toArray U := fun U hU hW => ⟨rfl, by rw [hU], by rw [hU]; exact hP, va_K.moved hW.alike hK, hD.weaken (fun _ _ _ _ => trivial), hWD.warm hW, hO.moved hW.alike, by
    rw [hU]
    exact hSt.go hW (fun a h1 h2 => hS.2.1 a h1 h2) hF⟩
  refine va_callv (va_runI (As := []) (rest := [.ref h0]) ⟨hx, hb, hml, hown, hnil⟩ (m_X7_init l D t ts sa sv h0 H.size _ hinit) ⟨⟨rfl, rfl, Nat.le_of_ble_eq_true rfl, Nat.le_of_ble_eq_true rfl, hcode cal_X7_init, List.mem_singleton.mpr rfl, hWD _ cal_X7_init.1 rfl _, hWD _ cal_X7_init.2.1 rfl _, cal_X7_init.2.2.1, cal_X7_init.2.2.2, hts _ tw_18⟩, rfl, hts _ tw_19⟩ ⟨prexi_blind, hpre⟩ rfl rfl hl.1 rfl (lv_room (Nat.le_of_ble_eq_true rfl)) dL_law_4 ⟨Nat.le_of_ble_eq_true rfl, Nat.le_of_ble_eq_true rfl⟩) hS (fun q _ h => hF q h) hF (fun ux tx H1 locs1 ht hvm hw hB hz1 hk1 hS1 => ?_)
  obtain ⟨qx, Sx⟩ := ux
  obtain ⟨hq0, hBx, hDx⟩ := hB
  have hP1 : va_P D vwCl (GW (oXq qx t D ts sa sv) Sx) H1 := by rw [← ht]; exact hBx.1
  have hD1 : va_D (A0 s) (GW (oXq qx t D ts sa sv) Sx) := hDx.weaken (fun _ _ _ h => hF _ h)
  have hq0 : qx 0 = h0 := hq0
  subst hq0
  refine lv_astore_n (lv' := [(1, .ref (qx 0)), (0, .ref b)]) hx hb dL_law_7 rfl hl (by decide) rfl (fun ls hl => ?_)
  refine va_new (ci := 7) (fs := [.null, .null, .null, .null, .int 0, .int 0, .int 0, .int 0, .int 0, .null, .null, .null, .null, .int 0, .int 0, .int 0, .int 0, .int 0, .int 0, .int 0, .null, .null, .int 0, .null, .int 0, .int 0, .int 0, .int 0, .null, .null, .null, .int 0, .int 0, .int 0, .int 0, .int 0, .int 0, .null, .int 0, .null, .int 0, .int 0, .null, .null, .null, .null]) (C := RX8) (T := TX8) (N := 46) hx hb hts (fun w h => (wlX8 w h).1) tyX8 tyX8_ok hown (hts _ tw_751) (hts _ tw_752) (hts _ tw_14) hK hP1 hD1 hS1 hA rfl (fun j hj => by rcases (show j = 0 ∨ j = 1 ∨ j = 2 ∨ j = 3 ∨ j = 4 ∨ j = 5 ∨ j = 6 ∨ j = 7 ∨ j = 8 ∨ j = 9 ∨ j = 10 ∨ j = 11 ∨ j = 12 ∨ j = 13 ∨ j = 14 ∨ j = 15 ∨ j = 16 ∨ j = 17 ∨ j = 18 ∨ j = 19 ∨ j = 20 ∨ j = 21 ∨ j = 22 ∨ j = 23 ∨ j = 24 ∨ j = 25 ∨ j = 26 ∨ j = 27 ∨ j = 28 ∨ j = 29 ∨ j = 30 ∨ j = 31 ∨ j = 32 ∨ j = 33 ∨ j = 34 ∨ j = 35 ∨ j = 36 ∨ j = 37 ∨ j = 38 ∨ j = 39 ∨ j = 40 ∨ j = 41 ∨ j = 42 ∨ j = 43 ∨ j = 44 ∨ j = 45 by omega) with rfl | rfl | rfl | rfl | rfl | rfl | rfl | rfl | rfl | rfl | rfl | rfl | rfl | rfl | rfl | rfl | rfl | rfl | rfl | rfl | rfl | rfl | rfl | rfl | rfl | rfl | rfl | rfl | rfl | rfl | rfl | rfl | rfl | rfl | rfl | rfl | rfl | rfl | rfl | rfl | rfl | rfl | rfl | rfl | rfl | rfl <;> rfl) (Nat.le_of_ble_eq_true rfl) (Nat.le_of_ble_eq_true rfl) dL_law_8 (fun k0 H2 hP2 hD2 hS2 => ?_)
  refine lv_dup hx hb dL_law_11 rfl ?_
  have hPm := P_app_r hP2
  have hPx := P_app_l hP2
  have hDm : va_D (A0 s) [(k0, .inr (7, [.null, .null, .null, .null, .int 0, .int 0, .int 0, .int 0, .int 0, .null, .null, .null, .null, .int 0, .int 0, .int 0, .int 0, .int 0, .int 0, .int 0, .null, .null, .int 0, .null, .int 0, .int 0, .int 0, .int 0, .null, .null, .null, .int 0, .int 0, .int 0, .int 0, .int 0, .int 0, .null, .int 0, .null, .int 0, .int 0, .null, .null, .null, .null]))] := ⟨fun i j p q hi hj _ => by
    have h1 := (List.getElem?_eq_some_iff.mp hi).1
    have h2 := (List.getElem?_eq_some_iff.mp hj).1
    simp at h1 h2
    omega, fun k q hk => hD2.2 ((GW (oXq qx t D ts sa sv) Sx).length + k) q (by rw [List.getElem?_append_right (by omega), Nat.add_sub_cancel_left]; exact hk)⟩
  have hF2 : ∀ q, va_A [(k0, .inr (7, [.null, .null, .null, .null, .int 0, .int 0, .int 0, .int 0, .int 0, .null, .null, .null, .null, .int 0, .int 0, .int 0, .int 0, .int 0, .int 0, .int 0, .null, .null, .int 0, .null, .int 0, .int 0, .int 0, .int 0, .null, .null, .null, .int 0, .int 0, .int 0, .int 0, .int 0, .int 0, .null, .int 0, .null, .int 0, .int 0, .null, .null, .null, .null]))] H2.size q → A0 s q := fun q hq => by
    rcases A_one hq with rfl | h
    · exact hDm.2 0 _ rfl
    · exact Nat.le_trans hS2.1 h
  have hpre2 : ∀ U : State, U.heap = H2 → s.WarmedH U.vm → va_Pc [.ref k0] (PreMI k0 H2.size D t) [Value.ref k0].toArray U := fun U hU hW => ⟨rfl, by rw [hU], by rw [hU]; exact hPm, va_K.moved hW.alike hK, hDm.weaken (fun _ _ _ _ => trivial), hWD.warm hW, hO.moved hW.alike⟩
  have hbl2 : FrameBlind (va_Pc [.ref k0] (PreMI k0 H2.size D t)) := mc_blind
  refine va_callv (va_runI (As := []) (rest := [.ref k0]) ⟨hx, hb, hml, hown, hnil⟩ (m_X8_init l D t k0 H2.size _ hw) ⟨⟨rfl, rfl, Nat.le_of_ble_eq_true rfl, Nat.le_of_ble_eq_true rfl, hcode cal_X8_init, List.mem_singleton.mpr rfl, hWD _ cal_X8_init.1 rfl _, hWD _ cal_X8_init.2.1 rfl _, cal_X8_init.2.2.1, cal_X8_init.2.2.2, hts _ tw_753⟩, rfl, hts _ tw_754⟩ ⟨hbl2, hpre2⟩ rfl rfl hl.1 rfl (lv_room (Nat.le_of_ble_eq_true rfl)) dL_law_12 ⟨Nat.le_of_ble_eq_true rfl, Nat.le_of_ble_eq_true rfl⟩) hS2 (fun q _ h => hF2 q h) hF2 (fun um tm2 H3 locs3 ht3 hvm3 hw3 hB3 hz3 hk3 hS3 => ?_)
  obtain ⟨qm, Tm⟩ := um
  obtain ⟨hm0, hBm, hDm3⟩ := hB3
  have hP3 : va_P D vwCl (GW (oMq qm t D) Tm) H3 := by rw [← ht3]; exact hBm.1
  have hm0 : qm 0 = k0 := hm0
  subst hm0
  have hxm : ∀ q, AX (oXq qx t D ts sa sv) q → q < H2.size ∧ q ≠ qm 0 := by
    rintro q ⟨c, hc, rfl⟩
    exact ⟨(hPx c _ (gw_at Sx hc)).lt, D_app_x hD2 c 0 _ _ (gw_at Sx hc) rfl⟩
  have hAm : ∀ q, AX (oMq qm t D) q → va_A [(qm 0, .inr (7, [.null, .null, .null, .null, .int 0, .int 0, .int 0, .int 0, .int 0, .null, .null, .null, .null, .int 0, .int 0, .int 0, .int 0, .int 0, .int 0, .int 0, .null, .null, .int 0, .null, .int 0, .int 0, .int 0, .int 0, .null, .null, .null, .int 0, .int 0, .int 0, .int 0, .int 0, .int 0, .null, .int 0, .null, .int 0, .int 0, .null, .null, .null, .null]))] H2.size q := by
    rintro q ⟨c, hc, rfl⟩
    exact hDm3.2 c _ (gw_at Tm hc)
  have hdis : ∀ q, AX (oXq qx t D ts sa sv) q → ¬ va_A [(qm 0, .inr (7, [.null, .null, .null, .null, .int 0, .int 0, .int 0, .int 0, .int 0, .null, .null, .null, .null, .int 0, .int 0, .int 0, .int 0, .int 0, .int 0, .int 0, .null, .null, .int 0, .null, .int 0, .int 0, .int 0, .int 0, .null, .null, .null, .int 0, .int 0, .int 0, .int 0, .int 0, .int 0, .null, .int 0, .null, .int 0, .int 0, .null, .null, .null, .null]))] H2.size q := fun q h1 h2 => by
    obtain ⟨h3, h4⟩ := hxm q h1
    rcases A_one h2 with h5 | h5
    · exact h4 h5
    · omega
  have hPx3 : va_P D vwCl (GW (oXq qx t D ts sa sv) Sx) H3 := ax_kept hPx (dw_of hD1) hdis hk3
  have hAx : ∀ q, AX (oXq qx t D ts sa sv) q → A0 s q := by
    rintro q ⟨c, hc, rfl⟩
    exact hD1.2 c _ (gw_at Sx hc)
  refine lv_astore_n (lv' := [(2, .ref (qm 0)), (1, .ref (qx 0)), (0, .ref b)]) hx hb dL_law_15 rfl hl (by decide) rfl (fun ls hl => ?_)
  refine lv_iconst (v := 0) hx hb dL_law_16 (by decide) ?_
  refine lv_istore_n (lv' := [(3, .int 0), (2, .ref (qm 0)), (1, .ref (qx 0)), (0, .ref b)]) hx hb dL_law_17 rfl hl (by decide) rfl (fun ls hl => ?_)
  refine W.widen (k := 600000) (n := 7302250) (Nat.le_of_ble_eq_true rfl) (Nat.le_of_ble_eq_true rfl) ?_
  have okL : OkL l (p, l, e, s, m, below, meth, c, b) (qx, t, D, ts, sa, sv) (qm, t.1, D) L xs := ⟨rfl, hx, hb, hml, hown, hWD, hr, hlocks, hK, hK.sub [0] rfl, dw_of hD1, dw_of hDm3, hSt.go (State.WarmedH.refl s) (fun _ _ _ => rfl) hAx, hAx, fun q hq => hF2 q (hAm q hq), fun q h1 h2 => hdis q h1 (hAm q h2), hX, hbl, hL⟩
  exact law_loop okL hR (L + 1) 0 0 Sx Tm nI_0.symm (Nat.zero_le L) (by omega) hw3 _ _ _ hl hPx3 hP3 hS3
