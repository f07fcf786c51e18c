
theorem hcs_of {g : CxT} {Y : List Frame → Array Value → State → (State → Prop) → Prop} {mc ms cl2 sk2 : Nat} (hq : ∀ (p : Program) (l : Launch) e s m args below meth c Q cs sl, g = (p, l, e, s, m, args, below, meth, c, Q, cs, sl) → Y below args s Q ∧ cs = mc ∧ sl = ms) (h1 : cl2 ≤ mc) (h2 : sk2 ≤ ms) : ∀ (p : Program) (l : Launch) e s m args below meth c Q cs sl, g = (p, l, e, s, m, args, below, meth, c, Q, cs, sl) → cl2 ≤ cs ∧ sk2 ≤ sl := by
  intro p l e s m args below meth c Q cs sl hg
  obtain ⟨-, rfl, rfl⟩ := hq p l e s m args below meth c Q cs sl hg
  exact ⟨h1, h2⟩
theorem tw_ac : Cond.arrayClass .int ∈ lw_tbl := tm1 52 (by decide +kernel)
theorem tw_oi : Cond.instanceMethod Lib.objectInit ∈ lw_tbl := tm1 22 (by decide +kernel)
theorem tw_oc : Cond.code Lib.objectInit ⟨#[0xb1]⟩ 1 none ∈ lw_tbl := tm1 23 (by first | rfl | decide +kernel)
def wfX0 (t : TiT) (h0 : Nat) (u : Nat → Nat) : va_W := [(h0, .inr (0, [.int 0, .int 50, .int 0]))]
set_option maxHeartbeats 4000000 in
set_option maxRecDepth 20000 in
theorem m_X0_init (l : Launch) (D : va_G) (t : TiT) : MC l yX0_init cX0_init 1 2 0 0 D t (.inr (0, [.int 0, .int 0, .int 0])) (wfX0 t) := by
  refine mc_start (by decide +kernel) rfl (by decide) (fun h0 sz A g hA ok hq => ?_)
  refine ga_aload_n 0 (n := 1) ok dX0_init_0 rfl rfl ?_
  refine ga_objInit (n := 4) ok tw_36 tw_oi tw_oc (by decide) (Nat.le_of_ble_eq_true rfl) dX0_init_1 rfl ?_
  refine ga_aload_n 0 (n := 5) ok dX0_init_4 rfl rfl ?_
  refine ga_iconst (v := 0) (n := 6) ok dX0_init_5 rfl (by decide) ?_
  refine ga_put (ty := .int) (C := RX0) (T := TX0) (N := 3) (ci := 0) (n := 9) ok 0 0 rfl rfl (by decide) rfl wlX0 tw_37 tyX0_ok nmX0 rfl (by decide +kernel) rfl rfl (Nat.le_of_ble_eq_true rfl) [(h0, .inr (0, [.int 0, .int 0, .int 0]))] rfl dX0_init_6 rfl ?_
  refine ga_aload_n 0 (n := 10) ok dX0_init_9 rfl rfl ?_
  refine ga_bipush (v := 50) (n := 12) ok dX0_init_10 rfl (by decide) ?_
  refine ga_put (ty := .int) (C := RX0) (T := TX0) (N := 3) (ci := 0) (n := 15) ok 0 1 rfl rfl (by decide) rfl wlX0 tw_39 tyX0_ok nmX0 rfl (by decide +kernel) rfl rfl (Nat.le_of_ble_eq_true rfl) [(h0, .inr (0, [.int 0, .int 50, .int 0]))] rfl dX0_init_12 rfl ?_
  refine ga_aload_n 0 (n := 16) ok dX0_init_15 rfl rfl ?_
  refine ga_iconst (v := 0) (n := 17) ok dX0_init_16 rfl (by decide) ?_
  refine ga_put (ty := .int) (C := RX0) (T := TX0) (N := 3) (ci := 0) (n := 20) ok 0 2 rfl rfl (by decide) rfl wlX0 tw_42 tyX0_ok nmX0 rfl (by decide +kernel) rfl rfl (Nat.le_of_ble_eq_true rfl) [(h0, .inr (0, [.int 0, .int 50, .int 0]))] rfl dX0_init_17 rfl ?_
  exact ga_vret (wf := wfX0 t) (fun i => ([] : List Nat).getD i 0) ok hA (fun p l e s m args below meth c Q cs sl hg => (hq p l e s m args below meth c Q cs sl hg).1) (by decide) (by decide) rfl dX0_init_20
def wfX2 (t : TiT) (h0 : Nat) (u : Nat → Nat) : va_W := [(h0, .inr (2, [.ref (u 0), .ref (u 1), .int 0])), (u 0, .inl (t.1, 160, .inl (fun _ => 0))), (u 1, .inl (t.1, 3, .inl (fun _ => 0)))]
set_option maxHeartbeats 4000000 in
set_option maxRecDepth 20000 in
theorem m_X2_init (l : Launch) (D : va_G) (t : TiT) : MC l yX2_init cX2_init 1 2 2 163 D t (.inr (2, [.null, .null, .int 0])) (wfX2 t) := by
  refine mc_start (by decide +kernel) rfl (by decide) (fun h0 sz A g hA ok hq => ?_)
  refine ga_aload_n 0 (n := 1) ok dX2_init_0 rfl rfl ?_
  refine ga_objInit (n := 4) ok tw_94 tw_oi tw_oc (by decide) (Nat.le_of_ble_eq_true rfl) dX2_init_1 rfl ?_
  refine ga_aload_n 0 (n := 5) ok dX2_init_4 rfl rfl ?_
  refine ga_sipush (v := 160) (n := 8) ok dX2_init_5 rfl (by decide) ?_
  refine ga_newa (N := 160) (n := 10) (cl2 := 1) (sk2 := 160) ok tw_ac (by decide) (by decide) (by decide) (fun q1 => [(h0, .inr (2, [.null, .null, .int 0])), (q1, .inl (t.1, 160, .inl (fun _ => 0)))]) (fun _ => rfl) rfl rfl (hcs_of hq (Nat.le_of_ble_eq_true rfl) (Nat.le_of_ble_eq_true rfl)) dX2_init_8 rfl (fun q1 => ?_)
  refine ga_putF (ty := (.array .int)) (C := RX2) (T := TX2) (N := 3) (ci := 2) (n := 13) ok 0 0 rfl rfl (by decide) rfl wlX2 tw_95 tyX2_ok nmX2 rfl rfl (by decide +kernel) rfl rfl (Nat.le_of_ble_eq_true rfl) [(h0, .inr (2, [.ref q1, .null, .int 0])), (q1, .inl (t.1, 160, .inl (fun _ => 0)))] rfl dX2_init_10 rfl ?_
  refine ga_aload_n 0 (n := 14) ok dX2_init_13 rfl rfl ?_
  refine ga_iconst (v := 3) (n := 15) ok dX2_init_14 rfl (by decide) ?_
  refine ga_newa (N := 3) (n := 17) (cl2 := 2) (sk2 := 163) ok tw_ac (by decide) (by decide) (by decide) (fun q2 => [(h0, .inr (2, [.ref q1, .null, .int 0])), (q1, .inl (t.1, 160, .inl (fun _ => 0))), (q2, .inl (t.1, 3, .inl (fun _ => 0)))]) (fun _ => rfl) rfl rfl (hcs_of hq (Nat.le_of_ble_eq_true rfl) (Nat.le_of_ble_eq_true rfl)) dX2_init_15 rfl (fun q2 => ?_)
  refine ga_putF (ty := (.array .int)) (C := RX2) (T := TX2) (N := 3) (ci := 2) (n := 20) ok 0 1 rfl rfl (by decide) rfl wlX2 tw_96 tyX2_ok nmX2 rfl rfl (by decide +kernel) rfl rfl (Nat.le_of_ble_eq_true rfl) [(h0, .inr (2, [.ref q1, .ref q2, .int 0])), (q1, .inl (t.1, 160, .inl (fun _ => 0))), (q2, .inl (t.1, 3, .inl (fun _ => 0)))] rfl dX2_init_17 rfl ?_
  refine ga_aload_n 0 (n := 21) ok dX2_init_20 rfl rfl ?_
  refine ga_iconst (v := 0) (n := 22) ok dX2_init_21 rfl (by decide) ?_
  refine ga_put (ty := .int) (C := RX2) (T := TX2) (N := 3) (ci := 2) (n := 25) ok 0 2 rfl rfl (by decide) rfl wlX2 tw_97 tyX2_ok nmX2 rfl (by decide +kernel) rfl rfl (Nat.le_of_ble_eq_true rfl) [(h0, .inr (2, [.ref q1, .ref q2, .int 0])), (q1, .inl (t.1, 160, .inl (fun _ => 0))), (q2, .inl (t.1, 3, .inl (fun _ => 0)))] rfl dX2_init_22 rfl ?_
  exact ga_vret (wf := wfX2 t) (fun i => ([q1, q2] : List Nat).getD i 0) ok hA (fun p l e s m args below meth c Q cs sl hg => (hq p l e s m args below meth c Q cs sl hg).1) (by decide) (by decide) rfl dX2_init_25
def wfX1 (t : TiT) (h0 : Nat) (u : Nat → Nat) : va_W := [(h0, .inr (1, [.ref (u 0), .ref (u 1), .int 0, .int 0, .int 0, .int 0, .int 0, .int (-1)])), (u 0, .inl (t.1, 160, .inl (fun _ => 0))), (u 1, .inr (2, [.ref (u 2), .ref (u 3), .int 0])), (u 2, .inl (t.1, 160, .inl (fun _ => 0))), (u 3, .inl (t.1, 3, .inl (fun _ => 0)))]
set_option maxHeartbeats 4000000 in
set_option maxRecDepth 20000 in
theorem m_X1_init (l : Launch) (D : va_G) (t : TiT) : MC l yX1_init cX1_init 1 3 4 326 D t (.inr (1, [.null, .null, .int 0, .int 0, .int 0, .int 0, .int 0, .int 0])) (wfX1 t) := by
  refine mc_start (by decide +kernel) rfl (by decide) (fun h0 sz A g hA ok hq => ?_)
  refine ga_aload_n 0 (n := 1) ok dX1_init_0 rfl rfl ?_
  refine ga_objInit (n := 4) ok tw_88 tw_oi tw_oc (by decide) (Nat.le_of_ble_eq_true rfl) dX1_init_1 rfl ?_
  refine ga_aload_n 0 (n := 5) ok dX1_init_4 rfl rfl ?_
  refine ga_sipush (v := 160) (n := 8) ok dX1_init_5 rfl (by decide) ?_
  refine ga_newa (N := 160) (n := 10) (cl2 := 1) (sk2 := 160) ok tw_ac (by decide) (by decide) (by decide) (fun q1 => [(h0, .inr (1, [.null, .null, .int 0, .int 0, .int 0, .int 0, .int 0, .int 0])), (q1, .inl (t.1, 160, .inl (fun _ => 0)))]) (fun _ => rfl) rfl rfl (hcs_of hq (Nat.le_of_ble_eq_true rfl) (Nat.le_of_ble_eq_true rfl)) dX1_init_8 rfl (fun q1 => ?_)
  refine ga_putF (ty := (.array .int)) (C := RX1) (T := TX1) (N := 8) (ci := 1) (n := 13) ok 0 0 rfl rfl (by decide) rfl wlX1 tw_106 tyX1_ok nmX1 rfl rfl (by decide +kernel) rfl rfl (Nat.le_of_ble_eq_true rfl) [(h0, .inr (1, [.ref q1, .null, .int 0, .int 0, .int 0, .int 0, .int 0, .int 0])), (q1, .inl (t.1, 160, .inl (fun _ => 0)))] rfl dX1_init_10 rfl ?_
  refine ga_aload_n 0 (n := 14) ok dX1_init_13 rfl rfl ?_
  refine ga_new (C := RX2) (T := TX2) (N := 3) (ci := 2) (n := 17) (cl2 := 2) (sk2 := 163) ok wlX2 tyX2_ok rfl tw_89 tw_90 tw_5 (fun j hj => by rcases (show j = 0 ∨ j = 1 ∨ j = 2 by omega) with rfl | rfl | rfl <;> rfl) (fun q2 => [(h0, .inr (1, [.ref q1, .null, .int 0, .int 0, .int 0, .int 0, .int 0, .int 0])), (q1, .inl (t.1, 160, .inl (fun _ => 0))), (q2, .inr (2, [.null, .null, .int 0]))]) (fun _ => rfl) rfl rfl (hcs_of hq (Nat.le_of_ble_eq_true rfl) (Nat.le_of_ble_eq_true rfl)) dX1_init_14 rfl (fun q2 => ?_)
  refine ga_dup (n := 18) ok dX1_init_17 rfl rfl ?_
  refine ga_initN (n := 21) (wf := wfX2 t) (wr := [(h0, .inr (1, [.ref q1, .null, .int 0, .int 0, .int 0, .int 0, .int 0, .int 0])), (q1, .inl (t.1, 160, .inl (fun _ => 0)))]) (cl2 := 4) (sk2 := 326) ok 2 [0, 1] (m_X2_init l D t) cal_X2_init rfl tw_91 tw_92 (by decide) (by decide) (Nat.le_of_ble_eq_true rfl) rfl rfl rfl (by decide) (fun u3 => [(h0, .inr (1, [.ref q1, .null, .int 0, .int 0, .int 0, .int 0, .int 0, .int 0])), (q1, .inl (t.1, 160, .inl (fun _ => 0))), (q2, .inr (2, [.ref (u3 0), .ref (u3 1), .int 0])), (u3 0, .inl (t.1, 160, .inl (fun _ => 0))), (u3 1, .inl (t.1, 3, .inl (fun _ => 0)))]) (fun _ => rfl) rfl rfl (hcs_of hq (Nat.le_of_ble_eq_true rfl) (Nat.le_of_ble_eq_true rfl)) dX1_init_18 rfl (fun u3 => ?_)
  refine ga_putF (ty := (.object "TableRocks$Rule")) (C := RX1) (T := TX1) (N := 8) (ci := 1) (n := 24) ok 0 1 rfl rfl (by decide) rfl wlX1 tw_107 tyX1_ok nmX1 rfl rfl (by decide +kernel) rfl rfl (Nat.le_of_ble_eq_true rfl) [(h0, .inr (1, [.ref q1, .ref q2, .int 0, .int 0, .int 0, .int 0, .int 0, .int 0])), (q1, .inl (t.1, 160, .inl (fun _ => 0))), (q2, .inr (2, [.ref (u3 0), .ref (u3 1), .int 0])), (u3 0, .inl (t.1, 160, .inl (fun _ => 0))), (u3 1, .inl (t.1, 3, .inl (fun _ => 0)))] rfl dX1_init_21 rfl ?_
  refine ga_aload_n 0 (n := 25) ok dX1_init_24 rfl rfl ?_
  refine ga_iconst (v := 0) (n := 26) ok dX1_init_25 rfl (by decide) ?_
  refine ga_put (ty := .int) (C := RX1) (T := TX1) (N := 8) (ci := 1) (n := 29) ok 0 2 rfl rfl (by decide) rfl wlX1 tw_109 tyX1_ok nmX1 rfl (by decide +kernel) rfl rfl (Nat.le_of_ble_eq_true rfl) [(h0, .inr (1, [.ref q1, .ref q2, .int 0, .int 0, .int 0, .int 0, .int 0, .int 0])), (q1, .inl (t.1, 160, .inl (fun _ => 0))), (q2, .inr (2, [.ref (u3 0), .ref (u3 1), .int 0])), (u3 0, .inl (t.1, 160, .inl (fun _ => 0))), (u3 1, .inl (t.1, 3, .inl (fun _ => 0)))] rfl dX1_init_26 rfl ?_
  refine ga_aload_n 0 (n := 30) ok dX1_init_29 rfl rfl ?_
  refine ga_iconst (v := 0) (n := 31) ok dX1_init_30 rfl (by decide) ?_
  refine ga_put (ty := .int) (C := RX1) (T := TX1) (N := 8) (ci := 1) (n := 34) ok 0 3 rfl rfl (by decide) rfl wlX1 tw_111 tyX1_ok nmX1 rfl (by decide +kernel) rfl rfl (Nat.le_of_ble_eq_true rfl) [(h0, .inr (1, [.ref q1, .ref q2, .int 0, .int 0, .int 0, .int 0, .int 0, .int 0])), (q1, .inl (t.1, 160, .inl (fun _ => 0))), (q2, .inr (2, [.ref (u3 0), .ref (u3 1), .int 0])), (u3 0, .inl (t.1, 160, .inl (fun _ => 0))), (u3 1, .inl (t.1, 3, .inl (fun _ => 0)))] rfl dX1_init_31 rfl ?_
  refine ga_aload_n 0 (n := 35) ok dX1_init_34 rfl rfl ?_
  refine ga_iconst (v := 0) (n := 36) ok dX1_init_35 rfl (by decide) ?_
  refine ga_put (ty := .int) (C := RX1) (T := TX1) (N := 8) (ci := 1) (n := 39) ok 0 4 rfl rfl (by decide) rfl wlX1 tw_112 tyX1_ok nmX1 rfl (by decide +kernel) rfl rfl (Nat.le_of_ble_eq_true rfl) [(h0, .inr (1, [.ref q1, .ref q2, .int 0, .int 0, .int 0, .int 0, .int 0, .int 0])), (q1, .inl (t.1, 160, .inl (fun _ => 0))), (q2, .inr (2, [.ref (u3 0), .ref (u3 1), .int 0])), (u3 0, .inl (t.1, 160, .inl (fun _ => 0))), (u3 1, .inl (t.1, 3, .inl (fun _ => 0)))] rfl dX1_init_36 rfl ?_
  refine ga_aload_n 0 (n := 40) ok dX1_init_39 rfl rfl ?_
  refine ga_iconst (v := 0) (n := 41) ok dX1_init_40 rfl (by decide) ?_
  refine ga_put (ty := .int) (C := RX1) (T := TX1) (N := 8) (ci := 1) (n := 44) ok 0 5 rfl rfl (by decide) rfl wlX1 tw_113 tyX1_ok nmX1 rfl (by decide +kernel) rfl rfl (Nat.le_of_ble_eq_true rfl) [(h0, .inr (1, [.ref q1, .ref q2, .int 0, .int 0, .int 0, .int 0, .int 0, .int 0])), (q1, .inl (t.1, 160, .inl (fun _ => 0))), (q2, .inr (2, [.ref (u3 0), .ref (u3 1), .int 0])), (u3 0, .inl (t.1, 160, .inl (fun _ => 0))), (u3 1, .inl (t.1, 3, .inl (fun _ => 0)))] rfl dX1_init_41 rfl ?_
  refine ga_aload_n 0 (n := 45) ok dX1_init_44 rfl rfl ?_
  refine ga_iconst (v := 0) (n := 46) ok dX1_init_45 rfl (by decide) ?_
  refine ga_put (ty := .int) (C := RX1) (T := TX1) (N := 8) (ci := 1) (n := 49) ok 0 6 rfl rfl (by decide) rfl wlX1 tw_114 tyX1_ok nmX1 rfl (by decide +kernel) rfl rfl (Nat.le_of_ble_eq_true rfl) [(h0, .inr (1, [.ref q1, .ref q2, .int 0, .int 0, .int 0, .int 0, .int 0, .int 0])), (q1, .inl (t.1, 160, .inl (fun _ => 0))), (q2, .inr (2, [.ref (u3 0), .ref (u3 1), .int 0])), (u3 0, .inl (t.1, 160, .inl (fun _ => 0))), (u3 1, .inl (t.1, 3, .inl (fun _ => 0)))] rfl dX1_init_46 rfl ?_
  refine ga_aload_n 0 (n := 50) ok dX1_init_49 rfl rfl ?_
  refine ga_iconst (v := -1) (n := 51) ok dX1_init_50 rfl (by decide) ?_
  refine ga_put (ty := .int) (C := RX1) (T := TX1) (N := 8) (ci := 1) (n := 54) ok 0 7 rfl rfl (by decide) rfl wlX1 tw_115 tyX1_ok nmX1 rfl (by decide +kernel) rfl rfl (Nat.le_of_ble_eq_true rfl) [(h0, .inr (1, [.ref q1, .ref q2, .int 0, .int 0, .int 0, .int 0, .int 0, .int (-1)])), (q1, .inl (t.1, 160, .inl (fun _ => 0))), (q2, .inr (2, [.ref (u3 0), .ref (u3 1), .int 0])), (u3 0, .inl (t.1, 160, .inl (fun _ => 0))), (u3 1, .inl (t.1, 3, .inl (fun _ => 0)))] rfl dX1_init_51 rfl ?_
  exact ga_vret (wf := wfX1 t) (fun i => ([q1, q2, u3 0, u3 1] : List Nat).getD i 0) ok hA (fun p l e s m args below meth c Q cs sl hg => (hq p l e s m args below meth c Q cs sl hg).1) (by decide) (by decide) rfl dX1_init_54
def wfX3 (t : TiT) (h0 : Nat) (u : Nat → Nat) : va_W := [(h0, .inr (3, [.int (-1), .int 0, .ref (u 0)])), (u 0, .inl (t.1, 40, .inl (fun _ => 0)))]
set_option maxHeartbeats 4000000 in
set_option maxRecDepth 20000 in
theorem m_X3_init (l : Launch) (D : va_G) (t : TiT) : MC l yX3_init cX3_init 1 2 1 40 D t (.inr (3, [.int 0, .int 0, .null])) (wfX3 t) := by
  refine mc_start (by decide +kernel) rfl (by decide) (fun h0 sz A g hA ok hq => ?_)
  refine ga_aload_n 0 (n := 1) ok dX3_init_0 rfl rfl ?_
  refine ga_objInit (n := 4) ok tw_173 tw_oi tw_oc (by decide) (Nat.le_of_ble_eq_true rfl) dX3_init_1 rfl ?_
  refine ga_aload_n 0 (n := 5) ok dX3_init_4 rfl rfl ?_
  refine ga_iconst (v := -1) (n := 6) ok dX3_init_5 rfl (by decide) ?_
  refine ga_put (ty := .int) (C := RX3) (T := TX3) (N := 3) (ci := 3) (n := 9) ok 0 0 rfl rfl (by decide) rfl wlX3 tw_174 tyX3_ok nmX3 rfl (by decide +kernel) rfl rfl (Nat.le_of_ble_eq_true rfl) [(h0, .inr (3, [.int (-1), .int 0, .null]))] rfl dX3_init_6 rfl ?_
  refine ga_aload_n 0 (n := 10) ok dX3_init_9 rfl rfl ?_
  refine ga_iconst (v := 0) (n := 11) ok dX3_init_10 rfl (by decide) ?_
  refine ga_put (ty := .int) (C := RX3) (T := TX3) (N := 3) (ci := 3) (n := 14) ok 0 1 rfl rfl (by decide) rfl wlX3 tw_176 tyX3_ok nmX3 rfl (by decide +kernel) rfl rfl (Nat.le_of_ble_eq_true rfl) [(h0, .inr (3, [.int (-1), .int 0, .null]))] rfl dX3_init_11 rfl ?_
  refine ga_aload_n 0 (n := 15) ok dX3_init_14 rfl rfl ?_
  refine ga_bipush (v := 40) (n := 17) ok dX3_init_15 rfl (by decide) ?_
  refine ga_newa (N := 40) (n := 19) (cl2 := 1) (sk2 := 40) ok tw_ac (by decide) (by decide) (by decide) (fun q1 => [(h0, .inr (3, [.int (-1), .int 0, .null])), (q1, .inl (t.1, 40, .inl (fun _ => 0)))]) (fun _ => rfl) rfl rfl (hcs_of hq (Nat.le_of_ble_eq_true rfl) (Nat.le_of_ble_eq_true rfl)) dX3_init_17 rfl (fun q1 => ?_)
  refine ga_putF (ty := (.array .int)) (C := RX3) (T := TX3) (N := 3) (ci := 3) (n := 22) ok 0 2 rfl rfl (by decide) rfl wlX3 tw_178 tyX3_ok nmX3 rfl rfl (by decide +kernel) rfl rfl (Nat.le_of_ble_eq_true rfl) [(h0, .inr (3, [.int (-1), .int 0, .ref q1])), (q1, .inl (t.1, 40, .inl (fun _ => 0)))] rfl dX3_init_19 rfl ?_
  exact ga_vret (wf := wfX3 t) (fun i => ([q1] : List Nat).getD i 0) ok hA (fun p l e s m args below meth c Q cs sl hg => (hq p l e s m args below meth c Q cs sl hg).1) (by decide) (by decide) rfl dX3_init_22
def wfX4 (t : TiT) (h0 : Nat) (u : Nat → Nat) : va_W := [(h0, .inr (4, [.ref (u 0), .ref (u 1), .ref (u 2), .int 0, .int 0, .int 0, .int 0])), (u 0, .inl (t.1, 4, .inl (fun _ => 0))), (u 1, .inl (t.1, 6, .inl (fun _ => 0))), (u 2, .inl (t.1, 160, .inl (fun _ => 0)))]
set_option maxHeartbeats 4000000 in
set_option maxRecDepth 20000 in
theorem m_X4_init (l : Launch) (D : va_G) (t : TiT) : MC l yX4_init cX4_init 1 2 3 170 D t (.inr (4, [.null, .null, .null, .int 0, .int 0, .int 0, .int 0])) (wfX4 t) := by
  refine mc_start (by decide +kernel) rfl (by decide) (fun h0 sz A g hA ok hq => ?_)
  refine ga_aload_n 0 (n := 1) ok dX4_init_0 rfl rfl ?_
  refine ga_objInit (n := 4) ok tw_140 tw_oi tw_oc (by decide) (Nat.le_of_ble_eq_true rfl) dX4_init_1 rfl ?_
  refine ga_aload_n 0 (n := 5) ok dX4_init_4 rfl rfl ?_
  refine ga_iconst (v := 4) (n := 6) ok dX4_init_5 rfl (by decide) ?_
  refine ga_newa (N := 4) (n := 8) (cl2 := 1) (sk2 := 4) ok tw_ac (by decide) (by decide) (by decide) (fun q1 => [(h0, .inr (4, [.null, .null, .null, .int 0, .int 0, .int 0, .int 0])), (q1, .inl (t.1, 4, .inl (fun _ => 0)))]) (fun _ => rfl) rfl rfl (hcs_of hq (Nat.le_of_ble_eq_true rfl) (Nat.le_of_ble_eq_true rfl)) dX4_init_6 rfl (fun q1 => ?_)
  refine ga_putF (ty := (.array .int)) (C := RX4) (T := TX4) (N := 7) (ci := 4) (n := 11) ok 0 0 rfl rfl (by decide) rfl wlX4 tw_141 tyX4_ok nmX4 rfl rfl (by decide +kernel) rfl rfl (Nat.le_of_ble_eq_true rfl) [(h0, .inr (4, [.ref q1, .null, .null, .int 0, .int 0, .int 0, .int 0])), (q1, .inl (t.1, 4, .inl (fun _ => 0)))] rfl dX4_init_8 rfl ?_
  refine ga_aload_n 0 (n := 12) ok dX4_init_11 rfl rfl ?_
  refine ga_bipush (v := 6) (n := 14) ok dX4_init_12 rfl (by decide) ?_
  refine ga_newa (N := 6) (n := 16) (cl2 := 2) (sk2 := 10) ok tw_ac (by decide) (by decide) (by decide) (fun q2 => [(h0, .inr (4, [.ref q1, .null, .null, .int 0, .int 0, .int 0, .int 0])), (q1, .inl (t.1, 4, .inl (fun _ => 0))), (q2, .inl (t.1, 6, .inl (fun _ => 0)))]) (fun _ => rfl) rfl rfl (hcs_of hq (Nat.le_of_ble_eq_true rfl) (Nat.le_of_ble_eq_true rfl)) dX4_init_14 rfl (fun q2 => ?_)
  refine ga_putF (ty := (.array .int)) (C := RX4) (T := TX4) (N := 7) (ci := 4) (n := 19) ok 0 1 rfl rfl (by decide) rfl wlX4 tw_142 tyX4_ok nmX4 rfl rfl (by decide +kernel) rfl rfl (Nat.le_of_ble_eq_true rfl) [(h0, .inr (4, [.ref q1, .ref q2, .null, .int 0, .int 0, .int 0, .int 0])), (q1, .inl (t.1, 4, .inl (fun _ => 0))), (q2, .inl (t.1, 6, .inl (fun _ => 0)))] rfl dX4_init_16 rfl ?_
  refine ga_aload_n 0 (n := 20) ok dX4_init_19 rfl rfl ?_
  refine ga_sipush (v := 160) (n := 23) ok dX4_init_20 rfl (by decide) ?_
  refine ga_newa (N := 160) (n := 25) (cl2 := 3) (sk2 := 170) ok tw_ac (by decide) (by decide) (by decide) (fun q3 => [(h0, .inr (4, [.ref q1, .ref q2, .null, .int 0, .int 0, .int 0, .int 0])), (q1, .inl (t.1, 4, .inl (fun _ => 0))), (q2, .inl (t.1, 6, .inl (fun _ => 0))), (q3, .inl (t.1, 160, .inl (fun _ => 0)))]) (fun _ => rfl) rfl rfl (hcs_of hq (Nat.le_of_ble_eq_true rfl) (Nat.le_of_ble_eq_true rfl)) dX4_init_23 rfl (fun q3 => ?_)
  refine ga_putF (ty := (.array .int)) (C := RX4) (T := TX4) (N := 7) (ci := 4) (n := 28) ok 0 2 rfl rfl (by decide) rfl wlX4 tw_143 tyX4_ok nmX4 rfl rfl (by decide +kernel) rfl rfl (Nat.le_of_ble_eq_true rfl) [(h0, .inr (4, [.ref q1, .ref q2, .ref q3, .int 0, .int 0, .int 0, .int 0])), (q1, .inl (t.1, 4, .inl (fun _ => 0))), (q2, .inl (t.1, 6, .inl (fun _ => 0))), (q3, .inl (t.1, 160, .inl (fun _ => 0)))] rfl dX4_init_25 rfl ?_
  refine ga_aload_n 0 (n := 29) ok dX4_init_28 rfl rfl ?_
  refine ga_iconst (v := 0) (n := 30) ok dX4_init_29 rfl (by decide) ?_
  refine ga_put (ty := .int) (C := RX4) (T := TX4) (N := 7) (ci := 4) (n := 33) ok 0 3 rfl rfl (by decide) rfl wlX4 tw_144 tyX4_ok nmX4 rfl (by decide +kernel) rfl rfl (Nat.le_of_ble_eq_true rfl) [(h0, .inr (4, [.ref q1, .ref q2, .ref q3, .int 0, .int 0, .int 0, .int 0])), (q1, .inl (t.1, 4, .inl (fun _ => 0))), (q2, .inl (t.1, 6, .inl (fun _ => 0))), (q3, .inl (t.1, 160, .inl (fun _ => 0)))] rfl dX4_init_30 rfl ?_
  refine ga_aload_n 0 (n := 34) ok dX4_init_33 rfl rfl ?_
  refine ga_iconst (v := 0) (n := 35) ok dX4_init_34 rfl (by decide) ?_
  refine ga_put (ty := .int) (C := RX4) (T := TX4) (N := 7) (ci := 4) (n := 38) ok 0 4 rfl rfl (by decide) rfl wlX4 tw_146 tyX4_ok nmX4 rfl (by decide +kernel) rfl rfl (Nat.le_of_ble_eq_true rfl) [(h0, .inr (4, [.ref q1, .ref q2, .ref q3, .int 0, .int 0, .int 0, .int 0])), (q1, .inl (t.1, 4, .inl (fun _ => 0))), (q2, .inl (t.1, 6, .inl (fun _ => 0))), (q3, .inl (t.1, 160, .inl (fun _ => 0)))] rfl dX4_init_35 rfl ?_
  refine ga_aload_n 0 (n := 39) ok dX4_init_38 rfl rfl ?_
  refine ga_iconst (v := 0) (n := 40) ok dX4_init_39 rfl (by decide) ?_
  refine ga_put (ty := .int) (C := RX4) (T := TX4) (N := 7) (ci := 4) (n := 43) ok 0 5 rfl rfl (by decide) rfl wlX4 tw_147 tyX4_ok nmX4 rfl (by decide +kernel) rfl rfl (Nat.le_of_ble_eq_true rfl) [(h0, .inr (4, [.ref q1, .ref q2, .ref q3, .int 0, .int 0, .int 0, .int 0])), (q1, .inl (t.1, 4, .inl (fun _ => 0))), (q2, .inl (t.1, 6, .inl (fun _ => 0))), (q3, .inl (t.1, 160, .inl (fun _ => 0)))] rfl dX4_init_40 rfl ?_
  refine ga_aload_n 0 (n := 44) ok dX4_init_43 rfl rfl ?_
  refine ga_iconst (v := 0) (n := 45) ok dX4_init_44 rfl (by decide) ?_
  refine ga_put (ty := .int) (C := RX4) (T := TX4) (N := 7) (ci := 4) (n := 48) ok 0 6 rfl rfl (by decide) rfl wlX4 tw_149 tyX4_ok nmX4 rfl (by decide +kernel) rfl rfl (Nat.le_of_ble_eq_true rfl) [(h0, .inr (4, [.ref q1, .ref q2, .ref q3, .int 0, .int 0, .int 0, .int 0])), (q1, .inl (t.1, 4, .inl (fun _ => 0))), (q2, .inl (t.1, 6, .inl (fun _ => 0))), (q3, .inl (t.1, 160, .inl (fun _ => 0)))] rfl dX4_init_45 rfl ?_
  exact ga_vret (wf := wfX4 t) (fun i => ([q1, q2, q3] : List Nat).getD i 0) ok hA (fun p l e s m args below meth c Q cs sl hg => (hq p l e s m args below meth c Q cs sl hg).1) (by decide) (by decide) rfl dX4_init_48
def wfX5 (t : TiT) (h0 : Nat) (u : Nat → Nat) : va_W := [(h0, .inr (5, [.ref (u 0), .ref (u 1), .int 27, .int 1, .int 0, .int 0, .int 0])), (u 0, .inl (t.1, 64, .inl (fun _ => 0))), (u 1, .inl (t.2.1, 4, .inr (.inr (.inr (.inr (fun i => some (u (2 + i)))))))), (u 2, .inr (0, [.int 0, .int 50, .int 0])), (u 3, .inr (0, [.int 0, .int 50, .int 0])), (u 4, .inr (0, [.int 0, .int 50, .int 0])), (u 5, .inr (0, [.int 0, .int 50, .int 0]))]
set_option maxHeartbeats 4000000 in
set_option maxRecDepth 20000 in
theorem m_X5_init (l : Launch) (D : va_G) (t : TiT) : MC l yX5_init cX5_init 2 3 6 80 D t (.inr (5, [.null, .null, .int 0, .int 0, .int 0, .int 0, .int 0])) (wfX5 t) := by
  refine mc_start (by decide +kernel) rfl (by decide) (fun h0 sz A g hA ok hq => ?_)
  refine ga_aload_n 0 (n := 1) ok dX5_init_0 rfl rfl ?_
  refine ga_objInit (n := 4) ok tw_29 tw_oi tw_oc (by decide) (Nat.le_of_ble_eq_true rfl) dX5_init_1 rfl ?_
  refine ga_aload_n 0 (n := 5) ok dX5_init_4 rfl rfl ?_
  refine ga_bipush (v := 64) (n := 7) ok dX5_init_5 rfl (by decide) ?_
  refine ga_newa (N := 64) (n := 9) (cl2 := 1) (sk2 := 64) ok tw_ac (by decide) (by decide) (by decide) (fun q1 => [(h0, .inr (5, [.null, .null, .int 0, .int 0, .int 0, .int 0, .int 0])), (q1, .inl (t.1, 64, .inl (fun _ => 0)))]) (fun _ => rfl) rfl rfl (hcs_of hq (Nat.le_of_ble_eq_true rfl) (Nat.le_of_ble_eq_true rfl)) dX5_init_7 rfl (fun q1 => ?_)
  refine ga_putF (ty := (.array .int)) (C := RX5) (T := TX5) (N := 7) (ci := 5) (n := 12) ok 0 0 rfl rfl (by decide) rfl wlX5 tw_53 tyX5_ok nmX5 rfl rfl (by decide +kernel) rfl rfl (Nat.le_of_ble_eq_true rfl) [(h0, .inr (5, [.ref q1, .null, .int 0, .int 0, .int 0, .int 0, .int 0])), (q1, .inl (t.1, 64, .inl (fun _ => 0)))] rfl dX5_init_9 rfl ?_
  refine ga_aload_n 0 (n := 13) ok dX5_init_12 rfl rfl ?_
  refine ga_iconst (v := 4) (n := 14) ok dX5_init_13 rfl (by decide) ?_
  refine ga_anew (C := "TableRocks$Leg") (cB := t.2.1) (ti := 1) (N := 4) (n := 17) (cl2 := 2) (sk2 := 68) ok rfl tw_30 (fun _ h => h.1) (by decide) (by decide) (by decide) (fun q2 => [(h0, .inr (5, [.ref q1, .null, .int 0, .int 0, .int 0, .int 0, .int 0])), (q1, .inl (t.1, 64, .inl (fun _ => 0))), (q2, .inl (t.2.1, 4, .inr (.inr (.inr (.inr (fun _ => none))))))]) (fun _ => rfl) rfl rfl (hcs_of hq (Nat.le_of_ble_eq_true rfl) (Nat.le_of_ble_eq_true rfl)) dX5_init_14 rfl (fun q2 => ?_)
  refine ga_putF (ty := (.array (.object "TableRocks$Leg"))) (C := RX5) (T := TX5) (N := 7) (ci := 5) (n := 20) ok 0 1 rfl rfl (by decide) rfl wlX5 tw_55 tyX5_ok nmX5 rfl rfl (by decide +kernel) rfl rfl (Nat.le_of_ble_eq_true rfl) [(h0, .inr (5, [.ref q1, .ref q2, .int 0, .int 0, .int 0, .int 0, .int 0])), (q1, .inl (t.1, 64, .inl (fun _ => 0))), (q2, .inl (t.2.1, 4, .inr (.inr (.inr (.inr (fun _ => none))))))] rfl dX5_init_17 rfl ?_
  refine ga_aload_n 0 (n := 21) ok dX5_init_20 rfl rfl ?_
  refine ga_bipush (v := 27) (n := 23) ok dX5_init_21 rfl (by decide) ?_
  refine ga_put (ty := .int) (C := RX5) (T := TX5) (N := 7) (ci := 5) (n := 26) ok 0 2 rfl rfl (by decide) rfl wlX5 tw_58 tyX5_ok nmX5 rfl (by decide +kernel) rfl rfl (Nat.le_of_ble_eq_true rfl) [(h0, .inr (5, [.ref q1, .ref q2, .int 27, .int 0, .int 0, .int 0, .int 0])), (q1, .inl (t.1, 64, .inl (fun _ => 0))), (q2, .inl (t.2.1, 4, .inr (.inr (.inr (.inr (fun _ => none))))))] rfl dX5_init_23 rfl ?_
  refine ga_aload_n 0 (n := 27) ok dX5_init_26 rfl rfl ?_
  refine ga_iconst (v := 1) (n := 28) ok dX5_init_27 rfl (by decide) ?_
  refine ga_put (ty := .int) (C := RX5) (T := TX5) (N := 7) (ci := 5) (n := 31) ok 0 3 rfl rfl (by decide) rfl wlX5 tw_60 tyX5_ok nmX5 rfl (by decide +kernel) rfl rfl (Nat.le_of_ble_eq_true rfl) [(h0, .inr (5, [.ref q1, .ref q2, .int 27, .int 1, .int 0, .int 0, .int 0])), (q1, .inl (t.1, 64, .inl (fun _ => 0))), (q2, .inl (t.2.1, 4, .inr (.inr (.inr (.inr (fun _ => none))))))] rfl dX5_init_28 rfl ?_
  refine ga_aload_n 0 (n := 32) ok dX5_init_31 rfl rfl ?_
  refine ga_iconst (v := 0) (n := 33) ok dX5_init_32 rfl (by decide) ?_
  refine ga_put (ty := .int) (C := RX5) (T := TX5) (N := 7) (ci := 5) (n := 36) ok 0 4 rfl rfl (by decide) rfl wlX5 tw_62 tyX5_ok nmX5 rfl (by decide +kernel) rfl rfl (Nat.le_of_ble_eq_true rfl) [(h0, .inr (5, [.ref q1, .ref q2, .int 27, .int 1, .int 0, .int 0, .int 0])), (q1, .inl (t.1, 64, .inl (fun _ => 0))), (q2, .inl (t.2.1, 4, .inr (.inr (.inr (.inr (fun _ => none))))))] rfl dX5_init_33 rfl ?_
  refine ga_aload_n 0 (n := 37) ok dX5_init_36 rfl rfl ?_
  refine ga_iconst (v := 0) (n := 38) ok dX5_init_37 rfl (by decide) ?_
  refine ga_put (ty := .int) (C := RX5) (T := TX5) (N := 7) (ci := 5) (n := 41) ok 0 5 rfl rfl (by decide) rfl wlX5 tw_64 tyX5_ok nmX5 rfl (by decide +kernel) rfl rfl (Nat.le_of_ble_eq_true rfl) [(h0, .inr (5, [.ref q1, .ref q2, .int 27, .int 1, .int 0, .int 0, .int 0])), (q1, .inl (t.1, 64, .inl (fun _ => 0))), (q2, .inl (t.2.1, 4, .inr (.inr (.inr (.inr (fun _ => none))))))] rfl dX5_init_38 rfl ?_
  refine ga_aload_n 0 (n := 42) ok dX5_init_41 rfl rfl ?_
  refine ga_iconst (v := 0) (n := 43) ok dX5_init_42 rfl (by decide) ?_
  refine ga_put (ty := .int) (C := RX5) (T := TX5) (N := 7) (ci := 5) (n := 46) ok 0 6 rfl rfl (by decide) rfl wlX5 tw_66 tyX5_ok nmX5 rfl (by decide +kernel) rfl rfl (Nat.le_of_ble_eq_true rfl) [(h0, .inr (5, [.ref q1, .ref q2, .int 27, .int 1, .int 0, .int 0, .int 0])), (q1, .inl (t.1, 64, .inl (fun _ => 0))), (q2, .inl (t.2.1, 4, .inr (.inr (.inr (.inr (fun _ => none))))))] rfl dX5_init_43 rfl ?_
  refine ga_iconst (v := 0) (n := 47) ok dX5_init_46 rfl (by decide) ?_
  refine ga_istore_n [(1, .int 0), (0, .ref h0)] (n := 48) ok dX5_init_47 rfl (by decide) rfl ?_
  refine ga_iload_n 0 (n := 49) ok dX5_init_48 rfl rfl ?_
  refine ga_iconst (v := 4) (n := 50) ok dX5_init_49 rfl (by decide) ?_
  refine ga_icmp_ge (tt := 72) (n := 53) ok dX5_init_50 (by decide) rfl (fun e => absurd e (by decide)) (fun _ => ?_)
  refine ga_aload_n 1 (n := 54) ok dX5_init_53 rfl rfl ?_
  refine ga_get (C := RX5) (T := TX5) (N := 7) (ci := 5) (n := 57) ok 0 1 rfl rfl (by decide) rfl wlX5 tw_55 rfl dX5_init_54 rfl ?_
  refine ga_iload_n 0 (n := 58) ok dX5_init_57 rfl rfl ?_
  refine ga_new (C := RX0) (T := TX0) (N := 3) (ci := 0) (n := 61) (cl2 := 3) (sk2 := 71) ok wlX0 tyX0_ok rfl tw_30 tw_32 tw_3 (fun j hj => by rcases (show j = 0 ∨ j = 1 ∨ j = 2 by omega) with rfl | rfl | rfl <;> rfl) (fun q3 => [(h0, .inr (5, [.ref q1, .ref q2, .int 27, .int 1, .int 0, .int 0, .int 0])), (q1, .inl (t.1, 64, .inl (fun _ => 0))), (q2, .inl (t.2.1, 4, .inr (.inr (.inr (.inr (fun _ => none)))))), (q3, .inr (0, [.int 0, .int 0, .int 0]))]) (fun _ => rfl) rfl rfl (hcs_of hq (Nat.le_of_ble_eq_true rfl) (Nat.le_of_ble_eq_true rfl)) dX5_init_58 rfl (fun q3 => ?_)
  refine ga_dup (n := 62) ok dX5_init_61 rfl rfl ?_
  refine ga_initN (n := 65) (wf := wfX0 t) (wr := [(h0, .inr (5, [.ref q1, .ref q2, .int 27, .int 1, .int 0, .int 0, .int 0])), (q1, .inl (t.1, 64, .inl (fun _ => 0))), (q2, .inl (t.2.1, 4, .inr (.inr (.inr (.inr (fun _ => none))))))]) (cl2 := 3) (sk2 := 71) ok 3 [0, 1, 2] (m_X0_init l D t) cal_X0_init rfl tw_33 tw_34 (by decide) (by decide) (Nat.le_of_ble_eq_true rfl) rfl rfl rfl (by decide) (fun u4 => [(h0, .inr (5, [.ref q1, .ref q2, .int 27, .int 1, .int 0, .int 0, .int 0])), (q1, .inl (t.1, 64, .inl (fun _ => 0))), (q2, .inl (t.2.1, 4, .inr (.inr (.inr (.inr (fun _ => none)))))), (q3, .inr (0, [.int 0, .int 50, .int 0]))]) (fun _ => rfl) rfl rfl (hcs_of hq (Nat.le_of_ble_eq_true rfl) (Nat.le_of_ble_eq_true rfl)) dX5_init_62 rfl (fun u4 => ?_)
  refine ga_aast (r := (RX0, TX0, 3)) (ti := 1) (n := 66) ok 2 3 rfl rfl rfl rfl (vp_dec rfl) [(h0, .inr (5, [.ref q1, .ref q2, .int 27, .int 1, .int 0, .int 0, .int 0])), (q1, .inl (t.1, 64, .inl (fun _ => 0))), (q2, .inl (t.2.1, 4, .inr (.inr (.inr (.inr (va_up (fun _ => none) (0 : Int32).toNatClampNeg (some q3))))))), (q3, .inr (0, [.int 0, .int 50, .int 0]))] rfl dX5_init_65 rfl ?_
  refine ga_iinc 0 [(1, .int 1), (0, .ref h0)] (v := 1) (n := 69) ok dX5_init_66 rfl rfl (by decide) (by decide) rfl ?_
  refine ga_goto (tt := 48) ok dX5_init_69 (by decide) ?_
  refine ga_iload_n 0 (n := 49) ok dX5_init_48 rfl rfl ?_
  refine ga_iconst (v := 4) (n := 50) ok dX5_init_49 rfl (by decide) ?_
  refine ga_icmp_ge (tt := 72) (n := 53) ok dX5_init_50 (by decide) rfl (fun e => absurd e (by decide)) (fun _ => ?_)
  refine ga_aload_n 1 (n := 54) ok dX5_init_53 rfl rfl ?_
  refine ga_get (C := RX5) (T := TX5) (N := 7) (ci := 5) (n := 57) ok 0 1 rfl rfl (by decide) rfl wlX5 tw_55 rfl dX5_init_54 rfl ?_
  refine ga_iload_n 0 (n := 58) ok dX5_init_57 rfl rfl ?_
  refine ga_new (C := RX0) (T := TX0) (N := 3) (ci := 0) (n := 61) (cl2 := 4) (sk2 := 74) ok wlX0 tyX0_ok rfl tw_30 tw_32 tw_3 (fun j hj => by rcases (show j = 0 ∨ j = 1 ∨ j = 2 by omega) with rfl | rfl | rfl <;> rfl) (fun q5 => [(h0, .inr (5, [.ref q1, .ref q2, .int 27, .int 1, .int 0, .int 0, .int 0])), (q1, .inl (t.1, 64, .inl (fun _ => 0))), (q2, .inl (t.2.1, 4, .inr (.inr (.inr (.inr (va_up (fun _ => none) (0 : Int32).toNatClampNeg (some q3))))))), (q3, .inr (0, [.int 0, .int 50, .int 0])), (q5, .inr (0, [.int 0, .int 0, .int 0]))]) (fun _ => rfl) rfl rfl (hcs_of hq (Nat.le_of_ble_eq_true rfl) (Nat.le_of_ble_eq_true rfl)) dX5_init_58 rfl (fun q5 => ?_)
  refine ga_dup (n := 62) ok dX5_init_61 rfl rfl ?_
  refine ga_initN (n := 65) (wf := wfX0 t) (wr := [(h0, .inr (5, [.ref q1, .ref q2, .int 27, .int 1, .int 0, .int 0, .int 0])), (q1, .inl (t.1, 64, .inl (fun _ => 0))), (q2, .inl (t.2.1, 4, .inr (.inr (.inr (.inr (va_up (fun _ => none) (0 : Int32).toNatClampNeg (some q3))))))), (q3, .inr (0, [.int 0, .int 50, .int 0]))]) (cl2 := 4) (sk2 := 74) ok 4 [0, 1, 2, 3] (m_X0_init l D t) cal_X0_init rfl tw_33 tw_34 (by decide) (by decide) (Nat.le_of_ble_eq_true rfl) rfl rfl rfl (by decide) (fun u6 => [(h0, .inr (5, [.ref q1, .ref q2, .int 27, .int 1, .int 0, .int 0, .int 0])), (q1, .inl (t.1, 64, .inl (fun _ => 0))), (q2, .inl (t.2.1, 4, .inr (.inr (.inr (.inr (va_up (fun _ => none) (0 : Int32).toNatClampNeg (some q3))))))), (q3, .inr (0, [.int 0, .int 50, .int 0])), (q5, .inr (0, [.int 0, .int 50, .int 0]))]) (fun _ => rfl) rfl rfl (hcs_of hq (Nat.le_of_ble_eq_true rfl) (Nat.le_of_ble_eq_true rfl)) dX5_init_62 rfl (fun u6 => ?_)
  refine ga_aast (r := (RX0, TX0, 3)) (ti := 1) (n := 66) ok 2 4 rfl rfl rfl rfl (vp_dec rfl) [(h0, .inr (5, [.ref q1, .ref q2, .int 27, .int 1, .int 0, .int 0, .int 0])), (q1, .inl (t.1, 64, .inl (fun _ => 0))), (q2, .inl (t.2.1, 4, .inr (.inr (.inr (.inr (va_up (va_up (fun _ => none) (0 : Int32).toNatClampNeg (some q3)) (1 : Int32).toNatClampNeg (some q5))))))), (q3, .inr (0, [.int 0, .int 50, .int 0])), (q5, .inr (0, [.int 0, .int 50, .int 0]))] rfl dX5_init_65 rfl ?_
  refine ga_iinc 0 [(1, .int 2), (0, .ref h0)] (v := 2) (n := 69) ok dX5_init_66 rfl rfl (by decide) (by decide) rfl ?_
  refine ga_goto (tt := 48) ok dX5_init_69 (by decide) ?_
  refine ga_iload_n 0 (n := 49) ok dX5_init_48 rfl rfl ?_
  refine ga_iconst (v := 4) (n := 50) ok dX5_init_49 rfl (by decide) ?_
  refine ga_icmp_ge (tt := 72) (n := 53) ok dX5_init_50 (by decide) rfl (fun e => absurd e (by decide)) (fun _ => ?_)
  refine ga_aload_n 1 (n := 54) ok dX5_init_53 rfl rfl ?_
  refine ga_get (C := RX5) (T := TX5) (N := 7) (ci := 5) (n := 57) ok 0 1 rfl rfl (by decide) rfl wlX5 tw_55 rfl dX5_init_54 rfl ?_
  refine ga_iload_n 0 (n := 58) ok dX5_init_57 rfl rfl ?_
  refine ga_new (C := RX0) (T := TX0) (N := 3) (ci := 0) (n := 61) (cl2 := 5) (sk2 := 77) ok wlX0 tyX0_ok rfl tw_30 tw_32 tw_3 (fun j hj => by rcases (show j = 0 ∨ j = 1 ∨ j = 2 by omega) with rfl | rfl | rfl <;> rfl) (fun q7 => [(h0, .inr (5, [.ref q1, .ref q2, .int 27, .int 1, .int 0, .int 0, .int 0])), (q1, .inl (t.1, 64, .inl (fun _ => 0))), (q2, .inl (t.2.1, 4, .inr (.inr (.inr (.inr (va_up (va_up (fun _ => none) (0 : Int32).toNatClampNeg (some q3)) (1 : Int32).toNatClampNeg (some q5))))))), (q3, .inr (0, [.int 0, .int 50, .int 0])), (q5, .inr (0, [.int 0, .int 50, .int 0])), (q7, .inr (0, [.int 0, .int 0, .int 0]))]) (fun _ => rfl) rfl rfl (hcs_of hq (Nat.le_of_ble_eq_true rfl) (Nat.le_of_ble_eq_true rfl)) dX5_init_58 rfl (fun q7 => ?_)
  refine ga_dup (n := 62) ok dX5_init_61 rfl rfl ?_
  refine ga_initN (n := 65) (wf := wfX0 t) (wr := [(h0, .inr (5, [.ref q1, .ref q2, .int 27, .int 1, .int 0, .int 0, .int 0])), (q1, .inl (t.1, 64, .inl (fun _ => 0))), (q2, .inl (t.2.1, 4, .inr (.inr (.inr (.inr (va_up (va_up (fun _ => none) (0 : Int32).toNatClampNeg (some q3)) (1 : Int32).toNatClampNeg (some q5))))))), (q3, .inr (0, [.int 0, .int 50, .int 0])), (q5, .inr (0, [.int 0, .int 50, .int 0]))]) (cl2 := 5) (sk2 := 77) ok 5 [0, 1, 2, 3, 4] (m_X0_init l D t) cal_X0_init rfl tw_33 tw_34 (by decide) (by decide) (Nat.le_of_ble_eq_true rfl) rfl rfl rfl (by decide) (fun u8 => [(h0, .inr (5, [.ref q1, .ref q2, .int 27, .int 1, .int 0, .int 0, .int 0])), (q1, .inl (t.1, 64, .inl (fun _ => 0))), (q2, .inl (t.2.1, 4, .inr (.inr (.inr (.inr (va_up (va_up (fun _ => none) (0 : Int32).toNatClampNeg (some q3)) (1 : Int32).toNatClampNeg (some q5))))))), (q3, .inr (0, [.int 0, .int 50, .int 0])), (q5, .inr (0, [.int 0, .int 50, .int 0])), (q7, .inr (0, [.int 0, .int 50, .int 0]))]) (fun _ => rfl) rfl rfl (hcs_of hq (Nat.le_of_ble_eq_true rfl) (Nat.le_of_ble_eq_true rfl)) dX5_init_62 rfl (fun u8 => ?_)
  refine ga_aast (r := (RX0, TX0, 3)) (ti := 1) (n := 66) ok 2 5 rfl rfl rfl rfl (vp_dec rfl) [(h0, .inr (5, [.ref q1, .ref q2, .int 27, .int 1, .int 0, .int 0, .int 0])), (q1, .inl (t.1, 64, .inl (fun _ => 0))), (q2, .inl (t.2.1, 4, .inr (.inr (.inr (.inr (va_up (va_up (va_up (fun _ => none) (0 : Int32).toNatClampNeg (some q3)) (1 : Int32).toNatClampNeg (some q5)) (2 : Int32).toNatClampNeg (some q7))))))), (q3, .inr (0, [.int 0, .int 50, .int 0])), (q5, .inr (0, [.int 0, .int 50, .int 0])), (q7, .inr (0, [.int 0, .int 50, .int 0]))] rfl dX5_init_65 rfl ?_
  refine ga_iinc 0 [(1, .int 3), (0, .ref h0)] (v := 3) (n := 69) ok dX5_init_66 rfl rfl (by decide) (by decide) rfl ?_
  refine ga_goto (tt := 48) ok dX5_init_69 (by decide) ?_
  refine ga_iload_n 0 (n := 49) ok dX5_init_48 rfl rfl ?_
  refine ga_iconst (v := 4) (n := 50) ok dX5_init_49 rfl (by decide) ?_
  refine ga_icmp_ge (tt := 72) (n := 53) ok dX5_init_50 (by decide) rfl (fun e => absurd e (by decide)) (fun _ => ?_)
  refine ga_aload_n 1 (n := 54) ok dX5_init_53 rfl rfl ?_
  refine ga_get (C := RX5) (T := TX5) (N := 7) (ci := 5) (n := 57) ok 0 1 rfl rfl (by decide) rfl wlX5 tw_55 rfl dX5_init_54 rfl ?_
  refine ga_iload_n 0 (n := 58) ok dX5_init_57 rfl rfl ?_
  refine ga_new (C := RX0) (T := TX0) (N := 3) (ci := 0) (n := 61) (cl2 := 6) (sk2 := 80) ok wlX0 tyX0_ok rfl tw_30 tw_32 tw_3 (fun j hj => by rcases (show j = 0 ∨ j = 1 ∨ j = 2 by omega) with rfl | rfl | rfl <;> rfl) (fun q9 => [(h0, .inr (5, [.ref q1, .ref q2, .int 27, .int 1, .int 0, .int 0, .int 0])), (q1, .inl (t.1, 64, .inl (fun _ => 0))), (q2, .inl (t.2.1, 4, .inr (.inr (.inr (.inr (va_up (va_up (va_up (fun _ => none) (0 : Int32).toNatClampNeg (some q3)) (1 : Int32).toNatClampNeg (some q5)) (2 : Int32).toNatClampNeg (some q7))))))), (q3, .inr (0, [.int 0, .int 50, .int 0])), (q5, .inr (0, [.int 0, .int 50, .int 0])), (q7, .inr (0, [.int 0, .int 50, .int 0])), (q9, .inr (0, [.int 0, .int 0, .int 0]))]) (fun _ => rfl) rfl rfl (hcs_of hq (Nat.le_of_ble_eq_true rfl) (Nat.le_of_ble_eq_true rfl)) dX5_init_58 rfl (fun q9 => ?_)
  refine ga_dup (n := 62) ok dX5_init_61 rfl rfl ?_
  refine ga_initN (n := 65) (wf := wfX0 t) (wr := [(h0, .inr (5, [.ref q1, .ref q2, .int 27, .int 1, .int 0, .int 0, .int 0])), (q1, .inl (t.1, 64, .inl (fun _ => 0))), (q2, .inl (t.2.1, 4, .inr (.inr (.inr (.inr (va_up (va_up (va_up (fun _ => none) (0 : Int32).toNatClampNeg (some q3)) (1 : Int32).toNatClampNeg (some q5)) (2 : Int32).toNatClampNeg (some q7))))))), (q3, .inr (0, [.int 0, .int 50, .int 0])), (q5, .inr (0, [.int 0, .int 50, .int 0])), (q7, .inr (0, [.int 0, .int 50, .int 0]))]) (cl2 := 6) (sk2 := 80) ok 6 [0, 1, 2, 3, 4, 5] (m_X0_init l D t) cal_X0_init rfl tw_33 tw_34 (by decide) (by decide) (Nat.le_of_ble_eq_true rfl) rfl rfl rfl (by decide) (fun u10 => [(h0, .inr (5, [.ref q1, .ref q2, .int 27, .int 1, .int 0, .int 0, .int 0])), (q1, .inl (t.1, 64, .inl (fun _ => 0))), (q2, .inl (t.2.1, 4, .inr (.inr (.inr (.inr (va_up (va_up (va_up (fun _ => none) (0 : Int32).toNatClampNeg (some q3)) (1 : Int32).toNatClampNeg (some q5)) (2 : Int32).toNatClampNeg (some q7))))))), (q3, .inr (0, [.int 0, .int 50, .int 0])), (q5, .inr (0, [.int 0, .int 50, .int 0])), (q7, .inr (0, [.int 0, .int 50, .int 0])), (q9, .inr (0, [.int 0, .int 50, .int 0]))]) (fun _ => rfl) rfl rfl (hcs_of hq (Nat.le_of_ble_eq_true rfl) (Nat.le_of_ble_eq_true rfl)) dX5_init_62 rfl (fun u10 => ?_)
  refine ga_aast (r := (RX0, TX0, 3)) (ti := 1) (n := 66) ok 2 6 rfl rfl rfl rfl (vp_dec rfl) [(h0, .inr (5, [.ref q1, .ref q2, .int 27, .int 1, .int 0, .int 0, .int 0])), (q1, .inl (t.1, 64, .inl (fun _ => 0))), (q2, .inl (t.2.1, 4, .inr (.inr (.inr (.inr (va_up (va_up (va_up (va_up (fun _ => none) (0 : Int32).toNatClampNeg (some q3)) (1 : Int32).toNatClampNeg (some q5)) (2 : Int32).toNatClampNeg (some q7)) (3 : Int32).toNatClampNeg (some q9))))))), (q3, .inr (0, [.int 0, .int 50, .int 0])), (q5, .inr (0, [.int 0, .int 50, .int 0])), (q7, .inr (0, [.int 0, .int 50, .int 0])), (q9, .inr (0, [.int 0, .int 50, .int 0]))] rfl dX5_init_65 rfl ?_
  refine ga_iinc 0 [(1, .int 4), (0, .ref h0)] (v := 4) (n := 69) ok dX5_init_66 rfl rfl (by decide) (by decide) rfl ?_
  refine ga_goto (tt := 48) ok dX5_init_69 (by decide) ?_
  refine ga_iload_n 0 (n := 49) ok dX5_init_48 rfl rfl ?_
  refine ga_iconst (v := 4) (n := 50) ok dX5_init_49 rfl (by decide) ?_
  refine ga_icmp_ge (tt := 72) (n := 53) ok dX5_init_50 (by decide) rfl (fun _ => ?_) (fun e => absurd (by decide) e)
  refine ga_row 2 rfl (f' := (fun i => some (([q1, q2, q3, q5, q7, q9] : List Nat).getD (2 + i) 0))) (fun j hj => by rcases (show j = 0 ∨ j = 1 ∨ j = 2 ∨ j = 3 by omega) with rfl | rfl | rfl | rfl <;> rfl) [(h0, .inr (5, [.ref q1, .ref q2, .int 27, .int 1, .int 0, .int 0, .int 0])), (q1, .inl (t.1, 64, .inl (fun _ => 0))), (q2, .inl (t.2.1, 4, .inr (.inr (.inr (.inr (fun i => some (([q1, q2, q3, q5, q7, q9] : List Nat).getD (2 + i) 0))))))), (q3, .inr (0, [.int 0, .int 50, .int 0])), (q5, .inr (0, [.int 0, .int 50, .int 0])), (q7, .inr (0, [.int 0, .int 50, .int 0])), (q9, .inr (0, [.int 0, .int 50, .int 0]))] rfl ?_
  exact ga_vret (wf := wfX5 t) (fun i => ([q1, q2, q3, q5, q7, q9] : List Nat).getD i 0) ok hA (fun p l e s m args below meth c Q cs sl hg => (hq p l e s m args below meth c Q cs sl hg).1) (by decide) (by decide) rfl dX5_init_72
