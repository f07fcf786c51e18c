/-! THE TWO WORLDS: 52 cells of a TableRocks, 21 of the model; what each cell is, by its number -/
abbrev VxT : Type := (Nat → Nat) × (ClassId × ClassId × ClassId × ClassId) × va_G × (Nat → Nat) × (Nat → Nat) × (Nat → Nat)
abbrev VmT : Type := (Nat → Nat) × ClassId × va_G
def kdL : List Nat := [0, 1, 2, 3, 4, 4, 4, 4, 1, 2, 3, 4, 4, 4, 4, 5, 6, 7, 6, 8, 9, 7, 6, 8, 7, 6, 8, 7, 6, 8, 7, 6, 8, 7, 6, 8, 7, 6, 8, 10, 11, 12, 6, 13, 14, 15, 14, 15, 14, 15, 14, 15]
def kdX (c : Nat) : Nat := kdL.getD c 99
def exX (v : VxT) (K c : Nat) (f : Nat → Int32) : va_E := match K with
  | 0 => .inr (6, [.ref (v.1 1), .ref (v.1 8), .int (f 2), .ref (v.1 15), .ref (v.1 20), .int (f 5), .ref (v.1 39), .ref (v.1 43)])
  | 1 => .inr (5, [.ref (v.1 (c + 1)), .ref (v.1 (c + 2)), .int (f 2), .int (f 3), .int (f 4), .int (f 5), .int (f 6)])
  | 2 => .inl (v.2.1.1, 64, .inl f)
  | 3 => .inl (v.2.1.2.1, 4, .inr (.inr (.inr (.inr (fun i => some (v.1 (c + 1 + i)))))))
  | 4 => .inr (0, [.int (f 0), .int (f 1), .int (f 2)])
  | 5 => .inr (1, [.ref (v.1 (c + 1)), .ref (v.1 (c + 2)), .int (f 2), .int (f 3), .int (f 4), .int (f 5), .int (f 6), .int (f 7)])
  | 6 => .inl (v.2.1.1, 160, .inl f)
  | 7 => .inr (2, [.ref (v.1 (c + 1)), .ref (v.1 (c + 2)), .int (f 2)])
  | 8 => .inl (v.2.1.1, 3, .inl f)
  | 9 => .inl (v.2.1.2.2.1, 6, .inr (.inr (.inr (.inr (fun i => some (v.1 (c + 1 + 3 * i)))))))
  | 10 => .inr (4, [.ref (v.1 (c + 1)), .ref (v.1 (c + 2)), .ref (v.1 (c + 3)), .int (f 3), .int (f 4), .int (f 5), .int (f 6)])
  | 11 => .inl (v.2.1.1, 4, .inl f)
  | 12 => .inl (v.2.1.1, 6, .inl f)
  | 13 => .inl (v.2.1.2.2.2, 4, .inr (.inr (.inr (.inr (fun i => some (v.1 (c + 1 + 2 * i)))))))
  | 14 => .inr (3, [.int (f 0), .int (f 1), .ref (v.1 (c + 1))])
  | _ => .inl (v.2.1.1, 40, .inl f)
def strL : List (String × Nat × String) := [("TableRocks", 55, "slack 0 ; worth 0 - rock * 9 - lean ; spills lean + rock * 2 ;"), ("TableRocks$Reader", 101, "slack"), ("TableRocks$Reader", 107, "worth"), ("TableRocks$Reader", 109, "spills"), ("TableRocks$Reader", 111, "or"), ("TableRocks$Reader", 113, "and"), ("TableRocks$Reader", 115, "not"), ("TableRocks$Reader", 117, "rock"), ("TableRocks$Reader", 119, "lean"), ("TableRocks$Reader", 121, "turn"), ("TableRocks$Reader", 123, "y"), ("TableRocks$Reader", 125, "x"), ("TableRocks$Reader", 127, "give")]
def strLen : List Nat := [62, 5, 5, 6, 2, 3, 3, 4, 4, 4, 1, 1, 4]
def strByt : List (List Int32) := [[115, 108, 97, 99, 107, 32, 48, 32, 59, 32, 119, 111, 114, 116, 104, 32, 48, 32, 45, 32, 114, 111, 99, 107, 32, 42, 32, 57, 32, 45, 32, 108, 101, 97, 110, 32, 59, 32, 115, 112, 105, 108, 108, 115, 32, 108, 101, 97, 110, 32, 43, 32, 114, 111, 99, 107, 32, 42, 32, 50, 32, 59], [115, 108, 97, 99, 107], [119, 111, 114, 116, 104], [115, 112, 105, 108, 108, 115], [111, 114], [97, 110, 100], [110, 111, 116], [114, 111, 99, 107], [108, 101, 97, 110], [116, 117, 114, 110], [121], [120], [103, 105, 118, 101]]
def tUnder : List Int32 := [-1, 0, 0, 1, 2, 0]
def tWayY : List Int32 := [0, 1, 1, 1, 0, -1, -1, -1]
def tWayX : List Int32 := [1, 1, 0, -1, -1, -1, 0, 1]
def AXq (N : Nat) (q : Nat → Nat) : Nat → Prop := fun a => ∃ c, c < N ∧ a = q c
/-- what stands beside the cells: three static tables, String's flag, the texts (v's last three: where the tables, the texts, their bytes lie) -/
def StX (v : VxT) (U : State) (H : Heap) : Prop :=
  (va_Z "TableRocks$Leg" "UNDER" "[I" (.ref (v.2.2.2.1 0)) (AXq 52 v.1) U H ∧ va_T .int (v.2.2.2.1 0) 6 (fun j => .int (tUnder.getD j 0)) (AXq 52 v.1) U H) ∧
  (va_Z "TableRocks$Table" "WAY_Y" "[I" (.ref (v.2.2.2.1 1)) (AXq 52 v.1) U H ∧ va_T .int (v.2.2.2.1 1) 8 (fun j => .int (tWayY.getD j 0)) (AXq 52 v.1) U H) ∧
  (va_Z "TableRocks$Table" "WAY_X" "[I" (.ref (v.2.2.2.1 2)) (AXq 52 v.1) U H ∧ va_T .int (v.2.2.2.1 2) 8 (fun j => .int (tWayX.getD j 0)) (AXq 52 v.1) U H) ∧
  va_Z "java/lang/String" "COMPACT_STRINGS" "Z" (.int 1) (AXq 52 v.1) U H ∧
  (∀ i : Nat, i < 13 → ∀ x, strL[i]? = some x → vk_R x.1 x.2.1 x.2.2 (v.2.2.2.2.1 i) U) ∧
  vk_S 13 strLen strByt v.2.2.2.2.1 v.2.2.2.2.2 (AXq 52 v.1) U H ∧
  va_Zq "jdk/internal/util/Preconditions" "SIOOBE_FORMATTER" "Ljava/util/function/BiFunction;" (AXq 52 v.1) U H
abbrev oX (v : VxT) : OmT := (52, v.1, (fun c f => exX v (kdX c) c f), v.2.2.1, [(v.2.1.1, .int), (v.2.1.2.1, .object "TableRocks$Leg"), (v.2.1.2.2.1, .object "TableRocks$Rule"), (v.2.1.2.2.2, .object "TableRocks$Sheet")], StX v)
theorem stabX (v : VxT) : Stab (oX v) := by
  intro u U H1 hW hk h
  obtain ⟨⟨a1, a2⟩, ⟨b1, b2⟩, ⟨c1, c2⟩, d, e, f, g⟩ := h
  have hA : ∀ a : Nat, a < u.heap.size → ¬ AXq 52 v.1 a → H1[a]? = u.heap[a]? := hk
  exact ⟨⟨(va_Z.moved hW.alike a1).kept hA, (va_T.moved hW.alike a2).kept hA⟩, ⟨(va_Z.moved hW.alike b1).kept hA, (va_T.moved hW.alike b2).kept hA⟩, ⟨(va_Z.moved hW.alike c1).kept hA, (va_T.moved hW.alike c2).kept hA⟩, (va_Z.moved hW.alike d).kept hA, fun i hi x hx => vk_R.warm hW (e i hi x hx), (vk_S.moved hW.alike f).kept hA, (va_Zq.moved hW.alike g).kept hA⟩
theorem kd_lt {c K : Nat} (h : kdX c = K) (hK : K < 99) : c < 52 := by
  rcases Nat.lt_or_ge c 52 with z | z
  · exact z
  · have e : kdL.getD c 99 = 99 := by
      rw [List.getD_eq_getElem?_getD, List.getElem?_eq_none (by simpa [kdL] using z)]
      rfl
    have e2 : K = 99 := h.symm.trans e
    omega
theorem lt0 {v : VxT} {c : Nat} (h : kdX c = 0) : c < (oX v).1 := kd_lt h (by decide)
theorem sh0 {v : VxT} {c : Nat} (h : kdX c = 0) (f : Nat → Int32) : (oX v).2.2.1 c f = .inr (6, [.ref (v.1 1), .ref (v.1 8), .int (f 2), .ref (v.1 15), .ref (v.1 20), .int (f 5), .ref (v.1 39), .ref (v.1 43)]) := by
  show exX v (kdX c) c f = _
  rw [h]
  rfl
theorem lt1 {v : VxT} {c : Nat} (h : kdX c = 1) : c < (oX v).1 := kd_lt h (by decide)
theorem sh1 {v : VxT} {c : Nat} (h : kdX c = 1) (f : Nat → Int32) : (oX v).2.2.1 c f = .inr (5, [.ref (v.1 (c + 1)), .ref (v.1 (c + 2)), .int (f 2), .int (f 3), .int (f 4), .int (f 5), .int (f 6)]) := by
  show exX v (kdX c) c f = _
  rw [h]
  rfl
theorem lt2 {v : VxT} {c : Nat} (h : kdX c = 2) : c < (oX v).1 := kd_lt h (by decide)
theorem sh2 {v : VxT} {c : Nat} (h : kdX c = 2) (f : Nat → Int32) : (oX v).2.2.1 c f = .inl (v.2.1.1, 64, .inl f) := by
  show exX v (kdX c) c f = _
  rw [h]
  rfl
theorem lt3 {v : VxT} {c : Nat} (h : kdX c = 3) : c < (oX v).1 := kd_lt h (by decide)
theorem sh3 {v : VxT} {c : Nat} (h : kdX c = 3) (f : Nat → Int32) : (oX v).2.2.1 c f = .inl (v.2.1.2.1, 4, .inr (.inr (.inr (.inr (fun (i : Nat) => some (v.1 (c + 1 + i))))))) := by
  show exX v (kdX c) c f = _
  rw [h]
  rfl
theorem lt4 {v : VxT} {c : Nat} (h : kdX c = 4) : c < (oX v).1 := kd_lt h (by decide)
theorem sh4 {v : VxT} {c : Nat} (h : kdX c = 4) (f : Nat → Int32) : (oX v).2.2.1 c f = .inr (0, [.int (f 0), .int (f 1), .int (f 2)]) := by
  show exX v (kdX c) c f = _
  rw [h]
  rfl
theorem lt5 {v : VxT} {c : Nat} (h : kdX c = 5) : c < (oX v).1 := kd_lt h (by decide)
theorem sh5 {v : VxT} {c : Nat} (h : kdX c = 5) (f : Nat → Int32) : (oX v).2.2.1 c f = .inr (1, [.ref (v.1 (c + 1)), .ref (v.1 (c + 2)), .int (f 2), .int (f 3), .int (f 4), .int (f 5), .int (f 6), .int (f 7)]) := by
  show exX v (kdX c) c f = _
  rw [h]
  rfl
theorem lt6 {v : VxT} {c : Nat} (h : kdX c = 6) : c < (oX v).1 := kd_lt h (by decide)
theorem sh6 {v : VxT} {c : Nat} (h : kdX c = 6) (f : Nat → Int32) : (oX v).2.2.1 c f = .inl (v.2.1.1, 160, .inl f) := by
  show exX v (kdX c) c f = _
  rw [h]
  rfl
theorem lt7 {v : VxT} {c : Nat} (h : kdX c = 7) : c < (oX v).1 := kd_lt h (by decide)
theorem sh7 {v : VxT} {c : Nat} (h : kdX c = 7) (f : Nat → Int32) : (oX v).2.2.1 c f = .inr (2, [.ref (v.1 (c + 1)), .ref (v.1 (c + 2)), .int (f 2)]) := by
  show exX v (kdX c) c f = _
  rw [h]
  rfl
theorem lt8 {v : VxT} {c : Nat} (h : kdX c = 8) : c < (oX v).1 := kd_lt h (by decide)
theorem sh8 {v : VxT} {c : Nat} (h : kdX c = 8) (f : Nat → Int32) : (oX v).2.2.1 c f = .inl (v.2.1.1, 3, .inl f) := by
  show exX v (kdX c) c f = _
  rw [h]
  rfl
theorem lt9 {v : VxT} {c : Nat} (h : kdX c = 9) : c < (oX v).1 := kd_lt h (by decide)
theorem sh9 {v : VxT} {c : Nat} (h : kdX c = 9) (f : Nat → Int32) : (oX v).2.2.1 c f = .inl (v.2.1.2.2.1, 6, .inr (.inr (.inr (.inr (fun (i : Nat) => some (v.1 (c + 1 + 3 * i))))))) := by
  show exX v (kdX c) c f = _
  rw [h]
  rfl
theorem lt10 {v : VxT} {c : Nat} (h : kdX c = 10) : c < (oX v).1 := kd_lt h (by decide)
theorem sh10 {v : VxT} {c : Nat} (h : kdX c = 10) (f : Nat → Int32) : (oX v).2.2.1 c f = .inr (4, [.ref (v.1 (c + 1)), .ref (v.1 (c + 2)), .ref (v.1 (c + 3)), .int (f 3), .int (f 4), .int (f 5), .int (f 6)]) := by
  show exX v (kdX c) c f = _
  rw [h]
  rfl
theorem lt11 {v : VxT} {c : Nat} (h : kdX c = 11) : c < (oX v).1 := kd_lt h (by decide)
theorem sh11 {v : VxT} {c : Nat} (h : kdX c = 11) (f : Nat → Int32) : (oX v).2.2.1 c f = .inl (v.2.1.1, 4, .inl f) := by
  show exX v (kdX c) c f = _
  rw [h]
  rfl
theorem lt12 {v : VxT} {c : Nat} (h : kdX c = 12) : c < (oX v).1 := kd_lt h (by decide)
theorem sh12 {v : VxT} {c : Nat} (h : kdX c = 12) (f : Nat → Int32) : (oX v).2.2.1 c f = .inl (v.2.1.1, 6, .inl f) := by
  show exX v (kdX c) c f = _
  rw [h]
  rfl
theorem lt13 {v : VxT} {c : Nat} (h : kdX c = 13) : c < (oX v).1 := kd_lt h (by decide)
theorem sh13 {v : VxT} {c : Nat} (h : kdX c = 13) (f : Nat → Int32) : (oX v).2.2.1 c f = .inl (v.2.1.2.2.2, 4, .inr (.inr (.inr (.inr (fun (i : Nat) => some (v.1 (c + 1 + 2 * i))))))) := by
  show exX v (kdX c) c f = _
  rw [h]
  rfl
theorem lt14 {v : VxT} {c : Nat} (h : kdX c = 14) : c < (oX v).1 := kd_lt h (by decide)
theorem sh14 {v : VxT} {c : Nat} (h : kdX c = 14) (f : Nat → Int32) : (oX v).2.2.1 c f = .inr (3, [.int (f 0), .int (f 1), .ref (v.1 (c + 1))]) := by
  show exX v (kdX c) c f = _
  rw [h]
  rfl
theorem lt15 {v : VxT} {c : Nat} (h : kdX c = 15) : c < (oX v).1 := kd_lt h (by decide)
theorem sh15 {v : VxT} {c : Nat} (h : kdX c = 15) (f : Nat → Int32) : (oX v).2.2.1 c f = .inl (v.2.1.1, 40, .inl f) := by
  show exX v (kdX c) c f = _
  rw [h]
  rfl
theorem kd1_heights {c : Nat} (h : kdX c = 1) : kdX (c + 1) = 2 := (by decide : ∀ c, c < 52 → kdX c = 1 → kdX (c + 1) = 2) c (kd_lt h (by decide)) h
theorem kd1_legs {c : Nat} (h : kdX c = 1) : kdX (c + 2) = 3 := (by decide : ∀ c, c < 52 → kdX c = 1 → kdX (c + 2) = 3) c (kd_lt h (by decide)) h
theorem kd5_tape {c : Nat} (h : kdX c = 5) : kdX (c + 1) = 6 := (by decide : ∀ c, c < 52 → kdX c = 5 → kdX (c + 1) = 6) c (kd_lt h (by decide)) h
theorem kd5_rule {c : Nat} (h : kdX c = 5) : kdX (c + 2) = 7 := (by decide : ∀ c, c < 52 → kdX c = 5 → kdX (c + 2) = 7) c (kd_lt h (by decide)) h
theorem kd7_code {c : Nat} (h : kdX c = 7) : kdX (c + 1) = 6 := (by decide : ∀ c, c < 52 → kdX c = 7 → kdX (c + 1) = 6) c (kd_lt h (by decide)) h
theorem kd7_ends {c : Nat} (h : kdX c = 7) : kdX (c + 2) = 8 := (by decide : ∀ c, c < 52 → kdX c = 7 → kdX (c + 2) = 8) c (kd_lt h (by decide)) h
theorem kd10_at {c : Nat} (h : kdX c = 10) : kdX (c + 1) = 11 := (by decide : ∀ c, c < 52 → kdX c = 10 → kdX (c + 1) = 11) c (kd_lt h (by decide)) h
theorem kd10_names {c : Nat} (h : kdX c = 10) : kdX (c + 2) = 12 := (by decide : ∀ c, c < 52 → kdX c = 10 → kdX (c + 2) = 12) c (kd_lt h (by decide)) h
theorem kd10_stack {c : Nat} (h : kdX c = 10) : kdX (c + 3) = 6 := (by decide : ∀ c, c < 52 → kdX c = 10 → kdX (c + 3) = 6) c (kd_lt h (by decide)) h
theorem kd14_items {c : Nat} (h : kdX c = 14) : kdX (c + 1) = 15 := (by decide : ∀ c, c < 52 → kdX c = 14 → kdX (c + 1) = 15) c (kd_lt h (by decide)) h
theorem kdE3 {c : Nat} {x : Int32} (h : kdX c = 3) (hi : vp_in x 4) : kdX (c + 1 + x.toNatClampNeg) = 4 := (by decide : ∀ c, c < 52 → ∀ i, i < 4 → kdX c = 3 → kdX (c + 1 + i) = 4) c (kd_lt h (by decide)) _ (Nat.not_le.mp fun q => hi (Or.inr q)) h
theorem kdE9 {c : Nat} {x : Int32} (h : kdX c = 9) (hi : vp_in x 6) : kdX (c + 1 + 3 * x.toNatClampNeg) = 7 := (by decide : ∀ c, c < 52 → ∀ i, i < 6 → kdX c = 9 → kdX (c + 1 + 3 * i) = 7) c (kd_lt h (by decide)) _ (Nat.not_le.mp fun q => hi (Or.inr q)) h
theorem kdE13 {c : Nat} {x : Int32} (h : kdX c = 13) (hi : vp_in x 4) : kdX (c + 1 + 2 * x.toNatClampNeg) = 14 := (by decide : ∀ c, c < 52 → ∀ i, i < 4 → kdX c = 13 → kdX (c + 1 + 2 * i) = 14) c (kd_lt h (by decide)) _ (Nat.not_le.mp fun q => hi (Or.inr q)) h
def mLen : List Nat := [0, 64, 4, 4, 4, 56, 42, 13, 160, 960, 24, 170, 6, 170, 4, 4, 77, 4, 4, 160, 40]
def exM (v : VmT) (c : Nat) (f : Nat → Int32) : va_E := match c with
  | 0 => .inr (7, [.ref (v.1 1), .ref (v.1 2), .ref (v.1 3), .ref (v.1 4), .int (f 4), .int (f 5), .int (f 6), .int (f 7), .int (f 8), .ref (v.1 5), .ref (v.1 6), .ref (v.1 7), .ref (v.1 8), .int (f 13), .int (f 14), .int (f 15), .int (f 16), .int (f 17), .int (f 18), .int (f 19), .ref (v.1 9), .ref (v.1 10), .int (f 22), .ref (v.1 11), .int (f 24), .int (f 25), .int (f 26), .int (f 27), .ref (v.1 12), .ref (v.1 13), .ref (v.1 14), .int (f 31), .int (f 32), .int (f 33), .int (f 34), .int (f 35), .int (f 36), .ref (v.1 15), .int (f 38), .ref (v.1 16), .int (f 40), .int (f 41), .ref (v.1 17), .ref (v.1 18), .ref (v.1 19), .ref (v.1 20)])
  | c + 1 => .inl (v.2.1, mLen.getD (c + 1) 0, .inl f)
abbrev oM (v : VmT) : OmT := (21, v.1, (fun c f => exM v c f), v.2.2, [(v.2.1, .int)], fun _ _ => True)
theorem stabM (v : VmT) : Stab (oM v) := fun _ _ _ _ _ _ => trivial
theorem tw_45 : Cond.lays RX0 RX0 "kind" "I" ∈ lw_tbl := tm1 45 (by decide +kernel)
theorem tw_47 : Cond.lays RX0 RX0 "length" "I" ∈ lw_tbl := tm1 47 (by decide +kernel)
theorem tw_49 : Cond.lays RX0 RX0 "number" "I" ∈ lw_tbl := tm1 49 (by decide +kernel)
theorem wlX0 : WL (u_ws RX0 TX0 3) := by
  show WL [u_lay RX0 TX0 0, u_lay RX0 TX0 1, u_lay RX0 TX0 2]
  exact wl_cons tw_45 rfl (wl_cons tw_47 rfl (wl_cons tw_49 rfl (wl_nil)))
theorem tw_116 : Cond.laysFinal RX1 RX1 "tape" "[I" ∈ lw_tbl := tm1 116 (by decide +kernel)
theorem tw_118 : Cond.laysFinal RX1 RX1 "rule" "LTableRocks$Rule;" ∈ lw_tbl := tm1 118 (by decide +kernel)
theorem tw_120 : Cond.lays RX1 RX1 "size" "I" ∈ lw_tbl := tm1 120 (by decide +kernel)
theorem tw_122 : Cond.lays RX1 RX1 "token" "I" ∈ lw_tbl := tm1 122 (by decide +kernel)
theorem tw_124 : Cond.lays RX1 RX1 "place" "I" ∈ lw_tbl := tm1 124 (by decide +kernel)
theorem tw_126 : Cond.lays RX1 RX1 "behind" "I" ∈ lw_tbl := tm1 126 (by decide +kernel)
theorem tw_128 : Cond.lays RX1 RX1 "number" "I" ∈ lw_tbl := tm1 128 (by decide +kernel)
theorem tw_130 : Cond.lays RX1 RX1 "fault" "I" ∈ lw_tbl := tm1 130 (by decide +kernel)
theorem wlX1 : WL (u_ws RX1 TX1 8) := by
  show WL [u_lay RX1 TX1 0, u_lay RX1 TX1 1, u_lay RX1 TX1 2, u_lay RX1 TX1 3, u_lay RX1 TX1 4, u_lay RX1 TX1 5, u_lay RX1 TX1 6, u_lay RX1 TX1 7]
  exact wl_cons tw_116 rfl (wl_cons tw_118 rfl (wl_cons tw_120 rfl (wl_cons tw_122 rfl (wl_cons tw_124 rfl (wl_cons tw_126 rfl (wl_cons tw_128 rfl (wl_cons tw_130 rfl (wl_nil))))))))
theorem tw_99 : Cond.laysFinal RX2 RX2 "code" "[I" ∈ lw_tbl := tm1 99 (by decide +kernel)
theorem tw_101 : Cond.laysFinal RX2 RX2 "ends" "[I" ∈ lw_tbl := tm1 101 (by decide +kernel)
theorem tw_103 : Cond.lays RX2 RX2 "size" "I" ∈ lw_tbl := tm1 103 (by decide +kernel)
theorem wlX2 : WL (u_ws RX2 TX2 3) := by
  show WL [u_lay RX2 TX2 0, u_lay RX2 TX2 1, u_lay RX2 TX2 2]
  exact wl_cons tw_99 rfl (wl_cons tw_101 rfl (wl_cons tw_103 rfl (wl_nil)))
theorem tw_180 : Cond.lays RX3 RX3 "sort" "I" ∈ lw_tbl := tm1 180 (by decide +kernel)
theorem tw_182 : Cond.lays RX3 RX3 "size" "I" ∈ lw_tbl := tm1 182 (by decide +kernel)
theorem tw_184 : Cond.laysFinal RX3 RX3 "items" "[I" ∈ lw_tbl := tm1 184 (by decide +kernel)
theorem wlX3 : WL (u_ws RX3 TX3 3) := by
  show WL [u_lay RX3 TX3 0, u_lay RX3 TX3 1, u_lay RX3 TX3 2]
  exact wl_cons tw_180 rfl (wl_cons tw_182 rfl (wl_cons tw_184 rfl (wl_nil)))
theorem tw_151 : Cond.laysFinal RX4 RX4 "at" "[I" ∈ lw_tbl := tm1 151 (by decide +kernel)
theorem tw_153 : Cond.laysFinal RX4 RX4 "names" "[I" ∈ lw_tbl := tm1 153 (by decide +kernel)
theorem tw_155 : Cond.laysFinal RX4 RX4 "stack" "[I" ∈ lw_tbl := tm1 155 (by decide +kernel)
theorem tw_157 : Cond.lays RX4 RX4 "gap" "I" ∈ lw_tbl := tm1 157 (by decide +kernel)
theorem tw_159 : Cond.lays RX4 RX4 "size" "I" ∈ lw_tbl := tm1 159 (by decide +kernel)
theorem tw_161 : Cond.lays RX4 RX4 "rock" "I" ∈ lw_tbl := tm1 161 (by decide +kernel)
theorem tw_163 : Cond.lays RX4 RX4 "lean" "I" ∈ lw_tbl := tm1 163 (by decide +kernel)
theorem wlX4 : WL (u_ws RX4 TX4 7) := by
  show WL [u_lay RX4 TX4 0, u_lay RX4 TX4 1, u_lay RX4 TX4 2, u_lay RX4 TX4 3, u_lay RX4 TX4 4, u_lay RX4 TX4 5, u_lay RX4 TX4 6]
  exact wl_cons tw_151 rfl (wl_cons tw_153 rfl (wl_cons tw_155 rfl (wl_cons tw_157 rfl (wl_cons tw_159 rfl (wl_cons tw_161 rfl (wl_cons tw_163 rfl (wl_nil)))))))
theorem tw_68 : Cond.laysFinal RX5 RX5 "heights" "[I" ∈ lw_tbl := tm1 68 (by decide +kernel)
theorem tw_70 : Cond.laysFinal RX5 RX5 "legs" "[LTableRocks$Leg;" ∈ lw_tbl := tm1 70 (by decide +kernel)
theorem tw_72 : Cond.lays RX5 RX5 "place" "I" ∈ lw_tbl := tm1 72 (by decide +kernel)
theorem tw_74 : Cond.lays RX5 RX5 "radius" "I" ∈ lw_tbl := tm1 74 (by decide +kernel)
theorem tw_76 : Cond.lays RX5 RX5 "turn" "I" ∈ lw_tbl := tm1 76 (by decide +kernel)
theorem tw_78 : Cond.lays RX5 RX5 "load" "I" ∈ lw_tbl := tm1 78 (by decide +kernel)
theorem tw_80 : Cond.lays RX5 RX5 "rule" "I" ∈ lw_tbl := tm1 80 (by decide +kernel)
theorem wlX5 : WL (u_ws RX5 TX5 7) := by
  show WL [u_lay RX5 TX5 0, u_lay RX5 TX5 1, u_lay RX5 TX5 2, u_lay RX5 TX5 3, u_lay RX5 TX5 4, u_lay RX5 TX5 5, u_lay RX5 TX5 6]
  exact wl_cons tw_68 rfl (wl_cons tw_70 rfl (wl_cons tw_72 rfl (wl_cons tw_74 rfl (wl_cons tw_76 rfl (wl_cons tw_78 rfl (wl_cons tw_80 rfl (wl_nil)))))))
theorem tw_351 : Cond.laysFinal RX7 RX7 "table" "LTableRocks$Table;" ∈ lw_tbl := tm2 111 (by decide +kernel)
theorem tw_353 : Cond.laysFinal RX7 RX7 "kept" "LTableRocks$Table;" ∈ lw_tbl := tm2 113 (by decide +kernel)
theorem tw_355 : Cond.lays RX7 RX7 "keeps" "Z" ∈ lw_tbl := tm2 115 (by decide +kernel)
theorem tw_357 : Cond.laysFinal RX7 RX7 "reader" "LTableRocks$Reader;" ∈ lw_tbl := tm2 117 (by decide +kernel)
theorem tw_359 : Cond.laysFinal RX7 RX7 "rules" "[LTableRocks$Rule;" ∈ lw_tbl := tm2 119 (by decide +kernel)
theorem tw_361 : Cond.lays RX7 RX7 "ruleCount" "I" ∈ lw_tbl := tm2 121 (by decide +kernel)
theorem tw_363 : Cond.laysFinal RX7 RX7 "stand" "LTableRocks$Stand;" ∈ lw_tbl := tm2 123 (by decide +kernel)
theorem tw_365 : Cond.laysFinal RX7 RX7 "sheets" "[LTableRocks$Sheet;" ∈ lw_tbl := tm2 125 (by decide +kernel)
theorem wlX7 : WL (u_ws RX7 TX7 8) := by
  show WL [u_lay RX7 TX7 0, u_lay RX7 TX7 1, u_lay RX7 TX7 2, u_lay RX7 TX7 3, u_lay RX7 TX7 4, u_lay RX7 TX7 5, u_lay RX7 TX7 6, u_lay RX7 TX7 7]
  exact wl_cons tw_351 rfl (wl_cons tw_353 rfl (wl_cons tw_355 rfl (wl_cons tw_357 rfl (wl_cons tw_359 rfl (wl_cons tw_361 rfl (wl_cons tw_363 rfl (wl_cons tw_365 rfl (wl_nil))))))))
theorem tw_885 : Cond.laysFinal RX8 RX8 "heights" "[I" ∈ lw_tbl := tm4 165 (by decide +kernel)
theorem tw_887 : Cond.laysFinal RX8 RX8 "kinds" "[I" ∈ lw_tbl := tm4 167 (by decide +kernel)
theorem tw_889 : Cond.laysFinal RX8 RX8 "longs" "[I" ∈ lw_tbl := tm4 169 (by decide +kernel)
theorem tw_891 : Cond.laysFinal RX8 RX8 "numbers" "[I" ∈ lw_tbl := tm4 171 (by decide +kernel)
theorem tw_893 : Cond.lays RX8 RX8 "place" "I" ∈ lw_tbl := tm4 173 (by decide +kernel)
theorem tw_895 : Cond.lays RX8 RX8 "radius" "I" ∈ lw_tbl := tm4 175 (by decide +kernel)
theorem tw_897 : Cond.lays RX8 RX8 "turned" "I" ∈ lw_tbl := tm4 177 (by decide +kernel)
theorem tw_899 : Cond.lays RX8 RX8 "load" "I" ∈ lw_tbl := tm4 179 (by decide +kernel)
theorem tw_901 : Cond.lays RX8 RX8 "thrown" "I" ∈ lw_tbl := tm4 181 (by decide +kernel)
theorem tw_903 : Cond.laysFinal RX8 RX8 "firstText" "[I" ∈ lw_tbl := tm4 183 (by decide +kernel)
theorem tw_905 : Cond.laysFinal RX8 RX8 "letters" "[I" ∈ lw_tbl := tm4 185 (by decide +kernel)
theorem tw_907 : Cond.laysFinal RX8 RX8 "wordAt" "[I" ∈ lw_tbl := tm4 187 (by decide +kernel)
theorem tw_909 : Cond.laysFinal RX8 RX8 "tape" "[I" ∈ lw_tbl := tm4 189 (by decide +kernel)
theorem tw_911 : Cond.lays RX8 RX8 "tapeMany" "I" ∈ lw_tbl := tm4 191 (by decide +kernel)
theorem tw_913 : Cond.lays RX8 RX8 "textMany" "I" ∈ lw_tbl := tm4 193 (by decide +kernel)
theorem tw_915 : Cond.lays RX8 RX8 "rule" "I" ∈ lw_tbl := tm4 195 (by decide +kernel)
theorem tw_917 : Cond.lays RX8 RX8 "token" "I" ∈ lw_tbl := tm4 197 (by decide +kernel)
theorem tw_919 : Cond.lays RX8 RX8 "tokenAt" "I" ∈ lw_tbl := tm4 199 (by decide +kernel)
theorem tw_921 : Cond.lays RX8 RX8 "tokenValue" "I" ∈ lw_tbl := tm4 201 (by decide +kernel)
theorem tw_923 : Cond.lays RX8 RX8 "next" "I" ∈ lw_tbl := tm4 203 (by decide +kernel)
theorem tw_925 : Cond.laysFinal RX8 RX8 "steps" "[I" ∈ lw_tbl := tm4 205 (by decide +kernel)
theorem tw_927 : Cond.laysFinal RX8 RX8 "bounds" "[I" ∈ lw_tbl := tm4 207 (by decide +kernel)
theorem tw_929 : Cond.lays RX8 RX8 "stepMany" "I" ∈ lw_tbl := tm4 209 (by decide +kernel)
theorem tw_931 : Cond.laysFinal RX8 RX8 "waiting" "[I" ∈ lw_tbl := tm4 211 (by decide +kernel)
theorem tw_933 : Cond.lays RX8 RX8 "waitMany" "I" ∈ lw_tbl := tm4 213 (by decide +kernel)
theorem tw_935 : Cond.lays RX8 RX8 "isDone" "Z" ∈ lw_tbl := tm4 215 (by decide +kernel)
theorem tw_937 : Cond.lays RX8 RX8 "wantsOne" "Z" ∈ lw_tbl := tm4 217 (by decide +kernel)
theorem tw_939 : Cond.lays RX8 RX8 "mayNot" "Z" ∈ lw_tbl := tm4 219 (by decide +kernel)
theorem tw_941 : Cond.laysFinal RX8 RX8 "named" "[I" ∈ lw_tbl := tm4 221 (by decide +kernel)
theorem tw_943 : Cond.laysFinal RX8 RX8 "stack" "[I" ∈ lw_tbl := tm4 223 (by decide +kernel)
theorem tw_945 : Cond.laysFinal RX8 RX8 "at" "[I" ∈ lw_tbl := tm4 225 (by decide +kernel)
theorem tw_947 : Cond.lays RX8 RX8 "gap" "I" ∈ lw_tbl := tm4 227 (by decide +kernel)
theorem tw_949 : Cond.lays RX8 RX8 "size" "I" ∈ lw_tbl := tm4 229 (by decide +kernel)
theorem tw_951 : Cond.lays RX8 RX8 "rock" "I" ∈ lw_tbl := tm4 231 (by decide +kernel)
theorem tw_953 : Cond.lays RX8 RX8 "lean" "I" ∈ lw_tbl := tm4 233 (by decide +kernel)
theorem tw_955 : Cond.lays RX8 RX8 "bearing" "I" ∈ lw_tbl := tm4 235 (by decide +kernel)
theorem tw_957 : Cond.lays RX8 RX8 "loose" "I" ∈ lw_tbl := tm4 237 (by decide +kernel)
theorem tw_959 : Cond.laysFinal RX8 RX8 "kept" "[I" ∈ lw_tbl := tm4 239 (by decide +kernel)
theorem tw_961 : Cond.lays RX8 RX8 "hasImage" "Z" ∈ lw_tbl := tm5 1 (by decide +kernel)
theorem tw_963 : Cond.laysFinal RX8 RX8 "imaged" "[I" ∈ lw_tbl := tm5 3 (by decide +kernel)
theorem tw_965 : Cond.lays RX8 RX8 "imageAt" "I" ∈ lw_tbl := tm5 5 (by decide +kernel)
theorem tw_967 : Cond.lays RX8 RX8 "isTaking" "Z" ∈ lw_tbl := tm5 7 (by decide +kernel)
theorem tw_969 : Cond.laysFinal RX8 RX8 "sheetSort" "[I" ∈ lw_tbl := tm5 9 (by decide +kernel)
theorem tw_971 : Cond.laysFinal RX8 RX8 "sheetMany" "[I" ∈ lw_tbl := tm5 11 (by decide +kernel)
theorem tw_973 : Cond.laysFinal RX8 RX8 "sheets" "[I" ∈ lw_tbl := tm5 13 (by decide +kernel)
theorem tw_975 : Cond.laysFinal RX8 RX8 "between" "[I" ∈ lw_tbl := tm5 15 (by decide +kernel)
theorem wlX8 : WL (u_ws RX8 TX8 46) := by
  show WL [u_lay RX8 TX8 0, u_lay RX8 TX8 1, u_lay RX8 TX8 2, u_lay RX8 TX8 3, u_lay RX8 TX8 4, u_lay RX8 TX8 5, u_lay RX8 TX8 6, u_lay RX8 TX8 7, u_lay RX8 TX8 8, u_lay RX8 TX8 9, u_lay RX8 TX8 10, u_lay RX8 TX8 11, u_lay RX8 TX8 12, u_lay RX8 TX8 13, u_lay RX8 TX8 14, u_lay RX8 TX8 15, u_lay RX8 TX8 16, u_lay RX8 TX8 17, u_lay RX8 TX8 18, u_lay RX8 TX8 19, u_lay RX8 TX8 20, u_lay RX8 TX8 21, u_lay RX8 TX8 22, u_lay RX8 TX8 23, u_lay RX8 TX8 24, u_lay RX8 TX8 25, u_lay RX8 TX8 26, u_lay RX8 TX8 27, u_lay RX8 TX8 28, u_lay RX8 TX8 29, u_lay RX8 TX8 30, u_lay RX8 TX8 31, u_lay RX8 TX8 32, u_lay RX8 TX8 33, u_lay RX8 TX8 34, u_lay RX8 TX8 35, u_lay RX8 TX8 36, u_lay RX8 TX8 37, u_lay RX8 TX8 38, u_lay RX8 TX8 39, u_lay RX8 TX8 40, u_lay RX8 TX8 41, u_lay RX8 TX8 42, u_lay RX8 TX8 43, u_lay RX8 TX8 44, u_lay RX8 TX8 45]
  exact wl_cons tw_885 rfl (wl_cons tw_887 rfl (wl_cons tw_889 rfl (wl_cons tw_891 rfl (wl_cons tw_893 rfl (wl_cons tw_895 rfl (wl_cons tw_897 rfl (wl_cons tw_899 rfl (wl_cons tw_901 rfl (wl_cons tw_903 rfl (wl_cons tw_905 rfl (wl_cons tw_907 rfl (wl_cons tw_909 rfl (wl_cons tw_911 rfl (wl_cons tw_913 rfl (wl_cons tw_915 rfl (wl_cons tw_917 rfl (wl_cons tw_919 rfl (wl_cons tw_921 rfl (wl_cons tw_923 rfl (wl_cons tw_925 rfl (wl_cons tw_927 rfl (wl_cons tw_929 rfl (wl_cons tw_931 rfl (wl_cons tw_933 rfl (wl_cons tw_935 rfl (wl_cons tw_937 rfl (wl_cons tw_939 rfl (wl_cons tw_941 rfl (wl_cons tw_943 rfl (wl_cons tw_945 rfl (wl_cons tw_947 rfl (wl_cons tw_949 rfl (wl_cons tw_951 rfl (wl_cons tw_953 rfl (wl_cons tw_955 rfl (wl_cons tw_957 rfl (wl_cons tw_959 rfl (wl_cons tw_961 rfl (wl_cons tw_963 rfl (wl_cons tw_965 rfl (wl_cons tw_967 rfl (wl_cons tw_969 rfl (wl_cons tw_971 rfl (wl_cons tw_973 rfl (wl_cons tw_975 rfl (wl_nil))))))))))))))))))))))))))))))))))))))))))))))
theorem tw_39 : Cond.fieldLink RX0 15 RX0 "length" "I" ∈ lw_tbl := tm1 39 (by decide +kernel)
theorem fg_X0_X0_length {v : VxT} {l : Launch} {g : CxT} {k nL pc n : Nat} {cc : ByteArray} {ret : Option FieldType} {L : List (Nat × Value)} {st : List Value} {S : Mem} (c : Nat) (hk : kdX c = 4) (ok : Ok l g (oX v) nL cc RX0 ret) (hd : decode cc pc = .ok (.getfield 15, 3)) (hn : pc + 3 = n) (h : G g (oX v) k nL n L (.int (S c 1) :: st) S) : G g (oX v) k nL pc L (.ref (v.1 c) :: st) S := g_get ok (C := RX0) (T := TX0) (N := 3) (ci := 0) (c := c) (fk := 1) (lt4 hk) (sh4 hk _) rfl (by decide) rfl wlX0 tw_39 rfl hd hn h
theorem tw_42 : Cond.fieldLink RX0 18 RX0 "number" "I" ∈ lw_tbl := tm1 42 (by decide +kernel)
theorem fg_X0_X0_number {v : VxT} {l : Launch} {g : CxT} {k nL pc n : Nat} {cc : ByteArray} {ret : Option FieldType} {L : List (Nat × Value)} {st : List Value} {S : Mem} (c : Nat) (hk : kdX c = 4) (ok : Ok l g (oX v) nL cc RX0 ret) (hd : decode cc pc = .ok (.getfield 18, 3)) (hn : pc + 3 = n) (h : G g (oX v) k nL n L (.int (S c 2) :: st) S) : G g (oX v) k nL pc L (.ref (v.1 c) :: st) S := g_get ok (C := RX0) (T := TX0) (N := 3) (ci := 0) (c := c) (fk := 2) (lt4 hk) (sh4 hk _) rfl (by decide) rfl wlX0 tw_42 rfl hd hn h
theorem tw_416 : Cond.methodLink RX0 29 Lib.Math.max.name ∈ lw_tbl := tm2 176 (by decide +kernel)
theorem tw_417 : Cond.static Lib.Math.max.name ∈ lw_tbl := tm2 177 (by decide +kernel)
theorem tw_15 : Cond.initialized RJ9 ∈ lw_tbl := tm1 15 (by decide +kernel)
theorem tw_418 : Cond.code Lib.Math.max.name Lib.Math.max.code 2 (some .int) ∈ lw_tbl := tm2 178 (by rfl)
theorem tw_37 : Cond.fieldLink RX0 11 RX0 "kind" "I" ∈ lw_tbl := tm1 37 (by decide +kernel)
theorem fg_X0_X0_kind {v : VxT} {l : Launch} {g : CxT} {k nL pc n : Nat} {cc : ByteArray} {ret : Option FieldType} {L : List (Nat × Value)} {st : List Value} {S : Mem} (c : Nat) (hk : kdX c = 4) (ok : Ok l g (oX v) nL cc RX0 ret) (hd : decode cc pc = .ok (.getfield 11, 3)) (hn : pc + 3 = n) (h : G g (oX v) k nL n L (.int (S c 0) :: st) S) : G g (oX v) k nL pc L (.ref (v.1 c) :: st) S := g_get ok (C := RX0) (T := TX0) (N := 3) (ci := 0) (c := c) (fk := 0) (lt4 hk) (sh4 hk _) rfl (by decide) rfl wlX0 tw_37 rfl hd hn h
theorem tw_408 : Cond.methodLink RX0 21 yX0_feltTall ∈ lw_tbl := tm2 168 (by decide +kernel)
theorem tw_411 : Cond.code yX0_feltTall cX0_feltTall 2 (some .int) ∈ lw_tbl := tm2 171 (by rfl)
theorem tw_3 : Cond.initialized RX0 ∈ lw_tbl := tm1 3 (by decide +kernel)
theorem cal_X0_feltTall : CalC yX0_feltTall cX0_feltTall 2 (some .int) 1 := calc_of tw_411 tw_3 (by decide +kernel)
theorem tw_410 : Cond.instanceMethod yX0_feltTall ∈ lw_tbl := tm2 170 (by decide +kernel)
theorem tp_21 : Cond.selects RX0 yX0_feltTall yX0_feltTall ∈ lw_tbl := pm (q := (yX0_feltTall, _)) 21 (by first | rfl | decide +kernel)
theorem tw_412 : Cond.methodLink RX0 25 yX0_screwTall ∈ lw_tbl := tm2 172 (by decide +kernel)
theorem tw_415 : Cond.code yX0_screwTall cX0_screwTall 1 (some .int) ∈ lw_tbl := tm2 175 (by rfl)
theorem cal_X0_screwTall : CalC yX0_screwTall cX0_screwTall 1 (some .int) 0 := calc_of tw_415 tw_3 (by decide +kernel)
theorem tw_414 : Cond.instanceMethod yX0_screwTall ∈ lw_tbl := tm2 174 (by decide +kernel)
theorem tp_22 : Cond.selects RX0 yX0_screwTall yX0_screwTall ∈ lw_tbl := pm (q := (yX0_screwTall, _)) 22 (by first | rfl | decide +kernel)
theorem tw_504 : Cond.methodLink RX0 38 Lib.Math.min.name ∈ lw_tbl := tm3 24 (by decide +kernel)
theorem tw_486 : Cond.static Lib.Math.min.name ∈ lw_tbl := tm3 6 (by decide +kernel)
theorem tw_487 : Cond.code Lib.Math.min.name Lib.Math.min.code 2 (some .int) ∈ lw_tbl := tm3 7 (by rfl)
theorem tw_500 : Cond.methodLink RX0 35 yX0_feltGives ∈ lw_tbl := tm3 20 (by decide +kernel)
theorem tw_503 : Cond.code yX0_feltGives cX0_feltGives 2 (some .int) ∈ lw_tbl := tm3 23 (by rfl)
theorem cal_X0_feltGives : CalC yX0_feltGives cX0_feltGives 2 (some .int) 1 := calc_of tw_503 tw_3 (by decide +kernel)
theorem tw_502 : Cond.instanceMethod yX0_feltGives ∈ lw_tbl := tm3 22 (by decide +kernel)
theorem tp_34 : Cond.selects RX0 yX0_feltGives yX0_feltGives ∈ lw_tbl := pm (q := (yX0_feltGives, _)) 34 (by first | rfl | decide +kernel)
theorem tw_373 : Cond.methodLink RX7 74 yX7_within ∈ lw_tbl := tm2 133 (by decide +kernel)
theorem tw_254 : Cond.code yX7_within cX7_within 3 (some .boolean) ∈ lw_tbl := tm2 14 (by rfl)
theorem tw_1 : Cond.initialized RX7 ∈ lw_tbl := tm1 1 (by decide +kernel)
theorem cal_X7_within : CalC yX7_within cX7_within 3 (some .boolean) 3 := calc_of tw_254 tw_1 (by decide +kernel)
theorem tw_253 : Cond.static yX7_within ∈ lw_tbl := tm2 13 (by decide +kernel)
theorem tw_615 : Cond.methodLinkNest RX0 41 yX7_isKind RX7 ∈ lw_tbl := tm3 135 (by decide +kernel)
theorem tw_387 : Cond.code yX7_isKind cX7_isKind 1 (some .boolean) ∈ lw_tbl := tm2 147 (by rfl)
theorem cal_X7_isKind : CalC yX7_isKind cX7_isKind 1 (some .boolean) 1 := calc_of tw_387 tw_1 (by decide +kernel)
theorem tw_386 : Cond.static yX7_isKind ∈ lw_tbl := tm2 146 (by decide +kernel)
theorem tw_616 : Cond.fieldLink RX0 45 RX0 "UNDER" "[I" ∈ lw_tbl := tm3 136 (by decide +kernel)
theorem tw_611 : Cond.methodLink RX0 49 yX0_isOne ∈ lw_tbl := tm3 131 (by decide +kernel)
theorem tw_614 : Cond.code yX0_isOne cX0_isOne 4 (some .boolean) ∈ lw_tbl := tm3 134 (by rfl)
theorem cal_X0_isOne : CalC yX0_isOne cX0_isOne 4 (some .boolean) 1 := calc_of tw_614 tw_3 (by decide +kernel)
theorem tw_613 : Cond.instanceMethod yX0_isOne ∈ lw_tbl := tm3 133 (by decide +kernel)
theorem tp_48 : Cond.selects RX0 yX0_isOne yX0_isOne ∈ lw_tbl := pm (q := (yX0_isOne, _)) 48 (by first | rfl | decide +kernel)
theorem tw_618 : Cond.methodLinkNest RX0 52 yX7_within RX7 ∈ lw_tbl := tm3 138 (by decide +kernel)
theorem fp_X0_X0_length {v : VxT} {l : Launch} {g : CxT} {k nL pc n : Nat} {cc : ByteArray} {ret : Option FieldType} {L : List (Nat × Value)} {st : List Value} {S : Mem} (c : Nat) (hk : kdX c = 4) (ok : Ok l g (oX v) nL cc RX0 ret) {x : Int32} (hd : decode cc pc = .ok (.putfield 15, 3)) (hn : pc + 3 = n) (h : G g (oX v) k nL n L st (mset S c (upd (S c) 1 x))) : G g (oX v) k nL pc L (.int x :: .ref (v.1 c) :: st) S :=
  g_put (ty := .int) ok (C := RX0) (T := TX0) (N := 3) (ci := 0) (c := c) (fk := 1) (lt4 hk) (sh4 hk _) rfl (by decide) rfl wlX0 tw_39 tyX0_ok nmX0 rfl (by decide +kernel) rfl rfl (Nat.le_of_ble_eq_true rfl) (sh4 hk _) hd hn h
theorem tw_109 : Cond.fieldLink RX1 22 RX1 "size" "I" ∈ lw_tbl := tm1 109 (by decide +kernel)
theorem fg_X1_X1_size {v : VxT} {l : Launch} {g : CxT} {k nL pc n : Nat} {cc : ByteArray} {ret : Option FieldType} {L : List (Nat × Value)} {st : List Value} {S : Mem} (c : Nat) (hk : kdX c = 5) (ok : Ok l g (oX v) nL cc RX1 ret) (hd : decode cc pc = .ok (.getfield 22, 3)) (hn : pc + 3 = n) (h : G g (oX v) k nL n L (.int (S c 2) :: st) S) : G g (oX v) k nL pc L (.ref (v.1 c) :: st) S := g_get ok (C := RX1) (T := TX1) (N := 8) (ci := 1) (c := c) (fk := 2) (lt5 hk) (sh5 hk _) rfl (by decide) rfl wlX1 tw_109 rfl hd hn h
theorem tw_106 : Cond.fieldLink RX1 9 RX1 "tape" "[I" ∈ lw_tbl := tm1 106 (by decide +kernel)
theorem fg_X1_X1_tape {v : VxT} {l : Launch} {g : CxT} {k nL pc n : Nat} {cc : ByteArray} {ret : Option FieldType} {L : List (Nat × Value)} {st : List Value} {S : Mem} (c : Nat) (hk : kdX c = 5) (ok : Ok l g (oX v) nL cc RX1 ret) (hd : decode cc pc = .ok (.getfield 9, 3)) (hn : pc + 3 = n) (h : G g (oX v) k nL n L (.ref (v.1 (c + 1)) :: st) S) : G g (oX v) k nL pc L (.ref (v.1 c) :: st) S := g_get ok (C := RX1) (T := TX1) (N := 8) (ci := 1) (c := c) (fk := 0) (lt5 hk) (sh5 hk _) rfl (by decide) rfl wlX1 tw_106 rfl hd hn h
theorem fp_X1_X1_size {v : VxT} {l : Launch} {g : CxT} {k nL pc n : Nat} {cc : ByteArray} {ret : Option FieldType} {L : List (Nat × Value)} {st : List Value} {S : Mem} (c : Nat) (hk : kdX c = 5) (ok : Ok l g (oX v) nL cc RX1 ret) {x : Int32} (hd : decode cc pc = .ok (.putfield 22, 3)) (hn : pc + 3 = n) (h : G g (oX v) k nL n L st (mset S c (upd (S c) 2 x))) : G g (oX v) k nL pc L (.int x :: .ref (v.1 c) :: st) S :=
  g_put (ty := .int) ok (C := RX1) (T := TX1) (N := 8) (ci := 1) (c := c) (fk := 2) (lt5 hk) (sh5 hk _) rfl (by decide) rfl wlX1 tw_109 tyX1_ok nmX1 rfl (by decide +kernel) rfl rfl (Nat.le_of_ble_eq_true rfl) (sh5 hk _) hd hn h
theorem tw_252 : Cond.methodLinkNest RX1 82 yX7_within RX7 ∈ lw_tbl := tm2 12 (by decide +kernel)
theorem tw_112 : Cond.fieldLink RX1 31 RX1 "place" "I" ∈ lw_tbl := tm1 112 (by decide +kernel)
theorem fg_X1_X1_place {v : VxT} {l : Launch} {g : CxT} {k nL pc n : Nat} {cc : ByteArray} {ret : Option FieldType} {L : List (Nat × Value)} {st : List Value} {S : Mem} (c : Nat) (hk : kdX c = 5) (ok : Ok l g (oX v) nL cc RX1 ret) (hd : decode cc pc = .ok (.getfield 31, 3)) (hn : pc + 3 = n) (h : G g (oX v) k nL n L (.int (S c 4) :: st) S) : G g (oX v) k nL pc L (.ref (v.1 c) :: st) S := g_get ok (C := RX1) (T := TX1) (N := 8) (ci := 1) (c := c) (fk := 4) (lt5 hk) (sh5 hk _) rfl (by decide) rfl wlX1 tw_112 rfl hd hn h
theorem tw_268 : Cond.methodLink RX1 129 yJ0_length_8abf5 ∈ lw_tbl := tm2 28 (by decide +kernel)
theorem tw_191 : Cond.code yJ0_length_8abf5 cJ0_length_8abf5 1 (some .int) ∈ lw_tbl := tm1 191 (by rfl)
theorem tw_8 : Cond.initialized RJ0 ∈ lw_tbl := tm1 8 (by decide +kernel)
theorem cal_J0_length_8abf5 : CalC yJ0_length_8abf5 cJ0_length_8abf5 1 (some .int) 0 := calc_of tw_191 tw_8 (by decide +kernel)
theorem tw_189 : Cond.instanceMethod yJ0_length_8abf5 ∈ lw_tbl := tm1 189 (by decide +kernel)
theorem tw_190 : Cond.selects RJ0 yJ0_length_8abf5 yJ0_length_8abf5 ∈ lw_tbl := tm1 190 (by decide +kernel)
theorem tw_269 : Cond.methodLink RX1 134 yJ0_charAt_5068e ∈ lw_tbl := tm2 29 (by decide +kernel)
theorem tw_201 : Cond.code yJ0_charAt_5068e cJ0_charAt_5068e 2 (some .char) ∈ lw_tbl := tm1 201 (by rfl)
theorem cal_J0_charAt_5068e : CalC yJ0_charAt_5068e cJ0_charAt_5068e 2 (some .char) 1 := calc_of tw_201 tw_8 (by decide +kernel)
theorem tw_199 : Cond.instanceMethod yJ0_charAt_5068e ∈ lw_tbl := tm1 199 (by decide +kernel)
theorem tw_200 : Cond.selects RJ0 yJ0_charAt_5068e yJ0_charAt_5068e ∈ lw_tbl := tm1 200 (by decide +kernel)
theorem tw_113 : Cond.fieldLink RX1 34 RX1 "behind" "I" ∈ lw_tbl := tm1 113 (by decide +kernel)
theorem fg_X1_X1_behind {v : VxT} {l : Launch} {g : CxT} {k nL pc n : Nat} {cc : ByteArray} {ret : Option FieldType} {L : List (Nat × Value)} {st : List Value} {S : Mem} (c : Nat) (hk : kdX c = 5) (ok : Ok l g (oX v) nL cc RX1 ret) (hd : decode cc pc = .ok (.getfield 34, 3)) (hn : pc + 3 = n) (h : G g (oX v) k nL n L (.int (S c 5) :: st) S) : G g (oX v) k nL pc L (.ref (v.1 c) :: st) S := g_get ok (C := RX1) (T := TX1) (N := 8) (ci := 1) (c := c) (fk := 5) (lt5 hk) (sh5 hk _) rfl (by decide) rfl wlX1 tw_113 rfl hd hn h
theorem tw_264 : Cond.methodLink RX1 103 yX1_spells ∈ lw_tbl := tm2 24 (by decide +kernel)
theorem tw_267 : Cond.code yX1_spells cX1_spells 3 (some .boolean) ∈ lw_tbl := tm2 27 (by rfl)
theorem tw_4 : Cond.initialized RX1 ∈ lw_tbl := tm1 4 (by decide +kernel)
theorem cal_X1_spells : CalC yX1_spells cX1_spells 3 (some .boolean) 1 := calc_of tw_267 tw_4 (by decide +kernel)
theorem tw_266 : Cond.instanceMethod yX1_spells ∈ lw_tbl := tm2 26 (by decide +kernel)
theorem tp_5 : Cond.selects RX1 yX1_spells yX1_spells ∈ lw_tbl := pm (q := (yX1_spells, _)) 5 (by first | rfl | decide +kernel)
theorem tw_114 : Cond.fieldLink RX1 37 RX1 "number" "I" ∈ lw_tbl := tm1 114 (by decide +kernel)
theorem fg_X1_X1_number {v : VxT} {l : Launch} {g : CxT} {k nL pc n : Nat} {cc : ByteArray} {ret : Option FieldType} {L : List (Nat × Value)} {st : List Value} {S : Mem} (c : Nat) (hk : kdX c = 5) (ok : Ok l g (oX v) nL cc RX1 ret) (hd : decode cc pc = .ok (.getfield 37, 3)) (hn : pc + 3 = n) (h : G g (oX v) k nL n L (.int (S c 6) :: st) S) : G g (oX v) k nL pc L (.ref (v.1 c) :: st) S := g_get ok (C := RX1) (T := TX1) (N := 8) (ci := 1) (c := c) (fk := 6) (lt5 hk) (sh5 hk _) rfl (by decide) rfl wlX1 tw_114 rfl hd hn h
theorem fp_X1_X1_number {v : VxT} {l : Launch} {g : CxT} {k nL pc n : Nat} {cc : ByteArray} {ret : Option FieldType} {L : List (Nat × Value)} {st : List Value} {S : Mem} (c : Nat) (hk : kdX c = 5) (ok : Ok l g (oX v) nL cc RX1 ret) {x : Int32} (hd : decode cc pc = .ok (.putfield 37, 3)) (hn : pc + 3 = n) (h : G g (oX v) k nL n L st (mset S c (upd (S c) 6 x))) : G g (oX v) k nL pc L (.int x :: .ref (v.1 c) :: st) S :=
  g_put (ty := .int) ok (C := RX1) (T := TX1) (N := 8) (ci := 1) (c := c) (fk := 6) (lt5 hk) (sh5 hk _) rfl (by decide) rfl wlX1 tw_114 tyX1_ok nmX1 rfl (by decide +kernel) rfl rfl (Nat.le_of_ble_eq_true rfl) (sh5 hk _) hd hn h
theorem fp_X1_X1_place {v : VxT} {l : Launch} {g : CxT} {k nL pc n : Nat} {cc : ByteArray} {ret : Option FieldType} {L : List (Nat × Value)} {st : List Value} {S : Mem} (c : Nat) (hk : kdX c = 5) (ok : Ok l g (oX v) nL cc RX1 ret) {x : Int32} (hd : decode cc pc = .ok (.putfield 31, 3)) (hn : pc + 3 = n) (h : G g (oX v) k nL n L st (mset S c (upd (S c) 4 x))) : G g (oX v) k nL pc L (.int x :: .ref (v.1 c) :: st) S :=
  g_put (ty := .int) ok (C := RX1) (T := TX1) (N := 8) (ci := 1) (c := c) (fk := 4) (lt5 hk) (sh5 hk _) rfl (by decide) rfl wlX1 tw_112 tyX1_ok nmX1 rfl (by decide +kernel) rfl rfl (Nat.le_of_ble_eq_true rfl) (sh5 hk _) hd hn h
theorem fp_X1_X1_behind {v : VxT} {l : Launch} {g : CxT} {k nL pc n : Nat} {cc : ByteArray} {ret : Option FieldType} {L : List (Nat × Value)} {st : List Value} {S : Mem} (c : Nat) (hk : kdX c = 5) (ok : Ok l g (oX v) nL cc RX1 ret) {x : Int32} (hd : decode cc pc = .ok (.putfield 34, 3)) (hn : pc + 3 = n) (h : G g (oX v) k nL n L st (mset S c (upd (S c) 5 x))) : G g (oX v) k nL pc L (.int x :: .ref (v.1 c) :: st) S :=
  g_put (ty := .int) ok (C := RX1) (T := TX1) (N := 8) (ci := 1) (c := c) (fk := 5) (lt5 hk) (sh5 hk _) rfl (by decide) rfl wlX1 tw_113 tyX1_ok nmX1 rfl (by decide +kernel) rfl rfl (Nat.le_of_ble_eq_true rfl) (sh5 hk _) hd hn h
theorem tw_285 : Cond.methodLinkNest RX1 97 yX6_ofSign RX7 ∈ lw_tbl := tm2 45 (by decide +kernel)
theorem tw_287 : Cond.code yX6_ofSign cX6_ofSign 1 (some .int) ∈ lw_tbl := tm2 47 (by rfl)
theorem tw_12 : Cond.initialized RX6 ∈ lw_tbl := tm1 12 (by decide +kernel)
theorem cal_X6_ofSign : CalC yX6_ofSign cX6_ofSign 1 (some .int) 1 := calc_of tw_287 tw_12 (by decide +kernel)
theorem tw_286 : Cond.static yX6_ofSign ∈ lw_tbl := tm2 46 (by decide +kernel)
theorem tw_111 : Cond.fieldLink RX1 28 RX1 "token" "I" ∈ lw_tbl := tm1 111 (by decide +kernel)
theorem fp_X1_X1_token {v : VxT} {l : Launch} {g : CxT} {k nL pc n : Nat} {cc : ByteArray} {ret : Option FieldType} {L : List (Nat × Value)} {st : List Value} {S : Mem} (c : Nat) (hk : kdX c = 5) (ok : Ok l g (oX v) nL cc RX1 ret) {x : Int32} (hd : decode cc pc = .ok (.putfield 28, 3)) (hn : pc + 3 = n) (h : G g (oX v) k nL n L st (mset S c (upd (S c) 3 x))) : G g (oX v) k nL pc L (.int x :: .ref (v.1 c) :: st) S :=
  g_put (ty := .int) ok (C := RX1) (T := TX1) (N := 8) (ci := 1) (c := c) (fk := 3) (lt5 hk) (sh5 hk _) rfl (by decide) rfl wlX1 tw_111 tyX1_ok nmX1 rfl (by decide +kernel) rfl rfl (Nat.le_of_ble_eq_true rfl) (sh5 hk _) hd hn h
theorem tw_255 : Cond.methodLink RX1 86 yX1_endOfRun ∈ lw_tbl := tm2 15 (by decide +kernel)
theorem tw_258 : Cond.code yX1_endOfRun cX1_endOfRun 4 (some .int) ∈ lw_tbl := tm2 18 (by rfl)
theorem cal_X1_endOfRun : CalC yX1_endOfRun cX1_endOfRun 4 (some .int) 2 := calc_of tw_258 tw_4 (by decide +kernel)
theorem tw_257 : Cond.instanceMethod yX1_endOfRun ∈ lw_tbl := tm2 17 (by decide +kernel)
theorem tp_3 : Cond.selects RX1 yX1_endOfRun yX1_endOfRun ∈ lw_tbl := pm (q := (yX1_endOfRun, _)) 3 (by first | rfl | decide +kernel)
theorem tw_281 : Cond.methodLink RX1 94 yX1_numberToken ∈ lw_tbl := tm2 41 (by decide +kernel)
theorem tw_284 : Cond.code yX1_numberToken cX1_numberToken 2 (some .int) ∈ lw_tbl := tm2 44 (by rfl)
theorem cal_X1_numberToken : CalC yX1_numberToken cX1_numberToken 2 (some .int) 0 := calc_of tw_284 tw_4 (by decide +kernel)
theorem tw_283 : Cond.instanceMethod yX1_numberToken ∈ lw_tbl := tm2 43 (by decide +kernel)
theorem tp_6 : Cond.selects RX1 yX1_numberToken yX1_numberToken ∈ lw_tbl := pm (q := (yX1_numberToken, _)) 6 (by first | rfl | decide +kernel)
theorem tw_259 : Cond.methodLink RX1 90 yX1_wordToken ∈ lw_tbl := tm2 19 (by decide +kernel)
theorem tw_262 : Cond.code yX1_wordToken cX1_wordToken 1 (some .int) ∈ lw_tbl := tm2 22 (by rfl)
theorem cal_X1_wordToken : CalC yX1_wordToken cX1_wordToken 1 (some .int) 0 := calc_of tw_262 tw_4 (by decide +kernel)
theorem tw_261 : Cond.instanceMethod yX1_wordToken ∈ lw_tbl := tm2 21 (by decide +kernel)
theorem tp_4 : Cond.selects RX1 yX1_wordToken yX1_wordToken ∈ lw_tbl := pm (q := (yX1_wordToken, _)) 4 (by first | rfl | decide +kernel)
theorem tw_115 : Cond.fieldLink RX1 40 RX1 "fault" "I" ∈ lw_tbl := tm1 115 (by decide +kernel)
theorem fg_X1_X1_fault {v : VxT} {l : Launch} {g : CxT} {k nL pc n : Nat} {cc : ByteArray} {ret : Option FieldType} {L : List (Nat × Value)} {st : List Value} {S : Mem} (c : Nat) (hk : kdX c = 5) (ok : Ok l g (oX v) nL cc RX1 ret) (hd : decode cc pc = .ok (.getfield 40, 3)) (hn : pc + 3 = n) (h : G g (oX v) k nL n L (.int (S c 7) :: st) S) : G g (oX v) k nL pc L (.ref (v.1 c) :: st) S := g_get ok (C := RX1) (T := TX1) (N := 8) (ci := 1) (c := c) (fk := 7) (lt5 hk) (sh5 hk _) rfl (by decide) rfl wlX1 tw_115 rfl hd hn h
theorem fp_X1_X1_fault {v : VxT} {l : Launch} {g : CxT} {k nL pc n : Nat} {cc : ByteArray} {ret : Option FieldType} {L : List (Nat × Value)} {st : List Value} {S : Mem} (c : Nat) (hk : kdX c = 5) (ok : Ok l g (oX v) nL cc RX1 ret) {x : Int32} (hd : decode cc pc = .ok (.putfield 40, 3)) (hn : pc + 3 = n) (h : G g (oX v) k nL n L st (mset S c (upd (S c) 7 x))) : G g (oX v) k nL pc L (.int x :: .ref (v.1 c) :: st) S :=
  g_put (ty := .int) ok (C := RX1) (T := TX1) (N := 8) (ci := 1) (c := c) (fk := 7) (lt5 hk) (sh5 hk _) rfl (by decide) rfl wlX1 tw_115 tyX1_ok nmX1 rfl (by decide +kernel) rfl rfl (Nat.le_of_ble_eq_true rfl) (sh5 hk _) hd hn h
theorem fg_X1_X1_token {v : VxT} {l : Launch} {g : CxT} {k nL pc n : Nat} {cc : ByteArray} {ret : Option FieldType} {L : List (Nat × Value)} {st : List Value} {S : Mem} (c : Nat) (hk : kdX c = 5) (ok : Ok l g (oX v) nL cc RX1 ret) (hd : decode cc pc = .ok (.getfield 28, 3)) (hn : pc + 3 = n) (h : G g (oX v) k nL n L (.int (S c 3) :: st) S) : G g (oX v) k nL pc L (.ref (v.1 c) :: st) S := g_get ok (C := RX1) (T := TX1) (N := 8) (ci := 1) (c := c) (fk := 3) (lt5 hk) (sh5 hk _) rfl (by decide) rfl wlX1 tw_111 rfl hd hn h
theorem tw_292 : Cond.methodLink RX1 57 yX1_fail ∈ lw_tbl := tm2 52 (by decide +kernel)
theorem tw_295 : Cond.code yX1_fail cX1_fail 1 none ∈ lw_tbl := tm2 55 (by rfl)
theorem cal_X1_fail : CalC yX1_fail cX1_fail 1 none 0 := calc_of tw_295 tw_4 (by decide +kernel)
theorem tw_294 : Cond.instanceMethod yX1_fail ∈ lw_tbl := tm2 54 (by decide +kernel)
theorem tp_8 : Cond.selects RX1 yX1_fail yX1_fail ∈ lw_tbl := pm (q := (yX1_fail, _)) 8 (by first | rfl | decide +kernel)
theorem tw_248 : Cond.methodLink RX1 44 yX1_advance ∈ lw_tbl := tm2 8 (by decide +kernel)
theorem tw_251 : Cond.code yX1_advance cX1_advance 1 none ∈ lw_tbl := tm2 11 (by rfl)
theorem cal_X1_advance : CalC yX1_advance cX1_advance 1 none 0 := calc_of tw_251 tw_4 (by decide +kernel)
theorem tw_250 : Cond.instanceMethod yX1_advance ∈ lw_tbl := tm2 10 (by decide +kernel)
theorem tp_2 : Cond.selects RX1 yX1_advance yX1_advance ∈ lw_tbl := pm (q := (yX1_advance, _)) 2 (by first | rfl | decide +kernel)
theorem tw_97 : Cond.fieldLink RX2 18 RX2 "size" "I" ∈ lw_tbl := tm1 97 (by decide +kernel)
theorem fg_X2_X2_size {v : VxT} {l : Launch} {g : CxT} {k nL pc n : Nat} {cc : ByteArray} {ret : Option FieldType} {L : List (Nat × Value)} {st : List Value} {S : Mem} (c : Nat) (hk : kdX c = 7) (ok : Ok l g (oX v) nL cc RX2 ret) (hd : decode cc pc = .ok (.getfield 18, 3)) (hn : pc + 3 = n) (h : G g (oX v) k nL n L (.int (S c 2) :: st) S) : G g (oX v) k nL pc L (.ref (v.1 c) :: st) S := g_get ok (C := RX2) (T := TX2) (N := 3) (ci := 2) (c := c) (fk := 2) (lt7 hk) (sh7 hk _) rfl (by decide) rfl wlX2 tw_97 rfl hd hn h
theorem tw_95 : Cond.fieldLink RX2 9 RX2 "code" "[I" ∈ lw_tbl := tm1 95 (by decide +kernel)
theorem fg_X2_X2_code {v : VxT} {l : Launch} {g : CxT} {k nL pc n : Nat} {cc : ByteArray} {ret : Option FieldType} {L : List (Nat × Value)} {st : List Value} {S : Mem} (c : Nat) (hk : kdX c = 7) (ok : Ok l g (oX v) nL cc RX2 ret) (hd : decode cc pc = .ok (.getfield 9, 3)) (hn : pc + 3 = n) (h : G g (oX v) k nL n L (.ref (v.1 (c + 1)) :: st) S) : G g (oX v) k nL pc L (.ref (v.1 c) :: st) S := g_get ok (C := RX2) (T := TX2) (N := 3) (ci := 2) (c := c) (fk := 0) (lt7 hk) (sh7 hk _) rfl (by decide) rfl wlX2 tw_95 rfl hd hn h
theorem fp_X2_X2_size {v : VxT} {l : Launch} {g : CxT} {k nL pc n : Nat} {cc : ByteArray} {ret : Option FieldType} {L : List (Nat × Value)} {st : List Value} {S : Mem} (c : Nat) (hk : kdX c = 7) (ok : Ok l g (oX v) nL cc RX2 ret) {x : Int32} (hd : decode cc pc = .ok (.putfield 18, 3)) (hn : pc + 3 = n) (h : G g (oX v) k nL n L st (mset S c (upd (S c) 2 x))) : G g (oX v) k nL pc L (.int x :: .ref (v.1 c) :: st) S :=
  g_put (ty := .int) ok (C := RX2) (T := TX2) (N := 3) (ci := 2) (c := c) (fk := 2) (lt7 hk) (sh7 hk _) rfl (by decide) rfl wlX2 tw_97 tyX2_ok nmX2 rfl (by decide +kernel) rfl rfl (Nat.le_of_ble_eq_true rfl) (sh7 hk _) hd hn h
theorem tw_327 : Cond.methodLink RX6 7 yX6_nameIndex ∈ lw_tbl := tm2 87 (by decide +kernel)
theorem tw_329 : Cond.code yX6_nameIndex cX6_nameIndex 1 (some .int) ∈ lw_tbl := tm2 89 (by rfl)
theorem cal_X6_nameIndex : CalC yX6_nameIndex cX6_nameIndex 1 (some .int) 1 := calc_of tw_329 tw_12 (by decide +kernel)
theorem tw_328 : Cond.static yX6_nameIndex ∈ lw_tbl := tm2 88 (by decide +kernel)
theorem tw_330 : Cond.methodLinkNest RX6 13 yX7_within RX7 ∈ lw_tbl := tm2 90 (by decide +kernel)
theorem tw_296 : Cond.methodLink RX1 51 yX1_readOr ∈ lw_tbl := tm2 56 (by decide +kernel)
theorem tw_299 : Cond.code yX1_readOr cX1_readOr 3 none ∈ lw_tbl := tm2 59 (by rfl)
theorem cal_X1_readOr : CalC yX1_readOr cX1_readOr 3 none 1 := calc_of tw_299 tw_4 (by decide +kernel)
theorem tw_298 : Cond.instanceMethod yX1_readOr ∈ lw_tbl := tm2 58 (by decide +kernel)
theorem tp_9 : Cond.selects RX1 yX1_readOr yX1_readOr ∈ lw_tbl := pm (q := (yX1_readOr, _)) 9 (by first | rfl | decide +kernel)
theorem tw_288 : Cond.methodLink RX1 47 yX1_accept ∈ lw_tbl := tm2 48 (by decide +kernel)
theorem tw_291 : Cond.code yX1_accept cX1_accept 2 none ∈ lw_tbl := tm2 51 (by rfl)
theorem cal_X1_accept : CalC yX1_accept cX1_accept 2 none 1 := calc_of tw_291 tw_4 (by decide +kernel)
theorem tw_290 : Cond.instanceMethod yX1_accept ∈ lw_tbl := tm2 50 (by decide +kernel)
theorem tp_7 : Cond.selects RX1 yX1_accept yX1_accept ∈ lw_tbl := pm (q := (yX1_accept, _)) 7 (by first | rfl | decide +kernel)
theorem tw_324 : Cond.methodLinkNest RX1 78 yX6_isName RX7 ∈ lw_tbl := tm2 84 (by decide +kernel)
theorem tw_326 : Cond.code yX6_isName cX6_isName 1 (some .boolean) ∈ lw_tbl := tm2 86 (by rfl)
theorem cal_X6_isName : CalC yX6_isName cX6_isName 1 (some .boolean) 1 := calc_of tw_326 tw_12 (by decide +kernel)
theorem tw_325 : Cond.static yX6_isName ∈ lw_tbl := tm2 85 (by decide +kernel)
theorem tw_320 : Cond.methodLink RX1 75 yX1_readOne ∈ lw_tbl := tm2 80 (by decide +kernel)
theorem tw_323 : Cond.code yX1_readOne cX1_readOne 2 none ∈ lw_tbl := tm2 83 (by rfl)
theorem cal_X1_readOne : CalC yX1_readOne cX1_readOne 2 none 1 := calc_of tw_323 tw_4 (by decide +kernel)
theorem tw_322 : Cond.instanceMethod yX1_readOne ∈ lw_tbl := tm2 82 (by decide +kernel)
theorem tp_15 : Cond.selects RX1 yX1_readOne yX1_readOne ∈ lw_tbl := pm (q := (yX1_readOne, _)) 15 (by first | rfl | decide +kernel)
theorem tw_107 : Cond.fieldLink RX1 18 RX1 "rule" "LTableRocks$Rule;" ∈ lw_tbl := tm1 107 (by decide +kernel)
theorem fg_X1_X1_rule {v : VxT} {l : Launch} {g : CxT} {k nL pc n : Nat} {cc : ByteArray} {ret : Option FieldType} {L : List (Nat × Value)} {st : List Value} {S : Mem} (c : Nat) (hk : kdX c = 5) (ok : Ok l g (oX v) nL cc RX1 ret) (hd : decode cc pc = .ok (.getfield 18, 3)) (hn : pc + 3 = n) (h : G g (oX v) k nL n L (.ref (v.1 (c + 2)) :: st) S) : G g (oX v) k nL pc L (.ref (v.1 c) :: st) S := g_get ok (C := RX1) (T := TX1) (N := 8) (ci := 1) (c := c) (fk := 1) (lt5 hk) (sh5 hk _) rfl (by decide) rfl wlX1 tw_107 rfl hd hn h
theorem tw_308 : Cond.methodLinkNest RX1 63 yX2_append RX7 ∈ lw_tbl := tm2 68 (by decide +kernel)
theorem tw_311 : Cond.code yX2_append cX2_append 2 none ∈ lw_tbl := tm2 71 (by rfl)
theorem tw_5 : Cond.initialized RX2 ∈ lw_tbl := tm1 5 (by decide +kernel)
theorem cal_X2_append : CalC yX2_append cX2_append 2 none 1 := calc_of tw_311 tw_5 (by decide +kernel)
theorem tw_310 : Cond.instanceMethod yX2_append ∈ lw_tbl := tm2 70 (by decide +kernel)
theorem tp_12 : Cond.selects RX2 yX2_append yX2_append ∈ lw_tbl := pm (q := (yX2_append, _)) 12 (by first | rfl | decide +kernel)
theorem tw_316 : Cond.methodLink RX1 72 yX1_readTerm ∈ lw_tbl := tm2 76 (by decide +kernel)
theorem tw_319 : Cond.code yX1_readTerm cX1_readTerm 3 none ∈ lw_tbl := tm2 79 (by rfl)
theorem cal_X1_readTerm : CalC yX1_readTerm cX1_readTerm 3 none 1 := calc_of tw_319 tw_4 (by decide +kernel)
theorem tw_318 : Cond.instanceMethod yX1_readTerm ∈ lw_tbl := tm2 78 (by decide +kernel)
theorem tp_14 : Cond.selects RX1 yX1_readTerm yX1_readTerm ∈ lw_tbl := pm (q := (yX1_readTerm, _)) 14 (by first | rfl | decide +kernel)
theorem tw_312 : Cond.methodLink RX1 69 yX1_readSum ∈ lw_tbl := tm2 72 (by decide +kernel)
theorem tw_315 : Cond.code yX1_readSum cX1_readSum 4 none ∈ lw_tbl := tm2 75 (by rfl)
theorem cal_X1_readSum : CalC yX1_readSum cX1_readSum 4 none 1 := calc_of tw_315 tw_4 (by decide +kernel)
theorem tw_314 : Cond.instanceMethod yX1_readSum ∈ lw_tbl := tm2 74 (by decide +kernel)
theorem tp_13 : Cond.selects RX1 yX1_readSum yX1_readSum ∈ lw_tbl := pm (q := (yX1_readSum, _)) 13 (by first | rfl | decide +kernel)
theorem tw_304 : Cond.methodLink RX1 66 yX1_readNot ∈ lw_tbl := tm2 64 (by decide +kernel)
theorem tw_307 : Cond.code yX1_readNot cX1_readNot 3 none ∈ lw_tbl := tm2 67 (by rfl)
theorem cal_X1_readNot : CalC yX1_readNot cX1_readNot 3 none 1 := calc_of tw_307 tw_4 (by decide +kernel)
theorem tw_306 : Cond.instanceMethod yX1_readNot ∈ lw_tbl := tm2 66 (by decide +kernel)
theorem tp_11 : Cond.selects RX1 yX1_readNot yX1_readNot ∈ lw_tbl := pm (q := (yX1_readNot, _)) 11 (by first | rfl | decide +kernel)
theorem tw_300 : Cond.methodLink RX1 60 yX1_readAnd ∈ lw_tbl := tm2 60 (by decide +kernel)
theorem tw_303 : Cond.code yX1_readAnd cX1_readAnd 3 none ∈ lw_tbl := tm2 63 (by rfl)
theorem cal_X1_readAnd : CalC yX1_readAnd cX1_readAnd 3 none 1 := calc_of tw_303 tw_4 (by decide +kernel)
theorem tw_302 : Cond.instanceMethod yX1_readAnd ∈ lw_tbl := tm2 62 (by decide +kernel)
theorem tp_10 : Cond.selects RX1 yX1_readAnd yX1_readAnd ∈ lw_tbl := pm (q := (yX1_readAnd, _)) 10 (by first | rfl | decide +kernel)
theorem tw_335 : Cond.methodLinkNest RX2 22 yX7_within RX7 ∈ lw_tbl := tm2 95 (by decide +kernel)
theorem tw_96 : Cond.fieldLink RX2 15 RX2 "ends" "[I" ∈ lw_tbl := tm1 96 (by decide +kernel)
theorem fg_X2_X2_ends {v : VxT} {l : Launch} {g : CxT} {k nL pc n : Nat} {cc : ByteArray} {ret : Option FieldType} {L : List (Nat × Value)} {st : List Value} {S : Mem} (c : Nat) (hk : kdX c = 7) (ok : Ok l g (oX v) nL cc RX2 ret) (hd : decode cc pc = .ok (.getfield 15, 3)) (hn : pc + 3 = n) (h : G g (oX v) k nL n L (.ref (v.1 (c + 2)) :: st) S) : G g (oX v) k nL pc L (.ref (v.1 c) :: st) S := g_get ok (C := RX2) (T := TX2) (N := 3) (ci := 2) (c := c) (fk := 1) (lt7 hk) (sh7 hk _) rfl (by decide) rfl wlX2 tw_96 rfl hd hn h
theorem tw_331 : Cond.methodLinkNest RX1 54 yX2_endPart RX7 ∈ lw_tbl := tm2 91 (by decide +kernel)
theorem tw_334 : Cond.code yX2_endPart cX2_endPart 2 none ∈ lw_tbl := tm2 94 (by rfl)
theorem cal_X2_endPart : CalC yX2_endPart cX2_endPart 2 none 1 := calc_of tw_334 tw_5 (by decide +kernel)
theorem tw_333 : Cond.instanceMethod yX2_endPart ∈ lw_tbl := tm2 93 (by decide +kernel)
theorem tp_16 : Cond.selects RX2 yX2_endPart yX2_endPart ∈ lw_tbl := pm (q := (yX2_endPart, _)) 16 (by first | rfl | decide +kernel)
theorem tw_98 : Cond.fieldLinkNest RX1 43 RX2 "size" "I" RX7 ∈ lw_tbl := tm1 98 (by decide +kernel)
theorem fp_X1_X2_size {v : VxT} {l : Launch} {g : CxT} {k nL pc n : Nat} {cc : ByteArray} {ret : Option FieldType} {L : List (Nat × Value)} {st : List Value} {S : Mem} (c : Nat) (hk : kdX c = 7) (ok : Ok l g (oX v) nL cc RX1 ret) {x : Int32} (hd : decode cc pc = .ok (.putfield 43, 3)) (hn : pc + 3 = n) (h : G g (oX v) k nL n L st (mset S c (upd (S c) 2 x))) : G g (oX v) k nL pc L (.int x :: .ref (v.1 c) :: st) S :=
  g_putN (ty := .int) ok (C := RX2) (T := TX2) (N := 3) (ci := 2) (c := c) (fk := 2) (lt7 hk) (sh7 hk _) rfl (by decide) rfl wlX2 tw_98 tyX2_ok nmX2 rfl (by decide +kernel) rfl rfl (Nat.le_of_ble_eq_true rfl) (sh7 hk _) hd hn h
theorem tw_340 : Cond.methodLink RX2 26 ⟨"java/lang/System", "arraycopy", "(Ljava/lang/Object;ILjava/lang/Object;II)V"⟩ ∈ lw_tbl := tm2 100 (by decide +kernel)
theorem tw_342 : Cond.native ⟨"java/lang/System", "arraycopy", "(Ljava/lang/Object;ILjava/lang/Object;II)V"⟩ ∈ lw_tbl := tm2 102 (by decide +kernel)
theorem tw_341 : Cond.static ⟨"java/lang/System", "arraycopy", "(Ljava/lang/Object;ILjava/lang/Object;II)V"⟩ ∈ lw_tbl := tm2 101 (by decide +kernel)
theorem tw_13 : Cond.initialized RJ10 ∈ lw_tbl := tm1 13 (by decide +kernel)
theorem tw_520 : Cond.methodLinkNest RX2 38 yX6_nameIndex RX7 ∈ lw_tbl := tm3 40 (by decide +kernel)
theorem tw_521 : Cond.methodLink RX2 42 yX2_turnedRound ∈ lw_tbl := tm3 41 (by decide +kernel)
theorem tw_523 : Cond.code yX2_turnedRound cX2_turnedRound 2 (some .int) ∈ lw_tbl := tm3 43 (by rfl)
theorem cal_X2_turnedRound : CalC yX2_turnedRound cX2_turnedRound 2 (some .int) 2 := calc_of tw_523 tw_5 (by decide +kernel)
theorem tw_522 : Cond.static yX2_turnedRound ∈ lw_tbl := tm3 42 (by decide +kernel)
theorem tw_519 : Cond.methodLinkNest RX2 32 yX6_isName RX7 ∈ lw_tbl := tm3 39 (by decide +kernel)
theorem tw_524 : Cond.methodLink RX2 46 yX2_joined ∈ lw_tbl := tm3 44 (by decide +kernel)
theorem tw_526 : Cond.code yX2_joined cX2_joined 3 (some .int) ∈ lw_tbl := tm3 46 (by rfl)
theorem cal_X2_joined : CalC yX2_joined cX2_joined 3 (some .int) 3 := calc_of tw_526 tw_5 (by decide +kernel)
theorem tw_525 : Cond.static yX2_joined ∈ lw_tbl := tm3 45 (by decide +kernel)
theorem tw_174 : Cond.fieldLink RX3 9 RX3 "sort" "I" ∈ lw_tbl := tm1 174 (by decide +kernel)
theorem fg_X3_X3_sort {v : VxT} {l : Launch} {g : CxT} {k nL pc n : Nat} {cc : ByteArray} {ret : Option FieldType} {L : List (Nat × Value)} {st : List Value} {S : Mem} (c : Nat) (hk : kdX c = 14) (ok : Ok l g (oX v) nL cc RX3 ret) (hd : decode cc pc = .ok (.getfield 9, 3)) (hn : pc + 3 = n) (h : G g (oX v) k nL n L (.int (S c 0) :: st) S) : G g (oX v) k nL pc L (.ref (v.1 c) :: st) S := g_get ok (C := RX3) (T := TX3) (N := 3) (ci := 3) (c := c) (fk := 0) (lt14 hk) (sh14 hk _) rfl (by decide) rfl wlX3 tw_174 rfl hd hn h
theorem fp_X3_X3_sort {v : VxT} {l : Launch} {g : CxT} {k nL pc n : Nat} {cc : ByteArray} {ret : Option FieldType} {L : List (Nat × Value)} {st : List Value} {S : Mem} (c : Nat) (hk : kdX c = 14) (ok : Ok l g (oX v) nL cc RX3 ret) {x : Int32} (hd : decode cc pc = .ok (.putfield 9, 3)) (hn : pc + 3 = n) (h : G g (oX v) k nL n L st (mset S c (upd (S c) 0 x))) : G g (oX v) k nL pc L (.int x :: .ref (v.1 c) :: st) S :=
  g_put (ty := .int) ok (C := RX3) (T := TX3) (N := 3) (ci := 3) (c := c) (fk := 0) (lt14 hk) (sh14 hk _) rfl (by decide) rfl wlX3 tw_174 tyX3_ok nmX3 rfl (by decide +kernel) rfl rfl (Nat.le_of_ble_eq_true rfl) (sh14 hk _) hd hn h
theorem tw_176 : Cond.fieldLink RX3 15 RX3 "size" "I" ∈ lw_tbl := tm1 176 (by decide +kernel)
theorem fp_X3_X3_size {v : VxT} {l : Launch} {g : CxT} {k nL pc n : Nat} {cc : ByteArray} {ret : Option FieldType} {L : List (Nat × Value)} {st : List Value} {S : Mem} (c : Nat) (hk : kdX c = 14) (ok : Ok l g (oX v) nL cc RX3 ret) {x : Int32} (hd : decode cc pc = .ok (.putfield 15, 3)) (hn : pc + 3 = n) (h : G g (oX v) k nL n L st (mset S c (upd (S c) 1 x))) : G g (oX v) k nL pc L (.int x :: .ref (v.1 c) :: st) S :=
  g_put (ty := .int) ok (C := RX3) (T := TX3) (N := 3) (ci := 3) (c := c) (fk := 1) (lt14 hk) (sh14 hk _) rfl (by decide) rfl wlX3 tw_176 tyX3_ok nmX3 rfl (by decide +kernel) rfl rfl (Nat.le_of_ble_eq_true rfl) (sh14 hk _) hd hn h
theorem tw_178 : Cond.fieldLink RX3 18 RX3 "items" "[I" ∈ lw_tbl := tm1 178 (by decide +kernel)
theorem fg_X3_X3_items {v : VxT} {l : Launch} {g : CxT} {k nL pc n : Nat} {cc : ByteArray} {ret : Option FieldType} {L : List (Nat × Value)} {st : List Value} {S : Mem} (c : Nat) (hk : kdX c = 14) (ok : Ok l g (oX v) nL cc RX3 ret) (hd : decode cc pc = .ok (.getfield 18, 3)) (hn : pc + 3 = n) (h : G g (oX v) k nL n L (.ref (v.1 (c + 1)) :: st) S) : G g (oX v) k nL pc L (.ref (v.1 c) :: st) S := g_get ok (C := RX3) (T := TX3) (N := 3) (ci := 3) (c := c) (fk := 2) (lt14 hk) (sh14 hk _) rfl (by decide) rfl wlX3 tw_178 rfl hd hn h
theorem tw_718 : Cond.methodLinkNest RX3 22 yX7_held RX7 ∈ lw_tbl := tm3 238 (by decide +kernel)
theorem tw_433 : Cond.code yX7_held cX7_held 3 (some .int) ∈ lw_tbl := tm2 193 (by rfl)
theorem cal_X7_held : CalC yX7_held cX7_held 3 (some .int) 3 := calc_of tw_433 tw_1 (by decide +kernel)
theorem tw_432 : Cond.static yX7_held ∈ lw_tbl := tm2 192 (by decide +kernel)
theorem fg_X3_X3_size {v : VxT} {l : Launch} {g : CxT} {k nL pc n : Nat} {cc : ByteArray} {ret : Option FieldType} {L : List (Nat × Value)} {st : List Value} {S : Mem} (c : Nat) (hk : kdX c = 14) (ok : Ok l g (oX v) nL cc RX3 ret) (hd : decode cc pc = .ok (.getfield 15, 3)) (hn : pc + 3 = n) (h : G g (oX v) k nL n L (.int (S c 1) :: st) S) : G g (oX v) k nL pc L (.ref (v.1 c) :: st) S := g_get ok (C := RX3) (T := TX3) (N := 3) (ci := 3) (c := c) (fk := 1) (lt14 hk) (sh14 hk _) rfl (by decide) rfl wlX3 tw_176 rfl hd hn h
theorem tw_731 : Cond.methodLink RX3 26 yX3_hasItem ∈ lw_tbl := tm4 11 (by decide +kernel)
theorem tw_726 : Cond.code yX3_hasItem cX3_hasItem 2 (some .boolean) ∈ lw_tbl := tm4 6 (by rfl)
theorem tw_7 : Cond.initialized RX3 ∈ lw_tbl := tm1 7 (by decide +kernel)
theorem cal_X3_hasItem : CalC yX3_hasItem cX3_hasItem 2 (some .boolean) 1 := calc_of tw_726 tw_7 (by decide +kernel)
theorem tw_725 : Cond.instanceMethod yX3_hasItem ∈ lw_tbl := tm4 5 (by decide +kernel)
theorem tp_59 : Cond.selects RX3 yX3_hasItem yX3_hasItem ∈ lw_tbl := pm (q := (yX3_hasItem, _)) 59 (by first | rfl | decide +kernel)
theorem tw_426 : Cond.methodLink RX7 260 yJ9_floorMod_7cf53 ∈ lw_tbl := tm2 186 (by decide +kernel)
theorem tw_428 : Cond.code yJ9_floorMod_7cf53 cJ9_floorMod_7cf53 3 (some .int) ∈ lw_tbl := tm2 188 (by rfl)
theorem cal_J9_floorMod_7cf53 : CalC yJ9_floorMod_7cf53 cJ9_floorMod_7cf53 3 (some .int) 2 := calc_of tw_428 tw_15 (by decide +kernel)
theorem tw_427 : Cond.static yJ9_floorMod_7cf53 ∈ lw_tbl := tm2 187 (by decide +kernel)
theorem tw_423 : Cond.methodLinkNest RX5 38 yX7_round RX7 ∈ lw_tbl := tm2 183 (by decide +kernel)
theorem tw_425 : Cond.code yX7_round cX7_round 1 (some .int) ∈ lw_tbl := tm2 185 (by rfl)
theorem cal_X7_round : CalC yX7_round cX7_round 1 (some .int) 1 := calc_of tw_425 tw_1 (by decide +kernel)
theorem tw_424 : Cond.static yX7_round ∈ lw_tbl := tm2 184 (by decide +kernel)
theorem tw_60 : Cond.fieldLink RX5 25 RX5 "radius" "I" ∈ lw_tbl := tm1 60 (by decide +kernel)
theorem fg_X5_X5_radius {v : VxT} {l : Launch} {g : CxT} {k nL pc n : Nat} {cc : ByteArray} {ret : Option FieldType} {L : List (Nat × Value)} {st : List Value} {S : Mem} (c : Nat) (hk : kdX c = 1) (ok : Ok l g (oX v) nL cc RX5 ret) (hd : decode cc pc = .ok (.getfield 25, 3)) (hn : pc + 3 = n) (h : G g (oX v) k nL n L (.int (S c 3) :: st) S) : G g (oX v) k nL pc L (.ref (v.1 c) :: st) S := g_get ok (C := RX5) (T := TX5) (N := 7) (ci := 5) (c := c) (fk := 3) (lt1 hk) (sh1 hk _) rfl (by decide) rfl wlX5 tw_60 rfl hd hn h
theorem tw_429 : Cond.fieldLink RX5 42 RX5 "WAY_Y" "[I" ∈ lw_tbl := tm2 189 (by decide +kernel)
theorem tw_431 : Cond.methodLinkNest RX5 45 yX7_held RX7 ∈ lw_tbl := tm2 191 (by decide +kernel)
theorem tw_434 : Cond.fieldLink RX5 49 RX5 "WAY_X" "[I" ∈ lw_tbl := tm2 194 (by decide +kernel)
theorem tw_53 : Cond.fieldLink RX5 9 RX5 "heights" "[I" ∈ lw_tbl := tm1 53 (by decide +kernel)
theorem fg_X5_X5_heights {v : VxT} {l : Launch} {g : CxT} {k nL pc n : Nat} {cc : ByteArray} {ret : Option FieldType} {L : List (Nat × Value)} {st : List Value} {S : Mem} (c : Nat) (hk : kdX c = 1) (ok : Ok l g (oX v) nL cc RX5 ret) (hd : decode cc pc = .ok (.getfield 9, 3)) (hn : pc + 3 = n) (h : G g (oX v) k nL n L (.ref (v.1 (c + 1)) :: st) S) : G g (oX v) k nL pc L (.ref (v.1 c) :: st) S := g_get ok (C := RX5) (T := TX5) (N := 7) (ci := 5) (c := c) (fk := 0) (lt1 hk) (sh1 hk _) rfl (by decide) rfl wlX5 tw_53 rfl hd hn h
theorem tw_440 : Cond.methodLink RX5 52 yX5_cellBeneath ∈ lw_tbl := tm2 200 (by decide +kernel)
theorem tw_422 : Cond.code yX5_cellBeneath cX5_cellBeneath 7 (some .int) ∈ lw_tbl := tm2 182 (by rfl)
theorem tw_2 : Cond.initialized RX5 ∈ lw_tbl := tm1 2 (by decide +kernel)
theorem cal_X5_cellBeneath : CalC yX5_cellBeneath cX5_cellBeneath 7 (some .int) 3 := calc_of tw_422 tw_2 (by decide +kernel)
theorem tw_421 : Cond.instanceMethod yX5_cellBeneath ∈ lw_tbl := tm2 181 (by decide +kernel)
theorem tp_23 : Cond.selects RX5 yX5_cellBeneath yX5_cellBeneath ∈ lw_tbl := pm (q := (yX5_cellBeneath, _)) 23 (by first | rfl | decide +kernel)
theorem tw_55 : Cond.fieldLink RX5 17 RX5 "legs" "[LTableRocks$Leg;" ∈ lw_tbl := tm1 55 (by decide +kernel)
theorem fg_X5_X5_legs {v : VxT} {l : Launch} {g : CxT} {k nL pc n : Nat} {cc : ByteArray} {ret : Option FieldType} {L : List (Nat × Value)} {st : List Value} {S : Mem} (c : Nat) (hk : kdX c = 1) (ok : Ok l g (oX v) nL cc RX5 ret) (hd : decode cc pc = .ok (.getfield 17, 3)) (hn : pc + 3 = n) (h : G g (oX v) k nL n L (.ref (v.1 (c + 2)) :: st) S) : G g (oX v) k nL pc L (.ref (v.1 c) :: st) S := g_get ok (C := RX5) (T := TX5) (N := 7) (ci := 5) (c := c) (fk := 1) (lt1 hk) (sh1 hk _) rfl (by decide) rfl wlX5 tw_55 rfl hd hn h
theorem tw_64 : Cond.fieldLink RX5 31 RX5 "load" "I" ∈ lw_tbl := tm1 64 (by decide +kernel)
theorem fg_X5_X5_load {v : VxT} {l : Launch} {g : CxT} {k nL pc n : Nat} {cc : ByteArray} {ret : Option FieldType} {L : List (Nat × Value)} {st : List Value} {S : Mem} (c : Nat) (hk : kdX c = 1) (ok : Ok l g (oX v) nL cc RX5 ret) (hd : decode cc pc = .ok (.getfield 31, 3)) (hn : pc + 3 = n) (h : G g (oX v) k nL n L (.int (S c 5) :: st) S) : G g (oX v) k nL pc L (.ref (v.1 c) :: st) S := g_get ok (C := RX5) (T := TX5) (N := 7) (ci := 5) (c := c) (fk := 5) (lt1 hk) (sh1 hk _) rfl (by decide) rfl wlX5 tw_64 rfl hd hn h
theorem tw_441 : Cond.methodLinkNest RX5 55 yX0_tall RX7 ∈ lw_tbl := tm2 201 (by decide +kernel)
theorem tw_407 : Cond.code yX0_tall cX0_tall 3 (some .int) ∈ lw_tbl := tm2 167 (by rfl)
theorem cal_X0_tall : CalC yX0_tall cX0_tall 3 (some .int) 1 := calc_of tw_407 tw_3 (by decide +kernel)
theorem tw_406 : Cond.instanceMethod yX0_tall ∈ lw_tbl := tm2 166 (by decide +kernel)
theorem tp_20 : Cond.selects RX0 yX0_tall yX0_tall ∈ lw_tbl := pm (q := (yX0_tall, _)) 20 (by first | rfl | decide +kernel)
theorem tw_144 : Cond.fieldLink RX4 23 RX4 "gap" "I" ∈ lw_tbl := tm1 144 (by decide +kernel)
theorem fg_X4_X4_gap {v : VxT} {l : Launch} {g : CxT} {k nL pc n : Nat} {cc : ByteArray} {ret : Option FieldType} {L : List (Nat × Value)} {st : List Value} {S : Mem} (c : Nat) (hk : kdX c = 10) (ok : Ok l g (oX v) nL cc RX4 ret) (hd : decode cc pc = .ok (.getfield 23, 3)) (hn : pc + 3 = n) (h : G g (oX v) k nL n L (.int (S c 3) :: st) S) : G g (oX v) k nL pc L (.ref (v.1 c) :: st) S := g_get ok (C := RX4) (T := TX4) (N := 7) (ci := 4) (c := c) (fk := 3) (lt10 hk) (sh10 hk _) rfl (by decide) rfl wlX4 tw_144 rfl hd hn h
theorem tw_141 : Cond.fieldLink RX4 9 RX4 "at" "[I" ∈ lw_tbl := tm1 141 (by decide +kernel)
theorem fg_X4_X4_at {v : VxT} {l : Launch} {g : CxT} {k nL pc n : Nat} {cc : ByteArray} {ret : Option FieldType} {L : List (Nat × Value)} {st : List Value} {S : Mem} (c : Nat) (hk : kdX c = 10) (ok : Ok l g (oX v) nL cc RX4 ret) (hd : decode cc pc = .ok (.getfield 9, 3)) (hn : pc + 3 = n) (h : G g (oX v) k nL n L (.ref (v.1 (c + 1)) :: st) S) : G g (oX v) k nL pc L (.ref (v.1 c) :: st) S := g_get ok (C := RX4) (T := TX4) (N := 7) (ci := 4) (c := c) (fk := 0) (lt10 hk) (sh10 hk _) rfl (by decide) rfl wlX4 tw_141 rfl hd hn h
theorem tw_480 : Cond.methodLink RX4 68 yX4_firstBearing ∈ lw_tbl := tm3 0 (by decide +kernel)
theorem tw_483 : Cond.code yX4_firstBearing cX4_firstBearing 1 (some .int) ∈ lw_tbl := tm3 3 (by rfl)
theorem tw_6 : Cond.initialized RX4 ∈ lw_tbl := tm1 6 (by decide +kernel)
theorem cal_X4_firstBearing : CalC yX4_firstBearing cX4_firstBearing 1 (some .int) 0 := calc_of tw_483 tw_6 (by decide +kernel)
theorem tw_482 : Cond.instanceMethod yX4_firstBearing ∈ lw_tbl := tm3 2 (by decide +kernel)
theorem tp_30 : Cond.selects RX4 yX4_firstBearing yX4_firstBearing ∈ lw_tbl := pm (q := (yX4_firstBearing, _)) 30 (by first | rfl | decide +kernel)
theorem tw_484 : Cond.methodLink RX4 64 Lib.Math.max.name ∈ lw_tbl := tm3 4 (by decide +kernel)
theorem tw_485 : Cond.methodLink RX4 71 Lib.Math.min.name ∈ lw_tbl := tm3 5 (by decide +kernel)
theorem tw_56 : Cond.fieldLinkNest RX4 74 RX5 "legs" "[LTableRocks$Leg;" RX7 ∈ lw_tbl := tm1 56 (by decide +kernel)
theorem fg_X4_X5_legs {v : VxT} {l : Launch} {g : CxT} {k nL pc n : Nat} {cc : ByteArray} {ret : Option FieldType} {L : List (Nat × Value)} {st : List Value} {S : Mem} (c : Nat) (hk : kdX c = 1) (ok : Ok l g (oX v) nL cc RX4 ret) (hd : decode cc pc = .ok (.getfield 74, 3)) (hn : pc + 3 = n) (h : G g (oX v) k nL n L (.ref (v.1 (c + 2)) :: st) S) : G g (oX v) k nL pc L (.ref (v.1 c) :: st) S := g_getN ok (C := RX5) (T := TX5) (N := 7) (ci := 5) (c := c) (fk := 1) (lt1 hk) (sh1 hk _) rfl (by decide) rfl wlX5 tw_56 rfl hd hn h
theorem tw_492 : Cond.methodLink RX4 78 yX4_firstLoose ∈ lw_tbl := tm3 12 (by decide +kernel)
theorem tw_495 : Cond.code yX4_firstLoose cX4_firstLoose 1 (some .int) ∈ lw_tbl := tm3 15 (by rfl)
theorem cal_X4_firstLoose : CalC yX4_firstLoose cX4_firstLoose 1 (some .int) 0 := calc_of tw_495 tw_6 (by decide +kernel)
theorem tw_494 : Cond.instanceMethod yX4_firstLoose ∈ lw_tbl := tm3 14 (by decide +kernel)
theorem tp_32 : Cond.selects RX4 yX4_firstLoose yX4_firstLoose ∈ lw_tbl := pm (q := (yX4_firstLoose, _)) 32 (by first | rfl | decide +kernel)
theorem tw_146 : Cond.fieldLink RX4 27 RX4 "size" "I" ∈ lw_tbl := tm1 146 (by decide +kernel)
theorem fg_X4_X4_size {v : VxT} {l : Launch} {g : CxT} {k nL pc n : Nat} {cc : ByteArray} {ret : Option FieldType} {L : List (Nat × Value)} {st : List Value} {S : Mem} (c : Nat) (hk : kdX c = 10) (ok : Ok l g (oX v) nL cc RX4 ret) (hd : decode cc pc = .ok (.getfield 27, 3)) (hn : pc + 3 = n) (h : G g (oX v) k nL n L (.int (S c 4) :: st) S) : G g (oX v) k nL pc L (.ref (v.1 c) :: st) S := g_get ok (C := RX4) (T := TX4) (N := 7) (ci := 4) (c := c) (fk := 4) (lt10 hk) (sh10 hk _) rfl (by decide) rfl wlX4 tw_146 rfl hd hn h
theorem tw_496 : Cond.methodLinkNest RX4 81 yX0_gives RX7 ∈ lw_tbl := tm3 16 (by decide +kernel)
theorem tw_499 : Cond.code yX0_gives cX0_gives 2 (some .int) ∈ lw_tbl := tm3 19 (by rfl)
theorem cal_X0_gives : CalC yX0_gives cX0_gives 2 (some .int) 1 := calc_of tw_499 tw_3 (by decide +kernel)
theorem tw_498 : Cond.instanceMethod yX0_gives ∈ lw_tbl := tm3 18 (by decide +kernel)
theorem tp_33 : Cond.selects RX0 yX0_gives yX0_gives ∈ lw_tbl := pm (q := (yX0_gives, _)) 33 (by first | rfl | decide +kernel)
theorem tw_509 : Cond.methodLinkNest RX4 86 yX6_nameIndex RX7 ∈ lw_tbl := tm3 29 (by decide +kernel)
theorem tw_510 : Cond.methodLinkNest RX4 89 yX7_within RX7 ∈ lw_tbl := tm3 30 (by decide +kernel)
theorem tw_142 : Cond.fieldLink RX4 17 RX4 "names" "[I" ∈ lw_tbl := tm1 142 (by decide +kernel)
theorem fg_X4_X4_names {v : VxT} {l : Launch} {g : CxT} {k nL pc n : Nat} {cc : ByteArray} {ret : Option FieldType} {L : List (Nat × Value)} {st : List Value} {S : Mem} (c : Nat) (hk : kdX c = 10) (ok : Ok l g (oX v) nL cc RX4 ret) (hd : decode cc pc = .ok (.getfield 17, 3)) (hn : pc + 3 = n) (h : G g (oX v) k nL n L (.ref (v.1 (c + 2)) :: st) S) : G g (oX v) k nL pc L (.ref (v.1 c) :: st) S := g_get ok (C := RX4) (T := TX4) (N := 7) (ci := 4) (c := c) (fk := 1) (lt10 hk) (sh10 hk _) rfl (by decide) rfl wlX4 tw_142 rfl hd hn h
theorem tw_505 : Cond.methodLink RX4 56 yX4_name ∈ lw_tbl := tm3 25 (by decide +kernel)
theorem tw_508 : Cond.code yX4_name cX4_name 4 none ∈ lw_tbl := tm3 28 (by rfl)
theorem cal_X4_name : CalC yX4_name cX4_name 4 none 2 := calc_of tw_508 tw_6 (by decide +kernel)
theorem tw_507 : Cond.instanceMethod yX4_name ∈ lw_tbl := tm3 27 (by decide +kernel)
theorem tp_35 : Cond.selects RX4 yX4_name yX4_name ∈ lw_tbl := pm (q := (yX4_name, _)) 35 (by first | rfl | decide +kernel)
theorem tw_143 : Cond.fieldLink RX4 20 RX4 "stack" "[I" ∈ lw_tbl := tm1 143 (by decide +kernel)
theorem fg_X4_X4_stack {v : VxT} {l : Launch} {g : CxT} {k nL pc n : Nat} {cc : ByteArray} {ret : Option FieldType} {L : List (Nat × Value)} {st : List Value} {S : Mem} (c : Nat) (hk : kdX c = 10) (ok : Ok l g (oX v) nL cc RX4 ret) (hd : decode cc pc = .ok (.getfield 20, 3)) (hn : pc + 3 = n) (h : G g (oX v) k nL n L (.ref (v.1 (c + 3)) :: st) S) : G g (oX v) k nL pc L (.ref (v.1 c) :: st) S := g_get ok (C := RX4) (T := TX4) (N := 7) (ci := 4) (c := c) (fk := 2) (lt10 hk) (sh10 hk _) rfl (by decide) rfl wlX4 tw_143 rfl hd hn h
theorem tw_515 : Cond.methodLinkNest RX4 93 yX2_value RX7 ∈ lw_tbl := tm3 35 (by decide +kernel)
theorem tw_518 : Cond.code yX2_value cX2_value 7 (some .int) ∈ lw_tbl := tm3 38 (by rfl)
theorem cal_X2_value : CalC yX2_value cX2_value 7 (some .int) 3 := calc_of tw_518 tw_5 (by decide +kernel)
theorem tw_517 : Cond.instanceMethod yX2_value ∈ lw_tbl := tm3 37 (by decide +kernel)
theorem tp_37 : Cond.selects RX2 yX2_value yX2_value ∈ lw_tbl := pm (q := (yX2_value, _)) 37 (by first | rfl | decide +kernel)
theorem tw_527 : Cond.methodLinkNest RX4 99 yX7_held RX7 ∈ lw_tbl := tm3 47 (by decide +kernel)
theorem tw_147 : Cond.fieldLink RX4 30 RX4 "rock" "I" ∈ lw_tbl := tm1 147 (by decide +kernel)
theorem fp_X4_X4_rock {v : VxT} {l : Launch} {g : CxT} {k nL pc n : Nat} {cc : ByteArray} {ret : Option FieldType} {L : List (Nat × Value)} {st : List Value} {S : Mem} (c : Nat) (hk : kdX c = 10) (ok : Ok l g (oX v) nL cc RX4 ret) {x : Int32} (hd : decode cc pc = .ok (.putfield 30, 3)) (hn : pc + 3 = n) (h : G g (oX v) k nL n L st (mset S c (upd (S c) 5 x))) : G g (oX v) k nL pc L (.int x :: .ref (v.1 c) :: st) S :=
  g_put (ty := .int) ok (C := RX4) (T := TX4) (N := 7) (ci := 4) (c := c) (fk := 5) (lt10 hk) (sh10 hk _) rfl (by decide) rfl wlX4 tw_147 tyX4_ok nmX4 rfl (by decide +kernel) rfl rfl (Nat.le_of_ble_eq_true rfl) (sh10 hk _) hd hn h
theorem fp_X4_X4_gap {v : VxT} {l : Launch} {g : CxT} {k nL pc n : Nat} {cc : ByteArray} {ret : Option FieldType} {L : List (Nat × Value)} {st : List Value} {S : Mem} (c : Nat) (hk : kdX c = 10) (ok : Ok l g (oX v) nL cc RX4 ret) {x : Int32} (hd : decode cc pc = .ok (.putfield 23, 3)) (hn : pc + 3 = n) (h : G g (oX v) k nL n L st (mset S c (upd (S c) 3 x))) : G g (oX v) k nL pc L (.int x :: .ref (v.1 c) :: st) S :=
  g_put (ty := .int) ok (C := RX4) (T := TX4) (N := 7) (ci := 4) (c := c) (fk := 3) (lt10 hk) (sh10 hk _) rfl (by decide) rfl wlX4 tw_144 tyX4_ok nmX4 rfl (by decide +kernel) rfl rfl (Nat.le_of_ble_eq_true rfl) (sh10 hk _) hd hn h
theorem tw_473 : Cond.methodLink RX4 42 Lib.Math.abs.name ∈ lw_tbl := tm2 233 (by decide +kernel)
theorem tw_474 : Cond.static Lib.Math.abs.name ∈ lw_tbl := tm2 234 (by decide +kernel)
theorem tw_475 : Cond.code Lib.Math.abs.name Lib.Math.abs.code 1 (some .int) ∈ lw_tbl := tm2 235 (by rfl)
theorem fp_X4_X4_size {v : VxT} {l : Launch} {g : CxT} {k nL pc n : Nat} {cc : ByteArray} {ret : Option FieldType} {L : List (Nat × Value)} {st : List Value} {S : Mem} (c : Nat) (hk : kdX c = 10) (ok : Ok l g (oX v) nL cc RX4 ret) {x : Int32} (hd : decode cc pc = .ok (.putfield 27, 3)) (hn : pc + 3 = n) (h : G g (oX v) k nL n L st (mset S c (upd (S c) 4 x))) : G g (oX v) k nL pc L (.int x :: .ref (v.1 c) :: st) S :=
  g_put (ty := .int) ok (C := RX4) (T := TX4) (N := 7) (ci := 4) (c := c) (fk := 4) (lt10 hk) (sh10 hk _) rfl (by decide) rfl wlX4 tw_146 tyX4_ok nmX4 rfl (by decide +kernel) rfl rfl (Nat.le_of_ble_eq_true rfl) (sh10 hk _) hd hn h
theorem tw_476 : Cond.methodLink RX4 48 yX4_measureLean ∈ lw_tbl := tm2 236 (by decide +kernel)
theorem tw_479 : Cond.code yX4_measureLean cX4_measureLean 7 (some .int) ∈ lw_tbl := tm2 239 (by rfl)
theorem cal_X4_measureLean : CalC yX4_measureLean cX4_measureLean 7 (some .int) 0 := calc_of tw_479 tw_6 (by decide +kernel)
theorem tw_478 : Cond.instanceMethod yX4_measureLean ∈ lw_tbl := tm2 238 (by decide +kernel)
theorem tp_29 : Cond.selects RX4 yX4_measureLean yX4_measureLean ∈ lw_tbl := pm (q := (yX4_measureLean, _)) 29 (by first | rfl | decide +kernel)
theorem tw_149 : Cond.fieldLink RX4 33 RX4 "lean" "I" ∈ lw_tbl := tm1 149 (by decide +kernel)
theorem fp_X4_X4_lean {v : VxT} {l : Launch} {g : CxT} {k nL pc n : Nat} {cc : ByteArray} {ret : Option FieldType} {L : List (Nat × Value)} {st : List Value} {S : Mem} (c : Nat) (hk : kdX c = 10) (ok : Ok l g (oX v) nL cc RX4 ret) {x : Int32} (hd : decode cc pc = .ok (.putfield 33, 3)) (hn : pc + 3 = n) (h : G g (oX v) k nL n L st (mset S c (upd (S c) 6 x))) : G g (oX v) k nL pc L (.int x :: .ref (v.1 c) :: st) S :=
  g_put (ty := .int) ok (C := RX4) (T := TX4) (N := 7) (ci := 4) (c := c) (fk := 6) (lt10 hk) (sh10 hk _) rfl (by decide) rfl wlX4 tw_149 tyX4_ok nmX4 rfl (by decide +kernel) rfl rfl (Nat.le_of_ble_eq_true rfl) (sh10 hk _) hd hn h
theorem tw_488 : Cond.methodLink RX4 52 yX4_giveOfLoose ∈ lw_tbl := tm3 8 (by decide +kernel)
theorem tw_491 : Cond.code yX4_giveOfLoose cX4_giveOfLoose 2 (some .int) ∈ lw_tbl := tm3 11 (by rfl)
theorem cal_X4_giveOfLoose : CalC yX4_giveOfLoose cX4_giveOfLoose 2 (some .int) 1 := calc_of tw_491 tw_6 (by decide +kernel)
theorem tw_490 : Cond.instanceMethod yX4_giveOfLoose ∈ lw_tbl := tm3 10 (by decide +kernel)
theorem tp_31 : Cond.selects RX4 yX4_giveOfLoose yX4_giveOfLoose ∈ lw_tbl := pm (q := (yX4_giveOfLoose, _)) 31 (by first | rfl | decide +kernel)
theorem tw_511 : Cond.methodLink RX4 60 yX4_slack ∈ lw_tbl := tm3 31 (by decide +kernel)
theorem tw_514 : Cond.code yX4_slack cX4_slack 2 (some .int) ∈ lw_tbl := tm3 34 (by rfl)
theorem cal_X4_slack : CalC yX4_slack cX4_slack 2 (some .int) 1 := calc_of tw_514 tw_6 (by decide +kernel)
theorem tw_513 : Cond.instanceMethod yX4_slack ∈ lw_tbl := tm3 33 (by decide +kernel)
theorem tp_36 : Cond.selects RX4 yX4_slack yX4_slack ∈ lw_tbl := pm (q := (yX4_slack, _)) 36 (by first | rfl | decide +kernel)
theorem tw_472 : Cond.methodLinkNest RX4 36 yX5_heightOf RX7 ∈ lw_tbl := tm2 232 (by decide +kernel)
theorem tw_439 : Cond.code yX5_heightOf cX5_heightOf 4 (some .int) ∈ lw_tbl := tm2 199 (by rfl)
theorem cal_X5_heightOf : CalC yX5_heightOf cX5_heightOf 4 (some .int) 3 := calc_of tw_439 tw_2 (by decide +kernel)
theorem tw_438 : Cond.instanceMethod yX5_heightOf ∈ lw_tbl := tm2 198 (by decide +kernel)
theorem tp_24 : Cond.selects RX5 yX5_heightOf yX5_heightOf ∈ lw_tbl := pm (q := (yX5_heightOf, _)) 24 (by first | rfl | decide +kernel)
theorem fg_X4_X4_rock {v : VxT} {l : Launch} {g : CxT} {k nL pc n : Nat} {cc : ByteArray} {ret : Option FieldType} {L : List (Nat × Value)} {st : List Value} {S : Mem} (c : Nat) (hk : kdX c = 10) (ok : Ok l g (oX v) nL cc RX4 ret) (hd : decode cc pc = .ok (.getfield 30, 3)) (hn : pc + 3 = n) (h : G g (oX v) k nL n L (.int (S c 5) :: st) S) : G g (oX v) k nL pc L (.ref (v.1 c) :: st) S := g_get ok (C := RX4) (T := TX4) (N := 7) (ci := 4) (c := c) (fk := 5) (lt10 hk) (sh10 hk _) rfl (by decide) rfl wlX4 tw_147 rfl hd hn h
theorem fg_X4_X4_lean {v : VxT} {l : Launch} {g : CxT} {k nL pc n : Nat} {cc : ByteArray} {ret : Option FieldType} {L : List (Nat × Value)} {st : List Value} {S : Mem} (c : Nat) (hk : kdX c = 10) (ok : Ok l g (oX v) nL cc RX4 ret) (hd : decode cc pc = .ok (.getfield 33, 3)) (hn : pc + 3 = n) (h : G g (oX v) k nL n L (.int (S c 6) :: st) S) : G g (oX v) k nL pc L (.ref (v.1 c) :: st) S := g_get ok (C := RX4) (T := TX4) (N := 7) (ci := 4) (c := c) (fk := 6) (lt10 hk) (sh10 hk _) rfl (by decide) rfl wlX4 tw_149 rfl hd hn h
theorem tw_667 : Cond.methodLink RX4 102 yX4_isFirm ∈ lw_tbl := tm3 187 (by decide +kernel)
theorem tw_555 : Cond.code yX4_isFirm cX4_isFirm 1 (some .boolean) ∈ lw_tbl := tm3 75 (by rfl)
theorem cal_X4_isFirm : CalC yX4_isFirm cX4_isFirm 1 (some .boolean) 0 := calc_of tw_555 tw_6 (by decide +kernel)
theorem tw_554 : Cond.instanceMethod yX4_isFirm ∈ lw_tbl := tm3 74 (by decide +kernel)
theorem tp_42 : Cond.selects RX4 yX4_isFirm yX4_isFirm ∈ lw_tbl := pm (q := (yX4_isFirm, _)) 42 (by first | rfl | decide +kernel)
theorem tw_58 : Cond.fieldLink RX5 21 RX5 "place" "I" ∈ lw_tbl := tm1 58 (by decide +kernel)
theorem fg_X5_X5_place {v : VxT} {l : Launch} {g : CxT} {k nL pc n : Nat} {cc : ByteArray} {ret : Option FieldType} {L : List (Nat × Value)} {st : List Value} {S : Mem} (c : Nat) (hk : kdX c = 1) (ok : Ok l g (oX v) nL cc RX5 ret) (hd : decode cc pc = .ok (.getfield 21, 3)) (hn : pc + 3 = n) (h : G g (oX v) k nL n L (.int (S c 2) :: st) S) : G g (oX v) k nL pc L (.ref (v.1 c) :: st) S := g_get ok (C := RX5) (T := TX5) (N := 7) (ci := 5) (c := c) (fk := 2) (lt1 hk) (sh1 hk _) rfl (by decide) rfl wlX5 tw_58 rfl hd hn h
theorem fp_X5_X5_place {v : VxT} {l : Launch} {g : CxT} {k nL pc n : Nat} {cc : ByteArray} {ret : Option FieldType} {L : List (Nat × Value)} {st : List Value} {S : Mem} (c : Nat) (hk : kdX c = 1) (ok : Ok l g (oX v) nL cc RX5 ret) {x : Int32} (hd : decode cc pc = .ok (.putfield 21, 3)) (hn : pc + 3 = n) (h : G g (oX v) k nL n L st (mset S c (upd (S c) 2 x))) : G g (oX v) k nL pc L (.int x :: .ref (v.1 c) :: st) S :=
  g_put (ty := .int) ok (C := RX5) (T := TX5) (N := 7) (ci := 5) (c := c) (fk := 2) (lt1 hk) (sh1 hk _) rfl (by decide) rfl wlX5 tw_58 tyX5_ok nmX5 rfl (by decide +kernel) rfl rfl (Nat.le_of_ble_eq_true rfl) (sh1 hk _) hd hn h
theorem fp_X5_X5_radius {v : VxT} {l : Launch} {g : CxT} {k nL pc n : Nat} {cc : ByteArray} {ret : Option FieldType} {L : List (Nat × Value)} {st : List Value} {S : Mem} (c : Nat) (hk : kdX c = 1) (ok : Ok l g (oX v) nL cc RX5 ret) {x : Int32} (hd : decode cc pc = .ok (.putfield 25, 3)) (hn : pc + 3 = n) (h : G g (oX v) k nL n L st (mset S c (upd (S c) 3 x))) : G g (oX v) k nL pc L (.int x :: .ref (v.1 c) :: st) S :=
  g_put (ty := .int) ok (C := RX5) (T := TX5) (N := 7) (ci := 5) (c := c) (fk := 3) (lt1 hk) (sh1 hk _) rfl (by decide) rfl wlX5 tw_60 tyX5_ok nmX5 rfl (by decide +kernel) rfl rfl (Nat.le_of_ble_eq_true rfl) (sh1 hk _) hd hn h
theorem tw_62 : Cond.fieldLink RX5 28 RX5 "turn" "I" ∈ lw_tbl := tm1 62 (by decide +kernel)
theorem fg_X5_X5_turn {v : VxT} {l : Launch} {g : CxT} {k nL pc n : Nat} {cc : ByteArray} {ret : Option FieldType} {L : List (Nat × Value)} {st : List Value} {S : Mem} (c : Nat) (hk : kdX c = 1) (ok : Ok l g (oX v) nL cc RX5 ret) (hd : decode cc pc = .ok (.getfield 28, 3)) (hn : pc + 3 = n) (h : G g (oX v) k nL n L (.int (S c 4) :: st) S) : G g (oX v) k nL pc L (.ref (v.1 c) :: st) S := g_get ok (C := RX5) (T := TX5) (N := 7) (ci := 5) (c := c) (fk := 4) (lt1 hk) (sh1 hk _) rfl (by decide) rfl wlX5 tw_62 rfl hd hn h
theorem fp_X5_X5_turn {v : VxT} {l : Launch} {g : CxT} {k nL pc n : Nat} {cc : ByteArray} {ret : Option FieldType} {L : List (Nat × Value)} {st : List Value} {S : Mem} (c : Nat) (hk : kdX c = 1) (ok : Ok l g (oX v) nL cc RX5 ret) {x : Int32} (hd : decode cc pc = .ok (.putfield 28, 3)) (hn : pc + 3 = n) (h : G g (oX v) k nL n L st (mset S c (upd (S c) 4 x))) : G g (oX v) k nL pc L (.int x :: .ref (v.1 c) :: st) S :=
  g_put (ty := .int) ok (C := RX5) (T := TX5) (N := 7) (ci := 5) (c := c) (fk := 4) (lt1 hk) (sh1 hk _) rfl (by decide) rfl wlX5 tw_62 tyX5_ok nmX5 rfl (by decide +kernel) rfl rfl (Nat.le_of_ble_eq_true rfl) (sh1 hk _) hd hn h
theorem fp_X5_X5_load {v : VxT} {l : Launch} {g : CxT} {k nL pc n : Nat} {cc : ByteArray} {ret : Option FieldType} {L : List (Nat × Value)} {st : List Value} {S : Mem} (c : Nat) (hk : kdX c = 1) (ok : Ok l g (oX v) nL cc RX5 ret) {x : Int32} (hd : decode cc pc = .ok (.putfield 31, 3)) (hn : pc + 3 = n) (h : G g (oX v) k nL n L st (mset S c (upd (S c) 5 x))) : G g (oX v) k nL pc L (.int x :: .ref (v.1 c) :: st) S :=
  g_put (ty := .int) ok (C := RX5) (T := TX5) (N := 7) (ci := 5) (c := c) (fk := 5) (lt1 hk) (sh1 hk _) rfl (by decide) rfl wlX5 tw_64 tyX5_ok nmX5 rfl (by decide +kernel) rfl rfl (Nat.le_of_ble_eq_true rfl) (sh1 hk _) hd hn h
theorem tw_66 : Cond.fieldLink RX5 34 RX5 "rule" "I" ∈ lw_tbl := tm1 66 (by decide +kernel)
theorem fg_X5_X5_rule {v : VxT} {l : Launch} {g : CxT} {k nL pc n : Nat} {cc : ByteArray} {ret : Option FieldType} {L : List (Nat × Value)} {st : List Value} {S : Mem} (c : Nat) (hk : kdX c = 1) (ok : Ok l g (oX v) nL cc RX5 ret) (hd : decode cc pc = .ok (.getfield 34, 3)) (hn : pc + 3 = n) (h : G g (oX v) k nL n L (.int (S c 6) :: st) S) : G g (oX v) k nL pc L (.ref (v.1 c) :: st) S := g_get ok (C := RX5) (T := TX5) (N := 7) (ci := 5) (c := c) (fk := 6) (lt1 hk) (sh1 hk _) rfl (by decide) rfl wlX5 tw_66 rfl hd hn h
theorem fp_X5_X5_rule {v : VxT} {l : Launch} {g : CxT} {k nL pc n : Nat} {cc : ByteArray} {ret : Option FieldType} {L : List (Nat × Value)} {st : List Value} {S : Mem} (c : Nat) (hk : kdX c = 1) (ok : Ok l g (oX v) nL cc RX5 ret) {x : Int32} (hd : decode cc pc = .ok (.putfield 34, 3)) (hn : pc + 3 = n) (h : G g (oX v) k nL n L st (mset S c (upd (S c) 6 x))) : G g (oX v) k nL pc L (.int x :: .ref (v.1 c) :: st) S :=
  g_put (ty := .int) ok (C := RX5) (T := TX5) (N := 7) (ci := 5) (c := c) (fk := 6) (lt1 hk) (sh1 hk _) rfl (by decide) rfl wlX5 tw_66 tyX5_ok nmX5 rfl (by decide +kernel) rfl rfl (Nat.le_of_ble_eq_true rfl) (sh1 hk _) hd hn h
theorem tw_40 : Cond.fieldLinkNest RX5 64 RX0 "length" "I" RX7 ∈ lw_tbl := tm1 40 (by decide +kernel)
theorem fg_X5_X0_length {v : VxT} {l : Launch} {g : CxT} {k nL pc n : Nat} {cc : ByteArray} {ret : Option FieldType} {L : List (Nat × Value)} {st : List Value} {S : Mem} (c : Nat) (hk : kdX c = 4) (ok : Ok l g (oX v) nL cc RX5 ret) (hd : decode cc pc = .ok (.getfield 64, 3)) (hn : pc + 3 = n) (h : G g (oX v) k nL n L (.int (S c 1) :: st) S) : G g (oX v) k nL pc L (.ref (v.1 c) :: st) S := g_getN ok (C := RX0) (T := TX0) (N := 3) (ci := 0) (c := c) (fk := 1) (lt4 hk) (sh4 hk _) rfl (by decide) rfl wlX0 tw_40 rfl hd hn h
theorem fp_X5_X0_length {v : VxT} {l : Launch} {g : CxT} {k nL pc n : Nat} {cc : ByteArray} {ret : Option FieldType} {L : List (Nat × Value)} {st : List Value} {S : Mem} (c : Nat) (hk : kdX c = 4) (ok : Ok l g (oX v) nL cc RX5 ret) {x : Int32} (hd : decode cc pc = .ok (.putfield 64, 3)) (hn : pc + 3 = n) (h : G g (oX v) k nL n L st (mset S c (upd (S c) 1 x))) : G g (oX v) k nL pc L (.int x :: .ref (v.1 c) :: st) S :=
  g_putN (ty := .int) ok (C := RX0) (T := TX0) (N := 3) (ci := 0) (c := c) (fk := 1) (lt4 hk) (sh4 hk _) rfl (by decide) rfl wlX0 tw_40 tyX0_ok nmX0 rfl (by decide +kernel) rfl rfl (Nat.le_of_ble_eq_true rfl) (sh4 hk _) hd hn h
theorem tw_43 : Cond.fieldLinkNest RX5 67 RX0 "number" "I" RX7 ∈ lw_tbl := tm1 43 (by decide +kernel)
theorem fg_X5_X0_number {v : VxT} {l : Launch} {g : CxT} {k nL pc n : Nat} {cc : ByteArray} {ret : Option FieldType} {L : List (Nat × Value)} {st : List Value} {S : Mem} (c : Nat) (hk : kdX c = 4) (ok : Ok l g (oX v) nL cc RX5 ret) (hd : decode cc pc = .ok (.getfield 67, 3)) (hn : pc + 3 = n) (h : G g (oX v) k nL n L (.int (S c 2) :: st) S) : G g (oX v) k nL pc L (.ref (v.1 c) :: st) S := g_getN ok (C := RX0) (T := TX0) (N := 3) (ci := 0) (c := c) (fk := 2) (lt4 hk) (sh4 hk _) rfl (by decide) rfl wlX0 tw_43 rfl hd hn h
theorem fp_X5_X0_number {v : VxT} {l : Launch} {g : CxT} {k nL pc n : Nat} {cc : ByteArray} {ret : Option FieldType} {L : List (Nat × Value)} {st : List Value} {S : Mem} (c : Nat) (hk : kdX c = 4) (ok : Ok l g (oX v) nL cc RX5 ret) {x : Int32} (hd : decode cc pc = .ok (.putfield 67, 3)) (hn : pc + 3 = n) (h : G g (oX v) k nL n L st (mset S c (upd (S c) 2 x))) : G g (oX v) k nL pc L (.int x :: .ref (v.1 c) :: st) S :=
  g_putN (ty := .int) ok (C := RX0) (T := TX0) (N := 3) (ci := 0) (c := c) (fk := 2) (lt4 hk) (sh4 hk _) rfl (by decide) rfl wlX0 tw_43 tyX0_ok nmX0 rfl (by decide +kernel) rfl rfl (Nat.le_of_ble_eq_true rfl) (sh4 hk _) hd hn h
theorem tw_697 : Cond.methodLink RX5 58 ⟨"java/lang/System", "arraycopy", "(Ljava/lang/Object;ILjava/lang/Object;II)V"⟩ ∈ lw_tbl := tm3 217 (by decide +kernel)
theorem tw_343 : Cond.fieldLink RX7 10 RX7 "table" "LTableRocks$Table;" ∈ lw_tbl := tm2 103 (by decide +kernel)
theorem fg_X7_X7_table {v : VxT} {l : Launch} {g : CxT} {k nL pc n : Nat} {cc : ByteArray} {ret : Option FieldType} {L : List (Nat × Value)} {st : List Value} {S : Mem} (c : Nat) (hk : kdX c = 0) (ok : Ok l g (oX v) nL cc RX7 ret) (hd : decode cc pc = .ok (.getfield 10, 3)) (hn : pc + 3 = n) (h : G g (oX v) k nL n L (.ref (v.1 1) :: st) S) : G g (oX v) k nL pc L (.ref (v.1 c) :: st) S := g_get ok (C := RX7) (T := TX7) (N := 8) (ci := 6) (c := c) (fk := 0) (lt0 hk) (sh0 hk _) rfl (by decide) rfl wlX7 tw_343 rfl hd hn h
theorem tw_54 : Cond.fieldLinkNest RX7 78 RX5 "heights" "[I" RX7 ∈ lw_tbl := tm1 54 (by decide +kernel)
theorem fg_X7_X5_heights {v : VxT} {l : Launch} {g : CxT} {k nL pc n : Nat} {cc : ByteArray} {ret : Option FieldType} {L : List (Nat × Value)} {st : List Value} {S : Mem} (c : Nat) (hk : kdX c = 1) (ok : Ok l g (oX v) nL cc RX7 ret) (hd : decode cc pc = .ok (.getfield 78, 3)) (hn : pc + 3 = n) (h : G g (oX v) k nL n L (.ref (v.1 (c + 1)) :: st) S) : G g (oX v) k nL pc L (.ref (v.1 c) :: st) S := g_getN ok (C := RX5) (T := TX5) (N := 7) (ci := 5) (c := c) (fk := 0) (lt1 hk) (sh1 hk _) rfl (by decide) rfl wlX5 tw_54 rfl hd hn h
theorem tw_382 : Cond.methodLink RX7 82 yX7_isLeg ∈ lw_tbl := tm2 142 (by decide +kernel)
theorem tw_384 : Cond.code yX7_isLeg cX7_isLeg 1 (some .boolean) ∈ lw_tbl := tm2 144 (by rfl)
theorem cal_X7_isLeg : CalC yX7_isLeg cX7_isLeg 1 (some .boolean) 1 := calc_of tw_384 tw_1 (by decide +kernel)
theorem tw_383 : Cond.static yX7_isLeg ∈ lw_tbl := tm2 143 (by decide +kernel)
theorem tw_385 : Cond.methodLink RX7 85 yX7_isKind ∈ lw_tbl := tm2 145 (by decide +kernel)
theorem tw_57 : Cond.fieldLinkNest RX7 88 RX5 "legs" "[LTableRocks$Leg;" RX7 ∈ lw_tbl := tm1 57 (by decide +kernel)
theorem fg_X7_X5_legs {v : VxT} {l : Launch} {g : CxT} {k nL pc n : Nat} {cc : ByteArray} {ret : Option FieldType} {L : List (Nat × Value)} {st : List Value} {S : Mem} (c : Nat) (hk : kdX c = 1) (ok : Ok l g (oX v) nL cc RX7 ret) (hd : decode cc pc = .ok (.getfield 88, 3)) (hn : pc + 3 = n) (h : G g (oX v) k nL n L (.ref (v.1 (c + 2)) :: st) S) : G g (oX v) k nL pc L (.ref (v.1 c) :: st) S := g_getN ok (C := RX5) (T := TX5) (N := 7) (ci := 5) (c := c) (fk := 1) (lt1 hk) (sh1 hk _) rfl (by decide) rfl wlX5 tw_57 rfl hd hn h
theorem tw_38 : Cond.fieldLinkNest RX7 92 RX0 "kind" "I" RX7 ∈ lw_tbl := tm1 38 (by decide +kernel)
theorem fg_X7_X0_kind {v : VxT} {l : Launch} {g : CxT} {k nL pc n : Nat} {cc : ByteArray} {ret : Option FieldType} {L : List (Nat × Value)} {st : List Value} {S : Mem} (c : Nat) (hk : kdX c = 4) (ok : Ok l g (oX v) nL cc RX7 ret) (hd : decode cc pc = .ok (.getfield 92, 3)) (hn : pc + 3 = n) (h : G g (oX v) k nL n L (.int (S c 0) :: st) S) : G g (oX v) k nL pc L (.ref (v.1 c) :: st) S := g_getN ok (C := RX0) (T := TX0) (N := 3) (ci := 0) (c := c) (fk := 0) (lt4 hk) (sh4 hk _) rfl (by decide) rfl wlX0 tw_38 rfl hd hn h
theorem fp_X7_X0_kind {v : VxT} {l : Launch} {g : CxT} {k nL pc n : Nat} {cc : ByteArray} {ret : Option FieldType} {L : List (Nat × Value)} {st : List Value} {S : Mem} (c : Nat) (hk : kdX c = 4) (ok : Ok l g (oX v) nL cc RX7 ret) {x : Int32} (hd : decode cc pc = .ok (.putfield 92, 3)) (hn : pc + 3 = n) (h : G g (oX v) k nL n L st (mset S c (upd (S c) 0 x))) : G g (oX v) k nL pc L (.int x :: .ref (v.1 c) :: st) S :=
  g_putN (ty := .int) ok (C := RX0) (T := TX0) (N := 3) (ci := 0) (c := c) (fk := 0) (lt4 hk) (sh4 hk _) rfl (by decide) rfl wlX0 tw_38 tyX0_ok nmX0 rfl (by decide +kernel) rfl rfl (Nat.le_of_ble_eq_true rfl) (sh4 hk _) hd hn h
theorem tw_44 : Cond.fieldLinkNest RX7 97 RX0 "number" "I" RX7 ∈ lw_tbl := tm1 44 (by decide +kernel)
theorem fp_X7_X0_number {v : VxT} {l : Launch} {g : CxT} {k nL pc n : Nat} {cc : ByteArray} {ret : Option FieldType} {L : List (Nat × Value)} {st : List Value} {S : Mem} (c : Nat) (hk : kdX c = 4) (ok : Ok l g (oX v) nL cc RX7 ret) {x : Int32} (hd : decode cc pc = .ok (.putfield 97, 3)) (hn : pc + 3 = n) (h : G g (oX v) k nL n L st (mset S c (upd (S c) 2 x))) : G g (oX v) k nL pc L (.int x :: .ref (v.1 c) :: st) S :=
  g_putN (ty := .int) ok (C := RX0) (T := TX0) (N := 3) (ci := 0) (c := c) (fk := 2) (lt4 hk) (sh4 hk _) rfl (by decide) rfl wlX0 tw_44 tyX0_ok nmX0 rfl (by decide +kernel) rfl rfl (Nat.le_of_ble_eq_true rfl) (sh4 hk _) hd hn h
theorem tw_41 : Cond.fieldLinkNest RX7 108 RX0 "length" "I" RX7 ∈ lw_tbl := tm1 41 (by decide +kernel)
theorem fp_X7_X0_length {v : VxT} {l : Launch} {g : CxT} {k nL pc n : Nat} {cc : ByteArray} {ret : Option FieldType} {L : List (Nat × Value)} {st : List Value} {S : Mem} (c : Nat) (hk : kdX c = 4) (ok : Ok l g (oX v) nL cc RX7 ret) {x : Int32} (hd : decode cc pc = .ok (.putfield 108, 3)) (hn : pc + 3 = n) (h : G g (oX v) k nL n L st (mset S c (upd (S c) 1 x))) : G g (oX v) k nL pc L (.int x :: .ref (v.1 c) :: st) S :=
  g_putN (ty := .int) ok (C := RX0) (T := TX0) (N := 3) (ci := 0) (c := c) (fk := 1) (lt4 hk) (sh4 hk _) rfl (by decide) rfl wlX0 tw_41 tyX0_ok nmX0 rfl (by decide +kernel) rfl rfl (Nat.le_of_ble_eq_true rfl) (sh4 hk _) hd hn h
theorem fg_X7_X0_number {v : VxT} {l : Launch} {g : CxT} {k nL pc n : Nat} {cc : ByteArray} {ret : Option FieldType} {L : List (Nat × Value)} {st : List Value} {S : Mem} (c : Nat) (hk : kdX c = 4) (ok : Ok l g (oX v) nL cc RX7 ret) (hd : decode cc pc = .ok (.getfield 97, 3)) (hn : pc + 3 = n) (h : G g (oX v) k nL n L (.int (S c 2) :: st) S) : G g (oX v) k nL pc L (.ref (v.1 c) :: st) S := g_getN ok (C := RX0) (T := TX0) (N := 3) (ci := 0) (c := c) (fk := 2) (lt4 hk) (sh4 hk _) rfl (by decide) rfl wlX0 tw_44 rfl hd hn h
theorem fg_X7_X0_length {v : VxT} {l : Launch} {g : CxT} {k nL pc n : Nat} {cc : ByteArray} {ret : Option FieldType} {L : List (Nat × Value)} {st : List Value} {S : Mem} (c : Nat) (hk : kdX c = 4) (ok : Ok l g (oX v) nL cc RX7 ret) (hd : decode cc pc = .ok (.getfield 108, 3)) (hn : pc + 3 = n) (h : G g (oX v) k nL n L (.int (S c 1) :: st) S) : G g (oX v) k nL pc L (.ref (v.1 c) :: st) S := g_getN ok (C := RX0) (T := TX0) (N := 3) (ci := 0) (c := c) (fk := 1) (lt4 hk) (sh4 hk _) rfl (by decide) rfl wlX0 tw_41 rfl hd hn h
theorem tw_65 : Cond.fieldLinkNest RX7 110 RX5 "load" "I" RX7 ∈ lw_tbl := tm1 65 (by decide +kernel)
theorem fg_X7_X5_load {v : VxT} {l : Launch} {g : CxT} {k nL pc n : Nat} {cc : ByteArray} {ret : Option FieldType} {L : List (Nat × Value)} {st : List Value} {S : Mem} (c : Nat) (hk : kdX c = 1) (ok : Ok l g (oX v) nL cc RX7 ret) (hd : decode cc pc = .ok (.getfield 110, 3)) (hn : pc + 3 = n) (h : G g (oX v) k nL n L (.int (S c 5) :: st) S) : G g (oX v) k nL pc L (.ref (v.1 c) :: st) S := g_getN ok (C := RX5) (T := TX5) (N := 7) (ci := 5) (c := c) (fk := 5) (lt1 hk) (sh1 hk _) rfl (by decide) rfl wlX5 tw_65 rfl hd hn h
theorem fp_X7_X5_load {v : VxT} {l : Launch} {g : CxT} {k nL pc n : Nat} {cc : ByteArray} {ret : Option FieldType} {L : List (Nat × Value)} {st : List Value} {S : Mem} (c : Nat) (hk : kdX c = 1) (ok : Ok l g (oX v) nL cc RX7 ret) {x : Int32} (hd : decode cc pc = .ok (.putfield 110, 3)) (hn : pc + 3 = n) (h : G g (oX v) k nL n L st (mset S c (upd (S c) 5 x))) : G g (oX v) k nL pc L (.int x :: .ref (v.1 c) :: st) S :=
  g_putN (ty := .int) ok (C := RX5) (T := TX5) (N := 7) (ci := 5) (c := c) (fk := 5) (lt1 hk) (sh1 hk _) rfl (by decide) rfl wlX5 tw_65 tyX5_ok nmX5 rfl (by decide +kernel) rfl rfl (Nat.le_of_ble_eq_true rfl) (sh1 hk _) hd hn h
theorem tw_63 : Cond.fieldLinkNest RX7 120 RX5 "turn" "I" RX7 ∈ lw_tbl := tm1 63 (by decide +kernel)
theorem fg_X7_X5_turn {v : VxT} {l : Launch} {g : CxT} {k nL pc n : Nat} {cc : ByteArray} {ret : Option FieldType} {L : List (Nat × Value)} {st : List Value} {S : Mem} (c : Nat) (hk : kdX c = 1) (ok : Ok l g (oX v) nL cc RX7 ret) (hd : decode cc pc = .ok (.getfield 120, 3)) (hn : pc + 3 = n) (h : G g (oX v) k nL n L (.int (S c 4) :: st) S) : G g (oX v) k nL pc L (.ref (v.1 c) :: st) S := g_getN ok (C := RX5) (T := TX5) (N := 7) (ci := 5) (c := c) (fk := 4) (lt1 hk) (sh1 hk _) rfl (by decide) rfl wlX5 tw_63 rfl hd hn h
theorem fp_X7_X5_turn {v : VxT} {l : Launch} {g : CxT} {k nL pc n : Nat} {cc : ByteArray} {ret : Option FieldType} {L : List (Nat × Value)} {st : List Value} {S : Mem} (c : Nat) (hk : kdX c = 1) (ok : Ok l g (oX v) nL cc RX7 ret) {x : Int32} (hd : decode cc pc = .ok (.putfield 120, 3)) (hn : pc + 3 = n) (h : G g (oX v) k nL n L st (mset S c (upd (S c) 4 x))) : G g (oX v) k nL pc L (.int x :: .ref (v.1 c) :: st) S :=
  g_putN (ty := .int) ok (C := RX5) (T := TX5) (N := 7) (ci := 5) (c := c) (fk := 4) (lt1 hk) (sh1 hk _) rfl (by decide) rfl wlX5 tw_63 tyX5_ok nmX5 rfl (by decide +kernel) rfl rfl (Nat.le_of_ble_eq_true rfl) (sh1 hk _) hd hn h
theorem tw_61 : Cond.fieldLinkNest RX7 224 RX5 "radius" "I" RX7 ∈ lw_tbl := tm1 61 (by decide +kernel)
theorem fg_X7_X5_radius {v : VxT} {l : Launch} {g : CxT} {k nL pc n : Nat} {cc : ByteArray} {ret : Option FieldType} {L : List (Nat × Value)} {st : List Value} {S : Mem} (c : Nat) (hk : kdX c = 1) (ok : Ok l g (oX v) nL cc RX7 ret) (hd : decode cc pc = .ok (.getfield 224, 3)) (hn : pc + 3 = n) (h : G g (oX v) k nL n L (.int (S c 3) :: st) S) : G g (oX v) k nL pc L (.ref (v.1 c) :: st) S := g_getN ok (C := RX5) (T := TX5) (N := 7) (ci := 5) (c := c) (fk := 3) (lt1 hk) (sh1 hk _) rfl (by decide) rfl wlX5 tw_61 rfl hd hn h
theorem fp_X7_X5_radius {v : VxT} {l : Launch} {g : CxT} {k nL pc n : Nat} {cc : ByteArray} {ret : Option FieldType} {L : List (Nat × Value)} {st : List Value} {S : Mem} (c : Nat) (hk : kdX c = 1) (ok : Ok l g (oX v) nL cc RX7 ret) {x : Int32} (hd : decode cc pc = .ok (.putfield 224, 3)) (hn : pc + 3 = n) (h : G g (oX v) k nL n L st (mset S c (upd (S c) 3 x))) : G g (oX v) k nL pc L (.int x :: .ref (v.1 c) :: st) S :=
  g_putN (ty := .int) ok (C := RX5) (T := TX5) (N := 7) (ci := 5) (c := c) (fk := 3) (lt1 hk) (sh1 hk _) rfl (by decide) rfl wlX5 tw_61 tyX5_ok nmX5 rfl (by decide +kernel) rfl rfl (Nat.le_of_ble_eq_true rfl) (sh1 hk _) hd hn h
theorem tw_59 : Cond.fieldLinkNest RX7 117 RX5 "place" "I" RX7 ∈ lw_tbl := tm1 59 (by decide +kernel)
theorem fg_X7_X5_place {v : VxT} {l : Launch} {g : CxT} {k nL pc n : Nat} {cc : ByteArray} {ret : Option FieldType} {L : List (Nat × Value)} {st : List Value} {S : Mem} (c : Nat) (hk : kdX c = 1) (ok : Ok l g (oX v) nL cc RX7 ret) (hd : decode cc pc = .ok (.getfield 117, 3)) (hn : pc + 3 = n) (h : G g (oX v) k nL n L (.int (S c 2) :: st) S) : G g (oX v) k nL pc L (.ref (v.1 c) :: st) S := g_getN ok (C := RX5) (T := TX5) (N := 7) (ci := 5) (c := c) (fk := 2) (lt1 hk) (sh1 hk _) rfl (by decide) rfl wlX5 tw_59 rfl hd hn h
theorem fp_X7_X5_place {v : VxT} {l : Launch} {g : CxT} {k nL pc n : Nat} {cc : ByteArray} {ret : Option FieldType} {L : List (Nat × Value)} {st : List Value} {S : Mem} (c : Nat) (hk : kdX c = 1) (ok : Ok l g (oX v) nL cc RX7 ret) {x : Int32} (hd : decode cc pc = .ok (.putfield 117, 3)) (hn : pc + 3 = n) (h : G g (oX v) k nL n L st (mset S c (upd (S c) 2 x))) : G g (oX v) k nL pc L (.int x :: .ref (v.1 c) :: st) S :=
  g_putN (ty := .int) ok (C := RX5) (T := TX5) (N := 7) (ci := 5) (c := c) (fk := 2) (lt1 hk) (sh1 hk _) rfl (by decide) rfl wlX5 tw_59 tyX5_ok nmX5 rfl (by decide +kernel) rfl rfl (Nat.le_of_ble_eq_true rfl) (sh1 hk _) hd hn h
theorem tw_396 : Cond.methodLink RX7 104 yX7_setOfTable ∈ lw_tbl := tm2 156 (by decide +kernel)
theorem tw_399 : Cond.code yX7_setOfTable cX7_setOfTable 4 (some .int) ∈ lw_tbl := tm2 159 (by rfl)
theorem cal_X7_setOfTable : CalC yX7_setOfTable cX7_setOfTable 4 (some .int) 2 := calc_of tw_399 tw_1 (by decide +kernel)
theorem tw_398 : Cond.instanceMethod yX7_setOfTable ∈ lw_tbl := tm2 158 (by decide +kernel)
theorem tp_19 : Cond.selects RX7 yX7_setOfTable yX7_setOfTable ∈ lw_tbl := pm (q := (yX7_setOfTable, _)) 19 (by first | rfl | decide +kernel)
theorem tw_392 : Cond.methodLink RX7 100 yX7_setOfLeg ∈ lw_tbl := tm2 152 (by decide +kernel)
theorem tw_395 : Cond.code yX7_setOfLeg cX7_setOfLeg 6 (some .int) ∈ lw_tbl := tm2 155 (by rfl)
theorem cal_X7_setOfLeg : CalC yX7_setOfLeg cX7_setOfLeg 6 (some .int) 3 := calc_of tw_395 tw_1 (by decide +kernel)
theorem tw_394 : Cond.instanceMethod yX7_setOfLeg ∈ lw_tbl := tm2 154 (by decide +kernel)
theorem tp_18 : Cond.selects RX7 yX7_setOfLeg yX7_setOfLeg ∈ lw_tbl := pm (q := (yX7_setOfLeg, _)) 18 (by first | rfl | decide +kernel)
theorem tw_404 : Cond.methodLinkNest RX7 113 yX0_tall RX7 ∈ lw_tbl := tm2 164 (by decide +kernel)
theorem tw_419 : Cond.methodLinkNest RX7 123 yX5_cellBeneath RX7 ∈ lw_tbl := tm2 179 (by decide +kernel)
theorem tw_436 : Cond.methodLinkNest RX7 126 yX5_heightOf RX7 ∈ lw_tbl := tm2 196 (by decide +kernel)
theorem tw_346 : Cond.fieldLink RX7 26 RX7 "reader" "LTableRocks$Reader;" ∈ lw_tbl := tm2 106 (by decide +kernel)
theorem fg_X7_X7_reader {v : VxT} {l : Launch} {g : CxT} {k nL pc n : Nat} {cc : ByteArray} {ret : Option FieldType} {L : List (Nat × Value)} {st : List Value} {S : Mem} (c : Nat) (hk : kdX c = 0) (ok : Ok l g (oX v) nL cc RX7 ret) (hd : decode cc pc = .ok (.getfield 26, 3)) (hn : pc + 3 = n) (h : G g (oX v) k nL n L (.ref (v.1 15) :: st) S) : G g (oX v) k nL pc L (.ref (v.1 c) :: st) S := g_get ok (C := RX7) (T := TX7) (N := 8) (ci := 6) (c := c) (fk := 3) (lt0 hk) (sh0 hk _) rfl (by decide) rfl wlX7 tw_346 rfl hd hn h
theorem tw_236 : Cond.methodLinkNest RX7 67 yX1_append RX7 ∈ lw_tbl := tm1 236 (by decide +kernel)
theorem tw_239 : Cond.code yX1_append cX1_append 2 (some .boolean) ∈ lw_tbl := tm1 239 (by rfl)
theorem cal_X1_append : CalC yX1_append cX1_append 2 (some .boolean) 1 := calc_of tw_239 tw_4 (by decide +kernel)
theorem tw_238 : Cond.instanceMethod yX1_append ∈ lw_tbl := tm1 238 (by decide +kernel)
theorem tp_0 : Cond.selects RX1 yX1_append yX1_append ∈ lw_tbl := pm (q := (yX1_append, _)) 0 (by first | rfl | decide +kernel)
theorem tw_110 : Cond.fieldLinkNest RX7 129 RX1 "size" "I" RX7 ∈ lw_tbl := tm1 110 (by decide +kernel)
theorem fg_X7_X1_size {v : VxT} {l : Launch} {g : CxT} {k nL pc n : Nat} {cc : ByteArray} {ret : Option FieldType} {L : List (Nat × Value)} {st : List Value} {S : Mem} (c : Nat) (hk : kdX c = 5) (ok : Ok l g (oX v) nL cc RX7 ret) (hd : decode cc pc = .ok (.getfield 129, 3)) (hn : pc + 3 = n) (h : G g (oX v) k nL n L (.int (S c 2) :: st) S) : G g (oX v) k nL pc L (.ref (v.1 c) :: st) S := g_getN ok (C := RX1) (T := TX1) (N := 8) (ci := 1) (c := c) (fk := 2) (lt5 hk) (sh5 hk _) rfl (by decide) rfl wlX1 tw_110 rfl hd hn h
theorem tw_348 : Cond.fieldLink RX7 36 RX7 "ruleCount" "I" ∈ lw_tbl := tm2 108 (by decide +kernel)
theorem fg_X7_X7_ruleCount {v : VxT} {l : Launch} {g : CxT} {k nL pc n : Nat} {cc : ByteArray} {ret : Option FieldType} {L : List (Nat × Value)} {st : List Value} {S : Mem} (c : Nat) (hk : kdX c = 0) (ok : Ok l g (oX v) nL cc RX7 ret) (hd : decode cc pc = .ok (.getfield 36, 3)) (hn : pc + 3 = n) (h : G g (oX v) k nL n L (.int (S c 5) :: st) S) : G g (oX v) k nL pc L (.ref (v.1 c) :: st) S := g_get ok (C := RX7) (T := TX7) (N := 8) (ci := 6) (c := c) (fk := 5) (lt0 hk) (sh0 hk _) rfl (by decide) rfl wlX7 tw_348 rfl hd hn h
theorem tw_244 : Cond.methodLinkNest RX7 132 yX1_readTape RX7 ∈ lw_tbl := tm2 4 (by decide +kernel)
theorem tw_247 : Cond.code yX1_readTape cX1_readTape 2 (some .int) ∈ lw_tbl := tm2 7 (by rfl)
theorem cal_X1_readTape : CalC yX1_readTape cX1_readTape 2 (some .int) 0 := calc_of tw_247 tw_4 (by decide +kernel)
theorem tw_246 : Cond.instanceMethod yX1_readTape ∈ lw_tbl := tm2 6 (by decide +kernel)
theorem tp_1 : Cond.selects RX1 yX1_readTape yX1_readTape ∈ lw_tbl := pm (q := (yX1_readTape, _)) 1 (by first | rfl | decide +kernel)
theorem tw_347 : Cond.fieldLink RX7 32 RX7 "rules" "[LTableRocks$Rule;" ∈ lw_tbl := tm2 107 (by decide +kernel)
theorem fg_X7_X7_rules {v : VxT} {l : Launch} {g : CxT} {k nL pc n : Nat} {cc : ByteArray} {ret : Option FieldType} {L : List (Nat × Value)} {st : List Value} {S : Mem} (c : Nat) (hk : kdX c = 0) (ok : Ok l g (oX v) nL cc RX7 ret) (hd : decode cc pc = .ok (.getfield 32, 3)) (hn : pc + 3 = n) (h : G g (oX v) k nL n L (.ref (v.1 20) :: st) S) : G g (oX v) k nL pc L (.ref (v.1 c) :: st) S := g_get ok (C := RX7) (T := TX7) (N := 8) (ci := 6) (c := c) (fk := 4) (lt0 hk) (sh0 hk _) rfl (by decide) rfl wlX7 tw_347 rfl hd hn h
theorem tw_108 : Cond.fieldLinkNest RX7 135 RX1 "rule" "LTableRocks$Rule;" RX7 ∈ lw_tbl := tm1 108 (by decide +kernel)
theorem fg_X7_X1_rule {v : VxT} {l : Launch} {g : CxT} {k nL pc n : Nat} {cc : ByteArray} {ret : Option FieldType} {L : List (Nat × Value)} {st : List Value} {S : Mem} (c : Nat) (hk : kdX c = 5) (ok : Ok l g (oX v) nL cc RX7 ret) (hd : decode cc pc = .ok (.getfield 135, 3)) (hn : pc + 3 = n) (h : G g (oX v) k nL n L (.ref (v.1 (c + 2)) :: st) S) : G g (oX v) k nL pc L (.ref (v.1 c) :: st) S := g_getN ok (C := RX1) (T := TX1) (N := 8) (ci := 1) (c := c) (fk := 1) (lt5 hk) (sh5 hk _) rfl (by decide) rfl wlX1 tw_108 rfl hd hn h
theorem tw_336 : Cond.methodLinkNest RX7 139 yX2_becomeLike RX7 ∈ lw_tbl := tm2 96 (by decide +kernel)
theorem tw_339 : Cond.code yX2_becomeLike cX2_becomeLike 2 none ∈ lw_tbl := tm2 99 (by rfl)
theorem cal_X2_becomeLike : CalC yX2_becomeLike cX2_becomeLike 2 none 1 := calc_of tw_339 tw_5 (by decide +kernel)
theorem tw_338 : Cond.instanceMethod yX2_becomeLike ∈ lw_tbl := tm2 98 (by decide +kernel)
theorem tp_17 : Cond.selects RX2 yX2_becomeLike yX2_becomeLike ∈ lw_tbl := pm (q := (yX2_becomeLike, _)) 17 (by first | rfl | decide +kernel)
theorem fp_X7_X7_ruleCount {v : VxT} {l : Launch} {g : CxT} {k nL pc n : Nat} {cc : ByteArray} {ret : Option FieldType} {L : List (Nat × Value)} {st : List Value} {S : Mem} (c : Nat) (hk : kdX c = 0) (ok : Ok l g (oX v) nL cc RX7 ret) {x : Int32} (hd : decode cc pc = .ok (.putfield 36, 3)) (hn : pc + 3 = n) (h : G g (oX v) k nL n L st (mset S c (upd (S c) 5 x))) : G g (oX v) k nL pc L (.int x :: .ref (v.1 c) :: st) S :=
  g_put (ty := .int) ok (C := RX7) (T := TX7) (N := 8) (ci := 6) (c := c) (fk := 5) (lt0 hk) (sh0 hk _) rfl (by decide) rfl wlX7 tw_348 tyX7_ok nmX7 rfl (by decide +kernel) rfl rfl (Nat.le_of_ble_eq_true rfl) (sh0 hk _) hd hn h
theorem tw_67 : Cond.fieldLinkNest RX7 143 RX5 "rule" "I" RX7 ∈ lw_tbl := tm1 67 (by decide +kernel)
theorem fg_X7_X5_rule {v : VxT} {l : Launch} {g : CxT} {k nL pc n : Nat} {cc : ByteArray} {ret : Option FieldType} {L : List (Nat × Value)} {st : List Value} {S : Mem} (c : Nat) (hk : kdX c = 1) (ok : Ok l g (oX v) nL cc RX7 ret) (hd : decode cc pc = .ok (.getfield 143, 3)) (hn : pc + 3 = n) (h : G g (oX v) k nL n L (.int (S c 6) :: st) S) : G g (oX v) k nL pc L (.ref (v.1 c) :: st) S := g_getN ok (C := RX5) (T := TX5) (N := 7) (ci := 5) (c := c) (fk := 6) (lt1 hk) (sh1 hk _) rfl (by decide) rfl wlX5 tw_67 rfl hd hn h
theorem fp_X7_X5_rule {v : VxT} {l : Launch} {g : CxT} {k nL pc n : Nat} {cc : ByteArray} {ret : Option FieldType} {L : List (Nat × Value)} {st : List Value} {S : Mem} (c : Nat) (hk : kdX c = 1) (ok : Ok l g (oX v) nL cc RX7 ret) {x : Int32} (hd : decode cc pc = .ok (.putfield 143, 3)) (hn : pc + 3 = n) (h : G g (oX v) k nL n L st (mset S c (upd (S c) 6 x))) : G g (oX v) k nL pc L (.int x :: .ref (v.1 c) :: st) S :=
  g_putN (ty := .int) ok (C := RX5) (T := TX5) (N := 7) (ci := 5) (c := c) (fk := 6) (lt1 hk) (sh1 hk _) rfl (by decide) rfl wlX5 tw_67 tyX5_ok nmX5 rfl (by decide +kernel) rfl rfl (Nat.le_of_ble_eq_true rfl) (sh1 hk _) hd hn h
theorem tw_349 : Cond.fieldLink RX7 43 RX7 "stand" "LTableRocks$Stand;" ∈ lw_tbl := tm2 109 (by decide +kernel)
theorem fg_X7_X7_stand {v : VxT} {l : Launch} {g : CxT} {k nL pc n : Nat} {cc : ByteArray} {ret : Option FieldType} {L : List (Nat × Value)} {st : List Value} {S : Mem} (c : Nat) (hk : kdX c = 0) (ok : Ok l g (oX v) nL cc RX7 ret) (hd : decode cc pc = .ok (.getfield 43, 3)) (hn : pc + 3 = n) (h : G g (oX v) k nL n L (.ref (v.1 39) :: st) S) : G g (oX v) k nL pc L (.ref (v.1 c) :: st) S := g_get ok (C := RX7) (T := TX7) (N := 8) (ci := 6) (c := c) (fk := 6) (lt0 hk) (sh0 hk _) rfl (by decide) rfl wlX7 tw_349 rfl hd hn h
theorem tw_464 : Cond.methodLink RX7 264 yX7_ruleInForce ∈ lw_tbl := tm2 224 (by decide +kernel)
theorem tw_467 : Cond.code yX7_ruleInForce cX7_ruleInForce 1 (some (.object "TableRocks$Rule")) ∈ lw_tbl := tm2 227 (by rfl)
theorem cal_X7_ruleInForce : CalC yX7_ruleInForce cX7_ruleInForce 1 (some (.object "TableRocks$Rule")) 0 := calc_of tw_467 tw_1 (by decide +kernel)
theorem tw_466 : Cond.instanceMethod yX7_ruleInForce ∈ lw_tbl := tm2 226 (by decide +kernel)
theorem tp_27 : Cond.selects RX7 yX7_ruleInForce yX7_ruleInForce ∈ lw_tbl := pm (q := (yX7_ruleInForce, _)) 27 (by first | rfl | decide +kernel)
theorem tw_468 : Cond.methodLinkNest RX7 268 yX4_measure RX7 ∈ lw_tbl := tm2 228 (by decide +kernel)
theorem tw_471 : Cond.code yX4_measure cX4_measure 6 none ∈ lw_tbl := tm2 231 (by rfl)
theorem cal_X4_measure : CalC yX4_measure cX4_measure 6 none 4 := calc_of tw_471 tw_6 (by decide +kernel)
theorem tw_470 : Cond.instanceMethod yX4_measure ∈ lw_tbl := tm2 230 (by decide +kernel)
theorem tp_28 : Cond.selects RX4 yX4_measure yX4_measure ∈ lw_tbl := pm (q := (yX4_measure, _)) 28 (by first | rfl | decide +kernel)
theorem tw_460 : Cond.methodLink RX7 156 yX7_measure ∈ lw_tbl := tm2 220 (by decide +kernel)
theorem tw_463 : Cond.code yX7_measure cX7_measure 3 none ∈ lw_tbl := tm2 223 (by rfl)
theorem cal_X7_measure : CalC yX7_measure cX7_measure 3 none 2 := calc_of tw_463 tw_1 (by decide +kernel)
theorem tw_462 : Cond.instanceMethod yX7_measure ∈ lw_tbl := tm2 222 (by decide +kernel)
theorem tp_26 : Cond.selects RX7 yX7_measure yX7_measure ∈ lw_tbl := pm (q := (yX7_measure, _)) 26 (by first | rfl | decide +kernel)
theorem tw_145 : Cond.fieldLinkNest RX7 271 RX4 "gap" "I" RX7 ∈ lw_tbl := tm1 145 (by decide +kernel)
theorem fg_X7_X4_gap {v : VxT} {l : Launch} {g : CxT} {k nL pc n : Nat} {cc : ByteArray} {ret : Option FieldType} {L : List (Nat × Value)} {st : List Value} {S : Mem} (c : Nat) (hk : kdX c = 10) (ok : Ok l g (oX v) nL cc RX7 ret) (hd : decode cc pc = .ok (.getfield 271, 3)) (hn : pc + 3 = n) (h : G g (oX v) k nL n L (.int (S c 3) :: st) S) : G g (oX v) k nL pc L (.ref (v.1 c) :: st) S := g_getN ok (C := RX4) (T := TX4) (N := 7) (ci := 4) (c := c) (fk := 3) (lt10 hk) (sh10 hk _) rfl (by decide) rfl wlX4 tw_145 rfl hd hn h
theorem tw_148 : Cond.fieldLinkNest RX7 212 RX4 "rock" "I" RX7 ∈ lw_tbl := tm1 148 (by decide +kernel)
theorem fg_X7_X4_rock {v : VxT} {l : Launch} {g : CxT} {k nL pc n : Nat} {cc : ByteArray} {ret : Option FieldType} {L : List (Nat × Value)} {st : List Value} {S : Mem} (c : Nat) (hk : kdX c = 10) (ok : Ok l g (oX v) nL cc RX7 ret) (hd : decode cc pc = .ok (.getfield 212, 3)) (hn : pc + 3 = n) (h : G g (oX v) k nL n L (.int (S c 5) :: st) S) : G g (oX v) k nL pc L (.ref (v.1 c) :: st) S := g_getN ok (C := RX4) (T := TX4) (N := 7) (ci := 4) (c := c) (fk := 5) (lt10 hk) (sh10 hk _) rfl (by decide) rfl wlX4 tw_148 rfl hd hn h
theorem tw_150 : Cond.fieldLinkNest RX7 274 RX4 "lean" "I" RX7 ∈ lw_tbl := tm1 150 (by decide +kernel)
theorem fg_X7_X4_lean {v : VxT} {l : Launch} {g : CxT} {k nL pc n : Nat} {cc : ByteArray} {ret : Option FieldType} {L : List (Nat × Value)} {st : List Value} {S : Mem} (c : Nat) (hk : kdX c = 10) (ok : Ok l g (oX v) nL cc RX7 ret) (hd : decode cc pc = .ok (.getfield 274, 3)) (hn : pc + 3 = n) (h : G g (oX v) k nL n L (.int (S c 6) :: st) S) : G g (oX v) k nL pc L (.ref (v.1 c) :: st) S := g_getN ok (C := RX4) (T := TX4) (N := 7) (ci := 4) (c := c) (fk := 6) (lt10 hk) (sh10 hk _) rfl (by decide) rfl wlX4 tw_150 rfl hd hn h
theorem tw_528 : Cond.methodLinkNest RX7 277 yX4_looseBits RX7 ∈ lw_tbl := tm3 48 (by decide +kernel)
theorem tw_531 : Cond.code yX4_looseBits cX4_looseBits 1 (some .int) ∈ lw_tbl := tm3 51 (by rfl)
theorem cal_X4_looseBits : CalC yX4_looseBits cX4_looseBits 1 (some .int) 0 := calc_of tw_531 tw_6 (by decide +kernel)
theorem tw_530 : Cond.instanceMethod yX4_looseBits ∈ lw_tbl := tm3 50 (by decide +kernel)
theorem tp_38 : Cond.selects RX4 yX4_looseBits yX4_looseBits ∈ lw_tbl := pm (q := (yX4_looseBits, _)) 38 (by first | rfl | decide +kernel)
theorem tw_532 : Cond.methodLinkNest RX7 280 yX4_worth RX7 ∈ lw_tbl := tm3 52 (by decide +kernel)
theorem tw_535 : Cond.code yX4_worth cX4_worth 2 (some .int) ∈ lw_tbl := tm3 55 (by rfl)
theorem cal_X4_worth : CalC yX4_worth cX4_worth 2 (some .int) 1 := calc_of tw_535 tw_6 (by decide +kernel)
theorem tw_534 : Cond.instanceMethod yX4_worth ∈ lw_tbl := tm3 54 (by decide +kernel)
theorem tp_39 : Cond.selects RX4 yX4_worth yX4_worth ∈ lw_tbl := pm (q := (yX4_worth, _)) 39 (by first | rfl | decide +kernel)
theorem tw_536 : Cond.methodLinkNest RX7 284 yX4_spills RX7 ∈ lw_tbl := tm3 56 (by decide +kernel)
theorem tw_539 : Cond.code yX4_spills cX4_spills 2 (some .int) ∈ lw_tbl := tm3 59 (by rfl)
theorem cal_X4_spills : CalC yX4_spills cX4_spills 2 (some .int) 1 := calc_of tw_539 tw_6 (by decide +kernel)
theorem tw_538 : Cond.instanceMethod yX4_spills ∈ lw_tbl := tm3 58 (by decide +kernel)
theorem tp_40 : Cond.selects RX4 yX4_spills yX4_spills ∈ lw_tbl := pm (q := (yX4_spills, _)) 40 (by first | rfl | decide +kernel)
theorem tw_459 : Cond.constant RX7 148 (-100000) ∈ lw_tbl := tm2 219 (by decide +kernel)
theorem tw_455 : Cond.methodLink RX7 145 yX7_standing ∈ lw_tbl := tm2 215 (by decide +kernel)
theorem tw_458 : Cond.code yX7_standing cX7_standing 4 (some .int) ∈ lw_tbl := tm2 218 (by rfl)
theorem cal_X7_standing : CalC yX7_standing cX7_standing 4 (some .int) 3 := calc_of tw_458 tw_1 (by decide +kernel)
theorem tw_457 : Cond.instanceMethod yX7_standing ∈ lw_tbl := tm2 217 (by decide +kernel)
theorem tp_25 : Cond.selects RX7 yX7_standing yX7_standing ∈ lw_tbl := pm (q := (yX7_standing, _)) 25 (by first | rfl | decide +kernel)
theorem tw_552 : Cond.methodLinkNest RX7 163 yX4_isFirm RX7 ∈ lw_tbl := tm3 72 (by decide +kernel)
theorem tw_548 : Cond.methodLink RX7 149 yX7_isFirmAt ∈ lw_tbl := tm3 68 (by decide +kernel)
theorem tw_551 : Cond.code yX7_isFirmAt cX7_isFirmAt 3 (some .boolean) ∈ lw_tbl := tm3 71 (by rfl)
theorem cal_X7_isFirmAt : CalC yX7_isFirmAt cX7_isFirmAt 3 (some .boolean) 2 := calc_of tw_551 tw_1 (by decide +kernel)
theorem tw_550 : Cond.instanceMethod yX7_isFirmAt ∈ lw_tbl := tm3 70 (by decide +kernel)
theorem tp_41 : Cond.selects RX7 yX7_isFirmAt yX7_isFirmAt ∈ lw_tbl := pm (q := (yX7_isFirmAt, _)) 41 (by first | rfl | decide +kernel)
theorem tw_560 : Cond.methodLink RX7 153 yX7_round ∈ lw_tbl := tm3 80 (by decide +kernel)
theorem tw_565 : Cond.methodLinkNest RX7 160 yX4_firstBearing RX7 ∈ lw_tbl := tm3 85 (by decide +kernel)
theorem tw_570 : Cond.methodLink RX7 167 yX7_worthAt ∈ lw_tbl := tm3 90 (by decide +kernel)
theorem tw_573 : Cond.code yX7_worthAt cX7_worthAt 3 (some .int) ∈ lw_tbl := tm3 93 (by rfl)
theorem cal_X7_worthAt : CalC yX7_worthAt cX7_worthAt 3 (some .int) 2 := calc_of tw_573 tw_1 (by decide +kernel)
theorem tw_572 : Cond.instanceMethod yX7_worthAt ∈ lw_tbl := tm3 92 (by decide +kernel)
theorem tp_43 : Cond.selects RX7 yX7_worthAt yX7_worthAt ∈ lw_tbl := pm (q := (yX7_worthAt, _)) 43 (by first | rfl | decide +kernel)
theorem tw_578 : Cond.methodLink RX7 170 yX7_rockHere ∈ lw_tbl := tm3 98 (by decide +kernel)
theorem tw_581 : Cond.code yX7_rockHere cX7_rockHere 1 (some .int) ∈ lw_tbl := tm3 101 (by rfl)
theorem cal_X7_rockHere : CalC yX7_rockHere cX7_rockHere 1 (some .int) 0 := calc_of tw_581 tw_1 (by decide +kernel)
theorem tw_580 : Cond.instanceMethod yX7_rockHere ∈ lw_tbl := tm3 100 (by decide +kernel)
theorem tp_44 : Cond.selects RX7 yX7_rockHere yX7_rockHere ∈ lw_tbl := pm (q := (yX7_rockHere, _)) 44 (by first | rfl | decide +kernel)
theorem tw_586 : Cond.methodLinkNest RX7 173 yX4_firstLoose RX7 ∈ lw_tbl := tm3 106 (by decide +kernel)
theorem tw_587 : Cond.methodLink RX7 176 Lib.Math.min.name ∈ lw_tbl := tm3 107 (by decide +kernel)
theorem tw_592 : Cond.methodLinkNest RX7 181 yX0_shorten RX7 ∈ lw_tbl := tm3 112 (by decide +kernel)
theorem tw_595 : Cond.code yX0_shorten cX0_shorten 2 none ∈ lw_tbl := tm3 115 (by rfl)
theorem cal_X0_shorten : CalC yX0_shorten cX0_shorten 2 none 1 := calc_of tw_595 tw_3 (by decide +kernel)
theorem tw_594 : Cond.instanceMethod yX0_shorten ∈ lw_tbl := tm3 114 (by decide +kernel)
theorem tp_45 : Cond.selects RX0 yX0_shorten yX0_shorten ∈ lw_tbl := pm (q := (yX0_shorten, _)) 45 (by first | rfl | decide +kernel)
theorem tw_619 : Cond.methodLink RX7 287 Lib.Math.abs.name ∈ lw_tbl := tm3 139 (by decide +kernel)
theorem tw_604 : Cond.methodLink RX7 290 yX7_screwStep ∈ lw_tbl := tm3 124 (by decide +kernel)
theorem tw_606 : Cond.code yX7_screwStep cX7_screwStep 4 (some .int) ∈ lw_tbl := tm3 126 (by rfl)
theorem cal_X7_screwStep : CalC yX7_screwStep cX7_screwStep 4 (some .int) 2 := calc_of tw_606 tw_1 (by decide +kernel)
theorem tw_605 : Cond.static yX7_screwStep ∈ lw_tbl := tm3 125 (by decide +kernel)
theorem tw_607 : Cond.methodLinkNest RX7 293 yX0_canScrew RX7 ∈ lw_tbl := tm3 127 (by decide +kernel)
theorem tw_610 : Cond.code yX0_canScrew cX0_canScrew 2 (some .boolean) ∈ lw_tbl := tm3 130 (by rfl)
theorem cal_X0_canScrew : CalC yX0_canScrew cX0_canScrew 2 (some .boolean) 1 := calc_of tw_610 tw_3 (by decide +kernel)
theorem tw_609 : Cond.instanceMethod yX0_canScrew ∈ lw_tbl := tm3 129 (by decide +kernel)
theorem tp_47 : Cond.selects RX0 yX0_canScrew yX0_canScrew ∈ lw_tbl := pm (q := (yX0_canScrew, _)) 47 (by first | rfl | decide +kernel)
theorem tw_624 : Cond.methodLink RX7 296 yX7_screwAll ∈ lw_tbl := tm3 144 (by decide +kernel)
theorem tw_627 : Cond.code yX7_screwAll cX7_screwAll 4 none ∈ lw_tbl := tm3 147 (by rfl)
theorem cal_X7_screwAll : CalC yX7_screwAll cX7_screwAll 4 none 2 := calc_of tw_627 tw_1 (by decide +kernel)
theorem tw_626 : Cond.instanceMethod yX7_screwAll ∈ lw_tbl := tm3 146 (by decide +kernel)
theorem tp_50 : Cond.selects RX7 yX7_screwAll yX7_screwAll ∈ lw_tbl := pm (q := (yX7_screwAll, _)) 50 (by first | rfl | decide +kernel)
theorem tw_620 : Cond.methodLink RX7 188 yX7_isFirmScrewed ∈ lw_tbl := tm3 140 (by decide +kernel)
theorem tw_623 : Cond.code yX7_isFirmScrewed cX7_isFirmScrewed 2 (some .boolean) ∈ lw_tbl := tm3 143 (by rfl)
theorem cal_X7_isFirmScrewed : CalC yX7_isFirmScrewed cX7_isFirmScrewed 2 (some .boolean) 1 := calc_of tw_623 tw_1 (by decide +kernel)
theorem tw_622 : Cond.instanceMethod yX7_isFirmScrewed ∈ lw_tbl := tm3 142 (by decide +kernel)
theorem tp_49 : Cond.selects RX7 yX7_isFirmScrewed yX7_isFirmScrewed ∈ lw_tbl := pm (q := (yX7_isFirmScrewed, _)) 49 (by first | rfl | decide +kernel)
theorem tw_600 : Cond.methodLink RX7 185 yX7_screwSum ∈ lw_tbl := tm3 120 (by decide +kernel)
theorem tw_603 : Cond.code yX7_screwSum cX7_screwSum 5 (some .int) ∈ lw_tbl := tm3 123 (by rfl)
theorem cal_X7_screwSum : CalC yX7_screwSum cX7_screwSum 5 (some .int) 1 := calc_of tw_603 tw_1 (by decide +kernel)
theorem tw_602 : Cond.instanceMethod yX7_screwSum ∈ lw_tbl := tm3 122 (by decide +kernel)
theorem tp_46 : Cond.selects RX7 yX7_screwSum yX7_screwSum ∈ lw_tbl := pm (q := (yX7_screwSum, _)) 46 (by first | rfl | decide +kernel)
theorem tw_632 : Cond.methodLink RX7 191 yX7_gapAt ∈ lw_tbl := tm3 152 (by decide +kernel)
theorem tw_635 : Cond.code yX7_gapAt cX7_gapAt 2 (some .int) ∈ lw_tbl := tm3 155 (by rfl)
theorem cal_X7_gapAt : CalC yX7_gapAt cX7_gapAt 2 (some .int) 1 := calc_of tw_635 tw_1 (by decide +kernel)
theorem tw_634 : Cond.instanceMethod yX7_gapAt ∈ lw_tbl := tm3 154 (by decide +kernel)
theorem tp_51 : Cond.selects RX7 yX7_gapAt yX7_gapAt ∈ lw_tbl := pm (q := (yX7_gapAt, _)) 51 (by first | rfl | decide +kernel)
theorem tw_640 : Cond.methodLink RX7 194 yX7_isApart ∈ lw_tbl := tm3 160 (by decide +kernel)
theorem tw_643 : Cond.code yX7_isApart cX7_isApart 3 (some .boolean) ∈ lw_tbl := tm3 163 (by rfl)
theorem cal_X7_isApart : CalC yX7_isApart cX7_isApart 3 (some .boolean) 1 := calc_of tw_643 tw_1 (by decide +kernel)
theorem tw_642 : Cond.instanceMethod yX7_isApart ∈ lw_tbl := tm3 162 (by decide +kernel)
theorem tp_52 : Cond.selects RX7 yX7_isApart yX7_isApart ∈ lw_tbl := pm (q := (yX7_isApart, _)) 52 (by first | rfl | decide +kernel)
theorem tw_177 : Cond.fieldLinkNest RX7 299 RX3 "size" "I" RX7 ∈ lw_tbl := tm1 177 (by decide +kernel)
theorem fg_X7_X3_size {v : VxT} {l : Launch} {g : CxT} {k nL pc n : Nat} {cc : ByteArray} {ret : Option FieldType} {L : List (Nat × Value)} {st : List Value} {S : Mem} (c : Nat) (hk : kdX c = 14) (ok : Ok l g (oX v) nL cc RX7 ret) (hd : decode cc pc = .ok (.getfield 299, 3)) (hn : pc + 3 = n) (h : G g (oX v) k nL n L (.int (S c 1) :: st) S) : G g (oX v) k nL pc L (.ref (v.1 c) :: st) S := g_getN ok (C := RX3) (T := TX3) (N := 3) (ci := 3) (c := c) (fk := 1) (lt14 hk) (sh14 hk _) rfl (by decide) rfl wlX3 tw_177 rfl hd hn h
theorem tw_179 : Cond.fieldLinkNest RX7 245 RX3 "items" "[I" RX7 ∈ lw_tbl := tm1 179 (by decide +kernel)
theorem fg_X7_X3_items {v : VxT} {l : Launch} {g : CxT} {k nL pc n : Nat} {cc : ByteArray} {ret : Option FieldType} {L : List (Nat × Value)} {st : List Value} {S : Mem} (c : Nat) (hk : kdX c = 14) (ok : Ok l g (oX v) nL cc RX7 ret) (hd : decode cc pc = .ok (.getfield 245, 3)) (hn : pc + 3 = n) (h : G g (oX v) k nL n L (.ref (v.1 (c + 1)) :: st) S) : G g (oX v) k nL pc L (.ref (v.1 c) :: st) S := g_getN ok (C := RX3) (T := TX3) (N := 3) (ci := 3) (c := c) (fk := 2) (lt14 hk) (sh14 hk _) rfl (by decide) rfl wlX3 tw_179 rfl hd hn h
theorem tw_663 : Cond.methodLinkNest RX7 300 yX4_knock RX7 ∈ lw_tbl := tm3 183 (by decide +kernel)
theorem tw_666 : Cond.code yX4_knock cX4_knock 1 (some .int) ∈ lw_tbl := tm3 186 (by rfl)
theorem cal_X4_knock : CalC yX4_knock cX4_knock 1 (some .int) 0 := calc_of tw_666 tw_6 (by decide +kernel)
theorem tw_665 : Cond.instanceMethod yX4_knock ∈ lw_tbl := tm3 185 (by decide +kernel)
theorem tp_55 : Cond.selects RX4 yX4_knock yX4_knock ∈ lw_tbl := pm (q := (yX4_knock, _)) 55 (by first | rfl | decide +kernel)
theorem tw_652 : Cond.methodLink RX7 197 yX7_isSheet ∈ lw_tbl := tm3 172 (by decide +kernel)
theorem tw_654 : Cond.code yX7_isSheet cX7_isSheet 1 (some .boolean) ∈ lw_tbl := tm3 174 (by rfl)
theorem cal_X7_isSheet : CalC yX7_isSheet cX7_isSheet 1 (some .boolean) 1 := calc_of tw_654 tw_1 (by decide +kernel)
theorem tw_653 : Cond.static yX7_isSheet ∈ lw_tbl := tm3 173 (by decide +kernel)
theorem tw_350 : Cond.fieldLink RX7 49 RX7 "sheets" "[LTableRocks$Sheet;" ∈ lw_tbl := tm2 110 (by decide +kernel)
theorem fg_X7_X7_sheets {v : VxT} {l : Launch} {g : CxT} {k nL pc n : Nat} {cc : ByteArray} {ret : Option FieldType} {L : List (Nat × Value)} {st : List Value} {S : Mem} (c : Nat) (hk : kdX c = 0) (ok : Ok l g (oX v) nL cc RX7 ret) (hd : decode cc pc = .ok (.getfield 49, 3)) (hn : pc + 3 = n) (h : G g (oX v) k nL n L (.ref (v.1 43) :: st) S) : G g (oX v) k nL pc L (.ref (v.1 c) :: st) S := g_get ok (C := RX7) (T := TX7) (N := 8) (ci := 6) (c := c) (fk := 7) (lt0 hk) (sh0 hk _) rfl (by decide) rfl wlX7 tw_350 rfl hd hn h
theorem tw_655 : Cond.methodLinkNest RX7 200 yX3_isMissing RX7 ∈ lw_tbl := tm3 175 (by decide +kernel)
theorem tw_658 : Cond.code yX3_isMissing cX3_isMissing 1 (some .boolean) ∈ lw_tbl := tm3 178 (by rfl)
theorem cal_X3_isMissing : CalC yX3_isMissing cX3_isMissing 1 (some .boolean) 0 := calc_of tw_658 tw_7 (by decide +kernel)
theorem tw_657 : Cond.instanceMethod yX3_isMissing ∈ lw_tbl := tm3 177 (by decide +kernel)
theorem tp_53 : Cond.selects RX3 yX3_isMissing yX3_isMissing ∈ lw_tbl := pm (q := (yX3_isMissing, _)) 53 (by first | rfl | decide +kernel)
theorem tw_659 : Cond.methodLink RX7 203 yX7_firstOtherwise ∈ lw_tbl := tm3 179 (by decide +kernel)
theorem tw_662 : Cond.code yX7_firstOtherwise cX7_firstOtherwise 4 (some .int) ∈ lw_tbl := tm3 182 (by rfl)
theorem cal_X7_firstOtherwise : CalC yX7_firstOtherwise cX7_firstOtherwise 4 (some .int) 2 := calc_of tw_662 tw_1 (by decide +kernel)
theorem tw_661 : Cond.instanceMethod yX7_firstOtherwise ∈ lw_tbl := tm3 181 (by decide +kernel)
theorem tp_54 : Cond.selects RX7 yX7_firstOtherwise yX7_firstOtherwise ∈ lw_tbl := pm (q := (yX7_firstOtherwise, _)) 54 (by first | rfl | decide +kernel)
theorem tw_672 : Cond.constantLong RX7 207 (-4611686018427387904) ∈ lw_tbl := tm3 192 (by decide +kernel)
theorem tw_680 : Cond.constant RX7 263 (1103515245) ∈ lw_tbl := tm3 200 (by decide +kernel)
theorem tw_677 : Cond.methodLink RX7 209 yX7_nextDraw ∈ lw_tbl := tm3 197 (by decide +kernel)
theorem tw_679 : Cond.code yX7_nextDraw cX7_nextDraw 1 (some .int) ∈ lw_tbl := tm3 199 (by rfl)
theorem cal_X7_nextDraw : CalC yX7_nextDraw cX7_nextDraw 1 (some .int) 1 := calc_of tw_679 tw_1 (by decide +kernel)
theorem tw_678 : Cond.static yX7_nextDraw ∈ lw_tbl := tm3 198 (by decide +kernel)
theorem tw_686 : Cond.methodLink RX7 218 yX7_commonDivisor ∈ lw_tbl := tm3 206 (by decide +kernel)
theorem tw_688 : Cond.code yX7_commonDivisor cX7_commonDivisor 4 (some .int) ∈ lw_tbl := tm3 208 (by rfl)
theorem cal_X7_commonDivisor : CalC yX7_commonDivisor cX7_commonDivisor 4 (some .int) 2 := calc_of tw_688 tw_1 (by decide +kernel)
theorem tw_687 : Cond.static yX7_commonDivisor ∈ lw_tbl := tm3 207 (by decide +kernel)
theorem tw_685 : Cond.methodLink RX7 215 yX7_drawn ∈ lw_tbl := tm3 205 (by decide +kernel)
theorem tw_676 : Cond.code yX7_drawn cX7_drawn 4 (some .int) ∈ lw_tbl := tm3 196 (by rfl)
theorem cal_X7_drawn : CalC yX7_drawn cX7_drawn 4 (some .int) 1 := calc_of tw_676 tw_1 (by decide +kernel)
theorem tw_674 : Cond.instanceMethod yX7_drawn ∈ lw_tbl := tm3 194 (by decide +kernel)
theorem tw_675 : Cond.selects RX7 yX7_drawn yX7_drawn ∈ lw_tbl := tm3 195 (by decide +kernel)
theorem tw_344 : Cond.fieldLink RX7 16 RX7 "kept" "LTableRocks$Table;" ∈ lw_tbl := tm2 104 (by decide +kernel)
theorem fg_X7_X7_kept {v : VxT} {l : Launch} {g : CxT} {k nL pc n : Nat} {cc : ByteArray} {ret : Option FieldType} {L : List (Nat × Value)} {st : List Value} {S : Mem} (c : Nat) (hk : kdX c = 0) (ok : Ok l g (oX v) nL cc RX7 ret) (hd : decode cc pc = .ok (.getfield 16, 3)) (hn : pc + 3 = n) (h : G g (oX v) k nL n L (.ref (v.1 8) :: st) S) : G g (oX v) k nL pc L (.ref (v.1 c) :: st) S := g_get ok (C := RX7) (T := TX7) (N := 8) (ci := 6) (c := c) (fk := 1) (lt0 hk) (sh0 hk _) rfl (by decide) rfl wlX7 tw_344 rfl hd hn h
theorem tw_693 : Cond.methodLinkNest RX7 221 yX5_becomeLike RX7 ∈ lw_tbl := tm3 213 (by decide +kernel)
theorem tw_696 : Cond.code yX5_becomeLike cX5_becomeLike 3 none ∈ lw_tbl := tm3 216 (by rfl)
theorem cal_X5_becomeLike : CalC yX5_becomeLike cX5_becomeLike 3 none 1 := calc_of tw_696 tw_2 (by decide +kernel)
theorem tw_695 : Cond.instanceMethod yX5_becomeLike ∈ lw_tbl := tm3 215 (by decide +kernel)
theorem tp_56 : Cond.selects RX5 yX5_becomeLike yX5_becomeLike ∈ lw_tbl := pm (q := (yX5_becomeLike, _)) 56 (by first | rfl | decide +kernel)
theorem tw_345 : Cond.fieldLink RX7 19 RX7 "keeps" "Z" ∈ lw_tbl := tm2 105 (by decide +kernel)
theorem fp_X7_X7_keeps {v : VxT} {l : Launch} {g : CxT} {k nL pc n : Nat} {cc : ByteArray} {ret : Option FieldType} {L : List (Nat × Value)} {st : List Value} {S : Mem} (c : Nat) (hk : kdX c = 0) (ok : Ok l g (oX v) nL cc RX7 ret) {x : Int32} (hz : x = 0 ∨ x = 1) (hd : decode cc pc = .ok (.putfield 19, 3)) (hn : pc + 3 = n) (h : G g (oX v) k nL n L st (mset S c (upd (S c) 2 x))) : G g (oX v) k nL pc L (.int x :: .ref (v.1 c) :: st) S :=
  g_put (ty := .boolean) ok (C := RX7) (T := TX7) (N := 8) (ci := 6) (c := c) (fk := 2) (lt0 hk) (sh0 hk _) rfl (by decide) rfl wlX7 tw_345 tyX7_ok nmX7 rfl (by decide +kernel) (by rcases hz with rfl | rfl <;> decide) (by rcases hz with rfl | rfl <;> decide) (Nat.le_of_ble_eq_true rfl) (sh0 hk _) hd hn h
theorem fg_X7_X7_keeps {v : VxT} {l : Launch} {g : CxT} {k nL pc n : Nat} {cc : ByteArray} {ret : Option FieldType} {L : List (Nat × Value)} {st : List Value} {S : Mem} (c : Nat) (hk : kdX c = 0) (ok : Ok l g (oX v) nL cc RX7 ret) (hd : decode cc pc = .ok (.getfield 19, 3)) (hn : pc + 3 = n) (h : G g (oX v) k nL n L (.int (S c 2) :: st) S) : G g (oX v) k nL pc L (.ref (v.1 c) :: st) S := g_get ok (C := RX7) (T := TX7) (N := 8) (ci := 6) (c := c) (fk := 2) (lt0 hk) (sh0 hk _) rfl (by decide) rfl wlX7 tw_345 rfl hd hn h
theorem tw_714 : Cond.methodLinkNest RX7 230 yX3_become RX7 ∈ lw_tbl := tm3 234 (by decide +kernel)
theorem tw_717 : Cond.code yX3_become cX3_become 4 none ∈ lw_tbl := tm3 237 (by rfl)
theorem cal_X3_become : CalC yX3_become cX3_become 4 none 2 := calc_of tw_717 tw_7 (by decide +kernel)
theorem tw_716 : Cond.instanceMethod yX3_become ∈ lw_tbl := tm3 236 (by decide +kernel)
theorem tp_58 : Cond.selects RX3 yX3_become yX3_become ∈ lw_tbl := pm (q := (yX3_become, _)) 58 (by first | rfl | decide +kernel)
theorem tw_710 : Cond.methodLinkNest RX7 227 yX3_vanish RX7 ∈ lw_tbl := tm3 230 (by decide +kernel)
theorem tw_713 : Cond.code yX3_vanish cX3_vanish 1 none ∈ lw_tbl := tm3 233 (by rfl)
theorem cal_X3_vanish : CalC yX3_vanish cX3_vanish 1 none 0 := calc_of tw_713 tw_7 (by decide +kernel)
theorem tw_712 : Cond.instanceMethod yX3_vanish ∈ lw_tbl := tm3 232 (by decide +kernel)
theorem tp_57 : Cond.selects RX3 yX3_vanish yX3_vanish ∈ lw_tbl := pm (q := (yX3_vanish, _)) 57 (by first | rfl | decide +kernel)
theorem tw_723 : Cond.methodLinkNest RX7 233 yX3_hasItem RX7 ∈ lw_tbl := tm4 3 (by decide +kernel)
theorem tw_727 : Cond.methodLinkNest RX7 236 yX3_put RX7 ∈ lw_tbl := tm4 7 (by decide +kernel)
theorem tw_730 : Cond.code yX3_put cX3_put 3 none ∈ lw_tbl := tm4 10 (by rfl)
theorem cal_X3_put : CalC yX3_put cX3_put 3 none 2 := calc_of tw_730 tw_7 (by decide +kernel)
theorem tw_729 : Cond.instanceMethod yX3_put ∈ lw_tbl := tm4 9 (by decide +kernel)
theorem tp_60 : Cond.selects RX3 yX3_put yX3_put ∈ lw_tbl := pm (q := (yX3_put, _)) 60 (by first | rfl | decide +kernel)
theorem tw_175 : Cond.fieldLinkNest RX7 239 RX3 "sort" "I" RX7 ∈ lw_tbl := tm1 175 (by decide +kernel)
theorem fg_X7_X3_sort {v : VxT} {l : Launch} {g : CxT} {k nL pc n : Nat} {cc : ByteArray} {ret : Option FieldType} {L : List (Nat × Value)} {st : List Value} {S : Mem} (c : Nat) (hk : kdX c = 14) (ok : Ok l g (oX v) nL cc RX7 ret) (hd : decode cc pc = .ok (.getfield 239, 3)) (hn : pc + 3 = n) (h : G g (oX v) k nL n L (.int (S c 0) :: st) S) : G g (oX v) k nL pc L (.ref (v.1 c) :: st) S := g_getN ok (C := RX3) (T := TX3) (N := 3) (ci := 3) (c := c) (fk := 0) (lt14 hk) (sh14 hk _) rfl (by decide) rfl wlX3 tw_175 rfl hd hn h
theorem tw_736 : Cond.methodLinkNest RX7 242 yX3_hasItems RX7 ∈ lw_tbl := tm4 16 (by decide +kernel)
theorem tw_739 : Cond.code yX3_hasItems cX3_hasItems 3 (some .boolean) ∈ lw_tbl := tm4 19 (by rfl)
theorem cal_X3_hasItems : CalC yX3_hasItems cX3_hasItems 3 (some .boolean) 2 := calc_of tw_739 tw_7 (by decide +kernel)
theorem tw_738 : Cond.instanceMethod yX3_hasItems ∈ lw_tbl := tm4 18 (by decide +kernel)
theorem tp_61 : Cond.selects RX3 yX3_hasItems yX3_hasItems ∈ lw_tbl := pm (q := (yX3_hasItems, _)) 61 (by first | rfl | decide +kernel)
theorem tw_740 : Cond.methodLink RX7 248 ⟨"java/lang/System", "arraycopy", "(Ljava/lang/Object;ILjava/lang/Object;II)V"⟩ ∈ lw_tbl := tm4 20 (by decide +kernel)
theorem tw_745 : Cond.methodLink RX7 254 yX7_floor ∈ lw_tbl := tm4 25 (by decide +kernel)
theorem tw_372 : Cond.code yX7_floor cX7_floor 4 (some .int) ∈ lw_tbl := tm2 132 (by rfl)
theorem cal_X7_floor : CalC yX7_floor cX7_floor 4 (some .int) 2 := calc_of tw_372 tw_1 (by decide +kernel)
theorem tw_370 : Cond.instanceMethod yX7_floor ∈ lw_tbl := tm2 130 (by decide +kernel)
theorem tw_371 : Cond.selects RX7 yX7_floor yX7_floor ∈ lw_tbl := tm2 131 (by decide +kernel)
theorem tw_750 : Cond.methodLinkNest RX7 257 yX0_isOne RX7 ∈ lw_tbl := tm4 30 (by decide +kernel)
theorem tw_851 : Cond.fieldLink RX8 38 RX8 "tape" "[I" ∈ lw_tbl := tm4 131 (by decide +kernel)
theorem fg_X8_X8_tape {v : VmT} {l : Launch} {g : CxT} {k nL pc n : Nat} {cc : ByteArray} {ret : Option FieldType} {L : List (Nat × Value)} {st : List Value} {S : Mem} (ok : Ok l g (oM v) nL cc RX8 ret) (hd : decode cc pc = .ok (.getfield 38, 3)) (hn : pc + 3 = n) (h : G g (oM v) k nL n L (.ref (v.1 8) :: st) S) : G g (oM v) k nL pc L (.ref (v.1 0) :: st) S := g_get ok (C := RX8) (T := TX8) (N := 46) (ci := 7) (c := 0) (fk := 12) (Nat.le_of_ble_eq_true rfl) rfl rfl (by decide) rfl wlX8 tw_851 rfl hd hn h
theorem tw_849 : Cond.fieldLink RX8 32 RX8 "letters" "[I" ∈ lw_tbl := tm4 129 (by decide +kernel)
theorem fg_X8_X8_letters {v : VmT} {l : Launch} {g : CxT} {k nL pc n : Nat} {cc : ByteArray} {ret : Option FieldType} {L : List (Nat × Value)} {st : List Value} {S : Mem} (ok : Ok l g (oM v) nL cc RX8 ret) (hd : decode cc pc = .ok (.getfield 32, 3)) (hn : pc + 3 = n) (h : G g (oM v) k nL n L (.ref (v.1 6) :: st) S) : G g (oM v) k nL pc L (.ref (v.1 0) :: st) S := g_get ok (C := RX8) (T := TX8) (N := 46) (ci := 7) (c := 0) (fk := 10) (Nat.le_of_ble_eq_true rfl) rfl rfl (by decide) rfl wlX8 tw_849 rfl hd hn h
theorem tw_850 : Cond.fieldLink RX8 35 RX8 "wordAt" "[I" ∈ lw_tbl := tm4 130 (by decide +kernel)
theorem fg_X8_X8_wordAt {v : VmT} {l : Launch} {g : CxT} {k nL pc n : Nat} {cc : ByteArray} {ret : Option FieldType} {L : List (Nat × Value)} {st : List Value} {S : Mem} (ok : Ok l g (oM v) nL cc RX8 ret) (hd : decode cc pc = .ok (.getfield 35, 3)) (hn : pc + 3 = n) (h : G g (oM v) k nL n L (.ref (v.1 7) :: st) S) : G g (oM v) k nL pc L (.ref (v.1 0) :: st) S := g_get ok (C := RX8) (T := TX8) (N := 46) (ci := 7) (c := 0) (fk := 11) (Nat.le_of_ble_eq_true rfl) rfl rfl (by decide) rfl wlX8 tw_850 rfl hd hn h
theorem tw_855 : Cond.fieldLink RX8 101 RX8 "token" "I" ∈ lw_tbl := tm4 135 (by decide +kernel)
theorem fp_X8_X8_token {v : VmT} {l : Launch} {g : CxT} {k nL pc n : Nat} {cc : ByteArray} {ret : Option FieldType} {L : List (Nat × Value)} {st : List Value} {S : Mem} (ok : Ok l g (oM v) nL cc RX8 ret) {x : Int32} (hd : decode cc pc = .ok (.putfield 101, 3)) (hn : pc + 3 = n) (h : G g (oM v) k nL n L st (mset S 0 (upd (S 0) 16 x))) : G g (oM v) k nL pc L (.int x :: .ref (v.1 0) :: st) S :=
  g_put (ty := .int) ok (C := RX8) (T := TX8) (N := 46) (ci := 7) (c := 0) (fk := 16) (Nat.le_of_ble_eq_true rfl) rfl rfl (by decide) rfl wlX8 tw_855 tyX8_ok nmX8 rfl (by decide +kernel) rfl rfl (Nat.le_of_ble_eq_true rfl) rfl hd hn h
theorem tw_857 : Cond.fieldLink RX8 111 RX8 "tokenValue" "I" ∈ lw_tbl := tm4 137 (by decide +kernel)
theorem fp_X8_X8_tokenValue {v : VmT} {l : Launch} {g : CxT} {k nL pc n : Nat} {cc : ByteArray} {ret : Option FieldType} {L : List (Nat × Value)} {st : List Value} {S : Mem} (ok : Ok l g (oM v) nL cc RX8 ret) {x : Int32} (hd : decode cc pc = .ok (.putfield 111, 3)) (hn : pc + 3 = n) (h : G g (oM v) k nL n L st (mset S 0 (upd (S 0) 18 x))) : G g (oM v) k nL pc L (.int x :: .ref (v.1 0) :: st) S :=
  g_put (ty := .int) ok (C := RX8) (T := TX8) (N := 46) (ci := 7) (c := 0) (fk := 18) (Nat.le_of_ble_eq_true rfl) rfl rfl (by decide) rfl wlX8 tw_857 tyX8_ok nmX8 rfl (by decide +kernel) rfl rfl (Nat.le_of_ble_eq_true rfl) rfl hd hn h
theorem tw_856 : Cond.fieldLink RX8 104 RX8 "tokenAt" "I" ∈ lw_tbl := tm4 136 (by decide +kernel)
theorem fg_X8_X8_tokenAt {v : VmT} {l : Launch} {g : CxT} {k nL pc n : Nat} {cc : ByteArray} {ret : Option FieldType} {L : List (Nat × Value)} {st : List Value} {S : Mem} (ok : Ok l g (oM v) nL cc RX8 ret) (hd : decode cc pc = .ok (.getfield 104, 3)) (hn : pc + 3 = n) (h : G g (oM v) k nL n L (.int (S 0 17) :: st) S) : G g (oM v) k nL pc L (.ref (v.1 0) :: st) S := g_get ok (C := RX8) (T := TX8) (N := 46) (ci := 7) (c := 0) (fk := 17) (Nat.le_of_ble_eq_true rfl) rfl rfl (by decide) rfl wlX8 tw_856 rfl hd hn h
theorem tw_858 : Cond.fieldLink RX8 90 RX8 "next" "I" ∈ lw_tbl := tm4 138 (by decide +kernel)
theorem fg_X8_X8_next {v : VmT} {l : Launch} {g : CxT} {k nL pc n : Nat} {cc : ByteArray} {ret : Option FieldType} {L : List (Nat × Value)} {st : List Value} {S : Mem} (ok : Ok l g (oM v) nL cc RX8 ret) (hd : decode cc pc = .ok (.getfield 90, 3)) (hn : pc + 3 = n) (h : G g (oM v) k nL n L (.int (S 0 19) :: st) S) : G g (oM v) k nL pc L (.ref (v.1 0) :: st) S := g_get ok (C := RX8) (T := TX8) (N := 46) (ci := 7) (c := 0) (fk := 19) (Nat.le_of_ble_eq_true rfl) rfl rfl (by decide) rfl wlX8 tw_858 rfl hd hn h
theorem tw_778 : Cond.methodLink RX8 107 yX8_isWord ∈ lw_tbl := tm4 58 (by decide +kernel)
theorem tw_781 : Cond.code yX8_isWord cX8_isWord 7 (some .boolean) ∈ lw_tbl := tm4 61 (by rfl)
theorem tw_14 : Cond.initialized RX8 ∈ lw_tbl := tm1 14 (by decide +kernel)
theorem cal_X8_isWord : CalC yX8_isWord cX8_isWord 7 (some .boolean) 3 := calc_of tw_781 tw_14 (by decide +kernel)
theorem tw_780 : Cond.instanceMethod yX8_isWord ∈ lw_tbl := tm4 60 (by decide +kernel)
theorem tp_66 : Cond.selects RX8 yX8_isWord yX8_isWord ∈ lw_tbl := pm (q := (yX8_isWord, _)) 66 (by first | rfl | decide +kernel)
theorem tw_852 : Cond.fieldLink RX8 80 RX8 "tapeMany" "I" ∈ lw_tbl := tm4 132 (by decide +kernel)
theorem fg_X8_X8_tapeMany {v : VmT} {l : Launch} {g : CxT} {k nL pc n : Nat} {cc : ByteArray} {ret : Option FieldType} {L : List (Nat × Value)} {st : List Value} {S : Mem} (ok : Ok l g (oM v) nL cc RX8 ret) (hd : decode cc pc = .ok (.getfield 80, 3)) (hn : pc + 3 = n) (h : G g (oM v) k nL n L (.int (S 0 13) :: st) S) : G g (oM v) k nL pc L (.ref (v.1 0) :: st) S := g_get ok (C := RX8) (T := TX8) (N := 46) (ci := 7) (c := 0) (fk := 13) (Nat.le_of_ble_eq_true rfl) rfl rfl (by decide) rfl wlX8 tw_852 rfl hd hn h
theorem tw_769 : Cond.constantLong RX8 93 (97) ∈ lw_tbl := tm4 49 (by decide +kernel)
theorem tw_770 : Cond.constantLong RX8 95 (122) ∈ lw_tbl := tm4 50 (by decide +kernel)
theorem tw_771 : Cond.methodLink RX8 97 yX8_in ∈ lw_tbl := tm4 51 (by decide +kernel)
theorem tw_773 : Cond.code yX8_in cX8_in 6 (some .boolean) ∈ lw_tbl := tm4 53 (by rfl)
theorem cal_X8_in : CalC yX8_in cX8_in 6 (some .boolean) 3 := calc_of tw_773 tw_14 (by decide +kernel)
theorem tw_772 : Cond.static yX8_in ∈ lw_tbl := tm4 52 (by decide +kernel)
theorem fp_X8_X8_next {v : VmT} {l : Launch} {g : CxT} {k nL pc n : Nat} {cc : ByteArray} {ret : Option FieldType} {L : List (Nat × Value)} {st : List Value} {S : Mem} (ok : Ok l g (oM v) nL cc RX8 ret) {x : Int32} (hd : decode cc pc = .ok (.putfield 90, 3)) (hn : pc + 3 = n) (h : G g (oM v) k nL n L st (mset S 0 (upd (S 0) 19 x))) : G g (oM v) k nL pc L (.int x :: .ref (v.1 0) :: st) S :=
  g_put (ty := .int) ok (C := RX8) (T := TX8) (N := 46) (ci := 7) (c := 0) (fk := 19) (Nat.le_of_ble_eq_true rfl) rfl rfl (by decide) rfl wlX8 tw_858 tyX8_ok nmX8 rfl (by decide +kernel) rfl rfl (Nat.le_of_ble_eq_true rfl) rfl hd hn h
theorem tw_782 : Cond.constantLong RX8 114 (48) ∈ lw_tbl := tm4 62 (by decide +kernel)
theorem tw_783 : Cond.constantLong RX8 116 (57) ∈ lw_tbl := tm4 63 (by decide +kernel)
theorem fg_X8_X8_tokenValue {v : VmT} {l : Launch} {g : CxT} {k nL pc n : Nat} {cc : ByteArray} {ret : Option FieldType} {L : List (Nat × Value)} {st : List Value} {S : Mem} (ok : Ok l g (oM v) nL cc RX8 ret) (hd : decode cc pc = .ok (.getfield 111, 3)) (hn : pc + 3 = n) (h : G g (oM v) k nL n L (.int (S 0 18) :: st) S) : G g (oM v) k nL pc L (.ref (v.1 0) :: st) S := g_get ok (C := RX8) (T := TX8) (N := 46) (ci := 7) (c := 0) (fk := 18) (Nat.le_of_ble_eq_true rfl) rfl rfl (by decide) rfl wlX8 tw_857 rfl hd hn h
theorem fp_X8_X8_tokenAt {v : VmT} {l : Launch} {g : CxT} {k nL pc n : Nat} {cc : ByteArray} {ret : Option FieldType} {L : List (Nat × Value)} {st : List Value} {S : Mem} (ok : Ok l g (oM v) nL cc RX8 ret) {x : Int32} (hd : decode cc pc = .ok (.putfield 104, 3)) (hn : pc + 3 = n) (h : G g (oM v) k nL n L st (mset S 0 (upd (S 0) 17 x))) : G g (oM v) k nL pc L (.int x :: .ref (v.1 0) :: st) S :=
  g_put (ty := .int) ok (C := RX8) (T := TX8) (N := 46) (ci := 7) (c := 0) (fk := 17) (Nat.le_of_ble_eq_true rfl) rfl rfl (by decide) rfl wlX8 tw_856 tyX8_ok nmX8 rfl (by decide +kernel) rfl rfl (Nat.le_of_ble_eq_true rfl) rfl hd hn h
theorem tw_784 : Cond.methodLink RX8 125 yX8_readNumber ∈ lw_tbl := tm4 64 (by decide +kernel)
theorem tw_787 : Cond.code yX8_readNumber cX8_readNumber 1 none ∈ lw_tbl := tm4 67 (by rfl)
theorem cal_X8_readNumber : CalC yX8_readNumber cX8_readNumber 1 none 0 := calc_of tw_787 tw_14 (by decide +kernel)
theorem tw_786 : Cond.instanceMethod yX8_readNumber ∈ lw_tbl := tm4 66 (by decide +kernel)
theorem tp_67 : Cond.selects RX8 yX8_readNumber yX8_readNumber ∈ lw_tbl := pm (q := (yX8_readNumber, _)) 67 (by first | rfl | decide +kernel)
theorem tw_774 : Cond.methodLink RX8 122 yX8_readWord ∈ lw_tbl := tm4 54 (by decide +kernel)
theorem tw_777 : Cond.code yX8_readWord cX8_readWord 2 none ∈ lw_tbl := tm4 57 (by rfl)
theorem cal_X8_readWord : CalC yX8_readWord cX8_readWord 2 none 0 := calc_of tw_777 tw_14 (by decide +kernel)
theorem tw_776 : Cond.instanceMethod yX8_readWord ∈ lw_tbl := tm4 56 (by decide +kernel)
theorem tp_65 : Cond.selects RX8 yX8_readWord yX8_readWord ∈ lw_tbl := pm (q := (yX8_readWord, _)) 65 (by first | rfl | decide +kernel)
theorem tw_765 : Cond.methodLink RX8 118 yX8_isBlank ∈ lw_tbl := tm4 45 (by decide +kernel)
theorem tw_768 : Cond.code yX8_isBlank cX8_isBlank 2 (some .boolean) ∈ lw_tbl := tm4 48 (by rfl)
theorem cal_X8_isBlank : CalC yX8_isBlank cX8_isBlank 2 (some .boolean) 1 := calc_of tw_768 tw_14 (by decide +kernel)
theorem tw_767 : Cond.instanceMethod yX8_isBlank ∈ lw_tbl := tm4 47 (by decide +kernel)
theorem tp_64 : Cond.selects RX8 yX8_isBlank yX8_isBlank ∈ lw_tbl := pm (q := (yX8_isBlank, _)) 64 (by first | rfl | decide +kernel)
theorem fg_X8_X8_token {v : VmT} {l : Launch} {g : CxT} {k nL pc n : Nat} {cc : ByteArray} {ret : Option FieldType} {L : List (Nat × Value)} {st : List Value} {S : Mem} (ok : Ok l g (oM v) nL cc RX8 ret) (hd : decode cc pc = .ok (.getfield 101, 3)) (hn : pc + 3 = n) (h : G g (oM v) k nL n L (.int (S 0 16) :: st) S) : G g (oM v) k nL pc L (.ref (v.1 0) :: st) S := g_get ok (C := RX8) (T := TX8) (N := 46) (ci := 7) (c := 0) (fk := 16) (Nat.le_of_ble_eq_true rfl) rfl rfl (by decide) rfl wlX8 tw_855 rfl hd hn h
theorem tw_859 : Cond.fieldLink RX8 41 RX8 "steps" "[I" ∈ lw_tbl := tm4 139 (by decide +kernel)
theorem fg_X8_X8_steps {v : VmT} {l : Launch} {g : CxT} {k nL pc n : Nat} {cc : ByteArray} {ret : Option FieldType} {L : List (Nat × Value)} {st : List Value} {S : Mem} (ok : Ok l g (oM v) nL cc RX8 ret) (hd : decode cc pc = .ok (.getfield 41, 3)) (hn : pc + 3 = n) (h : G g (oM v) k nL n L (.ref (v.1 9) :: st) S) : G g (oM v) k nL pc L (.ref (v.1 0) :: st) S := g_get ok (C := RX8) (T := TX8) (N := 46) (ci := 7) (c := 0) (fk := 20) (Nat.le_of_ble_eq_true rfl) rfl rfl (by decide) rfl wlX8 tw_859 rfl hd hn h
theorem tw_853 : Cond.fieldLink RX8 87 RX8 "textMany" "I" ∈ lw_tbl := tm4 133 (by decide +kernel)
theorem fg_X8_X8_textMany {v : VmT} {l : Launch} {g : CxT} {k nL pc n : Nat} {cc : ByteArray} {ret : Option FieldType} {L : List (Nat × Value)} {st : List Value} {S : Mem} (ok : Ok l g (oM v) nL cc RX8 ret) (hd : decode cc pc = .ok (.getfield 87, 3)) (hn : pc + 3 = n) (h : G g (oM v) k nL n L (.int (S 0 14) :: st) S) : G g (oM v) k nL pc L (.ref (v.1 0) :: st) S := g_get ok (C := RX8) (T := TX8) (N := 46) (ci := 7) (c := 0) (fk := 14) (Nat.le_of_ble_eq_true rfl) rfl rfl (by decide) rfl wlX8 tw_853 rfl hd hn h
theorem tw_861 : Cond.fieldLink RX8 128 RX8 "stepMany" "I" ∈ lw_tbl := tm4 141 (by decide +kernel)
theorem fg_X8_X8_stepMany {v : VmT} {l : Launch} {g : CxT} {k nL pc n : Nat} {cc : ByteArray} {ret : Option FieldType} {L : List (Nat × Value)} {st : List Value} {S : Mem} (ok : Ok l g (oM v) nL cc RX8 ret) (hd : decode cc pc = .ok (.getfield 128, 3)) (hn : pc + 3 = n) (h : G g (oM v) k nL n L (.int (S 0 22) :: st) S) : G g (oM v) k nL pc L (.ref (v.1 0) :: st) S := g_get ok (C := RX8) (T := TX8) (N := 46) (ci := 7) (c := 0) (fk := 22) (Nat.le_of_ble_eq_true rfl) rfl rfl (by decide) rfl wlX8 tw_861 rfl hd hn h
theorem fp_X8_X8_stepMany {v : VmT} {l : Launch} {g : CxT} {k nL pc n : Nat} {cc : ByteArray} {ret : Option FieldType} {L : List (Nat × Value)} {st : List Value} {S : Mem} (ok : Ok l g (oM v) nL cc RX8 ret) {x : Int32} (hd : decode cc pc = .ok (.putfield 128, 3)) (hn : pc + 3 = n) (h : G g (oM v) k nL n L st (mset S 0 (upd (S 0) 22 x))) : G g (oM v) k nL pc L (.int x :: .ref (v.1 0) :: st) S :=
  g_put (ty := .int) ok (C := RX8) (T := TX8) (N := 46) (ci := 7) (c := 0) (fk := 22) (Nat.le_of_ble_eq_true rfl) rfl rfl (by decide) rfl wlX8 tw_861 tyX8_ok nmX8 rfl (by decide +kernel) rfl rfl (Nat.le_of_ble_eq_true rfl) rfl hd hn h
theorem tw_863 : Cond.fieldLink RX8 131 RX8 "waitMany" "I" ∈ lw_tbl := tm4 143 (by decide +kernel)
theorem fg_X8_X8_waitMany {v : VmT} {l : Launch} {g : CxT} {k nL pc n : Nat} {cc : ByteArray} {ret : Option FieldType} {L : List (Nat × Value)} {st : List Value} {S : Mem} (ok : Ok l g (oM v) nL cc RX8 ret) (hd : decode cc pc = .ok (.getfield 131, 3)) (hn : pc + 3 = n) (h : G g (oM v) k nL n L (.int (S 0 24) :: st) S) : G g (oM v) k nL pc L (.ref (v.1 0) :: st) S := g_get ok (C := RX8) (T := TX8) (N := 46) (ci := 7) (c := 0) (fk := 24) (Nat.le_of_ble_eq_true rfl) rfl rfl (by decide) rfl wlX8 tw_863 rfl hd hn h
theorem tw_862 : Cond.fieldLink RX8 47 RX8 "waiting" "[I" ∈ lw_tbl := tm4 142 (by decide +kernel)
theorem fg_X8_X8_waiting {v : VmT} {l : Launch} {g : CxT} {k nL pc n : Nat} {cc : ByteArray} {ret : Option FieldType} {L : List (Nat × Value)} {st : List Value} {S : Mem} (ok : Ok l g (oM v) nL cc RX8 ret) (hd : decode cc pc = .ok (.getfield 47, 3)) (hn : pc + 3 = n) (h : G g (oM v) k nL n L (.ref (v.1 11) :: st) S) : G g (oM v) k nL pc L (.ref (v.1 0) :: st) S := g_get ok (C := RX8) (T := TX8) (N := 46) (ci := 7) (c := 0) (fk := 23) (Nat.le_of_ble_eq_true rfl) rfl rfl (by decide) rfl wlX8 tw_862 rfl hd hn h
theorem tw_808 : Cond.methodLink RX8 134 yX8_rank ∈ lw_tbl := tm4 88 (by decide +kernel)
theorem tw_810 : Cond.code yX8_rank cX8_rank 1 (some .int) ∈ lw_tbl := tm4 90 (by rfl)
theorem cal_X8_rank : CalC yX8_rank cX8_rank 1 (some .int) 1 := calc_of tw_810 tw_14 (by decide +kernel)
theorem tw_809 : Cond.static yX8_rank ∈ lw_tbl := tm4 89 (by decide +kernel)
theorem fp_X8_X8_waitMany {v : VmT} {l : Launch} {g : CxT} {k nL pc n : Nat} {cc : ByteArray} {ret : Option FieldType} {L : List (Nat × Value)} {st : List Value} {S : Mem} (ok : Ok l g (oM v) nL cc RX8 ret) {x : Int32} (hd : decode cc pc = .ok (.putfield 131, 3)) (hn : pc + 3 = n) (h : G g (oM v) k nL n L st (mset S 0 (upd (S 0) 24 x))) : G g (oM v) k nL pc L (.int x :: .ref (v.1 0) :: st) S :=
  g_put (ty := .int) ok (C := RX8) (T := TX8) (N := 46) (ci := 7) (c := 0) (fk := 24) (Nat.le_of_ble_eq_true rfl) rfl rfl (by decide) rfl wlX8 tw_863 tyX8_ok nmX8 rfl (by decide +kernel) rfl rfl (Nat.le_of_ble_eq_true rfl) rfl hd hn h
theorem tw_800 : Cond.methodLink RX8 138 yX8_step ∈ lw_tbl := tm4 80 (by decide +kernel)
theorem tw_803 : Cond.code yX8_step cX8_step 2 none ∈ lw_tbl := tm4 83 (by rfl)
theorem cal_X8_step : CalC yX8_step cX8_step 2 none 1 := calc_of tw_803 tw_14 (by decide +kernel)
theorem tw_802 : Cond.instanceMethod yX8_step ∈ lw_tbl := tm4 82 (by decide +kernel)
theorem tp_71 : Cond.selects RX8 yX8_step yX8_step ∈ lw_tbl := pm (q := (yX8_step, _)) 71 (by first | rfl | decide +kernel)
theorem tw_804 : Cond.methodLink RX8 142 yX8_letGo ∈ lw_tbl := tm4 84 (by decide +kernel)
theorem tw_807 : Cond.code yX8_letGo cX8_letGo 2 none ∈ lw_tbl := tm4 87 (by rfl)
theorem cal_X8_letGo : CalC yX8_letGo cX8_letGo 2 none 1 := calc_of tw_807 tw_14 (by decide +kernel)
theorem tw_806 : Cond.instanceMethod yX8_letGo ∈ lw_tbl := tm4 86 (by decide +kernel)
theorem tp_72 : Cond.selects RX8 yX8_letGo yX8_letGo ∈ lw_tbl := pm (q := (yX8_letGo, _)) 72 (by first | rfl | decide +kernel)
theorem tw_865 : Cond.fieldLink RX8 145 RX8 "wantsOne" "Z" ∈ lw_tbl := tm4 145 (by decide +kernel)
theorem fp_X8_X8_wantsOne {v : VmT} {l : Launch} {g : CxT} {k nL pc n : Nat} {cc : ByteArray} {ret : Option FieldType} {L : List (Nat × Value)} {st : List Value} {S : Mem} (ok : Ok l g (oM v) nL cc RX8 ret) {x : Int32} (hz : x = 0 ∨ x = 1) (hd : decode cc pc = .ok (.putfield 145, 3)) (hn : pc + 3 = n) (h : G g (oM v) k nL n L st (mset S 0 (upd (S 0) 26 x))) : G g (oM v) k nL pc L (.int x :: .ref (v.1 0) :: st) S :=
  g_put (ty := .boolean) ok (C := RX8) (T := TX8) (N := 46) (ci := 7) (c := 0) (fk := 26) (Nat.le_of_ble_eq_true rfl) rfl rfl (by decide) rfl wlX8 tw_865 tyX8_ok nmX8 rfl (by decide +kernel) (by rcases hz with rfl | rfl <;> decide) (by rcases hz with rfl | rfl <;> decide) (Nat.le_of_ble_eq_true rfl) rfl hd hn h
theorem tw_866 : Cond.fieldLink RX8 152 RX8 "mayNot" "Z" ∈ lw_tbl := tm4 146 (by decide +kernel)
theorem fp_X8_X8_mayNot {v : VmT} {l : Launch} {g : CxT} {k nL pc n : Nat} {cc : ByteArray} {ret : Option FieldType} {L : List (Nat × Value)} {st : List Value} {S : Mem} (ok : Ok l g (oM v) nL cc RX8 ret) {x : Int32} (hz : x = 0 ∨ x = 1) (hd : decode cc pc = .ok (.putfield 152, 3)) (hn : pc + 3 = n) (h : G g (oM v) k nL n L st (mset S 0 (upd (S 0) 27 x))) : G g (oM v) k nL pc L (.int x :: .ref (v.1 0) :: st) S :=
  g_put (ty := .boolean) ok (C := RX8) (T := TX8) (N := 46) (ci := 7) (c := 0) (fk := 27) (Nat.le_of_ble_eq_true rfl) rfl rfl (by decide) rfl wlX8 tw_866 tyX8_ok nmX8 rfl (by decide +kernel) (by rcases hz with rfl | rfl <;> decide) (by rcases hz with rfl | rfl <;> decide) (Nat.le_of_ble_eq_true rfl) rfl hd hn h
theorem tw_819 : Cond.methodLink RX8 161 yX8_await ∈ lw_tbl := tm4 99 (by decide +kernel)
theorem tw_822 : Cond.code yX8_await cX8_await 2 none ∈ lw_tbl := tm4 102 (by rfl)
theorem cal_X8_await : CalC yX8_await cX8_await 2 none 1 := calc_of tw_822 tw_14 (by decide +kernel)
theorem tw_821 : Cond.instanceMethod yX8_await ∈ lw_tbl := tm4 101 (by decide +kernel)
theorem tp_75 : Cond.selects RX8 yX8_await yX8_await ∈ lw_tbl := pm (q := (yX8_await, _)) 75 (by first | rfl | decide +kernel)
theorem tw_811 : Cond.methodLink RX8 155 yX8_isSign ∈ lw_tbl := tm4 91 (by decide +kernel)
theorem tw_814 : Cond.code yX8_isSign cX8_isSign 2 (some .boolean) ∈ lw_tbl := tm4 94 (by rfl)
theorem cal_X8_isSign : CalC yX8_isSign cX8_isSign 2 (some .boolean) 1 := calc_of tw_814 tw_14 (by decide +kernel)
theorem tw_813 : Cond.instanceMethod yX8_isSign ∈ lw_tbl := tm4 93 (by decide +kernel)
theorem tp_73 : Cond.selects RX8 yX8_isSign yX8_isSign ∈ lw_tbl := pm (q := (yX8_isSign, _)) 73 (by first | rfl | decide +kernel)
theorem tw_815 : Cond.methodLink RX8 158 yX8_opened ∈ lw_tbl := tm4 95 (by decide +kernel)
theorem tw_818 : Cond.code yX8_opened cX8_opened 3 (some .int) ∈ lw_tbl := tm4 98 (by rfl)
theorem cal_X8_opened : CalC yX8_opened cX8_opened 3 (some .int) 0 := calc_of tw_818 tw_14 (by decide +kernel)
theorem tw_817 : Cond.instanceMethod yX8_opened ∈ lw_tbl := tm4 97 (by decide +kernel)
theorem tp_74 : Cond.selects RX8 yX8_opened yX8_opened ∈ lw_tbl := pm (q := (yX8_opened, _)) 74 (by first | rfl | decide +kernel)
theorem tw_788 : Cond.methodLink RX8 149 yX8_isKey ∈ lw_tbl := tm4 68 (by decide +kernel)
theorem tw_791 : Cond.code yX8_isKey cX8_isKey 2 (some .boolean) ∈ lw_tbl := tm4 71 (by rfl)
theorem cal_X8_isKey : CalC yX8_isKey cX8_isKey 2 (some .boolean) 1 := calc_of tw_791 tw_14 (by decide +kernel)
theorem tw_790 : Cond.instanceMethod yX8_isKey ∈ lw_tbl := tm4 70 (by decide +kernel)
theorem tp_68 : Cond.selects RX8 yX8_isKey yX8_isKey ∈ lw_tbl := pm (q := (yX8_isKey, _)) 68 (by first | rfl | decide +kernel)
theorem fg_X8_X8_mayNot {v : VmT} {l : Launch} {g : CxT} {k nL pc n : Nat} {cc : ByteArray} {ret : Option FieldType} {L : List (Nat × Value)} {st : List Value} {S : Mem} (ok : Ok l g (oM v) nL cc RX8 ret) (hd : decode cc pc = .ok (.getfield 152, 3)) (hn : pc + 3 = n) (h : G g (oM v) k nL n L (.int (S 0 27) :: st) S) : G g (oM v) k nL pc L (.ref (v.1 0) :: st) S := g_get ok (C := RX8) (T := TX8) (N := 46) (ci := 7) (c := 0) (fk := 27) (Nat.le_of_ble_eq_true rfl) rfl rfl (by decide) rfl wlX8 tw_866 rfl hd hn h
theorem tw_827 : Cond.methodLink RX8 164 yX8_goOn ∈ lw_tbl := tm4 107 (by decide +kernel)
theorem tw_830 : Cond.code yX8_goOn cX8_goOn 2 none ∈ lw_tbl := tm4 110 (by rfl)
theorem cal_X8_goOn : CalC yX8_goOn cX8_goOn 2 none 1 := calc_of tw_830 tw_14 (by decide +kernel)
theorem tw_829 : Cond.instanceMethod yX8_goOn ∈ lw_tbl := tm4 109 (by decide +kernel)
theorem tp_77 : Cond.selects RX8 yX8_goOn yX8_goOn ∈ lw_tbl := pm (q := (yX8_goOn, _)) 77 (by first | rfl | decide +kernel)
theorem tw_831 : Cond.methodLink RX8 167 yX8_hasCompared ∈ lw_tbl := tm4 111 (by decide +kernel)
theorem tw_834 : Cond.code yX8_hasCompared cX8_hasCompared 5 (some .boolean) ∈ lw_tbl := tm4 114 (by rfl)
theorem cal_X8_hasCompared : CalC yX8_hasCompared cX8_hasCompared 5 (some .boolean) 0 := calc_of tw_834 tw_14 (by decide +kernel)
theorem tw_833 : Cond.instanceMethod yX8_hasCompared ∈ lw_tbl := tm4 113 (by decide +kernel)
theorem tp_78 : Cond.selects RX8 yX8_hasCompared yX8_hasCompared ∈ lw_tbl := pm (q := (yX8_hasCompared, _)) 78 (by first | rfl | decide +kernel)
theorem tw_864 : Cond.fieldLink RX8 174 RX8 "isDone" "Z" ∈ lw_tbl := tm4 144 (by decide +kernel)
theorem fg_X8_X8_isDone {v : VmT} {l : Launch} {g : CxT} {k nL pc n : Nat} {cc : ByteArray} {ret : Option FieldType} {L : List (Nat × Value)} {st : List Value} {S : Mem} (ok : Ok l g (oM v) nL cc RX8 ret) (hd : decode cc pc = .ok (.getfield 174, 3)) (hn : pc + 3 = n) (h : G g (oM v) k nL n L (.int (S 0 25) :: st) S) : G g (oM v) k nL pc L (.ref (v.1 0) :: st) S := g_get ok (C := RX8) (T := TX8) (N := 46) (ci := 7) (c := 0) (fk := 25) (Nat.le_of_ble_eq_true rfl) rfl rfl (by decide) rfl wlX8 tw_864 rfl hd hn h
theorem fp_X8_X8_isDone {v : VmT} {l : Launch} {g : CxT} {k nL pc n : Nat} {cc : ByteArray} {ret : Option FieldType} {L : List (Nat × Value)} {st : List Value} {S : Mem} (ok : Ok l g (oM v) nL cc RX8 ret) {x : Int32} (hz : x = 0 ∨ x = 1) (hd : decode cc pc = .ok (.putfield 174, 3)) (hn : pc + 3 = n) (h : G g (oM v) k nL n L st (mset S 0 (upd (S 0) 25 x))) : G g (oM v) k nL pc L (.int x :: .ref (v.1 0) :: st) S :=
  g_put (ty := .boolean) ok (C := RX8) (T := TX8) (N := 46) (ci := 7) (c := 0) (fk := 25) (Nat.le_of_ble_eq_true rfl) rfl rfl (by decide) rfl wlX8 tw_864 tyX8_ok nmX8 rfl (by decide +kernel) (by rcases hz with rfl | rfl <;> decide) (by rcases hz with rfl | rfl <;> decide) (Nat.le_of_ble_eq_true rfl) rfl hd hn h
theorem tw_835 : Cond.methodLink RX8 171 yX8_isBracketed ∈ lw_tbl := tm4 115 (by decide +kernel)
theorem tw_838 : Cond.code yX8_isBracketed cX8_isBracketed 3 (some .boolean) ∈ lw_tbl := tm4 118 (by rfl)
theorem cal_X8_isBracketed : CalC yX8_isBracketed cX8_isBracketed 3 (some .boolean) 0 := calc_of tw_838 tw_14 (by decide +kernel)
theorem tw_837 : Cond.instanceMethod yX8_isBracketed ∈ lw_tbl := tm4 117 (by decide +kernel)
theorem tp_79 : Cond.selects RX8 yX8_isBracketed yX8_isBracketed ∈ lw_tbl := pm (q := (yX8_isBracketed, _)) 79 (by first | rfl | decide +kernel)
theorem tw_761 : Cond.methodLink RX8 177 yX8_readToken ∈ lw_tbl := tm4 41 (by decide +kernel)
theorem tw_764 : Cond.code yX8_readToken cX8_readToken 3 none ∈ lw_tbl := tm4 44 (by rfl)
theorem cal_X8_readToken : CalC yX8_readToken cX8_readToken 3 none 0 := calc_of tw_764 tw_14 (by decide +kernel)
theorem tw_763 : Cond.instanceMethod yX8_readToken ∈ lw_tbl := tm4 43 (by decide +kernel)
theorem tp_63 : Cond.selects RX8 yX8_readToken yX8_readToken ∈ lw_tbl := pm (q := (yX8_readToken, _)) 63 (by first | rfl | decide +kernel)
theorem fg_X8_X8_wantsOne {v : VmT} {l : Launch} {g : CxT} {k nL pc n : Nat} {cc : ByteArray} {ret : Option FieldType} {L : List (Nat × Value)} {st : List Value} {S : Mem} (ok : Ok l g (oM v) nL cc RX8 ret) (hd : decode cc pc = .ok (.getfield 145, 3)) (hn : pc + 3 = n) (h : G g (oM v) k nL n L (.int (S 0 26) :: st) S) : G g (oM v) k nL pc L (.ref (v.1 0) :: st) S := g_get ok (C := RX8) (T := TX8) (N := 46) (ci := 7) (c := 0) (fk := 26) (Nat.le_of_ble_eq_true rfl) rfl rfl (by decide) rfl wlX8 tw_865 rfl hd hn h
theorem tw_823 : Cond.methodLink RX8 183 yX8_follows ∈ lw_tbl := tm4 103 (by decide +kernel)
theorem tw_826 : Cond.code yX8_follows cX8_follows 2 (some .boolean) ∈ lw_tbl := tm4 106 (by rfl)
theorem cal_X8_follows : CalC yX8_follows cX8_follows 2 (some .boolean) 0 := calc_of tw_826 tw_14 (by decide +kernel)
theorem tw_825 : Cond.instanceMethod yX8_follows ∈ lw_tbl := tm4 105 (by decide +kernel)
theorem tp_76 : Cond.selects RX8 yX8_follows yX8_follows ∈ lw_tbl := pm (q := (yX8_follows, _)) 76 (by first | rfl | decide +kernel)
theorem tw_796 : Cond.methodLink RX8 180 yX8_begins ∈ lw_tbl := tm4 76 (by decide +kernel)
theorem tw_799 : Cond.code yX8_begins cX8_begins 2 (some .boolean) ∈ lw_tbl := tm4 79 (by rfl)
theorem cal_X8_begins : CalC yX8_begins cX8_begins 2 (some .boolean) 0 := calc_of tw_799 tw_14 (by decide +kernel)
theorem tw_798 : Cond.instanceMethod yX8_begins ∈ lw_tbl := tm4 78 (by decide +kernel)
theorem tp_70 : Cond.selects RX8 yX8_begins yX8_begins ∈ lw_tbl := pm (q := (yX8_begins, _)) 70 (by first | rfl | decide +kernel)
theorem tw_860 : Cond.fieldLink RX8 44 RX8 "bounds" "[I" ∈ lw_tbl := tm4 140 (by decide +kernel)
theorem fg_X8_X8_bounds {v : VmT} {l : Launch} {g : CxT} {k nL pc n : Nat} {cc : ByteArray} {ret : Option FieldType} {L : List (Nat × Value)} {st : List Value} {S : Mem} (ok : Ok l g (oM v) nL cc RX8 ret) (hd : decode cc pc = .ok (.getfield 44, 3)) (hn : pc + 3 = n) (h : G g (oM v) k nL n L (.ref (v.1 10) :: st) S) : G g (oM v) k nL pc L (.ref (v.1 0) :: st) S := g_get ok (C := RX8) (T := TX8) (N := 46) (ci := 7) (c := 0) (fk := 21) (Nat.le_of_ble_eq_true rfl) rfl rfl (by decide) rfl wlX8 tw_860 rfl hd hn h
theorem tw_792 : Cond.methodLink RX8 186 yX8_readOne ∈ lw_tbl := tm4 72 (by decide +kernel)
theorem tw_795 : Cond.code yX8_readOne cX8_readOne 2 (some .boolean) ∈ lw_tbl := tm4 75 (by rfl)
theorem cal_X8_readOne : CalC yX8_readOne cX8_readOne 2 (some .boolean) 0 := calc_of tw_795 tw_14 (by decide +kernel)
theorem tw_794 : Cond.instanceMethod yX8_readOne ∈ lw_tbl := tm4 74 (by decide +kernel)
theorem tp_69 : Cond.selects RX8 yX8_readOne yX8_readOne ∈ lw_tbl := pm (q := (yX8_readOne, _)) 69 (by first | rfl | decide +kernel)
theorem tw_854 : Cond.fieldLink RX8 189 RX8 "rule" "I" ∈ lw_tbl := tm4 134 (by decide +kernel)
theorem fg_X8_X8_rule {v : VmT} {l : Launch} {g : CxT} {k nL pc n : Nat} {cc : ByteArray} {ret : Option FieldType} {L : List (Nat × Value)} {st : List Value} {S : Mem} (ok : Ok l g (oM v) nL cc RX8 ret) (hd : decode cc pc = .ok (.getfield 189, 3)) (hn : pc + 3 = n) (h : G g (oM v) k nL n L (.int (S 0 15) :: st) S) : G g (oM v) k nL pc L (.ref (v.1 0) :: st) S := g_get ok (C := RX8) (T := TX8) (N := 46) (ci := 7) (c := 0) (fk := 15) (Nat.le_of_ble_eq_true rfl) rfl rfl (by decide) rfl wlX8 tw_854 rfl hd hn h
theorem tw_868 : Cond.fieldLink RX8 53 RX8 "stack" "[I" ∈ lw_tbl := tm4 148 (by decide +kernel)
theorem fg_X8_X8_stack {v : VmT} {l : Launch} {g : CxT} {k nL pc n : Nat} {cc : ByteArray} {ret : Option FieldType} {L : List (Nat × Value)} {st : List Value} {S : Mem} (ok : Ok l g (oM v) nL cc RX8 ret) (hd : decode cc pc = .ok (.getfield 53, 3)) (hn : pc + 3 = n) (h : G g (oM v) k nL n L (.ref (v.1 13) :: st) S) : G g (oM v) k nL pc L (.ref (v.1 0) :: st) S := g_get ok (C := RX8) (T := TX8) (N := 46) (ci := 7) (c := 0) (fk := 29) (Nat.le_of_ble_eq_true rfl) rfl rfl (by decide) rfl wlX8 tw_868 rfl hd hn h
theorem tw_1024 : Cond.methodLink RX8 192 yX8_done ∈ lw_tbl := tm5 64 (by decide +kernel)
theorem tw_1026 : Cond.code yX8_done cX8_done 3 (some .int) ∈ lw_tbl := tm5 66 (by rfl)
theorem cal_X8_done : CalC yX8_done cX8_done 3 (some .int) 3 := calc_of tw_1026 tw_14 (by decide +kernel)
theorem tw_1025 : Cond.static yX8_done ∈ lw_tbl := tm5 65 (by decide +kernel)
theorem tw_867 : Cond.fieldLink RX8 50 RX8 "named" "[I" ∈ lw_tbl := tm4 147 (by decide +kernel)
theorem fg_X8_X8_named {v : VmT} {l : Launch} {g : CxT} {k nL pc n : Nat} {cc : ByteArray} {ret : Option FieldType} {L : List (Nat × Value)} {st : List Value} {S : Mem} (ok : Ok l g (oM v) nL cc RX8 ret) (hd : decode cc pc = .ok (.getfield 50, 3)) (hn : pc + 3 = n) (h : G g (oM v) k nL n L (.ref (v.1 12) :: st) S) : G g (oM v) k nL pc L (.ref (v.1 0) :: st) S := g_get ok (C := RX8) (T := TX8) (N := 46) (ci := 7) (c := 0) (fk := 28) (Nat.le_of_ble_eq_true rfl) rfl rfl (by decide) rfl wlX8 tw_867 rfl hd hn h
theorem tw_847 : Cond.fieldLink RX8 77 RX8 "thrown" "I" ∈ lw_tbl := tm4 127 (by decide +kernel)
theorem fp_X8_X8_thrown {v : VmT} {l : Launch} {g : CxT} {k nL pc n : Nat} {cc : ByteArray} {ret : Option FieldType} {L : List (Nat × Value)} {st : List Value} {S : Mem} (ok : Ok l g (oM v) nL cc RX8 ret) {x : Int32} (hd : decode cc pc = .ok (.putfield 77, 3)) (hn : pc + 3 = n) (h : G g (oM v) k nL n L st (mset S 0 (upd (S 0) 8 x))) : G g (oM v) k nL pc L (.int x :: .ref (v.1 0) :: st) S :=
  g_put (ty := .int) ok (C := RX8) (T := TX8) (N := 46) (ci := 7) (c := 0) (fk := 8) (Nat.le_of_ble_eq_true rfl) rfl rfl (by decide) rfl wlX8 tw_847 tyX8_ok nmX8 rfl (by decide +kernel) rfl rfl (Nat.le_of_ble_eq_true rfl) rfl hd hn h
theorem tw_982 : Cond.constantLong RX8 196 (255) ∈ lw_tbl := tm5 22 (by decide +kernel)
theorem fp_X8_X8_tapeMany {v : VmT} {l : Launch} {g : CxT} {k nL pc n : Nat} {cc : ByteArray} {ret : Option FieldType} {L : List (Nat × Value)} {st : List Value} {S : Mem} (ok : Ok l g (oM v) nL cc RX8 ret) {x : Int32} (hd : decode cc pc = .ok (.putfield 80, 3)) (hn : pc + 3 = n) (h : G g (oM v) k nL n L st (mset S 0 (upd (S 0) 13 x))) : G g (oM v) k nL pc L (.int x :: .ref (v.1 0) :: st) S :=
  g_put (ty := .int) ok (C := RX8) (T := TX8) (N := 46) (ci := 7) (c := 0) (fk := 13) (Nat.le_of_ble_eq_true rfl) rfl rfl (by decide) rfl wlX8 tw_852 tyX8_ok nmX8 rfl (by decide +kernel) rfl rfl (Nat.le_of_ble_eq_true rfl) rfl hd hn h
theorem tw_757 : Cond.methodLink RX8 83 yX8_readText ∈ lw_tbl := tm4 37 (by decide +kernel)
theorem tw_760 : Cond.code yX8_readText cX8_readText 2 (some .int) ∈ lw_tbl := tm4 40 (by rfl)
theorem cal_X8_readText : CalC yX8_readText cX8_readText 2 (some .int) 0 := calc_of tw_760 tw_14 (by decide +kernel)
theorem tw_759 : Cond.instanceMethod yX8_readText ∈ lw_tbl := tm4 39 (by decide +kernel)
theorem tp_62 : Cond.selects RX8 yX8_readText yX8_readText ∈ lw_tbl := pm (q := (yX8_readText, _)) 62 (by first | rfl | decide +kernel)
theorem fp_X8_X8_textMany {v : VmT} {l : Launch} {g : CxT} {k nL pc n : Nat} {cc : ByteArray} {ret : Option FieldType} {L : List (Nat × Value)} {st : List Value} {S : Mem} (ok : Ok l g (oM v) nL cc RX8 ret) {x : Int32} (hd : decode cc pc = .ok (.putfield 87, 3)) (hn : pc + 3 = n) (h : G g (oM v) k nL n L st (mset S 0 (upd (S 0) 14 x))) : G g (oM v) k nL pc L (.int x :: .ref (v.1 0) :: st) S :=
  g_put (ty := .int) ok (C := RX8) (T := TX8) (N := 46) (ci := 7) (c := 0) (fk := 14) (Nat.le_of_ble_eq_true rfl) rfl rfl (by decide) rfl wlX8 tw_853 tyX8_ok nmX8 rfl (by decide +kernel) rfl rfl (Nat.le_of_ble_eq_true rfl) rfl hd hn h
theorem fp_X8_X8_rule {v : VmT} {l : Launch} {g : CxT} {k nL pc n : Nat} {cc : ByteArray} {ret : Option FieldType} {L : List (Nat × Value)} {st : List Value} {S : Mem} (ok : Ok l g (oM v) nL cc RX8 ret) {x : Int32} (hd : decode cc pc = .ok (.putfield 189, 3)) (hn : pc + 3 = n) (h : G g (oM v) k nL n L st (mset S 0 (upd (S 0) 15 x))) : G g (oM v) k nL pc L (.int x :: .ref (v.1 0) :: st) S :=
  g_put (ty := .int) ok (C := RX8) (T := TX8) (N := 46) (ci := 7) (c := 0) (fk := 15) (Nat.le_of_ble_eq_true rfl) rfl rfl (by decide) rfl wlX8 tw_854 tyX8_ok nmX8 rfl (by decide +kernel) rfl rfl (Nat.le_of_ble_eq_true rfl) rfl hd hn h
theorem tw_841 : Cond.fieldLink RX8 16 RX8 "longs" "[I" ∈ lw_tbl := tm4 121 (by decide +kernel)
theorem fg_X8_X8_longs {v : VmT} {l : Launch} {g : CxT} {k nL pc n : Nat} {cc : ByteArray} {ret : Option FieldType} {L : List (Nat × Value)} {st : List Value} {S : Mem} (ok : Ok l g (oM v) nL cc RX8 ret) (hd : decode cc pc = .ok (.getfield 16, 3)) (hn : pc + 3 = n) (h : G g (oM v) k nL n L (.ref (v.1 3) :: st) S) : G g (oM v) k nL pc L (.ref (v.1 0) :: st) S := g_get ok (C := RX8) (T := TX8) (N := 46) (ci := 7) (c := 0) (fk := 2) (Nat.le_of_ble_eq_true rfl) rfl rfl (by decide) rfl wlX8 tw_841 rfl hd hn h
theorem tw_842 : Cond.fieldLink RX8 19 RX8 "numbers" "[I" ∈ lw_tbl := tm4 122 (by decide +kernel)
theorem fg_X8_X8_numbers {v : VmT} {l : Launch} {g : CxT} {k nL pc n : Nat} {cc : ByteArray} {ret : Option FieldType} {L : List (Nat × Value)} {st : List Value} {S : Mem} (ok : Ok l g (oM v) nL cc RX8 ret) (hd : decode cc pc = .ok (.getfield 19, 3)) (hn : pc + 3 = n) (h : G g (oM v) k nL n L (.ref (v.1 4) :: st) S) : G g (oM v) k nL pc L (.ref (v.1 0) :: st) S := g_get ok (C := RX8) (T := TX8) (N := 46) (ci := 7) (c := 0) (fk := 3) (Nat.le_of_ble_eq_true rfl) rfl rfl (by decide) rfl wlX8 tw_842 rfl hd hn h
theorem tw_840 : Cond.fieldLink RX8 13 RX8 "kinds" "[I" ∈ lw_tbl := tm4 120 (by decide +kernel)
theorem fg_X8_X8_kinds {v : VmT} {l : Launch} {g : CxT} {k nL pc n : Nat} {cc : ByteArray} {ret : Option FieldType} {L : List (Nat × Value)} {st : List Value} {S : Mem} (ok : Ok l g (oM v) nL cc RX8 ret) (hd : decode cc pc = .ok (.getfield 13, 3)) (hn : pc + 3 = n) (h : G g (oM v) k nL n L (.ref (v.1 2) :: st) S) : G g (oM v) k nL pc L (.ref (v.1 0) :: st) S := g_get ok (C := RX8) (T := TX8) (N := 46) (ci := 7) (c := 0) (fk := 1) (Nat.le_of_ble_eq_true rfl) rfl rfl (by decide) rfl wlX8 tw_840 rfl hd hn h
theorem tw_844 : Cond.fieldLink RX8 26 RX8 "radius" "I" ∈ lw_tbl := tm4 124 (by decide +kernel)
theorem fg_X8_X8_radius {v : VmT} {l : Launch} {g : CxT} {k nL pc n : Nat} {cc : ByteArray} {ret : Option FieldType} {L : List (Nat × Value)} {st : List Value} {S : Mem} (ok : Ok l g (oM v) nL cc RX8 ret) (hd : decode cc pc = .ok (.getfield 26, 3)) (hn : pc + 3 = n) (h : G g (oM v) k nL n L (.int (S 0 5) :: st) S) : G g (oM v) k nL pc L (.ref (v.1 0) :: st) S := g_get ok (C := RX8) (T := TX8) (N := 46) (ci := 7) (c := 0) (fk := 5) (Nat.le_of_ble_eq_true rfl) rfl rfl (by decide) rfl wlX8 tw_844 rfl hd hn h
theorem tw_1009 : Cond.methodLink RX8 198 yX8_held ∈ lw_tbl := tm5 49 (by decide +kernel)
theorem tw_1011 : Cond.code yX8_held cX8_held 3 (some .int) ∈ lw_tbl := tm5 51 (by rfl)
theorem cal_X8_held : CalC yX8_held cX8_held 3 (some .int) 3 := calc_of tw_1011 tw_14 (by decide +kernel)
theorem tw_1010 : Cond.static yX8_held ∈ lw_tbl := tm5 50 (by decide +kernel)
theorem tw_873 : Cond.fieldLink RX8 235 RX8 "lean" "I" ∈ lw_tbl := tm4 153 (by decide +kernel)
theorem fp_X8_X8_lean {v : VmT} {l : Launch} {g : CxT} {k nL pc n : Nat} {cc : ByteArray} {ret : Option FieldType} {L : List (Nat × Value)} {st : List Value} {S : Mem} (ok : Ok l g (oM v) nL cc RX8 ret) {x : Int32} (hd : decode cc pc = .ok (.putfield 235, 3)) (hn : pc + 3 = n) (h : G g (oM v) k nL n L st (mset S 0 (upd (S 0) 34 x))) : G g (oM v) k nL pc L (.int x :: .ref (v.1 0) :: st) S :=
  g_put (ty := .int) ok (C := RX8) (T := TX8) (N := 46) (ci := 7) (c := 0) (fk := 34) (Nat.le_of_ble_eq_true rfl) rfl rfl (by decide) rfl wlX8 tw_873 tyX8_ok nmX8 rfl (by decide +kernel) rfl rfl (Nat.le_of_ble_eq_true rfl) rfl hd hn h
theorem tw_869 : Cond.fieldLink RX8 56 RX8 "at" "[I" ∈ lw_tbl := tm4 149 (by decide +kernel)
theorem fg_X8_X8_at {v : VmT} {l : Launch} {g : CxT} {k nL pc n : Nat} {cc : ByteArray} {ret : Option FieldType} {L : List (Nat × Value)} {st : List Value} {S : Mem} (ok : Ok l g (oM v) nL cc RX8 ret) (hd : decode cc pc = .ok (.getfield 56, 3)) (hn : pc + 3 = n) (h : G g (oM v) k nL n L (.ref (v.1 14) :: st) S) : G g (oM v) k nL pc L (.ref (v.1 0) :: st) S := g_get ok (C := RX8) (T := TX8) (N := 46) (ci := 7) (c := 0) (fk := 30) (Nat.le_of_ble_eq_true rfl) rfl rfl (by decide) rfl wlX8 tw_869 rfl hd hn h
theorem tw_875 : Cond.fieldLink RX8 220 RX8 "loose" "I" ∈ lw_tbl := tm4 155 (by decide +kernel)
theorem fg_X8_X8_loose {v : VmT} {l : Launch} {g : CxT} {k nL pc n : Nat} {cc : ByteArray} {ret : Option FieldType} {L : List (Nat × Value)} {st : List Value} {S : Mem} (ok : Ok l g (oM v) nL cc RX8 ret) (hd : decode cc pc = .ok (.getfield 220, 3)) (hn : pc + 3 = n) (h : G g (oM v) k nL n L (.int (S 0 36) :: st) S) : G g (oM v) k nL pc L (.ref (v.1 0) :: st) S := g_get ok (C := RX8) (T := TX8) (N := 46) (ci := 7) (c := 0) (fk := 36) (Nat.le_of_ble_eq_true rfl) rfl rfl (by decide) rfl wlX8 tw_875 rfl hd hn h
theorem tw_874 : Cond.fieldLink RX8 217 RX8 "bearing" "I" ∈ lw_tbl := tm4 154 (by decide +kernel)
theorem fg_X8_X8_bearing {v : VmT} {l : Launch} {g : CxT} {k nL pc n : Nat} {cc : ByteArray} {ret : Option FieldType} {L : List (Nat × Value)} {st : List Value} {S : Mem} (ok : Ok l g (oM v) nL cc RX8 ret) (hd : decode cc pc = .ok (.getfield 217, 3)) (hn : pc + 3 = n) (h : G g (oM v) k nL n L (.int (S 0 35) :: st) S) : G g (oM v) k nL pc L (.ref (v.1 0) :: st) S := g_get ok (C := RX8) (T := TX8) (N := 46) (ci := 7) (c := 0) (fk := 35) (Nat.le_of_ble_eq_true rfl) rfl rfl (by decide) rfl wlX8 tw_874 rfl hd hn h
theorem tw_870 : Cond.fieldLink RX8 211 RX8 "gap" "I" ∈ lw_tbl := tm4 150 (by decide +kernel)
theorem fg_X8_X8_gap {v : VmT} {l : Launch} {g : CxT} {k nL pc n : Nat} {cc : ByteArray} {ret : Option FieldType} {L : List (Nat × Value)} {st : List Value} {S : Mem} (ok : Ok l g (oM v) nL cc RX8 ret) (hd : decode cc pc = .ok (.getfield 211, 3)) (hn : pc + 3 = n) (h : G g (oM v) k nL n L (.int (S 0 31) :: st) S) : G g (oM v) k nL pc L (.ref (v.1 0) :: st) S := g_get ok (C := RX8) (T := TX8) (N := 46) (ci := 7) (c := 0) (fk := 31) (Nat.le_of_ble_eq_true rfl) rfl rfl (by decide) rfl wlX8 tw_870 rfl hd hn h
theorem tw_872 : Cond.fieldLink RX8 229 RX8 "rock" "I" ∈ lw_tbl := tm4 152 (by decide +kernel)
theorem fp_X8_X8_rock {v : VmT} {l : Launch} {g : CxT} {k nL pc n : Nat} {cc : ByteArray} {ret : Option FieldType} {L : List (Nat × Value)} {st : List Value} {S : Mem} (ok : Ok l g (oM v) nL cc RX8 ret) {x : Int32} (hd : decode cc pc = .ok (.putfield 229, 3)) (hn : pc + 3 = n) (h : G g (oM v) k nL n L st (mset S 0 (upd (S 0) 33 x))) : G g (oM v) k nL pc L (.int x :: .ref (v.1 0) :: st) S :=
  g_put (ty := .int) ok (C := RX8) (T := TX8) (N := 46) (ci := 7) (c := 0) (fk := 33) (Nat.le_of_ble_eq_true rfl) rfl rfl (by decide) rfl wlX8 tw_872 tyX8_ok nmX8 rfl (by decide +kernel) rfl rfl (Nat.le_of_ble_eq_true rfl) rfl hd hn h
theorem tw_1027 : Cond.methodLink RX8 232 yX8_findLean ∈ lw_tbl := tm5 67 (by decide +kernel)
theorem tw_1030 : Cond.code yX8_findLean cX8_findLean 7 none ∈ lw_tbl := tm5 70 (by rfl)
theorem cal_X8_findLean : CalC yX8_findLean cX8_findLean 7 none 0 := calc_of tw_1030 tw_14 (by decide +kernel)
theorem tw_1029 : Cond.instanceMethod yX8_findLean ∈ lw_tbl := tm5 69 (by decide +kernel)
theorem tp_86 : Cond.selects RX8 yX8_findLean yX8_findLean ∈ lw_tbl := pm (q := (yX8_findLean, _)) 86 (by first | rfl | decide +kernel)
theorem fg_X8_X8_rock {v : VmT} {l : Launch} {g : CxT} {k nL pc n : Nat} {cc : ByteArray} {ret : Option FieldType} {L : List (Nat × Value)} {st : List Value} {S : Mem} (ok : Ok l g (oM v) nL cc RX8 ret) (hd : decode cc pc = .ok (.getfield 229, 3)) (hn : pc + 3 = n) (h : G g (oM v) k nL n L (.int (S 0 33) :: st) S) : G g (oM v) k nL pc L (.ref (v.1 0) :: st) S := g_get ok (C := RX8) (T := TX8) (N := 46) (ci := 7) (c := 0) (fk := 33) (Nat.le_of_ble_eq_true rfl) rfl rfl (by decide) rfl wlX8 tw_872 rfl hd hn h
theorem fg_X8_X8_lean {v : VmT} {l : Launch} {g : CxT} {k nL pc n : Nat} {cc : ByteArray} {ret : Option FieldType} {L : List (Nat × Value)} {st : List Value} {S : Mem} (ok : Ok l g (oM v) nL cc RX8 ret) (hd : decode cc pc = .ok (.getfield 235, 3)) (hn : pc + 3 = n) (h : G g (oM v) k nL n L (.int (S 0 34) :: st) S) : G g (oM v) k nL pc L (.ref (v.1 0) :: st) S := g_get ok (C := RX8) (T := TX8) (N := 46) (ci := 7) (c := 0) (fk := 34) (Nat.le_of_ble_eq_true rfl) rfl rfl (by decide) rfl wlX8 tw_873 rfl hd hn h
theorem tw_871 : Cond.fieldLink RX8 214 RX8 "size" "I" ∈ lw_tbl := tm4 151 (by decide +kernel)
theorem fg_X8_X8_size {v : VmT} {l : Launch} {g : CxT} {k nL pc n : Nat} {cc : ByteArray} {ret : Option FieldType} {L : List (Nat × Value)} {st : List Value} {S : Mem} (ok : Ok l g (oM v) nL cc RX8 ret) (hd : decode cc pc = .ok (.getfield 214, 3)) (hn : pc + 3 = n) (h : G g (oM v) k nL n L (.int (S 0 32) :: st) S) : G g (oM v) k nL pc L (.ref (v.1 0) :: st) S := g_get ok (C := RX8) (T := TX8) (N := 46) (ci := 7) (c := 0) (fk := 32) (Nat.le_of_ble_eq_true rfl) rfl rfl (by decide) rfl wlX8 tw_871 rfl hd hn h
theorem tw_1020 : Cond.methodLink RX8 226 yX8_says ∈ lw_tbl := tm5 60 (by decide +kernel)
theorem tw_1023 : Cond.code yX8_says cX8_says 5 (some .int) ∈ lw_tbl := tm5 63 (by rfl)
theorem cal_X8_says : CalC yX8_says cX8_says 5 (some .int) 1 := calc_of tw_1023 tw_14 (by decide +kernel)
theorem tw_1022 : Cond.instanceMethod yX8_says ∈ lw_tbl := tm5 62 (by decide +kernel)
theorem tp_85 : Cond.selects RX8 yX8_says yX8_says ∈ lw_tbl := pm (q := (yX8_says, _)) 85 (by first | rfl | decide +kernel)
theorem fp_X8_X8_bearing {v : VmT} {l : Launch} {g : CxT} {k nL pc n : Nat} {cc : ByteArray} {ret : Option FieldType} {L : List (Nat × Value)} {st : List Value} {S : Mem} (ok : Ok l g (oM v) nL cc RX8 ret) {x : Int32} (hd : decode cc pc = .ok (.putfield 217, 3)) (hn : pc + 3 = n) (h : G g (oM v) k nL n L st (mset S 0 (upd (S 0) 35 x))) : G g (oM v) k nL pc L (.int x :: .ref (v.1 0) :: st) S :=
  g_put (ty := .int) ok (C := RX8) (T := TX8) (N := 46) (ci := 7) (c := 0) (fk := 35) (Nat.le_of_ble_eq_true rfl) rfl rfl (by decide) rfl wlX8 tw_874 tyX8_ok nmX8 rfl (by decide +kernel) rfl rfl (Nat.le_of_ble_eq_true rfl) rfl hd hn h
theorem fp_X8_X8_loose {v : VmT} {l : Launch} {g : CxT} {k nL pc n : Nat} {cc : ByteArray} {ret : Option FieldType} {L : List (Nat × Value)} {st : List Value} {S : Mem} (ok : Ok l g (oM v) nL cc RX8 ret) {x : Int32} (hd : decode cc pc = .ok (.putfield 220, 3)) (hn : pc + 3 = n) (h : G g (oM v) k nL n L st (mset S 0 (upd (S 0) 36 x))) : G g (oM v) k nL pc L (.int x :: .ref (v.1 0) :: st) S :=
  g_put (ty := .int) ok (C := RX8) (T := TX8) (N := 46) (ci := 7) (c := 0) (fk := 36) (Nat.le_of_ble_eq_true rfl) rfl rfl (by decide) rfl wlX8 tw_875 tyX8_ok nmX8 rfl (by decide +kernel) rfl rfl (Nat.le_of_ble_eq_true rfl) rfl hd hn h
theorem tw_1016 : Cond.methodLink RX8 223 yX8_givesOf ∈ lw_tbl := tm5 56 (by decide +kernel)
theorem tw_1019 : Cond.code yX8_givesOf cX8_givesOf 6 (some .int) ∈ lw_tbl := tm5 59 (by rfl)
theorem cal_X8_givesOf : CalC yX8_givesOf cX8_givesOf 6 (some .int) 2 := calc_of tw_1019 tw_14 (by decide +kernel)
theorem tw_1018 : Cond.instanceMethod yX8_givesOf ∈ lw_tbl := tm5 58 (by decide +kernel)
theorem tp_84 : Cond.selects RX8 yX8_givesOf yX8_givesOf ∈ lw_tbl := pm (q := (yX8_givesOf, _)) 84 (by first | rfl | decide +kernel)
theorem fp_X8_X8_size {v : VmT} {l : Launch} {g : CxT} {k nL pc n : Nat} {cc : ByteArray} {ret : Option FieldType} {L : List (Nat × Value)} {st : List Value} {S : Mem} (ok : Ok l g (oM v) nL cc RX8 ret) {x : Int32} (hd : decode cc pc = .ok (.putfield 214, 3)) (hn : pc + 3 = n) (h : G g (oM v) k nL n L st (mset S 0 (upd (S 0) 32 x))) : G g (oM v) k nL pc L (.int x :: .ref (v.1 0) :: st) S :=
  g_put (ty := .int) ok (C := RX8) (T := TX8) (N := 46) (ci := 7) (c := 0) (fk := 32) (Nat.le_of_ble_eq_true rfl) rfl rfl (by decide) rfl wlX8 tw_871 tyX8_ok nmX8 rfl (by decide +kernel) rfl rfl (Nat.le_of_ble_eq_true rfl) rfl hd hn h
theorem fp_X8_X8_gap {v : VmT} {l : Launch} {g : CxT} {k nL pc n : Nat} {cc : ByteArray} {ret : Option FieldType} {L : List (Nat × Value)} {st : List Value} {S : Mem} (ok : Ok l g (oM v) nL cc RX8 ret) {x : Int32} (hd : decode cc pc = .ok (.putfield 211, 3)) (hn : pc + 3 = n) (h : G g (oM v) k nL n L st (mset S 0 (upd (S 0) 31 x))) : G g (oM v) k nL pc L (.int x :: .ref (v.1 0) :: st) S :=
  g_put (ty := .int) ok (C := RX8) (T := TX8) (N := 46) (ci := 7) (c := 0) (fk := 31) (Nat.le_of_ble_eq_true rfl) rfl rfl (by decide) rfl wlX8 tw_870 tyX8_ok nmX8 rfl (by decide +kernel) rfl rfl (Nat.le_of_ble_eq_true rfl) rfl hd hn h
theorem tw_839 : Cond.fieldLink RX8 7 RX8 "heights" "[I" ∈ lw_tbl := tm4 119 (by decide +kernel)
theorem fg_X8_X8_heights {v : VmT} {l : Launch} {g : CxT} {k nL pc n : Nat} {cc : ByteArray} {ret : Option FieldType} {L : List (Nat × Value)} {st : List Value} {S : Mem} (ok : Ok l g (oM v) nL cc RX8 ret) (hd : decode cc pc = .ok (.getfield 7, 3)) (hn : pc + 3 = n) (h : G g (oM v) k nL n L (.ref (v.1 1) :: st) S) : G g (oM v) k nL pc L (.ref (v.1 0) :: st) S := g_get ok (C := RX8) (T := TX8) (N := 46) (ci := 7) (c := 0) (fk := 0) (Nat.le_of_ble_eq_true rfl) rfl rfl (by decide) rfl wlX8 tw_839 rfl hd hn h
theorem tw_1005 : Cond.methodLink RX8 201 yX8_cellOf ∈ lw_tbl := tm5 45 (by decide +kernel)
theorem tw_1008 : Cond.code yX8_cellOf cX8_cellOf 7 (some .int) ∈ lw_tbl := tm5 48 (by rfl)
theorem cal_X8_cellOf : CalC yX8_cellOf cX8_cellOf 7 (some .int) 3 := calc_of tw_1008 tw_14 (by decide +kernel)
theorem tw_1007 : Cond.instanceMethod yX8_cellOf ∈ lw_tbl := tm5 47 (by decide +kernel)
theorem tp_82 : Cond.selects RX8 yX8_cellOf yX8_cellOf ∈ lw_tbl := pm (q := (yX8_cellOf, _)) 82 (by first | rfl | decide +kernel)
theorem tw_846 : Cond.fieldLink RX8 204 RX8 "load" "I" ∈ lw_tbl := tm4 126 (by decide +kernel)
theorem fg_X8_X8_load {v : VmT} {l : Launch} {g : CxT} {k nL pc n : Nat} {cc : ByteArray} {ret : Option FieldType} {L : List (Nat × Value)} {st : List Value} {S : Mem} (ok : Ok l g (oM v) nL cc RX8 ret) (hd : decode cc pc = .ok (.getfield 204, 3)) (hn : pc + 3 = n) (h : G g (oM v) k nL n L (.int (S 0 7) :: st) S) : G g (oM v) k nL pc L (.ref (v.1 0) :: st) S := g_get ok (C := RX8) (T := TX8) (N := 46) (ci := 7) (c := 0) (fk := 7) (Nat.le_of_ble_eq_true rfl) rfl rfl (by decide) rfl wlX8 tw_846 rfl hd hn h
theorem tw_1012 : Cond.methodLink RX8 207 yX8_tallOf ∈ lw_tbl := tm5 52 (by decide +kernel)
theorem tw_1015 : Cond.code yX8_tallOf cX8_tallOf 6 (some .int) ∈ lw_tbl := tm5 55 (by rfl)
theorem cal_X8_tallOf : CalC yX8_tallOf cX8_tallOf 6 (some .int) 2 := calc_of tw_1015 tw_14 (by decide +kernel)
theorem tw_1014 : Cond.instanceMethod yX8_tallOf ∈ lw_tbl := tm5 54 (by decide +kernel)
theorem tp_83 : Cond.selects RX8 yX8_tallOf yX8_tallOf ∈ lw_tbl := pm (q := (yX8_tallOf, _)) 83 (by first | rfl | decide +kernel)
theorem tw_843 : Cond.fieldLink RX8 22 RX8 "place" "I" ∈ lw_tbl := tm4 123 (by decide +kernel)
theorem fg_X8_X8_place {v : VmT} {l : Launch} {g : CxT} {k nL pc n : Nat} {cc : ByteArray} {ret : Option FieldType} {L : List (Nat × Value)} {st : List Value} {S : Mem} (ok : Ok l g (oM v) nL cc RX8 ret) (hd : decode cc pc = .ok (.getfield 22, 3)) (hn : pc + 3 = n) (h : G g (oM v) k nL n L (.int (S 0 4) :: st) S) : G g (oM v) k nL pc L (.ref (v.1 0) :: st) S := g_get ok (C := RX8) (T := TX8) (N := 46) (ci := 7) (c := 0) (fk := 4) (Nat.le_of_ble_eq_true rfl) rfl rfl (by decide) rfl wlX8 tw_843 rfl hd hn h
theorem tw_845 : Cond.fieldLink RX8 238 RX8 "turned" "I" ∈ lw_tbl := tm4 125 (by decide +kernel)
theorem fg_X8_X8_turned {v : VmT} {l : Launch} {g : CxT} {k nL pc n : Nat} {cc : ByteArray} {ret : Option FieldType} {L : List (Nat × Value)} {st : List Value} {S : Mem} (ok : Ok l g (oM v) nL cc RX8 ret) (hd : decode cc pc = .ok (.getfield 238, 3)) (hn : pc + 3 = n) (h : G g (oM v) k nL n L (.int (S 0 6) :: st) S) : G g (oM v) k nL pc L (.ref (v.1 0) :: st) S := g_get ok (C := RX8) (T := TX8) (N := 46) (ci := 7) (c := 0) (fk := 6) (Nat.le_of_ble_eq_true rfl) rfl rfl (by decide) rfl wlX8 tw_845 rfl hd hn h
theorem tw_1001 : Cond.methodLink RX8 241 yX8_find ∈ lw_tbl := tm5 41 (by decide +kernel)
theorem tw_1004 : Cond.code yX8_find cX8_find 5 none ∈ lw_tbl := tm5 44 (by rfl)
theorem cal_X8_find : CalC yX8_find cX8_find 5 none 2 := calc_of tw_1004 tw_14 (by decide +kernel)
theorem tw_1003 : Cond.instanceMethod yX8_find ∈ lw_tbl := tm5 43 (by decide +kernel)
theorem tp_81 : Cond.selects RX8 yX8_find yX8_find ∈ lw_tbl := pm (q := (yX8_find, _)) 81 (by first | rfl | decide +kernel)
theorem tw_995 : Cond.constantLong RX8 245 (5) ∈ lw_tbl := tm5 35 (by decide +kernel)
theorem tw_997 : Cond.methodLink RX8 248 yX8_findNow ∈ lw_tbl := tm5 37 (by decide +kernel)
theorem tw_1000 : Cond.code yX8_findNow cX8_findNow 1 none ∈ lw_tbl := tm5 40 (by rfl)
theorem cal_X8_findNow : CalC yX8_findNow cX8_findNow 1 none 0 := calc_of tw_1000 tw_14 (by decide +kernel)
theorem tw_999 : Cond.instanceMethod yX8_findNow ∈ lw_tbl := tm5 39 (by decide +kernel)
theorem tp_80 : Cond.selects RX8 yX8_findNow yX8_findNow ∈ lw_tbl := pm (q := (yX8_findNow, _)) 80 (by first | rfl | decide +kernel)
theorem tw_1031 : Cond.methodLink RX8 251 yX8_foundOf ∈ lw_tbl := tm5 71 (by decide +kernel)
theorem tw_1034 : Cond.code yX8_foundOf cX8_foundOf 2 (some .int) ∈ lw_tbl := tm5 74 (by rfl)
theorem cal_X8_foundOf : CalC yX8_foundOf cX8_foundOf 2 (some .int) 1 := calc_of tw_1034 tw_14 (by decide +kernel)
theorem tw_1033 : Cond.instanceMethod yX8_foundOf ∈ lw_tbl := tm5 73 (by decide +kernel)
theorem tp_87 : Cond.selects RX8 yX8_foundOf yX8_foundOf ∈ lw_tbl := pm (q := (yX8_foundOf, _)) 87 (by first | rfl | decide +kernel)
theorem tw_996 : Cond.constant RX8 247 (-100000) ∈ lw_tbl := tm5 36 (by decide +kernel)
theorem tw_1039 : Cond.constantLong RX8 254 (63) ∈ lw_tbl := tm5 79 (by decide +kernel)
theorem tw_1040 : Cond.constantLong RX8 256 (7) ∈ lw_tbl := tm5 80 (by decide +kernel)
theorem tw_1049 : Cond.methodLink RX8 258 yX8_isFirmAt ∈ lw_tbl := tm5 89 (by decide +kernel)
theorem tw_1052 : Cond.code yX8_isFirmAt cX8_isFirmAt 3 (some .boolean) ∈ lw_tbl := tm5 92 (by rfl)
theorem cal_X8_isFirmAt : CalC yX8_isFirmAt cX8_isFirmAt 3 (some .boolean) 2 := calc_of tw_1052 tw_14 (by decide +kernel)
theorem tw_1051 : Cond.instanceMethod yX8_isFirmAt ∈ lw_tbl := tm5 91 (by decide +kernel)
theorem tp_89 : Cond.selects RX8 yX8_isFirmAt yX8_isFirmAt ∈ lw_tbl := pm (q := (yX8_isFirmAt, _)) 89 (by first | rfl | decide +kernel)
theorem tw_1045 : Cond.methodLink RX8 262 yX8_firmAt ∈ lw_tbl := tm5 85 (by decide +kernel)
theorem tw_1048 : Cond.code yX8_firmAt cX8_firmAt 4 (some .int) ∈ lw_tbl := tm5 88 (by rfl)
theorem cal_X8_firmAt : CalC yX8_firmAt cX8_firmAt 4 (some .int) 1 := calc_of tw_1048 tw_14 (by decide +kernel)
theorem tw_1047 : Cond.instanceMethod yX8_firmAt ∈ lw_tbl := tm5 87 (by decide +kernel)
theorem tp_88 : Cond.selects RX8 yX8_firmAt yX8_firmAt ∈ lw_tbl := pm (q := (yX8_firmAt, _)) 88 (by first | rfl | decide +kernel)
theorem tw_1061 : Cond.methodLink RX8 265 yX8_knock ∈ lw_tbl := tm5 101 (by decide +kernel)
theorem tw_1064 : Cond.code yX8_knock cX8_knock 3 (some .int) ∈ lw_tbl := tm5 104 (by rfl)
theorem cal_X8_knock : CalC yX8_knock cX8_knock 3 (some .int) 2 := calc_of tw_1064 tw_14 (by decide +kernel)
theorem tw_1063 : Cond.instanceMethod yX8_knock ∈ lw_tbl := tm5 103 (by decide +kernel)
theorem tp_90 : Cond.selects RX8 yX8_knock yX8_knock ∈ lw_tbl := pm (q := (yX8_knock, _)) 90 (by first | rfl | decide +kernel)
theorem tw_1069 : Cond.constantLong RX8 268 (2) ∈ lw_tbl := tm5 109 (by decide +kernel)
theorem tw_1074 : Cond.constantLong RX8 270 (-7) ∈ lw_tbl := tm5 114 (by decide +kernel)
theorem fp_X8_X8_turned {v : VmT} {l : Launch} {g : CxT} {k nL pc n : Nat} {cc : ByteArray} {ret : Option FieldType} {L : List (Nat × Value)} {st : List Value} {S : Mem} (ok : Ok l g (oM v) nL cc RX8 ret) {x : Int32} (hd : decode cc pc = .ok (.putfield 238, 3)) (hn : pc + 3 = n) (h : G g (oM v) k nL n L st (mset S 0 (upd (S 0) 6 x))) : G g (oM v) k nL pc L (.int x :: .ref (v.1 0) :: st) S :=
  g_put (ty := .int) ok (C := RX8) (T := TX8) (N := 46) (ci := 7) (c := 0) (fk := 6) (Nat.le_of_ble_eq_true rfl) rfl rfl (by decide) rfl wlX8 tw_845 tyX8_ok nmX8 rfl (by decide +kernel) rfl rfl (Nat.le_of_ble_eq_true rfl) rfl hd hn h
theorem tw_876 : Cond.fieldLink RX8 59 RX8 "kept" "[I" ∈ lw_tbl := tm4 156 (by decide +kernel)
theorem fg_X8_X8_kept {v : VmT} {l : Launch} {g : CxT} {k nL pc n : Nat} {cc : ByteArray} {ret : Option FieldType} {L : List (Nat × Value)} {st : List Value} {S : Mem} (ok : Ok l g (oM v) nL cc RX8 ret) (hd : decode cc pc = .ok (.getfield 59, 3)) (hn : pc + 3 = n) (h : G g (oM v) k nL n L (.ref (v.1 15) :: st) S) : G g (oM v) k nL pc L (.ref (v.1 0) :: st) S := g_get ok (C := RX8) (T := TX8) (N := 46) (ci := 7) (c := 0) (fk := 37) (Nat.le_of_ble_eq_true rfl) rfl rfl (by decide) rfl wlX8 tw_876 rfl hd hn h
theorem tw_1091 : Cond.constantLong RX8 272 (9) ∈ lw_tbl := tm5 131 (by decide +kernel)
theorem tw_1087 : Cond.methodLink RX8 274 yX8_screwBy ∈ lw_tbl := tm5 127 (by decide +kernel)
theorem tw_1090 : Cond.code yX8_screwBy cX8_screwBy 8 (some .int) ∈ lw_tbl := tm5 130 (by rfl)
theorem cal_X8_screwBy : CalC yX8_screwBy cX8_screwBy 8 (some .int) 1 := calc_of tw_1090 tw_14 (by decide +kernel)
theorem tw_1089 : Cond.instanceMethod yX8_screwBy ∈ lw_tbl := tm5 129 (by decide +kernel)
theorem tp_91 : Cond.selects RX8 yX8_screwBy yX8_screwBy ∈ lw_tbl := pm (q := (yX8_screwBy, _)) 91 (by first | rfl | decide +kernel)
theorem tw_1100 : Cond.methodLink RX8 277 yX8_apart ∈ lw_tbl := tm5 140 (by decide +kernel)
theorem tw_1102 : Cond.code yX8_apart cX8_apart 2 (some .int) ∈ lw_tbl := tm5 142 (by rfl)
theorem cal_X8_apart : CalC yX8_apart cX8_apart 2 (some .int) 2 := calc_of tw_1102 tw_14 (by decide +kernel)
theorem tw_1101 : Cond.static yX8_apart ∈ lw_tbl := tm5 141 (by decide +kernel)
theorem fp_X8_X8_load {v : VmT} {l : Launch} {g : CxT} {k nL pc n : Nat} {cc : ByteArray} {ret : Option FieldType} {L : List (Nat × Value)} {st : List Value} {S : Mem} (ok : Ok l g (oM v) nL cc RX8 ret) {x : Int32} (hd : decode cc pc = .ok (.putfield 204, 3)) (hn : pc + 3 = n) (h : G g (oM v) k nL n L st (mset S 0 (upd (S 0) 7 x))) : G g (oM v) k nL pc L (.int x :: .ref (v.1 0) :: st) S :=
  g_put (ty := .int) ok (C := RX8) (T := TX8) (N := 46) (ci := 7) (c := 0) (fk := 7) (Nat.le_of_ble_eq_true rfl) rfl rfl (by decide) rfl wlX8 tw_846 tyX8_ok nmX8 rfl (by decide +kernel) rfl rfl (Nat.le_of_ble_eq_true rfl) rfl hd hn h
theorem tw_882 : Cond.fieldLink RX8 68 RX8 "sheetMany" "[I" ∈ lw_tbl := tm4 162 (by decide +kernel)
theorem fg_X8_X8_sheetMany {v : VmT} {l : Launch} {g : CxT} {k nL pc n : Nat} {cc : ByteArray} {ret : Option FieldType} {L : List (Nat × Value)} {st : List Value} {S : Mem} (ok : Ok l g (oM v) nL cc RX8 ret) (hd : decode cc pc = .ok (.getfield 68, 3)) (hn : pc + 3 = n) (h : G g (oM v) k nL n L (.ref (v.1 18) :: st) S) : G g (oM v) k nL pc L (.ref (v.1 0) :: st) S := g_get ok (C := RX8) (T := TX8) (N := 46) (ci := 7) (c := 0) (fk := 43) (Nat.le_of_ble_eq_true rfl) rfl rfl (by decide) rfl wlX8 tw_882 rfl hd hn h
theorem tw_883 : Cond.fieldLink RX8 71 RX8 "sheets" "[I" ∈ lw_tbl := tm4 163 (by decide +kernel)
theorem fg_X8_X8_sheets {v : VmT} {l : Launch} {g : CxT} {k nL pc n : Nat} {cc : ByteArray} {ret : Option FieldType} {L : List (Nat × Value)} {st : List Value} {S : Mem} (ok : Ok l g (oM v) nL cc RX8 ret) (hd : decode cc pc = .ok (.getfield 71, 3)) (hn : pc + 3 = n) (h : G g (oM v) k nL n L (.ref (v.1 19) :: st) S) : G g (oM v) k nL pc L (.ref (v.1 0) :: st) S := g_get ok (C := RX8) (T := TX8) (N := 46) (ci := 7) (c := 0) (fk := 44) (Nat.le_of_ble_eq_true rfl) rfl rfl (by decide) rfl wlX8 tw_883 rfl hd hn h
theorem tw_1111 : Cond.constantLong RX8 280 (3) ∈ lw_tbl := tm5 151 (by decide +kernel)
theorem tw_881 : Cond.fieldLink RX8 65 RX8 "sheetSort" "[I" ∈ lw_tbl := tm4 161 (by decide +kernel)
theorem fg_X8_X8_sheetSort {v : VmT} {l : Launch} {g : CxT} {k nL pc n : Nat} {cc : ByteArray} {ret : Option FieldType} {L : List (Nat × Value)} {st : List Value} {S : Mem} (ok : Ok l g (oM v) nL cc RX8 ret) (hd : decode cc pc = .ok (.getfield 65, 3)) (hn : pc + 3 = n) (h : G g (oM v) k nL n L (.ref (v.1 17) :: st) S) : G g (oM v) k nL pc L (.ref (v.1 0) :: st) S := g_get ok (C := RX8) (T := TX8) (N := 46) (ci := 7) (c := 0) (fk := 42) (Nat.le_of_ble_eq_true rfl) rfl rfl (by decide) rfl wlX8 tw_881 rfl hd hn h
theorem tw_1112 : Cond.methodLink RX8 282 yX8_firstOtherwise ∈ lw_tbl := tm5 152 (by decide +kernel)
theorem tw_1115 : Cond.code yX8_firstOtherwise cX8_firstOtherwise 4 (some .int) ∈ lw_tbl := tm5 155 (by rfl)
theorem cal_X8_firstOtherwise : CalC yX8_firstOtherwise cX8_firstOtherwise 4 (some .int) 2 := calc_of tw_1115 tw_14 (by decide +kernel)
theorem tw_1114 : Cond.instanceMethod yX8_firstOtherwise ∈ lw_tbl := tm5 154 (by decide +kernel)
theorem tp_92 : Cond.selects RX8 yX8_firstOtherwise yX8_firstOtherwise ∈ lw_tbl := pm (q := (yX8_firstOtherwise, _)) 92 (by first | rfl | decide +kernel)
theorem tw_1120 : Cond.constantLong RX8 285 (-4611686018427387904) ∈ lw_tbl := tm5 160 (by decide +kernel)
theorem tw_1129 : Cond.constant RX8 287 (1103515245) ∈ lw_tbl := tm5 169 (by decide +kernel)
theorem tw_1125 : Cond.methodLink RX8 288 yX8_rockBy ∈ lw_tbl := tm5 165 (by decide +kernel)
theorem tw_1128 : Cond.code yX8_rockBy cX8_rockBy 4 (some .int) ∈ lw_tbl := tm5 168 (by rfl)
theorem cal_X8_rockBy : CalC yX8_rockBy cX8_rockBy 4 (some .int) 1 := calc_of tw_1128 tw_14 (by decide +kernel)
theorem tw_1127 : Cond.instanceMethod yX8_rockBy ∈ lw_tbl := tm5 167 (by decide +kernel)
theorem tp_93 : Cond.selects RX8 yX8_rockBy yX8_rockBy ∈ lw_tbl := pm (q := (yX8_rockBy, _)) 93 (by first | rfl | decide +kernel)
theorem tw_1134 : Cond.constantLong RX8 291 (30) ∈ lw_tbl := tm5 174 (by decide +kernel)
theorem tw_1139 : Cond.constantLong RX8 293 (99) ∈ lw_tbl := tm5 179 (by decide +kernel)
theorem fp_X8_X8_radius {v : VmT} {l : Launch} {g : CxT} {k nL pc n : Nat} {cc : ByteArray} {ret : Option FieldType} {L : List (Nat × Value)} {st : List Value} {S : Mem} (ok : Ok l g (oM v) nL cc RX8 ret) {x : Int32} (hd : decode cc pc = .ok (.putfield 26, 3)) (hn : pc + 3 = n) (h : G g (oM v) k nL n L st (mset S 0 (upd (S 0) 5 x))) : G g (oM v) k nL pc L (.int x :: .ref (v.1 0) :: st) S :=
  g_put (ty := .int) ok (C := RX8) (T := TX8) (N := 46) (ci := 7) (c := 0) (fk := 5) (Nat.le_of_ble_eq_true rfl) rfl rfl (by decide) rfl wlX8 tw_844 tyX8_ok nmX8 rfl (by decide +kernel) rfl rfl (Nat.le_of_ble_eq_true rfl) rfl hd hn h
theorem fp_X8_X8_place {v : VmT} {l : Launch} {g : CxT} {k nL pc n : Nat} {cc : ByteArray} {ret : Option FieldType} {L : List (Nat × Value)} {st : List Value} {S : Mem} (ok : Ok l g (oM v) nL cc RX8 ret) {x : Int32} (hd : decode cc pc = .ok (.putfield 22, 3)) (hn : pc + 3 = n) (h : G g (oM v) k nL n L st (mset S 0 (upd (S 0) 4 x))) : G g (oM v) k nL pc L (.int x :: .ref (v.1 0) :: st) S :=
  g_put (ty := .int) ok (C := RX8) (T := TX8) (N := 46) (ci := 7) (c := 0) (fk := 4) (Nat.le_of_ble_eq_true rfl) rfl rfl (by decide) rfl wlX8 tw_843 tyX8_ok nmX8 rfl (by decide +kernel) rfl rfl (Nat.le_of_ble_eq_true rfl) rfl hd hn h
theorem tw_1152 : Cond.methodLink RX8 295 yX8_became ∈ lw_tbl := tm5 192 (by decide +kernel)
theorem tw_1155 : Cond.code yX8_became cX8_became 5 (some .int) ∈ lw_tbl := tm5 195 (by rfl)
theorem cal_X8_became : CalC yX8_became cX8_became 5 (some .int) 3 := calc_of tw_1155 tw_14 (by decide +kernel)
theorem tw_1154 : Cond.instanceMethod yX8_became ∈ lw_tbl := tm5 194 (by decide +kernel)
theorem tp_94 : Cond.selects RX8 yX8_became yX8_became ∈ lw_tbl := pm (q := (yX8_became, _)) 94 (by first | rfl | decide +kernel)
theorem tw_1160 : Cond.constantLong RX8 298 (6) ∈ lw_tbl := tm5 200 (by decide +kernel)
theorem tw_879 : Cond.fieldLink RX8 303 RX8 "imageAt" "I" ∈ lw_tbl := tm4 159 (by decide +kernel)
theorem fg_X8_X8_imageAt {v : VmT} {l : Launch} {g : CxT} {k nL pc n : Nat} {cc : ByteArray} {ret : Option FieldType} {L : List (Nat × Value)} {st : List Value} {S : Mem} (ok : Ok l g (oM v) nL cc RX8 ret) (hd : decode cc pc = .ok (.getfield 303, 3)) (hn : pc + 3 = n) (h : G g (oM v) k nL n L (.int (S 0 40) :: st) S) : G g (oM v) k nL pc L (.ref (v.1 0) :: st) S := g_get ok (C := RX8) (T := TX8) (N := 46) (ci := 7) (c := 0) (fk := 40) (Nat.le_of_ble_eq_true rfl) rfl rfl (by decide) rfl wlX8 tw_879 rfl hd hn h
theorem fp_X8_X8_imageAt {v : VmT} {l : Launch} {g : CxT} {k nL pc n : Nat} {cc : ByteArray} {ret : Option FieldType} {L : List (Nat × Value)} {st : List Value} {S : Mem} (ok : Ok l g (oM v) nL cc RX8 ret) {x : Int32} (hd : decode cc pc = .ok (.putfield 303, 3)) (hn : pc + 3 = n) (h : G g (oM v) k nL n L st (mset S 0 (upd (S 0) 40 x))) : G g (oM v) k nL pc L (.int x :: .ref (v.1 0) :: st) S :=
  g_put (ty := .int) ok (C := RX8) (T := TX8) (N := 46) (ci := 7) (c := 0) (fk := 40) (Nat.le_of_ble_eq_true rfl) rfl rfl (by decide) rfl wlX8 tw_879 tyX8_ok nmX8 rfl (by decide +kernel) rfl rfl (Nat.le_of_ble_eq_true rfl) rfl hd hn h
theorem tw_878 : Cond.fieldLink RX8 62 RX8 "imaged" "[I" ∈ lw_tbl := tm4 158 (by decide +kernel)
theorem fg_X8_X8_imaged {v : VmT} {l : Launch} {g : CxT} {k nL pc n : Nat} {cc : ByteArray} {ret : Option FieldType} {L : List (Nat × Value)} {st : List Value} {S : Mem} (ok : Ok l g (oM v) nL cc RX8 ret) (hd : decode cc pc = .ok (.getfield 62, 3)) (hn : pc + 3 = n) (h : G g (oM v) k nL n L (.ref (v.1 16) :: st) S) : G g (oM v) k nL pc L (.ref (v.1 0) :: st) S := g_get ok (C := RX8) (T := TX8) (N := 46) (ci := 7) (c := 0) (fk := 39) (Nat.le_of_ble_eq_true rfl) rfl rfl (by decide) rfl wlX8 tw_878 rfl hd hn h
theorem tw_880 : Cond.fieldLink RX8 300 RX8 "isTaking" "Z" ∈ lw_tbl := tm4 160 (by decide +kernel)
theorem fg_X8_X8_isTaking {v : VmT} {l : Launch} {g : CxT} {k nL pc n : Nat} {cc : ByteArray} {ret : Option FieldType} {L : List (Nat × Value)} {st : List Value} {S : Mem} (ok : Ok l g (oM v) nL cc RX8 ret) (hd : decode cc pc = .ok (.getfield 300, 3)) (hn : pc + 3 = n) (h : G g (oM v) k nL n L (.int (S 0 41) :: st) S) : G g (oM v) k nL pc L (.ref (v.1 0) :: st) S := g_get ok (C := RX8) (T := TX8) (N := 46) (ci := 7) (c := 0) (fk := 41) (Nat.le_of_ble_eq_true rfl) rfl rfl (by decide) rfl wlX8 tw_880 rfl hd hn h
theorem tw_1169 : Cond.methodLink RX8 306 yX8_carry ∈ lw_tbl := tm5 209 (by decide +kernel)
theorem tw_1172 : Cond.code yX8_carry cX8_carry 2 (some .int) ∈ lw_tbl := tm5 212 (by rfl)
theorem cal_X8_carry : CalC yX8_carry cX8_carry 2 (some .int) 1 := calc_of tw_1172 tw_14 (by decide +kernel)
theorem tw_1171 : Cond.instanceMethod yX8_carry ∈ lw_tbl := tm5 211 (by decide +kernel)
theorem tp_96 : Cond.selects RX8 yX8_carry yX8_carry ∈ lw_tbl := pm (q := (yX8_carry, _)) 96 (by first | rfl | decide +kernel)
theorem tw_877 : Cond.fieldLink RX8 309 RX8 "hasImage" "Z" ∈ lw_tbl := tm4 157 (by decide +kernel)
theorem fp_X8_X8_hasImage {v : VmT} {l : Launch} {g : CxT} {k nL pc n : Nat} {cc : ByteArray} {ret : Option FieldType} {L : List (Nat × Value)} {st : List Value} {S : Mem} (ok : Ok l g (oM v) nL cc RX8 ret) {x : Int32} (hz : x = 0 ∨ x = 1) (hd : decode cc pc = .ok (.putfield 309, 3)) (hn : pc + 3 = n) (h : G g (oM v) k nL n L st (mset S 0 (upd (S 0) 38 x))) : G g (oM v) k nL pc L (.int x :: .ref (v.1 0) :: st) S :=
  g_put (ty := .boolean) ok (C := RX8) (T := TX8) (N := 46) (ci := 7) (c := 0) (fk := 38) (Nat.le_of_ble_eq_true rfl) rfl rfl (by decide) rfl wlX8 tw_877 tyX8_ok nmX8 rfl (by decide +kernel) (by rcases hz with rfl | rfl <;> decide) (by rcases hz with rfl | rfl <;> decide) (Nat.le_of_ble_eq_true rfl) rfl hd hn h
theorem fp_X8_X8_isTaking {v : VmT} {l : Launch} {g : CxT} {k nL pc n : Nat} {cc : ByteArray} {ret : Option FieldType} {L : List (Nat × Value)} {st : List Value} {S : Mem} (ok : Ok l g (oM v) nL cc RX8 ret) {x : Int32} (hz : x = 0 ∨ x = 1) (hd : decode cc pc = .ok (.putfield 300, 3)) (hn : pc + 3 = n) (h : G g (oM v) k nL n L st (mset S 0 (upd (S 0) 41 x))) : G g (oM v) k nL pc L (.int x :: .ref (v.1 0) :: st) S :=
  g_put (ty := .boolean) ok (C := RX8) (T := TX8) (N := 46) (ci := 7) (c := 0) (fk := 41) (Nat.le_of_ble_eq_true rfl) rfl rfl (by decide) rfl wlX8 tw_880 tyX8_ok nmX8 rfl (by decide +kernel) (by rcases hz with rfl | rfl <;> decide) (by rcases hz with rfl | rfl <;> decide) (Nat.le_of_ble_eq_true rfl) rfl hd hn h
theorem tw_1165 : Cond.methodLink RX8 312 yX8_carryAll ∈ lw_tbl := tm5 205 (by decide +kernel)
theorem tw_1168 : Cond.code yX8_carryAll cX8_carryAll 2 none ∈ lw_tbl := tm5 208 (by rfl)
theorem cal_X8_carryAll : CalC yX8_carryAll cX8_carryAll 2 none 0 := calc_of tw_1168 tw_14 (by decide +kernel)
theorem tw_1167 : Cond.instanceMethod yX8_carryAll ∈ lw_tbl := tm5 207 (by decide +kernel)
theorem tp_95 : Cond.selects RX8 yX8_carryAll yX8_carryAll ∈ lw_tbl := pm (q := (yX8_carryAll, _)) 95 (by first | rfl | decide +kernel)
theorem fg_X8_X8_hasImage {v : VmT} {l : Launch} {g : CxT} {k nL pc n : Nat} {cc : ByteArray} {ret : Option FieldType} {L : List (Nat × Value)} {st : List Value} {S : Mem} (ok : Ok l g (oM v) nL cc RX8 ret) (hd : decode cc pc = .ok (.getfield 309, 3)) (hn : pc + 3 = n) (h : G g (oM v) k nL n L (.int (S 0 38) :: st) S) : G g (oM v) k nL pc L (.ref (v.1 0) :: st) S := g_get ok (C := RX8) (T := TX8) (N := 46) (ci := 7) (c := 0) (fk := 38) (Nat.le_of_ble_eq_true rfl) rfl rfl (by decide) rfl wlX8 tw_877 rfl hd hn h
theorem tw_1185 : Cond.constantLong RX8 315 (-1) ∈ lw_tbl := tm5 225 (by decide +kernel)
theorem tw_884 : Cond.fieldLink RX8 74 RX8 "between" "[I" ∈ lw_tbl := tm4 164 (by decide +kernel)
theorem fg_X8_X8_between {v : VmT} {l : Launch} {g : CxT} {k nL pc n : Nat} {cc : ByteArray} {ret : Option FieldType} {L : List (Nat × Value)} {st : List Value} {S : Mem} (ok : Ok l g (oM v) nL cc RX8 ret) (hd : decode cc pc = .ok (.getfield 74, 3)) (hn : pc + 3 = n) (h : G g (oM v) k nL n L (.ref (v.1 20) :: st) S) : G g (oM v) k nL pc L (.ref (v.1 0) :: st) S := g_get ok (C := RX8) (T := TX8) (N := 46) (ci := 7) (c := 0) (fk := 45) (Nat.le_of_ble_eq_true rfl) rfl rfl (by decide) rfl wlX8 tw_884 rfl hd hn h
theorem tw_1198 : Cond.constantLong RX8 317 (20) ∈ lw_tbl := tm5 238 (by decide +kernel)
theorem tw_196 : Cond.fieldLink RJ0 38 RJ0 "COMPACT_STRINGS" "Z" ∈ lw_tbl := tm1 196 (by decide +kernel)
theorem tw_1204 : Cond.fieldLink RJ0 15 RJ0 "coder" "B" ∈ lw_tbl := tm6 4 (by decide +kernel)
theorem tw_1203 : Cond.fieldLink RJ0 9 RJ0 "value" "[B" ∈ lw_tbl := tm6 3 (by decide +kernel)
theorem tw_195 : Cond.code yJ0_coder_7d493 cJ0_coder_7d493 1 (some .byte) ∈ lw_tbl := tm1 195 (by rfl)
theorem cal_J0_coder_7d493 : CalC yJ0_coder_7d493 cJ0_coder_7d493 1 (some .byte) 0 := calc_of tw_195 tw_8 (by decide +kernel)
theorem tw_192 : Cond.methodLink RJ0 335 yJ0_coder_7d493 ∈ lw_tbl := tm1 192 (by decide +kernel)
theorem tw_193 : Cond.instanceMethod yJ0_coder_7d493 ∈ lw_tbl := tm1 193 (by decide +kernel)
theorem tw_194 : Cond.selects RJ0 yJ0_coder_7d493 yJ0_coder_7d493 ∈ lw_tbl := tm1 194 (by decide +kernel)
theorem tw_212 : Cond.fieldLink RJ0 1053 RJ3 "SIOOBE_FORMATTER" "Ljava/util/function/BiFunction;" ∈ lw_tbl := tm1 212 (by decide +kernel)
theorem tw_216 : Cond.code yJ3_checkIndex_8e157 cJ3_checkIndex_8e157 3 (some .int) ∈ lw_tbl := tm1 216 (by rfl)
theorem tw_10 : Cond.initialized RJ3 ∈ lw_tbl := tm1 10 (by decide +kernel)
theorem cal_J3_checkIndex_8e157 : CalC yJ3_checkIndex_8e157 cJ3_checkIndex_8e157 3 (some .int) 3 := calc_of tw_216 tw_10 (by decide +kernel)
theorem tw_214 : Cond.methodLink RJ0 1059 yJ3_checkIndex_8e157 ∈ lw_tbl := tm1 214 (by decide +kernel)
theorem tw_215 : Cond.static yJ3_checkIndex_8e157 ∈ lw_tbl := tm1 215 (by decide +kernel)
theorem tw_211 : Cond.code yJ0_checkIndex_df160 cJ0_checkIndex_df160 2 none ∈ lw_tbl := tm1 211 (by rfl)
theorem cal_J0_checkIndex_df160 : CalC yJ0_checkIndex_df160 cJ0_checkIndex_df160 2 none 2 := calc_of tw_211 tw_8 (by decide +kernel)
theorem tw_209 : Cond.methodLink RJ1 9 yJ0_checkIndex_df160 ∈ lw_tbl := tm1 209 (by decide +kernel)
theorem tw_210 : Cond.static yJ0_checkIndex_df160 ∈ lw_tbl := tm1 210 (by decide +kernel)
theorem tw_205 : Cond.code yJ0_isLatin1_aae02 cJ0_isLatin1_aae02 1 (some .boolean) ∈ lw_tbl := tm1 205 (by rfl)
theorem cal_J0_isLatin1_aae02 : CalC yJ0_isLatin1_aae02 cJ0_isLatin1_aae02 1 (some .boolean) 0 := calc_of tw_205 tw_8 (by decide +kernel)
theorem tw_202 : Cond.methodLink RJ0 492 yJ0_isLatin1_aae02 ∈ lw_tbl := tm1 202 (by decide +kernel)
theorem tw_203 : Cond.instanceMethod yJ0_isLatin1_aae02 ∈ lw_tbl := tm1 203 (by decide +kernel)
theorem tw_204 : Cond.selects RJ0 yJ0_isLatin1_aae02 yJ0_isLatin1_aae02 ∈ lw_tbl := tm1 204 (by decide +kernel)
theorem tw_208 : Cond.code yJ1_charAt_3b067 cJ1_charAt_3b067 2 (some .char) ∈ lw_tbl := tm1 208 (by rfl)
theorem tw_9 : Cond.initialized RJ1 ∈ lw_tbl := tm1 9 (by decide +kernel)
theorem cal_J1_charAt_3b067 : CalC yJ1_charAt_3b067 cJ1_charAt_3b067 2 (some .char) 2 := calc_of tw_208 tw_9 (by decide +kernel)
theorem tw_206 : Cond.methodLink RJ0 495 yJ1_charAt_3b067 ∈ lw_tbl := tm1 206 (by decide +kernel)
theorem tw_207 : Cond.static yJ1_charAt_3b067 ∈ lw_tbl := tm1 207 (by decide +kernel)
theorem tw_36 : Cond.methodLink RX0 3 objectInit ∈ lw_tbl := tm1 36 (by decide +kernel)
theorem tw_94 : Cond.methodLink RX2 3 objectInit ∈ lw_tbl := tm1 94 (by decide +kernel)
theorem tw_88 : Cond.methodLink RX1 3 objectInit ∈ lw_tbl := tm1 88 (by decide +kernel)
theorem tw_89 : Cond.classLink RX1 15 RX2 ∈ lw_tbl := tm1 89 (by decide +kernel)
theorem tw_90 : Cond.instantiable RX2 3 ∈ lw_tbl := tm1 90 (by decide +kernel)
theorem tw_91 : Cond.methodLinkNest RX1 17 yX2_init RX7 ∈ lw_tbl := tm1 91 (by decide +kernel)
theorem tw_93 : Cond.code yX2_init cX2_init 1 none ∈ lw_tbl := tm1 93 (by rfl)
theorem cal_X2_init : CalC yX2_init cX2_init 1 none 0 := calc_of tw_93 tw_5 (by decide +kernel)
theorem tw_92 : Cond.instanceMethod yX2_init ∈ lw_tbl := tm1 92 (by decide +kernel)
theorem tw_173 : Cond.methodLink RX3 3 objectInit ∈ lw_tbl := tm1 173 (by decide +kernel)
theorem tw_140 : Cond.methodLink RX4 3 objectInit ∈ lw_tbl := tm1 140 (by decide +kernel)
theorem tw_29 : Cond.methodLink RX5 3 objectInit ∈ lw_tbl := tm1 29 (by decide +kernel)
theorem tw_30 : Cond.classLink RX5 15 RX0 ∈ lw_tbl := tm1 30 (by decide +kernel)
theorem tw_32 : Cond.instantiable RX0 3 ∈ lw_tbl := tm1 32 (by decide +kernel)
theorem tw_33 : Cond.methodLinkNest RX5 37 yX0_init RX7 ∈ lw_tbl := tm1 33 (by decide +kernel)
theorem tw_35 : Cond.code yX0_init cX0_init 1 none ∈ lw_tbl := tm1 35 (by rfl)
theorem cal_X0_init : CalC yX0_init cX0_init 1 none 0 := calc_of tw_35 tw_3 (by decide +kernel)
theorem tw_34 : Cond.instanceMethod yX0_init ∈ lw_tbl := tm1 34 (by decide +kernel)
theorem tw_188 : Cond.methodLink RX7 57 yJ0_length_8abf5 ∈ lw_tbl := tm1 188 (by decide +kernel)
theorem tw_240 : Cond.methodLink RX7 71 yX7_text ∈ lw_tbl := tm2 0 (by decide +kernel)
theorem tw_243 : Cond.code yX7_text cX7_text 2 (some .int) ∈ lw_tbl := tm2 3 (by rfl)
theorem cal_X7_text : CalC yX7_text cX7_text 2 (some .int) 0 := calc_of tw_243 tw_1 (by decide +kernel)
theorem tw_241 : Cond.instanceMethod yX7_text ∈ lw_tbl := tm2 1 (by decide +kernel)
theorem tw_242 : Cond.selects RX7 yX7_text yX7_text ∈ lw_tbl := tm2 2 (by decide +kernel)
theorem tw_198 : Cond.methodLink RX7 63 yJ0_charAt_5068e ∈ lw_tbl := tm1 198 (by decide +kernel)
theorem tw_21 : Cond.methodLink RX7 1 objectInit ∈ lw_tbl := tm1 21 (by decide +kernel)
theorem tw_24 : Cond.classLink RX7 7 RX5 ∈ lw_tbl := tm1 24 (by decide +kernel)
theorem tw_25 : Cond.instantiable RX5 7 ∈ lw_tbl := tm1 25 (by decide +kernel)
theorem tw_26 : Cond.methodLinkNest RX7 9 yX5_init RX7 ∈ lw_tbl := tm1 26 (by decide +kernel)
theorem tw_28 : Cond.code yX5_init cX5_init 2 none ∈ lw_tbl := tm1 28 (by rfl)
theorem cal_X5_init : CalC yX5_init cX5_init 2 none 0 := calc_of tw_28 tw_2 (by decide +kernel)
theorem tw_27 : Cond.instanceMethod yX5_init ∈ lw_tbl := tm1 27 (by decide +kernel)
theorem tw_83 : Cond.classLink RX7 23 RX1 ∈ lw_tbl := tm1 83 (by decide +kernel)
theorem tw_84 : Cond.instantiable RX1 8 ∈ lw_tbl := tm1 84 (by decide +kernel)
theorem tw_85 : Cond.methodLinkNest RX7 25 yX1_init RX7 ∈ lw_tbl := tm1 85 (by decide +kernel)
theorem tw_87 : Cond.code yX1_init cX1_init 1 none ∈ lw_tbl := tm1 87 (by rfl)
theorem cal_X1_init : CalC yX1_init cX1_init 1 none 0 := calc_of tw_87 tw_4 (by decide +kernel)
theorem tw_86 : Cond.instanceMethod yX1_init ∈ lw_tbl := tm1 86 (by decide +kernel)
theorem tw_133 : Cond.classLink RX7 30 RX2 ∈ lw_tbl := tm1 133 (by decide +kernel)
theorem tw_135 : Cond.classLink RX7 40 RX4 ∈ lw_tbl := tm1 135 (by decide +kernel)
theorem tw_136 : Cond.instantiable RX4 7 ∈ lw_tbl := tm1 136 (by decide +kernel)
theorem tw_137 : Cond.methodLinkNest RX7 42 yX4_init RX7 ∈ lw_tbl := tm1 137 (by decide +kernel)
theorem tw_139 : Cond.code yX4_init cX4_init 1 none ∈ lw_tbl := tm1 139 (by rfl)
theorem cal_X4_init : CalC yX4_init cX4_init 1 none 0 := calc_of tw_139 tw_6 (by decide +kernel)
theorem tw_138 : Cond.instanceMethod yX4_init ∈ lw_tbl := tm1 138 (by decide +kernel)
theorem tw_166 : Cond.classLink RX7 47 RX3 ∈ lw_tbl := tm1 166 (by decide +kernel)
theorem tw_168 : Cond.methodLinkNest RX7 53 yX2_init RX7 ∈ lw_tbl := tm1 168 (by decide +kernel)
theorem tw_169 : Cond.instantiable RX3 3 ∈ lw_tbl := tm1 169 (by decide +kernel)
theorem tw_170 : Cond.methodLinkNest RX7 54 yX3_init RX7 ∈ lw_tbl := tm1 170 (by decide +kernel)
theorem tw_172 : Cond.code yX3_init cX3_init 1 none ∈ lw_tbl := tm1 172 (by rfl)
theorem cal_X3_init : CalC yX3_init cX3_init 1 none 0 := calc_of tw_172 tw_7 (by decide +kernel)
theorem tw_171 : Cond.instanceMethod yX3_init ∈ lw_tbl := tm1 171 (by decide +kernel)
theorem tw_848 : Cond.fieldLink RX8 29 RX8 "firstText" "[I" ∈ lw_tbl := tm4 128 (by decide +kernel)
theorem fg_X8_X8_firstText {v : VmT} {l : Launch} {g : CxT} {k nL pc n : Nat} {cc : ByteArray} {ret : Option FieldType} {L : List (Nat × Value)} {st : List Value} {S : Mem} (ok : Ok l g (oM v) nL cc RX8 ret) (hd : decode cc pc = .ok (.getfield 29, 3)) (hn : pc + 3 = n) (h : G g (oM v) k nL n L (.ref (v.1 5) :: st) S) : G g (oM v) k nL pc L (.ref (v.1 0) :: st) S := g_get ok (C := RX8) (T := TX8) (N := 46) (ci := 7) (c := 0) (fk := 9) (Nat.le_of_ble_eq_true rfl) rfl rfl (by decide) rfl wlX8 tw_848 rfl hd hn h
theorem tw_756 : Cond.methodLink RX8 1 objectInit ∈ lw_tbl := tm4 36 (by decide +kernel)
theorem tw_369 : Cond.methodLink RL 13 yX7_floor ∈ lw_tbl := tm2 129 (by decide +kernel)
theorem tw_1138 : Cond.code yX8_floor cX8_floor 4 (some .int) ∈ lw_tbl := tm5 178 (by rfl)
theorem cal_X8_floor : CalC yX8_floor cX8_floor 4 (some .int) 2 := calc_of tw_1138 tw_14 (by decide +kernel)
theorem tw_1135 : Cond.methodLink RL 17 yX8_floor ∈ lw_tbl := tm5 175 (by decide +kernel)
theorem tw_1136 : Cond.instanceMethod yX8_floor ∈ lw_tbl := tm5 176 (by decide +kernel)
theorem tw_1137 : Cond.selects RX8 yX8_floor yX8_floor ∈ lw_tbl := tm5 177 (by decide +kernel)
theorem tw_377 : Cond.code yX7_wave cX7_wave 8 (some .int) ∈ lw_tbl := tm2 137 (by rfl)
theorem cal_X7_wave : CalC yX7_wave cX7_wave 8 (some .int) 3 := calc_of tw_377 tw_1 (by decide +kernel)
theorem tw_374 : Cond.methodLink RL 18 yX7_wave ∈ lw_tbl := tm2 134 (by decide +kernel)
theorem tw_375 : Cond.instanceMethod yX7_wave ∈ lw_tbl := tm2 135 (by decide +kernel)
theorem tw_376 : Cond.selects RX7 yX7_wave yX7_wave ∈ lw_tbl := tm2 136 (by decide +kernel)
theorem tw_1143 : Cond.code yX8_wave cX8_wave 6 (some .int) ∈ lw_tbl := tm5 183 (by rfl)
theorem cal_X8_wave : CalC yX8_wave cX8_wave 6 (some .int) 3 := calc_of tw_1143 tw_14 (by decide +kernel)
theorem tw_1140 : Cond.methodLink RL 22 yX8_wave ∈ lw_tbl := tm5 180 (by decide +kernel)
theorem tw_1141 : Cond.instanceMethod yX8_wave ∈ lw_tbl := tm5 181 (by decide +kernel)
theorem tw_1142 : Cond.selects RX8 yX8_wave yX8_wave ∈ lw_tbl := tm5 182 (by decide +kernel)
theorem tw_381 : Cond.code yX7_leg cX7_leg 5 (some .int) ∈ lw_tbl := tm2 141 (by rfl)
theorem cal_X7_leg : CalC yX7_leg cX7_leg 5 (some .int) 3 := calc_of tw_381 tw_1 (by decide +kernel)
theorem tw_378 : Cond.methodLink RL 23 yX7_leg ∈ lw_tbl := tm2 138 (by decide +kernel)
theorem tw_379 : Cond.instanceMethod yX7_leg ∈ lw_tbl := tm2 139 (by decide +kernel)
theorem tw_380 : Cond.selects RX7 yX7_leg yX7_leg ∈ lw_tbl := tm2 140 (by decide +kernel)
theorem tw_1147 : Cond.code yX8_leg cX8_leg 5 (some .int) ∈ lw_tbl := tm5 187 (by rfl)
theorem cal_X8_leg : CalC yX8_leg cX8_leg 5 (some .int) 3 := calc_of tw_1147 tw_14 (by decide +kernel)
theorem tw_1144 : Cond.methodLink RL 26 yX8_leg ∈ lw_tbl := tm5 184 (by decide +kernel)
theorem tw_1145 : Cond.instanceMethod yX8_leg ∈ lw_tbl := tm5 185 (by decide +kernel)
theorem tw_1146 : Cond.selects RX8 yX8_leg yX8_leg ∈ lw_tbl := tm5 186 (by decide +kernel)
theorem tw_391 : Cond.code yX7_set cX7_set 4 (some .int) ∈ lw_tbl := tm2 151 (by rfl)
theorem cal_X7_set : CalC yX7_set cX7_set 4 (some .int) 3 := calc_of tw_391 tw_1 (by decide +kernel)
theorem tw_388 : Cond.methodLink RL 27 yX7_set ∈ lw_tbl := tm2 148 (by decide +kernel)
theorem tw_389 : Cond.instanceMethod yX7_set ∈ lw_tbl := tm2 149 (by decide +kernel)
theorem tw_390 : Cond.selects RX7 yX7_set yX7_set ∈ lw_tbl := tm2 150 (by decide +kernel)
theorem tw_1151 : Cond.code yX8_set cX8_set 6 (some .int) ∈ lw_tbl := tm5 191 (by rfl)
theorem cal_X8_set : CalC yX8_set cX8_set 6 (some .int) 3 := calc_of tw_1151 tw_14 (by decide +kernel)
theorem tw_1148 : Cond.methodLink RL 30 yX8_set ∈ lw_tbl := tm5 188 (by decide +kernel)
theorem tw_1149 : Cond.instanceMethod yX8_set ∈ lw_tbl := tm5 189 (by decide +kernel)
theorem tw_1150 : Cond.selects RX8 yX8_set yX8_set ∈ lw_tbl := tm5 190 (by decide +kernel)
theorem tw_403 : Cond.code yX7_told cX7_told 3 (some .int) ∈ lw_tbl := tm2 163 (by rfl)
theorem cal_X7_told : CalC yX7_told cX7_told 3 (some .int) 2 := calc_of tw_403 tw_1 (by decide +kernel)
theorem tw_400 : Cond.methodLink RL 31 yX7_told ∈ lw_tbl := tm2 160 (by decide +kernel)
theorem tw_401 : Cond.instanceMethod yX7_told ∈ lw_tbl := tm2 161 (by decide +kernel)
theorem tw_402 : Cond.selects RX7 yX7_told yX7_told ∈ lw_tbl := tm2 162 (by decide +kernel)
theorem tw_1159 : Cond.code yX8_told cX8_told 3 (some .int) ∈ lw_tbl := tm5 199 (by rfl)
theorem cal_X8_told : CalC yX8_told cX8_told 3 (some .int) 2 := calc_of tw_1159 tw_14 (by decide +kernel)
theorem tw_1156 : Cond.methodLink RL 34 yX8_told ∈ lw_tbl := tm5 196 (by decide +kernel)
theorem tw_1157 : Cond.instanceMethod yX8_told ∈ lw_tbl := tm5 197 (by decide +kernel)
theorem tw_1158 : Cond.selects RX8 yX8_told yX8_told ∈ lw_tbl := tm5 198 (by decide +kernel)
theorem tw_445 : Cond.code yX7_feed cX7_feed 2 (some .int) ∈ lw_tbl := tm2 205 (by rfl)
theorem cal_X7_feed : CalC yX7_feed cX7_feed 2 (some .int) 1 := calc_of tw_445 tw_1 (by decide +kernel)
theorem tw_442 : Cond.methodLink RL 35 yX7_feed ∈ lw_tbl := tm2 202 (by decide +kernel)
theorem tw_443 : Cond.instanceMethod yX7_feed ∈ lw_tbl := tm2 203 (by decide +kernel)
theorem tw_444 : Cond.selects RX7 yX7_feed yX7_feed ∈ lw_tbl := tm2 204 (by decide +kernel)
theorem tw_981 : Cond.code yX8_feed cX8_feed 2 (some .int) ∈ lw_tbl := tm5 21 (by rfl)
theorem cal_X8_feed : CalC yX8_feed cX8_feed 2 (some .int) 1 := calc_of tw_981 tw_14 (by decide +kernel)
theorem tw_978 : Cond.methodLink RL 39 yX8_feed ∈ lw_tbl := tm5 18 (by decide +kernel)
theorem tw_979 : Cond.instanceMethod yX8_feed ∈ lw_tbl := tm5 19 (by decide +kernel)
theorem tw_980 : Cond.selects RX8 yX8_feed yX8_feed ∈ lw_tbl := tm5 20 (by decide +kernel)
theorem tw_446 : Cond.methodLink RL 40 yX7_text ∈ lw_tbl := tm2 206 (by decide +kernel)
theorem tw_986 : Cond.code yX8_text cX8_text 2 (some .int) ∈ lw_tbl := tm5 26 (by rfl)
theorem cal_X8_text : CalC yX8_text cX8_text 2 (some .int) 0 := calc_of tw_986 tw_14 (by decide +kernel)
theorem tw_983 : Cond.methodLink RL 44 yX8_text ∈ lw_tbl := tm5 23 (by decide +kernel)
theorem tw_984 : Cond.instanceMethod yX8_text ∈ lw_tbl := tm5 24 (by decide +kernel)
theorem tw_985 : Cond.selects RX8 yX8_text yX8_text ∈ lw_tbl := tm5 25 (by decide +kernel)
theorem tw_450 : Cond.code yX7_force cX7_force 3 (some .int) ∈ lw_tbl := tm2 210 (by rfl)
theorem cal_X7_force : CalC yX7_force cX7_force 3 (some .int) 1 := calc_of tw_450 tw_1 (by decide +kernel)
theorem tw_447 : Cond.methodLink RL 45 yX7_force ∈ lw_tbl := tm2 207 (by decide +kernel)
theorem tw_448 : Cond.instanceMethod yX7_force ∈ lw_tbl := tm2 208 (by decide +kernel)
theorem tw_449 : Cond.selects RX7 yX7_force yX7_force ∈ lw_tbl := tm2 209 (by decide +kernel)
theorem tw_990 : Cond.code yX8_force cX8_force 3 (some .int) ∈ lw_tbl := tm5 30 (by rfl)
theorem cal_X8_force : CalC yX8_force cX8_force 3 (some .int) 1 := calc_of tw_990 tw_14 (by decide +kernel)
theorem tw_987 : Cond.methodLink RL 48 yX8_force ∈ lw_tbl := tm5 27 (by decide +kernel)
theorem tw_988 : Cond.instanceMethod yX8_force ∈ lw_tbl := tm5 28 (by decide +kernel)
theorem tw_989 : Cond.selects RX8 yX8_force yX8_force ∈ lw_tbl := tm5 29 (by decide +kernel)
theorem tw_454 : Cond.code yX7_stands cX7_stands 2 (some .int) ∈ lw_tbl := tm2 214 (by rfl)
theorem cal_X7_stands : CalC yX7_stands cX7_stands 2 (some .int) 1 := calc_of tw_454 tw_1 (by decide +kernel)
theorem tw_451 : Cond.methodLink RL 49 yX7_stands ∈ lw_tbl := tm2 211 (by decide +kernel)
theorem tw_452 : Cond.instanceMethod yX7_stands ∈ lw_tbl := tm2 212 (by decide +kernel)
theorem tw_453 : Cond.selects RX7 yX7_stands yX7_stands ∈ lw_tbl := tm2 213 (by decide +kernel)
theorem tw_994 : Cond.code yX8_stands cX8_stands 2 (some .int) ∈ lw_tbl := tm5 34 (by rfl)
theorem cal_X8_stands : CalC yX8_stands cX8_stands 2 (some .int) 1 := calc_of tw_994 tw_14 (by decide +kernel)
theorem tw_991 : Cond.methodLink RL 52 yX8_stands ∈ lw_tbl := tm5 31 (by decide +kernel)
theorem tw_992 : Cond.instanceMethod yX8_stands ∈ lw_tbl := tm5 32 (by decide +kernel)
theorem tw_993 : Cond.selects RX8 yX8_stands yX8_stands ∈ lw_tbl := tm5 33 (by decide +kernel)
theorem tw_543 : Cond.code yX7_standsAt cX7_standsAt 4 (some .int) ∈ lw_tbl := tm3 63 (by rfl)
theorem cal_X7_standsAt : CalC yX7_standsAt cX7_standsAt 4 (some .int) 3 := calc_of tw_543 tw_1 (by decide +kernel)
theorem tw_540 : Cond.methodLink RL 53 yX7_standsAt ∈ lw_tbl := tm3 60 (by decide +kernel)
theorem tw_541 : Cond.instanceMethod yX7_standsAt ∈ lw_tbl := tm3 61 (by decide +kernel)
theorem tw_542 : Cond.selects RX7 yX7_standsAt yX7_standsAt ∈ lw_tbl := tm3 62 (by decide +kernel)
theorem tw_1038 : Cond.code yX8_standsAt cX8_standsAt 4 (some .int) ∈ lw_tbl := tm5 78 (by rfl)
theorem cal_X8_standsAt : CalC yX8_standsAt cX8_standsAt 4 (some .int) 3 := calc_of tw_1038 tw_14 (by decide +kernel)
theorem tw_1035 : Cond.methodLink RL 56 yX8_standsAt ∈ lw_tbl := tm5 75 (by decide +kernel)
theorem tw_1036 : Cond.instanceMethod yX8_standsAt ∈ lw_tbl := tm5 76 (by decide +kernel)
theorem tw_1037 : Cond.selects RX8 yX8_standsAt yX8_standsAt ∈ lw_tbl := tm5 77 (by decide +kernel)
theorem tw_547 : Cond.code yX7_firm cX7_firm 3 (some .int) ∈ lw_tbl := tm3 67 (by rfl)
theorem cal_X7_firm : CalC yX7_firm cX7_firm 3 (some .int) 0 := calc_of tw_547 tw_1 (by decide +kernel)
theorem tw_544 : Cond.methodLink RL 57 yX7_firm ∈ lw_tbl := tm3 64 (by decide +kernel)
theorem tw_545 : Cond.instanceMethod yX7_firm ∈ lw_tbl := tm3 65 (by decide +kernel)
theorem tw_546 : Cond.selects RX7 yX7_firm yX7_firm ∈ lw_tbl := tm3 66 (by decide +kernel)
theorem tw_1044 : Cond.code yX8_firm cX8_firm 1 (some .int) ∈ lw_tbl := tm5 84 (by rfl)
theorem cal_X8_firm : CalC yX8_firm cX8_firm 1 (some .int) 0 := calc_of tw_1044 tw_14 (by decide +kernel)
theorem tw_1041 : Cond.methodLink RL 60 yX8_firm ∈ lw_tbl := tm5 81 (by decide +kernel)
theorem tw_1042 : Cond.instanceMethod yX8_firm ∈ lw_tbl := tm5 82 (by decide +kernel)
theorem tw_1043 : Cond.selects RX8 yX8_firm yX8_firm ∈ lw_tbl := tm5 83 (by decide +kernel)
theorem tw_559 : Cond.code yX7_fewest cX7_fewest 5 (some .int) ∈ lw_tbl := tm3 79 (by rfl)
theorem cal_X7_fewest : CalC yX7_fewest cX7_fewest 5 (some .int) 1 := calc_of tw_559 tw_1 (by decide +kernel)
theorem tw_556 : Cond.methodLink RL 61 yX7_fewest ∈ lw_tbl := tm3 76 (by decide +kernel)
theorem tw_557 : Cond.instanceMethod yX7_fewest ∈ lw_tbl := tm3 77 (by decide +kernel)
theorem tw_558 : Cond.selects RX7 yX7_fewest yX7_fewest ∈ lw_tbl := tm3 78 (by decide +kernel)
theorem tw_1056 : Cond.code yX8_fewest cX8_fewest 6 (some .int) ∈ lw_tbl := tm5 96 (by rfl)
theorem cal_X8_fewest : CalC yX8_fewest cX8_fewest 6 (some .int) 1 := calc_of tw_1056 tw_14 (by decide +kernel)
theorem tw_1053 : Cond.methodLink RL 64 yX8_fewest ∈ lw_tbl := tm5 93 (by decide +kernel)
theorem tw_1054 : Cond.instanceMethod yX8_fewest ∈ lw_tbl := tm5 94 (by decide +kernel)
theorem tw_1055 : Cond.selects RX8 yX8_fewest yX8_fewest ∈ lw_tbl := tm5 95 (by decide +kernel)
theorem tw_564 : Cond.code yX7_feels cX7_feels 4 (some .int) ∈ lw_tbl := tm3 84 (by rfl)
theorem cal_X7_feels : CalC yX7_feels cX7_feels 4 (some .int) 1 := calc_of tw_564 tw_1 (by decide +kernel)
theorem tw_561 : Cond.methodLink RL 65 yX7_feels ∈ lw_tbl := tm3 81 (by decide +kernel)
theorem tw_562 : Cond.instanceMethod yX7_feels ∈ lw_tbl := tm3 82 (by decide +kernel)
theorem tw_563 : Cond.selects RX7 yX7_feels yX7_feels ∈ lw_tbl := tm3 83 (by decide +kernel)
theorem tw_1060 : Cond.code yX8_feels cX8_feels 5 (some .int) ∈ lw_tbl := tm5 100 (by rfl)
theorem cal_X8_feels : CalC yX8_feels cX8_feels 5 (some .int) 1 := calc_of tw_1060 tw_14 (by decide +kernel)
theorem tw_1057 : Cond.methodLink RL 68 yX8_feels ∈ lw_tbl := tm5 97 (by decide +kernel)
theorem tw_1058 : Cond.instanceMethod yX8_feels ∈ lw_tbl := tm5 98 (by decide +kernel)
theorem tw_1059 : Cond.selects RX8 yX8_feels yX8_feels ∈ lw_tbl := tm5 99 (by decide +kernel)
theorem tw_569 : Cond.code yX7_best cX7_best 6 (some .int) ∈ lw_tbl := tm3 89 (by rfl)
theorem cal_X7_best : CalC yX7_best cX7_best 6 (some .int) 1 := calc_of tw_569 tw_1 (by decide +kernel)
theorem tw_566 : Cond.methodLink RL 69 yX7_best ∈ lw_tbl := tm3 86 (by decide +kernel)
theorem tw_567 : Cond.instanceMethod yX7_best ∈ lw_tbl := tm3 87 (by decide +kernel)
theorem tw_568 : Cond.selects RX7 yX7_best yX7_best ∈ lw_tbl := tm3 88 (by decide +kernel)
theorem tw_1068 : Cond.code yX8_best cX8_best 6 (some .int) ∈ lw_tbl := tm5 108 (by rfl)
theorem cal_X8_best : CalC yX8_best cX8_best 6 (some .int) 1 := calc_of tw_1068 tw_14 (by decide +kernel)
theorem tw_1065 : Cond.methodLink RL 72 yX8_best ∈ lw_tbl := tm5 105 (by decide +kernel)
theorem tw_1066 : Cond.instanceMethod yX8_best ∈ lw_tbl := tm5 106 (by decide +kernel)
theorem tw_1067 : Cond.selects RX8 yX8_best yX8_best ∈ lw_tbl := tm5 107 (by decide +kernel)
theorem tw_577 : Cond.code yX7_turn cX7_turn 2 (some .int) ∈ lw_tbl := tm3 97 (by rfl)
theorem cal_X7_turn : CalC yX7_turn cX7_turn 2 (some .int) 1 := calc_of tw_577 tw_1 (by decide +kernel)
theorem tw_574 : Cond.methodLink RL 73 yX7_turn ∈ lw_tbl := tm3 94 (by decide +kernel)
theorem tw_575 : Cond.instanceMethod yX7_turn ∈ lw_tbl := tm3 95 (by decide +kernel)
theorem tw_576 : Cond.selects RX7 yX7_turn yX7_turn ∈ lw_tbl := tm3 96 (by decide +kernel)
theorem tw_1073 : Cond.code yX8_turn cX8_turn 2 (some .int) ∈ lw_tbl := tm5 113 (by rfl)
theorem cal_X8_turn : CalC yX8_turn cX8_turn 2 (some .int) 1 := calc_of tw_1073 tw_14 (by decide +kernel)
theorem tw_1070 : Cond.methodLink RL 76 yX8_turn ∈ lw_tbl := tm5 110 (by decide +kernel)
theorem tw_1071 : Cond.instanceMethod yX8_turn ∈ lw_tbl := tm5 111 (by decide +kernel)
theorem tw_1072 : Cond.selects RX8 yX8_turn yX8_turn ∈ lw_tbl := tm5 112 (by decide +kernel)
theorem tw_585 : Cond.code yX7_wedge cX7_wedge 3 (some .int) ∈ lw_tbl := tm3 105 (by rfl)
theorem cal_X7_wedge : CalC yX7_wedge cX7_wedge 3 (some .int) 0 := calc_of tw_585 tw_1 (by decide +kernel)
theorem tw_582 : Cond.methodLink RL 77 yX7_wedge ∈ lw_tbl := tm3 102 (by decide +kernel)
theorem tw_583 : Cond.instanceMethod yX7_wedge ∈ lw_tbl := tm3 103 (by decide +kernel)
theorem tw_584 : Cond.selects RX7 yX7_wedge yX7_wedge ∈ lw_tbl := tm3 104 (by decide +kernel)
theorem tw_1078 : Cond.code yX8_wedge cX8_wedge 2 (some .int) ∈ lw_tbl := tm5 118 (by rfl)
theorem cal_X8_wedge : CalC yX8_wedge cX8_wedge 2 (some .int) 0 := calc_of tw_1078 tw_14 (by decide +kernel)
theorem tw_1075 : Cond.methodLink RL 80 yX8_wedge ∈ lw_tbl := tm5 115 (by decide +kernel)
theorem tw_1076 : Cond.instanceMethod yX8_wedge ∈ lw_tbl := tm5 116 (by decide +kernel)
theorem tw_1077 : Cond.selects RX8 yX8_wedge yX8_wedge ∈ lw_tbl := tm5 117 (by decide +kernel)
theorem tw_591 : Cond.code yX7_saw cX7_saw 4 (some .int) ∈ lw_tbl := tm3 111 (by rfl)
theorem cal_X7_saw : CalC yX7_saw cX7_saw 4 (some .int) 0 := calc_of tw_591 tw_1 (by decide +kernel)
theorem tw_588 : Cond.methodLink RL 81 yX7_saw ∈ lw_tbl := tm3 108 (by decide +kernel)
theorem tw_589 : Cond.instanceMethod yX7_saw ∈ lw_tbl := tm3 109 (by decide +kernel)
theorem tw_590 : Cond.selects RX7 yX7_saw yX7_saw ∈ lw_tbl := tm3 110 (by decide +kernel)
theorem tw_1082 : Cond.code yX8_saw cX8_saw 2 (some .int) ∈ lw_tbl := tm5 122 (by rfl)
theorem cal_X8_saw : CalC yX8_saw cX8_saw 2 (some .int) 0 := calc_of tw_1082 tw_14 (by decide +kernel)
theorem tw_1079 : Cond.methodLink RL 84 yX8_saw ∈ lw_tbl := tm5 119 (by decide +kernel)
theorem tw_1080 : Cond.instanceMethod yX8_saw ∈ lw_tbl := tm5 120 (by decide +kernel)
theorem tw_1081 : Cond.selects RX8 yX8_saw yX8_saw ∈ lw_tbl := tm5 121 (by decide +kernel)
theorem tw_599 : Cond.code yX7_screwed cX7_screwed 5 (some .int) ∈ lw_tbl := tm3 119 (by rfl)
theorem cal_X7_screwed : CalC yX7_screwed cX7_screwed 5 (some .int) 0 := calc_of tw_599 tw_1 (by decide +kernel)
theorem tw_596 : Cond.methodLink RL 85 yX7_screwed ∈ lw_tbl := tm3 116 (by decide +kernel)
theorem tw_597 : Cond.instanceMethod yX7_screwed ∈ lw_tbl := tm3 117 (by decide +kernel)
theorem tw_598 : Cond.selects RX7 yX7_screwed yX7_screwed ∈ lw_tbl := tm3 118 (by decide +kernel)
theorem tw_1086 : Cond.code yX8_screwed cX8_screwed 4 (some .int) ∈ lw_tbl := tm5 126 (by rfl)
theorem cal_X8_screwed : CalC yX8_screwed cX8_screwed 4 (some .int) 0 := calc_of tw_1086 tw_14 (by decide +kernel)
theorem tw_1083 : Cond.methodLink RL 88 yX8_screwed ∈ lw_tbl := tm5 123 (by decide +kernel)
theorem tw_1084 : Cond.instanceMethod yX8_screwed ∈ lw_tbl := tm5 124 (by decide +kernel)
theorem tw_1085 : Cond.selects RX8 yX8_screwed yX8_screwed ∈ lw_tbl := tm5 125 (by decide +kernel)
theorem tw_631 : Cond.code yX7_blame cX7_blame 4 (some .int) ∈ lw_tbl := tm3 151 (by rfl)
theorem cal_X7_blame : CalC yX7_blame cX7_blame 4 (some .int) 1 := calc_of tw_631 tw_1 (by decide +kernel)
theorem tw_628 : Cond.methodLink RL 89 yX7_blame ∈ lw_tbl := tm3 148 (by decide +kernel)
theorem tw_629 : Cond.instanceMethod yX7_blame ∈ lw_tbl := tm3 149 (by decide +kernel)
theorem tw_630 : Cond.selects RX7 yX7_blame yX7_blame ∈ lw_tbl := tm3 150 (by decide +kernel)
theorem tw_1095 : Cond.code yX8_blame cX8_blame 4 (some .int) ∈ lw_tbl := tm5 135 (by rfl)
theorem cal_X8_blame : CalC yX8_blame cX8_blame 4 (some .int) 1 := calc_of tw_1095 tw_14 (by decide +kernel)
theorem tw_1092 : Cond.methodLink RL 92 yX8_blame ∈ lw_tbl := tm5 132 (by decide +kernel)
theorem tw_1093 : Cond.instanceMethod yX8_blame ∈ lw_tbl := tm5 133 (by decide +kernel)
theorem tw_1094 : Cond.selects RX8 yX8_blame yX8_blame ∈ lw_tbl := tm5 134 (by decide +kernel)
theorem tw_639 : Cond.code yX7_beside cX7_beside 5 (some .int) ∈ lw_tbl := tm3 159 (by rfl)
theorem cal_X7_beside : CalC yX7_beside cX7_beside 5 (some .int) 1 := calc_of tw_639 tw_1 (by decide +kernel)
theorem tw_636 : Cond.methodLink RL 93 yX7_beside ∈ lw_tbl := tm3 156 (by decide +kernel)
theorem tw_637 : Cond.instanceMethod yX7_beside ∈ lw_tbl := tm3 157 (by decide +kernel)
theorem tw_638 : Cond.selects RX7 yX7_beside yX7_beside ∈ lw_tbl := tm3 158 (by decide +kernel)
theorem tw_1099 : Cond.code yX8_beside cX8_beside 6 (some .int) ∈ lw_tbl := tm5 139 (by rfl)
theorem cal_X8_beside : CalC yX8_beside cX8_beside 6 (some .int) 1 := calc_of tw_1099 tw_14 (by decide +kernel)
theorem tw_1096 : Cond.methodLink RL 96 yX8_beside ∈ lw_tbl := tm5 136 (by decide +kernel)
theorem tw_1097 : Cond.instanceMethod yX8_beside ∈ lw_tbl := tm5 137 (by decide +kernel)
theorem tw_1098 : Cond.selects RX8 yX8_beside yX8_beside ∈ lw_tbl := tm5 138 (by decide +kernel)
theorem tw_647 : Cond.code yX7_sit cX7_sit 4 (some .int) ∈ lw_tbl := tm3 167 (by rfl)
theorem cal_X7_sit : CalC yX7_sit cX7_sit 4 (some .int) 0 := calc_of tw_647 tw_1 (by decide +kernel)
theorem tw_644 : Cond.methodLink RL 97 yX7_sit ∈ lw_tbl := tm3 164 (by decide +kernel)
theorem tw_645 : Cond.instanceMethod yX7_sit ∈ lw_tbl := tm3 165 (by decide +kernel)
theorem tw_646 : Cond.selects RX7 yX7_sit yX7_sit ∈ lw_tbl := tm3 166 (by decide +kernel)
theorem tw_1106 : Cond.code yX8_sit cX8_sit 4 (some .int) ∈ lw_tbl := tm5 146 (by rfl)
theorem cal_X8_sit : CalC yX8_sit cX8_sit 4 (some .int) 0 := calc_of tw_1106 tw_14 (by decide +kernel)
theorem tw_1103 : Cond.methodLink RL 100 yX8_sit ∈ lw_tbl := tm5 143 (by decide +kernel)
theorem tw_1104 : Cond.instanceMethod yX8_sit ∈ lw_tbl := tm5 144 (by decide +kernel)
theorem tw_1105 : Cond.selects RX8 yX8_sit yX8_sit ∈ lw_tbl := tm5 145 (by decide +kernel)
theorem tw_651 : Cond.code yX7_judge cX7_judge 2 (some .int) ∈ lw_tbl := tm3 171 (by rfl)
theorem cal_X7_judge : CalC yX7_judge cX7_judge 2 (some .int) 1 := calc_of tw_651 tw_1 (by decide +kernel)
theorem tw_648 : Cond.methodLink RL 101 yX7_judge ∈ lw_tbl := tm3 168 (by decide +kernel)
theorem tw_649 : Cond.instanceMethod yX7_judge ∈ lw_tbl := tm3 169 (by decide +kernel)
theorem tw_650 : Cond.selects RX7 yX7_judge yX7_judge ∈ lw_tbl := tm3 170 (by decide +kernel)
theorem tw_1110 : Cond.code yX8_judge cX8_judge 2 (some .int) ∈ lw_tbl := tm5 150 (by rfl)
theorem cal_X8_judge : CalC yX8_judge cX8_judge 2 (some .int) 1 := calc_of tw_1110 tw_14 (by decide +kernel)
theorem tw_1107 : Cond.methodLink RL 104 yX8_judge ∈ lw_tbl := tm5 147 (by decide +kernel)
theorem tw_1108 : Cond.instanceMethod yX8_judge ∈ lw_tbl := tm5 148 (by decide +kernel)
theorem tw_1109 : Cond.selects RX8 yX8_judge yX8_judge ∈ lw_tbl := tm5 149 (by decide +kernel)
theorem tw_671 : Cond.code yX7_which cX7_which 5 (some .long) ∈ lw_tbl := tm3 191 (by rfl)
theorem cal_X7_which : CalC yX7_which cX7_which 5 (some .long) 1 := calc_of tw_671 tw_1 (by decide +kernel)
theorem tw_668 : Cond.methodLink RL 105 yX7_which ∈ lw_tbl := tm3 188 (by decide +kernel)
theorem tw_669 : Cond.instanceMethod yX7_which ∈ lw_tbl := tm3 189 (by decide +kernel)
theorem tw_670 : Cond.selects RX7 yX7_which yX7_which ∈ lw_tbl := tm3 190 (by decide +kernel)
theorem tw_1119 : Cond.code yX8_which cX8_which 5 (some .long) ∈ lw_tbl := tm5 159 (by rfl)
theorem cal_X8_which : CalC yX8_which cX8_which 5 (some .long) 1 := calc_of tw_1119 tw_14 (by decide +kernel)
theorem tw_1116 : Cond.methodLink RL 109 yX8_which ∈ lw_tbl := tm5 156 (by decide +kernel)
theorem tw_1117 : Cond.instanceMethod yX8_which ∈ lw_tbl := tm5 157 (by decide +kernel)
theorem tw_1118 : Cond.selects RX8 yX8_which yX8_which ∈ lw_tbl := tm5 158 (by decide +kernel)
theorem tw_673 : Cond.methodLink RL 110 yX7_drawn ∈ lw_tbl := tm3 193 (by decide +kernel)
theorem tw_1124 : Cond.code yX8_drawn cX8_drawn 2 (some .int) ∈ lw_tbl := tm5 164 (by rfl)
theorem cal_X8_drawn : CalC yX8_drawn cX8_drawn 2 (some .int) 1 := calc_of tw_1124 tw_14 (by decide +kernel)
theorem tw_1121 : Cond.methodLink RL 113 yX8_drawn ∈ lw_tbl := tm5 161 (by decide +kernel)
theorem tw_1122 : Cond.instanceMethod yX8_drawn ∈ lw_tbl := tm5 162 (by decide +kernel)
theorem tw_1123 : Cond.selects RX8 yX8_drawn yX8_drawn ∈ lw_tbl := tm5 163 (by decide +kernel)
theorem tw_684 : Cond.code yX7_odds cX7_odds 6 (some .long) ∈ lw_tbl := tm3 204 (by rfl)
theorem cal_X7_odds : CalC yX7_odds cX7_odds 6 (some .long) 3 := calc_of tw_684 tw_1 (by decide +kernel)
theorem tw_681 : Cond.methodLink RL 114 yX7_odds ∈ lw_tbl := tm3 201 (by decide +kernel)
theorem tw_682 : Cond.instanceMethod yX7_odds ∈ lw_tbl := tm3 202 (by decide +kernel)
theorem tw_683 : Cond.selects RX7 yX7_odds yX7_odds ∈ lw_tbl := tm3 203 (by decide +kernel)
theorem tw_1133 : Cond.code yX8_odds cX8_odds 8 (some .long) ∈ lw_tbl := tm5 173 (by rfl)
theorem cal_X8_odds : CalC yX8_odds cX8_odds 8 (some .long) 3 := calc_of tw_1133 tw_14 (by decide +kernel)
theorem tw_1130 : Cond.methodLink RL 118 yX8_odds ∈ lw_tbl := tm5 170 (by decide +kernel)
theorem tw_1131 : Cond.instanceMethod yX8_odds ∈ lw_tbl := tm5 171 (by decide +kernel)
theorem tw_1132 : Cond.selects RX8 yX8_odds yX8_odds ∈ lw_tbl := tm5 172 (by decide +kernel)
theorem tw_692 : Cond.code yX7_image cX7_image 1 (some .int) ∈ lw_tbl := tm3 212 (by rfl)
theorem cal_X7_image : CalC yX7_image cX7_image 1 (some .int) 0 := calc_of tw_692 tw_1 (by decide +kernel)
theorem tw_689 : Cond.methodLink RL 119 yX7_image ∈ lw_tbl := tm3 209 (by decide +kernel)
theorem tw_690 : Cond.instanceMethod yX7_image ∈ lw_tbl := tm3 210 (by decide +kernel)
theorem tw_691 : Cond.selects RX7 yX7_image yX7_image ∈ lw_tbl := tm3 211 (by decide +kernel)
theorem tw_1164 : Cond.code yX8_image cX8_image 1 (some .int) ∈ lw_tbl := tm5 204 (by rfl)
theorem cal_X8_image : CalC yX8_image cX8_image 1 (some .int) 0 := calc_of tw_1164 tw_14 (by decide +kernel)
theorem tw_1161 : Cond.methodLink RL 122 yX8_image ∈ lw_tbl := tm5 201 (by decide +kernel)
theorem tw_1162 : Cond.instanceMethod yX8_image ∈ lw_tbl := tm5 202 (by decide +kernel)
theorem tw_1163 : Cond.selects RX8 yX8_image yX8_image ∈ lw_tbl := tm5 203 (by decide +kernel)
theorem tw_701 : Cond.code yX7_back cX7_back 1 (some .int) ∈ lw_tbl := tm3 221 (by rfl)
theorem cal_X7_back : CalC yX7_back cX7_back 1 (some .int) 0 := calc_of tw_701 tw_1 (by decide +kernel)
theorem tw_698 : Cond.methodLink RL 123 yX7_back ∈ lw_tbl := tm3 218 (by decide +kernel)
theorem tw_699 : Cond.instanceMethod yX7_back ∈ lw_tbl := tm3 219 (by decide +kernel)
theorem tw_700 : Cond.selects RX7 yX7_back yX7_back ∈ lw_tbl := tm3 220 (by decide +kernel)
theorem tw_1176 : Cond.code yX8_back cX8_back 1 (some .int) ∈ lw_tbl := tm5 216 (by rfl)
theorem cal_X8_back : CalC yX8_back cX8_back 1 (some .int) 0 := calc_of tw_1176 tw_14 (by decide +kernel)
theorem tw_1173 : Cond.methodLink RL 126 yX8_back ∈ lw_tbl := tm5 213 (by decide +kernel)
theorem tw_1174 : Cond.instanceMethod yX8_back ∈ lw_tbl := tm5 214 (by decide +kernel)
theorem tw_1175 : Cond.selects RX8 yX8_back yX8_back ∈ lw_tbl := tm5 215 (by decide +kernel)
theorem tw_705 : Cond.code yX7_count cX7_count 2 (some .int) ∈ lw_tbl := tm3 225 (by rfl)
theorem cal_X7_count : CalC yX7_count cX7_count 2 (some .int) 1 := calc_of tw_705 tw_1 (by decide +kernel)
theorem tw_702 : Cond.methodLink RL 127 yX7_count ∈ lw_tbl := tm3 222 (by decide +kernel)
theorem tw_703 : Cond.instanceMethod yX7_count ∈ lw_tbl := tm3 223 (by decide +kernel)
theorem tw_704 : Cond.selects RX7 yX7_count yX7_count ∈ lw_tbl := tm3 224 (by decide +kernel)
theorem tw_1180 : Cond.code yX8_count cX8_count 2 (some .int) ∈ lw_tbl := tm5 220 (by rfl)
theorem cal_X8_count : CalC yX8_count cX8_count 2 (some .int) 1 := calc_of tw_1180 tw_14 (by decide +kernel)
theorem tw_1177 : Cond.methodLink RL 130 yX8_count ∈ lw_tbl := tm5 217 (by decide +kernel)
theorem tw_1178 : Cond.instanceMethod yX8_count ∈ lw_tbl := tm5 218 (by decide +kernel)
theorem tw_1179 : Cond.selects RX8 yX8_count yX8_count ∈ lw_tbl := tm5 219 (by decide +kernel)
theorem tw_709 : Cond.code yX7_sheet cX7_sheet 4 (some .int) ∈ lw_tbl := tm3 229 (by rfl)
theorem cal_X7_sheet : CalC yX7_sheet cX7_sheet 4 (some .int) 3 := calc_of tw_709 tw_1 (by decide +kernel)
theorem tw_706 : Cond.methodLink RL 131 yX7_sheet ∈ lw_tbl := tm3 226 (by decide +kernel)
theorem tw_707 : Cond.instanceMethod yX7_sheet ∈ lw_tbl := tm3 227 (by decide +kernel)
theorem tw_708 : Cond.selects RX7 yX7_sheet yX7_sheet ∈ lw_tbl := tm3 228 (by decide +kernel)
theorem tw_1184 : Cond.code yX8_sheet cX8_sheet 5 (some .int) ∈ lw_tbl := tm5 224 (by rfl)
theorem cal_X8_sheet : CalC yX8_sheet cX8_sheet 5 (some .int) 3 := calc_of tw_1184 tw_14 (by decide +kernel)
theorem tw_1181 : Cond.methodLink RL 134 yX8_sheet ∈ lw_tbl := tm5 221 (by decide +kernel)
theorem tw_1182 : Cond.instanceMethod yX8_sheet ∈ lw_tbl := tm5 222 (by decide +kernel)
theorem tw_1183 : Cond.selects RX8 yX8_sheet yX8_sheet ∈ lw_tbl := tm5 223 (by decide +kernel)
theorem tw_722 : Cond.code yX7_cell cX7_cell 4 (some .int) ∈ lw_tbl := tm4 2 (by rfl)
theorem cal_X7_cell : CalC yX7_cell cX7_cell 4 (some .int) 3 := calc_of tw_722 tw_1 (by decide +kernel)
theorem tw_719 : Cond.methodLink RL 135 yX7_cell ∈ lw_tbl := tm3 239 (by decide +kernel)
theorem tw_720 : Cond.instanceMethod yX7_cell ∈ lw_tbl := tm4 0 (by decide +kernel)
theorem tw_721 : Cond.selects RX7 yX7_cell yX7_cell ∈ lw_tbl := tm4 1 (by decide +kernel)
theorem tw_1189 : Cond.code yX8_cell cX8_cell 4 (some .int) ∈ lw_tbl := tm5 229 (by rfl)
theorem cal_X8_cell : CalC yX8_cell cX8_cell 4 (some .int) 3 := calc_of tw_1189 tw_14 (by decide +kernel)
theorem tw_1186 : Cond.methodLink RL 138 yX8_cell ∈ lw_tbl := tm5 226 (by decide +kernel)
theorem tw_1187 : Cond.instanceMethod yX8_cell ∈ lw_tbl := tm5 227 (by decide +kernel)
theorem tw_1188 : Cond.selects RX8 yX8_cell yX8_cell ∈ lw_tbl := tm5 228 (by decide +kernel)
theorem tw_735 : Cond.code yX7_copy cX7_copy 8 (some .int) ∈ lw_tbl := tm4 15 (by rfl)
theorem cal_X7_copy : CalC yX7_copy cX7_copy 8 (some .int) 5 := calc_of tw_735 tw_1 (by decide +kernel)
theorem tw_732 : Cond.methodLink RL 139 yX7_copy ∈ lw_tbl := tm4 12 (by decide +kernel)
theorem tw_733 : Cond.instanceMethod yX7_copy ∈ lw_tbl := tm4 13 (by decide +kernel)
theorem tw_734 : Cond.selects RX7 yX7_copy yX7_copy ∈ lw_tbl := tm4 14 (by decide +kernel)
theorem tw_1193 : Cond.code yX8_copy cX8_copy 7 (some .int) ∈ lw_tbl := tm5 233 (by rfl)
theorem cal_X8_copy : CalC yX8_copy cX8_copy 7 (some .int) 5 := calc_of tw_1193 tw_14 (by decide +kernel)
theorem tw_1190 : Cond.methodLink RL 143 yX8_copy ∈ lw_tbl := tm5 230 (by decide +kernel)
theorem tw_1191 : Cond.instanceMethod yX8_copy ∈ lw_tbl := tm5 231 (by decide +kernel)
theorem tw_1192 : Cond.selects RX8 yX8_copy yX8_copy ∈ lw_tbl := tm5 232 (by decide +kernel)
theorem tw_744 : Cond.code yX7_floors cX7_floors 9 (some .int) ∈ lw_tbl := tm4 24 (by rfl)
theorem cal_X7_floors : CalC yX7_floors cX7_floors 9 (some .int) 4 := calc_of tw_744 tw_1 (by decide +kernel)
theorem tw_741 : Cond.methodLink RL 144 yX7_floors ∈ lw_tbl := tm4 21 (by decide +kernel)
theorem tw_742 : Cond.instanceMethod yX7_floors ∈ lw_tbl := tm4 22 (by decide +kernel)
theorem tw_743 : Cond.selects RX7 yX7_floors yX7_floors ∈ lw_tbl := tm4 23 (by decide +kernel)
theorem tw_1197 : Cond.code yX8_floors cX8_floors 11 (some .int) ∈ lw_tbl := tm5 237 (by rfl)
theorem cal_X8_floors : CalC yX8_floors cX8_floors 11 (some .int) 4 := calc_of tw_1197 tw_14 (by decide +kernel)
theorem tw_1194 : Cond.methodLink RL 148 yX8_floors ∈ lw_tbl := tm5 234 (by decide +kernel)
theorem tw_1195 : Cond.instanceMethod yX8_floors ∈ lw_tbl := tm5 235 (by decide +kernel)
theorem tw_1196 : Cond.selects RX8 yX8_floors yX8_floors ∈ lw_tbl := tm5 236 (by decide +kernel)
theorem tw_749 : Cond.code yX7_taken cX7_taken 3 (some .int) ∈ lw_tbl := tm4 29 (by rfl)
theorem cal_X7_taken : CalC yX7_taken cX7_taken 3 (some .int) 2 := calc_of tw_749 tw_1 (by decide +kernel)
theorem tw_746 : Cond.methodLink RL 149 yX7_taken ∈ lw_tbl := tm4 26 (by decide +kernel)
theorem tw_747 : Cond.instanceMethod yX7_taken ∈ lw_tbl := tm4 27 (by decide +kernel)
theorem tw_748 : Cond.selects RX7 yX7_taken yX7_taken ∈ lw_tbl := tm4 28 (by decide +kernel)
theorem tw_1202 : Cond.code yX8_taken cX8_taken 5 (some .int) ∈ lw_tbl := tm6 2 (by rfl)
theorem cal_X8_taken : CalC yX8_taken cX8_taken 5 (some .int) 2 := calc_of tw_1202 tw_14 (by decide +kernel)
theorem tw_1199 : Cond.methodLink RL 152 yX8_taken ∈ lw_tbl := tm5 239 (by decide +kernel)
theorem tw_1200 : Cond.instanceMethod yX8_taken ∈ lw_tbl := tm6 0 (by decide +kernel)
theorem tw_1201 : Cond.selects RX8 yX8_taken yX8_taken ∈ lw_tbl := tm6 1 (by decide +kernel)
theorem tw_17 : Cond.instantiable RX7 8 ∈ lw_tbl := tm1 17 (by decide +kernel)
theorem tw_752 : Cond.instantiable RX8 46 ∈ lw_tbl := tm4 32 (by decide +kernel)
theorem tw_16 : Cond.classLink RL 7 RX7 ∈ lw_tbl := tm1 16 (by decide +kernel)
theorem tw_751 : Cond.classLink RL 10 RX8 ∈ lw_tbl := tm4 31 (by decide +kernel)
theorem tw_18 : Cond.methodLink RL 9 yX7_init ∈ lw_tbl := tm1 18 (by decide +kernel)
theorem tw_753 : Cond.methodLink RL 12 yX8_init ∈ lw_tbl := tm4 33 (by decide +kernel)
theorem tw_19 : Cond.instanceMethod yX7_init ∈ lw_tbl := tm1 19 (by decide +kernel)
theorem tw_754 : Cond.instanceMethod yX8_init ∈ lw_tbl := tm4 34 (by decide +kernel)
theorem tw_20 : Cond.code yX7_init cX7_init 2 none ∈ lw_tbl := tm1 20 (by rfl)
theorem cal_X7_init : CalC yX7_init cX7_init 2 none 0 := calc_of tw_20 tw_1 (by decide +kernel)
theorem tw_755 : Cond.code yX8_init cX8_init 2 none ∈ lw_tbl := tm4 35 (by rfl)
theorem cal_X8_init : CalC yX8_init cX8_init 2 none 0 := calc_of tw_755 tw_14 (by decide +kernel)
