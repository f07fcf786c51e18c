/-! PURE, 1: numbers, and the small static methods as equations -/
def bI (p : Prop) [Decidable p] : Int32 := if p then 1 else 0
theorem bI_0 {p : Prop} [Decidable p] : (bI p = 0) = ¬ p := by
  unfold bI
  by_cases h : p <;> simp [h]
theorem bI_01 {p : Prop} [Decidable p] : (bI p = 0 ∨ bI p = 1) = True := by
  unfold bI
  by_cases h : p <;> simp [h]
theorem bI_t {p : Prop} [Decidable p] (h : p) : bI p = 1 := if_pos h
theorem bI_f {p : Prop} [Decidable p] (h : ¬ p) : bI p = 0 := if_neg h
theorem i_le {a b : Int32} : (a ≤ b) = (a.toInt ≤ b.toInt) := propext Int32.le_iff_toInt_le
theorem i_lt {a b : Int32} : (a < b) = (a.toInt < b.toInt) := propext Int32.lt_iff_toInt_lt
theorem i_eq {a b : Int32} : (a = b) = (a.toInt = b.toInt) := propext Int32.toInt_inj.symm
theorem l_le {a b : Int64} : (a ≤ b) = (a.toInt ≤ b.toInt) := propext Int64.le_iff_toInt_le
theorem l_lt {a b : Int64} : (a < b) = (a.toInt < b.toInt) := propext Int64.lt_iff_toInt_lt
theorem cmp_lt {x y : Int64} : (lg_cmp x y < 0) = (x < y) := by
  have h := lg_cmp_ge x y
  rw [l_lt]
  rw [l_le] at h
  rw [i_le] at h
  rw [i_lt]
  have z : (0 : Int32).toInt = 0 := by decide
  rw [z] at h ⊢
  apply propext
  omega
theorem cmp_gt {x y : Int64} : (0 < lg_cmp x y) = (y < x) := by
  unfold lg_cmp
  by_cases h1 : x > y
  · rw [if_pos h1]
    simp [h1]
  · rw [if_neg h1]
    have h1' : ¬ y < x := h1
    by_cases h2 : x = y
    · rw [if_pos h2]
      simp [h1']
    · rw [if_neg h2]
      simp [h1']
theorem cmp_eq {x y : Int64} (h : x = y) : lg_cmp x y = 0 := by
  subst h
  simp [lg_cmp]
theorem x_within (a b c : Int32) (S : Mem) (post : Int32 → Mem → Prop) : w_X7_within a b c S post = post (bI (b ≤ a ∧ a ≤ c)) S := by
  unfold w_X7_within w_X7_within_14 w_X7_within_15
  have e1 : (a < b) = ¬ (b ≤ a) := by rw [i_lt, i_le]; exact propext (by omega)
  have e2 : (c < a) = ¬ (a ≤ c) := by rw [i_lt, i_le]; exact propext (by omega)
  rw [e1, e2]
  unfold bI
  by_cases h1 : b ≤ a <;> by_cases h2 : a ≤ c <;> simp [h1, h2]
theorem x_held (a b c : Int32) (S : Mem) (post : Int32 → Mem → Prop) : w_X7_held a b c S post = post (if b ≤ a then (if a ≤ c then a else c) else b) S := by
  unfold w_X7_held w_X7_held_17
  by_cases h1 : b ≤ a <;> by_cases h2 : a ≤ c <;> simp [h1, h2]
theorem m_held (a b c : Int32) (S : Mem) (post : Int32 → Mem → Prop) : w_X8_held a b c S post = post (if b ≤ a then (if a ≤ c then a else c) else b) S := by
  unfold w_X8_held w_X8_held_19
  by_cases h1 : b ≤ a <;> by_cases h2 : a ≤ c <;> simp [h1, h2]
theorem x_isLeg (a : Int32) (S : Mem) (post : Int32 → Mem → Prop) : w_X7_isLeg a S post = post (bI (0 ≤ a ∧ a ≤ 3)) S := by
  unfold w_X7_isLeg
  rw [x_within, bI_01]
  simp
theorem x_isKind (a : Int32) (S : Mem) (post : Int32 → Mem → Prop) : w_X7_isKind a S post = post (bI (0 ≤ a ∧ a ≤ 5)) S := by
  unfold w_X7_isKind
  rw [x_within, bI_01]
  simp
theorem x_isSheet (a : Int32) (S : Mem) (post : Int32 → Mem → Prop) : w_X7_isSheet a S post = post (bI (0 ≤ a ∧ a ≤ 3)) S := by
  unfold w_X7_isSheet
  rw [x_within, bI_01]
  simp
theorem m_in64 (a b c : Int64) (S : Mem) (post : Int32 → Mem → Prop) : w_X8_in a b c S post = post (bI (b ≤ a ∧ a ≤ c)) S := by
  unfold w_X8_in w_X8_in_17 w_X8_in_18
  rw [cmp_lt, cmp_gt]
  have e1 : (a < b) = ¬ (b ≤ a) := by rw [l_lt, l_le]; exact propext (by omega)
  have e2 : (c < a) = ¬ (a ≤ c) := by rw [l_lt, l_le]; exact propext (by omega)
  rw [e1, e2]
  unfold bI
  by_cases h1 : b ≤ a <;> by_cases h2 : a ≤ c <;> simp [h1, h2]
theorem bI_congr {p q : Prop} [Decidable p] [Decidable q] (h : p ↔ q) : bI p = bI q := by
  unfold bI
  by_cases hp : p
  · rw [if_pos hp, if_pos (h.mp hp)]
  · rw [if_neg hp, if_neg (fun z => hp (h.mpr z))]
theorem t64_le {a b : Int32} : (a.toInt64 ≤ b.toInt64) = (a ≤ b) := by
  rw [l_le, i_le, Int32.toInt_toInt64, Int32.toInt_toInt64]
theorem m_in (a b c : Int32) (S : Mem) (post : Int32 → Mem → Prop) : w_X8_in a.toInt64 b.toInt64 c.toInt64 S post = post (bI (b ≤ a ∧ a ≤ c)) S := by
  rw [m_in64]
  rw [bI_congr (q := b ≤ a ∧ a ≤ c) (by rw [t64_le, t64_le])]
theorem L_0 : (0 : Int64) = (0 : Int32).toInt64 := by decide
theorem L_1 : (1 : Int64) = (1 : Int32).toInt64 := by decide
theorem L_2 : (2 : Int64) = (2 : Int32).toInt64 := by decide
theorem L_3 : (3 : Int64) = (3 : Int32).toInt64 := by decide
theorem L_5 : (5 : Int64) = (5 : Int32).toInt64 := by decide
theorem L_6 : (6 : Int64) = (6 : Int32).toInt64 := by decide
theorem L_7 : (7 : Int64) = (7 : Int32).toInt64 := by decide
theorem L_9 : (9 : Int64) = (9 : Int32).toInt64 := by decide
theorem L_20 : (20 : Int64) = (20 : Int32).toInt64 := by decide
theorem L_30 : (30 : Int64) = (30 : Int32).toInt64 := by decide
theorem L_63 : (63 : Int64) = (63 : Int32).toInt64 := by decide
theorem L_99 : (99 : Int64) = (99 : Int32).toInt64 := by decide
theorem L_255 : (255 : Int64) = (255 : Int32).toInt64 := by decide
theorem L_m1 : (-1 : Int64) = (-1 : Int32).toInt64 := by decide
theorem L_m7 : (-7 : Int64) = (-7 : Int32).toInt64 := by decide
theorem x_draw (a : Int32) (S : Mem) (post : Int32 → Mem → Prop) : w_X7_nextDraw a S post = post (a * 1103515245 + 12345) S := rfl
theorem x_nameIndex (a : Int32) (S : Mem) (post : Int32 → Mem → Prop) : w_X6_nameIndex a S post = post (-1 - a) S := rfl
theorem x_isName (a : Int32) (S : Mem) (post : Int32 → Mem → Prop) : w_X6_isName a S post = post (bI (0 ≤ -1 - a ∧ -1 - a ≤ 5)) S := by
  unfold w_X6_isName
  rw [x_nameIndex, x_within, bI_01]
  simp
/-! places of rows -/
theorem in_of {x : Int32} {n : Nat} (h0 : 0 ≤ x.toInt) (h1 : x.toInt < n) : vp_in x n := vp_in_iff.mpr ⟨h0, h1⟩
theorem cl_of {x : Int32} (h0 : 0 ≤ x.toInt) : (x.toNatClampNeg : Int) = x.toInt := by
  show ((x.toInt.toNat : Nat) : Int) = x.toInt
  omega
theorem cl_lt {x : Int32} {n : Nat} (h0 : 0 ≤ x.toInt) (h1 : x.toInt < n) : x.toNatClampNeg < n := by
  have := cl_of h0
  omega
theorem I0 : (0 : Int32).toInt = 0 := by decide
theorem I1 : (1 : Int32).toInt = 1 := by decide
theorem I2 : (2 : Int32).toInt = 2 := by decide
theorem I3 : (3 : Int32).toInt = 3 := by decide
theorem I4 : (4 : Int32).toInt = 4 := by decide
theorem I5 : (5 : Int32).toInt = 5 := by decide
theorem I6 : (6 : Int32).toInt = 6 := by decide
theorem I7 : (7 : Int32).toInt = 7 := by decide
theorem I8 : (8 : Int32).toInt = 8 := by decide
theorem I9 : (9 : Int32).toInt = 9 := by decide
theorem I40 : (40 : Int32).toInt = 40 := by decide
theorem I63 : (63 : Int32).toInt = 63 := by decide
theorem I64 : (64 : Int32).toInt = 64 := by decide
theorem I99 : (99 : Int32).toInt = 99 := by decide
theorem I160 : (160 : Int32).toInt = 160 := by decide
theorem I255 : (255 : Int32).toInt = 255 := by decide
theorem Im1 : (-1 : Int32).toInt = -1 := by decide
theorem rg_in {x : Int32} {b : Int32} {n : Nat} (hb : b.toInt + 1 = n) (h : 0 ≤ x ∧ x ≤ b) : vp_in x n := by
  have h1 := h.1
  have h2 := h.2
  rw [i_le] at h1 h2
  rw [I0] at h1
  exact in_of h1 (by omega)
theorem rg_lt {x : Int32} {b : Int32} {n : Nat} (hb : b.toInt + 1 = n) (h : 0 ≤ x ∧ x ≤ b) : x.toNatClampNeg < n := by
  have h1 := h.1
  have h2 := h.2
  rw [i_le] at h1 h2
  rw [I0] at h1
  exact cl_lt h1 (by omega)
theorem ms_s {S : Mem} {c : Nat} {f : Nat → Int32} : mset S c f c = f := if_pos rfl
theorem ms_n {S : Mem} {c a : Nat} {f : Nat → Int32} (h : a ≠ c) : mset S c f a = S a := if_neg h
theorem up_s {f : Nat → Int32} {k : Nat} {x : Int32} : upd f k x k = x := if_pos rfl
theorem up_n {f : Nat → Int32} {k j : Nat} {x : Int32} (h : j ≠ k) : upd f k x j = f j := if_neg h
def bnd (x : Int32) (a b : Int) : Prop := a ≤ x.toInt ∧ x.toInt ≤ b
theorem bnd_of {x lo hi : Int32} {a b : Int} (ha : lo.toInt = a) (hb : hi.toInt = b) (h : lo ≤ x ∧ x ≤ hi) : bnd x a b := by
  have h1 := h.1
  have h2 := h.2
  rw [i_le] at h1 h2
  exact ⟨by omega, by omega⟩
theorem q_0_1 : ((0 : Int32) = 1) = False := eq_false (by decide)
theorem q_0_2 : ((0 : Int32) = 2) = False := eq_false (by decide)
theorem q_0_3 : ((0 : Int32) = 3) = False := eq_false (by decide)
theorem q_0_4 : ((0 : Int32) = 4) = False := eq_false (by decide)
theorem q_0_5 : ((0 : Int32) = 5) = False := eq_false (by decide)
theorem q_0_6 : ((0 : Int32) = 6) = False := eq_false (by decide)
theorem q_1_0 : ((1 : Int32) = 0) = False := eq_false (by decide)
theorem q_1_2 : ((1 : Int32) = 2) = False := eq_false (by decide)
theorem q_1_3 : ((1 : Int32) = 3) = False := eq_false (by decide)
theorem q_1_4 : ((1 : Int32) = 4) = False := eq_false (by decide)
theorem q_1_5 : ((1 : Int32) = 5) = False := eq_false (by decide)
theorem q_1_6 : ((1 : Int32) = 6) = False := eq_false (by decide)
theorem q_2_0 : ((2 : Int32) = 0) = False := eq_false (by decide)
theorem q_2_1 : ((2 : Int32) = 1) = False := eq_false (by decide)
theorem q_2_3 : ((2 : Int32) = 3) = False := eq_false (by decide)
theorem q_2_4 : ((2 : Int32) = 4) = False := eq_false (by decide)
theorem q_2_5 : ((2 : Int32) = 5) = False := eq_false (by decide)
theorem q_2_6 : ((2 : Int32) = 6) = False := eq_false (by decide)
theorem q_3_0 : ((3 : Int32) = 0) = False := eq_false (by decide)
theorem q_3_1 : ((3 : Int32) = 1) = False := eq_false (by decide)
theorem q_3_2 : ((3 : Int32) = 2) = False := eq_false (by decide)
theorem q_3_4 : ((3 : Int32) = 4) = False := eq_false (by decide)
theorem q_3_5 : ((3 : Int32) = 5) = False := eq_false (by decide)
theorem q_3_6 : ((3 : Int32) = 6) = False := eq_false (by decide)
theorem q_4_0 : ((4 : Int32) = 0) = False := eq_false (by decide)
theorem q_4_1 : ((4 : Int32) = 1) = False := eq_false (by decide)
theorem q_4_2 : ((4 : Int32) = 2) = False := eq_false (by decide)
theorem q_4_3 : ((4 : Int32) = 3) = False := eq_false (by decide)
theorem q_4_5 : ((4 : Int32) = 5) = False := eq_false (by decide)
theorem q_4_6 : ((4 : Int32) = 6) = False := eq_false (by decide)
theorem q_5_0 : ((5 : Int32) = 0) = False := eq_false (by decide)
theorem q_5_1 : ((5 : Int32) = 1) = False := eq_false (by decide)
theorem q_5_2 : ((5 : Int32) = 2) = False := eq_false (by decide)
theorem q_5_3 : ((5 : Int32) = 3) = False := eq_false (by decide)
theorem q_5_4 : ((5 : Int32) = 4) = False := eq_false (by decide)
theorem q_5_6 : ((5 : Int32) = 6) = False := eq_false (by decide)
theorem q_6_0 : ((6 : Int32) = 0) = False := eq_false (by decide)
theorem q_6_1 : ((6 : Int32) = 1) = False := eq_false (by decide)
theorem q_6_2 : ((6 : Int32) = 2) = False := eq_false (by decide)
theorem q_6_3 : ((6 : Int32) = 3) = False := eq_false (by decide)
theorem q_6_4 : ((6 : Int32) = 4) = False := eq_false (by decide)
theorem q_6_5 : ((6 : Int32) = 5) = False := eq_false (by decide)
theorem q_160 : ((160 : Int32) < 160) = False := eq_false (by decide)
theorem q_rf (x : Int32) : (x = x) = True := eq_self x
