/-! PURE, 13: floors -/
section
variable {S T S' T' : Mem} {a1 a2 a3 a4 a5 : Int32}
def flF (g : Nat → Int32) (X m : Int) : Nat → Int32 → Nat → (Nat → Int32) → Int32 × (Nat → Int32)
  | 0, c, _, f => (c, f)
  | n + 1, c, k, f => if 0 ≤ X + 2 * k ∧ X + 2 * k + 2 ≤ m then (if (0 ≤ g (X + 2 * k).toNat ∧ g (X + 2 * k).toNat ≤ 63) ∧ (0 ≤ g ((X + 2 * k).toNat + 1) ∧ g ((X + 2 * k).toNat + 1) ≤ 99) then flF g X m n (c + 1) (k + 1) (upd f (g (X + 2 * k).toNat).toNatClampNeg (g ((X + 2 * k).toNat + 1))) else flF g X m n c (k + 1) f) else (-12, f)
theorem x_floor {post : Int32 → Mem → Prop} {a b : Int32} (h0 : ¬ ((0 ≤ a ∧ a ≤ 63) ∧ (0 ≤ b ∧ b ≤ 99)) → post (-2) S) (h1 : (0 ≤ a ∧ a ≤ 63) → (0 ≤ b ∧ b ≤ 99) → post (S 2 a.toNatClampNeg) (mset S 2 (upd (S 2) a.toNatClampNeg b))) : w_X7_floor a b S post := by
  unfold w_X7_floor w_X7_floor_20
  simp only [x_within, bI_0, forall_eq]
  by_cases c1 : 0 ≤ a ∧ a ≤ 63
  · have hin : vp_in a 64 := rg_in (b := 63) (by decide) c1
    by_cases c2 : 0 ≤ b ∧ b ≤ 99
    · simp only [c1, c2, hin, not_true_eq_false, not_false_eq_true, true_and, and_true, false_implies, true_implies, and_self]
      exact h1 c1 c2
    · simp only [c1, c2, not_true_eq_false, not_false_eq_true, true_and, and_true, false_implies, true_implies, and_self]
      exact h0 (fun z => c2 z.2)
  · simp only [c1, not_true_eq_false, not_false_eq_true, true_and, and_true, false_implies, true_implies, and_self]
    exact h0 (fun z => c1 z.1)
theorem fl_z {x : Int32} {k : Nat} (hk : k < 20) : ((0 ≤ x.toInt + 2 * k ∧ x.toInt + 2 * k < 2 ^ 31) → (x + (2 : Int32) * nI k).toInt = x.toInt + 2 * k) ∧ (¬ (0 ≤ x.toInt + 2 * k ∧ x.toInt + 2 * k < 2 ^ 31) → (x + (2 : Int32) * nI k).toInt < 0) := by
  have e2 : (2 : Int32) = nI 2 := rfl
  have h0 := Int32.le_toInt x
  have h1 := Int32.toInt_lt x
  rw [e2, pk_mul, Int32.toInt_add, nI_toInt (by omega)]
  simp only [Int.bmod, (show ((2 ^ 32 : Nat) : Int) = 4294967296 from rfl)]
  constructor
  · intro h
    omega
  · intro h
    omega
theorem fl_x {x m : Int32} {i : Nat} (hm : bnd m 0 40) {N : Nat} (hN : N ≤ 20) {post : Int32 → Mem → Prop} : ∀ (n k : Nat) (c : Int32) (S : Mem), k + n = N → S (44 + 2 * i) 1 = m → (∀ j, j < 64 → bnd (S 2 j) 0 99) → post (flF (S (45 + 2 * i)) x.toInt m.toInt n c k (S 2)).1 (mset S 2 (flF (S (45 + 2 * i)) x.toInt m.toInt n c k (S 2)).2) → w_X7_floors_67 post (n + 1) x (nI N) (44 + 2 * i) c (nI k) S := by
  intro n
  induction n with
  | zero =>
    intro k c S hk he hh hp
    rw [w_X7_floors_67]
    have e : k = N := by omega
    subst e
    refine ⟨fun _ => ?_, fun z => absurd (nI_le (Nat.le_refl _) (by omega)) z⟩
    have hp : post c (mset S 2 (S 2)) := hp
    rw [mrefl] at hp
    exact hp
  | succ n ih =>
    intro k c S hk he hh hp
    rw [w_X7_floors_67]
    refine ⟨fun z => absurd z (nI_ge (by omega) (by omega)), fun _ z1 e1 => ?_⟩
    rw [x_hasItems, he]
    simp only [bI_0]
    obtain ⟨f1, f2⟩ := fl_z (x := x) (k := k) (by omega)
    rw [← e1] at f1 f2
    have hm2 : (m - 2).toInt = m.toInt - 2 := by
      have := sub_toInt (x := m) (y := 2) (a := 40) (b := 2) hm (by unfold bnd; rw [I2]; omega) (by decide) (by decide)
      rw [I2] at this
      exact this
    have b1 := hm.2
    by_cases c1 : 0 ≤ x.toInt + 2 * k ∧ x.toInt + 2 * k + 2 ≤ m.toInt
    · have ez := f1 ⟨c1.1, by omega⟩
      have d1 : 0 ≤ z1 ∧ (0 : Int32) ≤ 2 ∧ ¬ m - 2 < z1 := by
        refine ⟨by rw [i_le, I0]; omega, by decide, by rw [i_lt]; omega⟩
      have ec : (z1.toNatClampNeg : Nat) = (x.toInt + 2 * k).toNat := by
        have := cl_of (x := z1) (by omega)
        omega
      have ez1 : (z1 + 1).toInt = x.toInt + 2 * k + 1 := add1 (by omega) (by omega) ez
      have ec1 : ((z1 + 1).toNatClampNeg : Nat) = (x.toInt + 2 * k).toNat + 1 := by
        have := cl_of (x := z1 + 1) (by omega)
        omega
      refine ⟨fun _ => ⟨in_of (by omega) (by omega), in_of (by omega) (by omega), ?_⟩, fun z => absurd d1 z⟩
      rw [ec, ec1]
      rw [flF, if_pos c1] at hp
      rw [show 44 + 2 * i + 1 = 45 + 2 * i by omega]
      refine x_floor (fun hb => ?_) (fun hb1 hb2 => ?_)
      · rw [if_neg hb] at hp
        refine ⟨fun _ => ?_, fun z => absurd rfl z⟩
        unfold w_X7_floors_126
        intro z3 e3
        rw [e3, nI_1]
        exact ih _ _ _ (by omega) he hh hp
      · rw [if_pos ⟨hb1, hb2⟩] at hp
        have hlt := rg_lt (b := 63) (n := 64) (by decide) hb1
        have hbb := hh _ hlt
        refine ⟨fun z => absurd hbb.1 (by rw [z]; decide), fun _ z4 e4 => ?_⟩
        unfold w_X7_floors_126
        intro z3 e3
        rw [e3, nI_1, e4]
        refine ih _ _ _ (by omega) (by rw [ms_n (by omega)]; exact he) (fun j hj => ?_) ?_
        · rw [ms_s]
          by_cases e : j = (S (45 + 2 * i) (x.toInt + 2 * ↑k).toNat).toNatClampNeg
          · rw [e, up_s]
            exact bnd_of (by decide) (by decide) hb2
          · rw [up_n e]; exact hh j hj
        · rw [ms_s, ms_n (by omega), mm]
          exact hp
    · have d1 : ¬ (0 ≤ z1 ∧ (0 : Int32) ≤ 2 ∧ ¬ m - 2 < z1) := by
        rintro ⟨z0, -, z2⟩
        rw [i_le, I0] at z0
        rw [i_lt] at z2
        by_cases c2 : 0 ≤ x.toInt + 2 * k ∧ x.toInt + 2 * k < 2 ^ 31
        · have := f1 c2
          omega
        · have := f2 c2
          omega
      refine ⟨fun z => absurd (Classical.not_not.mp z) d1, fun _ => ?_⟩
      rw [flF, if_neg c1] at hp
      have hp : post (-12) (mset S 2 (S 2)) := hp
      rw [mrefl] at hp
      exact hp
theorem fl_zL {x : Int32} {k : Nat} (hk : k < 20) : (((2 : Int64) * (nI k).toInt64) + x.toInt64).toInt = x.toInt + 2 * k := by
  have h0 := Int32.le_toInt x
  have h1 := Int32.toInt_lt x
  have e2 : (2 : Int64).toInt = 2 := by decide
  rw [Int64.toInt_add, Int64.toInt_mul, Int32.toInt_toInt64, Int32.toInt_toInt64, nI_toInt (by omega), e2]
  simp only [Int.bmod, (show ((2 ^ 64 : Nat) : Int) = 18446744073709551616 from rfl)]
  omega
theorem L_of {z : Int64} {j : Nat} (hj : j < 2 ^ 31) (h : z.toInt = j) : z = (nI j).toInt64 := by
  apply Int64.toInt_inj.mp
  rw [Int32.toInt_toInt64, nI_toInt hj]
  exact h
theorem fl_m {x : Int32} {m : Int32} {q : Nat} (hq : q < 4) (hm : bnd m 0 40) {N : Nat} (hN : N ≤ 20) {post : Int32 → Mem → Prop} : ∀ (n k : Nat) (c : Int32) (T : Mem) (g : Nat → Int32), k + n = N → T 18 q = m → (∀ j : Nat, (j : Int) < m.toInt → g j = T 19 (40 * q + j)) → post (flF g x.toInt m.toInt n c k (T 1)).1 (mset T 1 (flF g x.toInt m.toInt n c k (T 1)).2) → w_X8_floors_85 post (n + 1) (nI q) x (nI N) c (nI k) T := by
  intro n
  induction n with
  | zero =>
    intro k c S g hk he hh hp
    rw [w_X8_floors_85]
    have e : k = N := by omega
    subst e
    refine ⟨fun _ => ?_, fun z => absurd (nI_le (Nat.le_refl _) (by omega)) z⟩
    have hp : post c (mset S 1 (S 1)) := hp
    rw [mrefl] at hp
    exact hp
  | succ n ih =>
    intro k c S g hk he hh hp
    rw [w_X8_floors_85]
    refine ⟨fun z => absurd z (nI_ge (by omega) (by omega)), fun _ z1 e1 => ⟨four_nI hq, ?_⟩⟩
    have ez : z1.toInt = x.toInt + 2 * k := by rw [e1]; exact fl_zL (by omega)
    rw [m_in64, nI_clamp (n := q) (by omega), he]
    simp only [bI_0]
    have hm2 : (m - 2).toInt = m.toInt - 2 := by
      have := sub_toInt (x := m) (y := 2) (a := 40) (b := 2) hm (by unfold bnd; rw [I2]; omega) (by decide) (by decide)
      rw [I2] at this
      exact this
    have b1 := hm.2
    have i0 : (0 : Int64).toInt = 0 := by decide
    by_cases c1 : 0 ≤ x.toInt + 2 * k ∧ x.toInt + 2 * k + 2 ≤ m.toInt
    · obtain ⟨j, ej⟩ : ∃ j : Nat, (j : Int) = x.toInt + 2 * k := ⟨(x.toInt + 2 * k).toNat, by omega⟩
      have ez2 : z1.toInt32 = nI j := by
        rw [L_of (z := z1) (j := j) (by omega) (by omega), Int32.toInt32_toInt64]
      have d1 : (0 : Int64) ≤ z1 ∧ z1 ≤ (m - 2).toInt64 := by
        rw [l_le, l_le, i0, Int32.toInt_toInt64]
        omega
      refine ⟨fun _ => ?_, fun z => absurd d1 z⟩
      have etn : (x.toInt + 2 * k).toNat = j := by omega
      rw [flF, if_pos c1, etn, hh j (by omega), hh (j + 1) (by omega)] at hp
      rw [ez2, e40, pk_mul, nI_add, nI_1]
      refine ⟨nI_in (by omega) (by decide), fun z3 e3 => ⟨nI_in (by omega) (by decide), fun z4 e4 => ?_⟩⟩
      rw [nI_clamp (by omega)] at e3 e4
      rw [← e3, show 40 * q + (j + 1) = 40 * q + j + 1 by omega, ← e4] at hp
      simp only [L_0, L_63, L_99, m_in, bI_0]
      unfold w_X8_floors_195
      rw [nI_1]
      by_cases c2 : 0 ≤ z3 ∧ z3 ≤ 63
      · refine ⟨fun z => absurd c2 z, fun _ => ?_⟩
        by_cases c3 : 0 ≤ z4 ∧ z4 ≤ 99
        · rw [if_pos ⟨c2, c3⟩] at hp
          refine ⟨fun z => absurd c3 z, fun _ => ⟨rg_in (b := 63) (by decide) c2, fun S7 e7 z8 e8 z9 e9 => ?_⟩⟩
          rw [e9, e8]
          refine ih _ _ _ g (by omega) (by rw [e7, ms_n (by decide)]; exact he) (fun j hj => by rw [e7, ms_n (by decide)]; exact hh j hj) ?_
          rw [e7, ms_s, mm]
          exact hp
        · rw [if_neg (fun z => c3 z.2)] at hp
          refine ⟨fun _ z9 e9 => ?_, fun z => absurd (Classical.not_not.mp z) c3⟩
          rw [e9]
          exact ih _ _ _ g (by omega) he hh hp
      · rw [if_neg (fun z => c2 z.1)] at hp
        refine ⟨fun _ z9 e9 => ?_, fun z => absurd (Classical.not_not.mp z) c2⟩
        rw [e9]
        exact ih _ _ _ g (by omega) he hh hp
    · have d1 : ¬ ((0 : Int64) ≤ z1 ∧ z1 ≤ (m - 2).toInt64) := by
        rw [l_le, l_le, i0, Int32.toInt_toInt64]
        omega
      refine ⟨fun z => absurd (Classical.not_not.mp z) d1, fun _ => ?_⟩
      rw [flF, if_neg c1] at hp
      have hp : post (-12) (mset S 1 (S 1)) := hp
      rw [mrefl] at hp
      exact hp
theorem flF_b {g : Nat → Int32} {X m : Int} : ∀ (n : Nat) (c : Int32) (k : Nat) (f : Nat → Int32), (∀ j, j < 64 → bnd (f j) 0 99) → ∀ j, j < 64 → bnd ((flF g X m n c k f).2 j) 0 99 := by
  intro n
  induction n with
  | zero => intro c k f hf; exact hf
  | succ n ih =>
    intro c k f hf
    rw [flF]
    split
    · split
      · rename_i hb
        refine ih _ _ _ (fun j hj => ?_)
        by_cases e : j = (g (X + 2 * k).toNat).toNatClampNeg
        · rw [e, up_s]
          exact bnd_of (by decide) (by decide) hb.2
        · rw [up_n e]; exact hf j hj
      · exact ih _ _ _ hf
    · exact hf
theorem h_floors (h : RX S T) : w_X7_floors a1 a2 a3 a4 S (fun r1 S1 => w_X8_floors a1 a2 a3 a4 T (fun r2 T1 => r1 = r2 ∧ RX S1 T1)) := by
  have hsame := h.same SX.rf (sm_thr T 0)
  have neg : ∀ x : Int32, (x < 0) = ¬ 0 ≤ x := fun x => by rw [i_lt, i_le]; exact propext (by omega)
  unfold w_X7_floors w_X7_floors_27 w_X8_floors w_X8_floors_42 w_X8_floors_67
  simp only [x_isSheet, x_within, x_isMissing, L_0, L_2, L_3, L_20, m_in, bI_0, forall_eq, Nat.reduceAdd, neg]
  by_cases c1 : 0 ≤ a1 ∧ a1 ≤ 3
  · by_cases c2 : 0 ≤ a2 ∧ a2 ≤ 2
    · by_cases c3 : 0 ≤ a4 ∧ a4 ≤ 20
      · obtain ⟨q, hq, eq, ecq⟩ := leg_nI c1
        have hin : vp_in a1 4 := rg_in (b := 3) (by decide) c1
        obtain ⟨g1, g2, g3⟩ := h.2.2.2.2.2.2 q hq
        have e17 : (mset T 0 (upd (T 0) 8 0)) 17 q = S (44 + 2 * q) 0 := g1.1.symm
        have ms : (S (44 + 2 * q) 0 = -1) = ¬ 0 ≤ S (44 + 2 * q) 0 := by
          rw [i_eq, Im1, i_le, I0]
          have := g1.2.1
          exact propext (by omega)
        simp only [c1, c2, c3, hin, ecq, e17, ms, not_true_eq_false, not_false_eq_true, true_and, and_true, false_implies, true_implies, and_self]
        by_cases c4 : 0 ≤ S (44 + 2 * q) 0
        · by_cases c5 : S (44 + 2 * q) 0 = a2
          · obtain ⟨N, hN, hN2, eN⟩ := nI_ofb (bnd_of (a := 0) (b := 20) (by decide) (by decide) c3) (by decide)
            simp only [c4, c5, not_true_eq_false, not_false_eq_true, true_and, and_true, false_implies, true_implies, and_self]
            simp only [c5 ▸ c4, not_true_eq_false, not_false_eq_true, true_and, and_true, false_implies, true_implies, and_self]
            rw [eN, eq]
            refine ⟨N + 1, fl_x (m := S (44 + 2 * q) 1) g2.2 (by omega) N 0 _ S (by omega) rfl h.1.2 ⟨N + 1, fl_m hq g2.2 (by omega) N 0 _ _ (S (45 + 2 * q)) (by omega) g2.1.symm g3 ?_⟩⟩
            have e : (mset T 0 (upd (T 0) 8 0)) 1 = S 2 := h.1.1.symm
            rw [e]
            exact ⟨rfl, hsame.heights (flF_b N _ _ _ h.1.2)⟩
          · simp only [c4, c5, not_true_eq_false, not_false_eq_true, true_and, and_true, false_implies, true_implies, and_self]
            exact hsame
        · simp only [c4, not_true_eq_false, not_false_eq_true, true_and, and_true, false_implies, true_implies, and_self]
          exact hsame
      · simp only [c1, c2, c3, not_true_eq_false, not_false_eq_true, true_and, and_true, false_implies, true_implies, and_self]
        exact hsame
    · simp only [c1, c2, not_true_eq_false, not_false_eq_true, true_and, and_true, false_implies, true_implies, and_self]
      exact hsame
  · simp only [c1, not_true_eq_false, not_false_eq_true, true_and, and_true, false_implies, true_implies, and_self]
    exact hsame
end
