/-! PURE, 5: feed, taken, set -/
section
variable {S T S' T' : Mem} {a1 a2 a3 a4 a5 : Int32}
theorem add1 {x : Int32} {n : Int} (h0 : 0 ≤ x.toInt) (h1 : x.toInt < 1000000) (hn : x.toInt = n) : (x + 1).toInt = n + 1 := by
  obtain ⟨j, hj, e⟩ := nI_of (x := x) (by rw [i_lt, I0]; omega)
  subst e
  rw [nI_toInt hj] at hn h1
  rw [nI_1, nI_toInt (by omega)]
  omega
theorem RX.tape (h : RX S T) (hs : (S 15 2).toInt < 160) {v : Int32} (hv : bnd v 0 255) {T' : Mem} (hm : SM (mset (mset T 8 (upd (T 8) (S 15 2).toNatClampNeg v)) 0 (upd (T 0) 13 (S 15 2 + 1))) T') : RX (mset (mset S 16 (upd (S 16) (S 15 2).toNatClampNeg v)) 15 (upd (S 15) 2 (S 15 2 + 1))) T' := by
  refine RX.same (T := mset (mset T 8 (upd (T 8) (S 15 2).toNatClampNeg v)) 0 (upd (T 0) 13 (S 15 2 + 1))) ?_ SX.rf hm
  obtain ⟨h1, h2, h3, ⟨h4, ⟨hb0, hb1⟩, h4c, hw⟩, h5, h6, h7⟩ := h
  refine ⟨h1.fr rfl rfl, h2.fr (fun i hi => by rw [ms_n (by omega), ms_n (by omega)]) rfl rfl rfl, h3.fr (fun _ _ _ => rfl) rfl rfl rfl rfl rfl rfl, ⟨rfl, ?_, ?_, hw⟩, h5.fr rfl (fun c _ _ => by rw [ms_n (by omega), ms_n (by omega)]) rfl rfl rfl, h6.fr rfl rfl rfl rfl (fun i hi => by rw [ms_n (by omega), ms_n (by omega)]) rfl rfl, h7.fr (fun c hc => by rw [ms_n (by omega), ms_n (by omega)]) rfl rfl rfl⟩
  · show bnd (S 15 2 + 1) 0 160
    have e := add1 hb0 (by omega) rfl
    exact ⟨by omega, by omega⟩
  · intro i hi
    have e := add1 hb0 (by omega) rfl
    have hi : (i : Int) < (S 15 2 + 1).toInt := hi
    show upd (S 16) (S 15 2).toNatClampNeg v i = upd (T 8) (S 15 2).toNatClampNeg v i ∧ bnd (upd (S 16) (S 15 2).toNatClampNeg v i) 0 255
    have ec := cl_of hb0
    by_cases ei : i = (S 15 2).toNatClampNeg
    · subst ei
      rw [up_s, up_s]
      exact ⟨rfl, hv⟩
    · rw [up_n ei, up_n ei]
      exact h4c i (by omega)
theorem h_feed (h : RX S T) : w_X7_feed a1 S (fun r1 S1 => w_X8_feed a1 T (fun r2 T1 => r1 = r2 ∧ RX S1 T1)) := by
  have hsame := h.same SX.rf (sm_thr T 0)
  have e13 : T 0 13 = S 15 2 := h.2.2.2.1.1.symm
  have hb := h.2.2.2.1.2.1
  unfold w_X7_feed w_X7_feed_37 w_X8_feed w_X1_append
  simp only [x_within, L_0, L_255, m_in, bI_0, forall_eq]
  by_cases c1 : 0 ≤ a1 ∧ a1 ≤ 255
  · simp only [c1, not_true_eq_false, not_false_eq_true, true_and, and_true, false_implies, true_implies, and_self]
    have et : ∀ x : Int32, (mset T 0 (upd (T 0) 8 x)) 0 13 = S 15 2 := fun x => e13
    by_cases c2 : S 15 2 < 160
    · have c3 : (S 15 2).toInt < 160 := by rw [i_lt, I160] at c2; exact c2
      have c4 : ¬ S 15 2 = 160 := fun e => by rw [e, I160] at c3; omega
      have hin : vp_in (S 15 2) 160 := in_of hb.1 c3
      simp only [c2, c4, et, hin, q_0_1, q_0_2, q_0_3, q_0_4, q_0_5, q_1_0, q_1_2, q_1_3, q_1_4, q_1_5, q_2_0, q_2_1, q_2_3, q_2_4, q_2_5, q_3_0, q_3_1, q_3_2, q_3_4, q_3_5, q_4_0, q_4_1, q_4_2, q_4_3, q_4_5, q_5_0, q_5_1, q_5_2, q_5_3, q_5_4, not_true_eq_false, not_false_eq_true, true_and, and_true, false_implies, true_implies, and_self]
      refine ⟨(by show S 15 2 + 1 = T 0 13 + 1; rw [e13]), ?_⟩
      exact h.tape c3 (bnd_of (by decide) (by decide) c1) (by
        refine ⟨⟨rfl, rfl, rfl, rfl, ?_, rfl, rfl, rfl⟩, rfl, rfl, rfl, rfl, rfl, rfl, rfl, rfl, rfl, rfl, rfl⟩
        show T 0 13 + 1 = S 15 2 + 1
        rw [e13])
    · have c3 : S 15 2 = 160 := by
        rw [i_lt, I160] at c2
        rw [i_eq, I160]
        have := hb.2
        omega
      simp only [c2, et, c3, q_1_0, q_0_1, q_160, not_true_eq_false, not_false_eq_true, true_and, and_true, false_implies, true_implies, and_self]
      exact hsame
  · simp only [c1, not_true_eq_false, not_false_eq_true, true_and, and_true, false_implies, true_implies, and_self]
    exact hsame
def isOneP (k a : Int32) : Prop := a = 0 ∨ k = a ∨ (k = 3 ∧ a = 1) ∨ (k = 4 ∧ a = 2)
theorem is_hit {post : Int32 → Mem → Prop} {c n : Nat} {a x3 : Int32} (h3 : ¬ (6 : Int32) ≤ x3) (h : post 1 S) : w_X0_isOne_7 post c (n + 1) a a x3 S := by
  rw [w_X0_isOne_7]
  exact ⟨fun z => absurd z h3, fun _ => ⟨fun _ => ⟨fun z => absurd rfl z, fun _ => ⟨Or.inr rfl, h⟩⟩, fun z => absurd rfl z⟩⟩
theorem is_end {post : Int32 → Mem → Prop} {c n : Nat} {a x3 : Int32} (h3 : ¬ (6 : Int32) ≤ x3) (ha : ¬ (-1 : Int32) = a) (h : post 0 S) : w_X0_isOne_7 post c (n + 1) a (-1) x3 S := by
  rw [w_X0_isOne_7]
  refine ⟨fun z => absurd z h3, fun _ => ⟨fun z => absurd z ha, fun _ => ?_⟩⟩
  rw [x_isKind, bI_f (by decide)]
  exact ⟨fun _ => ⟨fun _ => ⟨Or.inl rfl, h⟩, fun z => absurd z ha⟩, fun z => absurd rfl z⟩
theorem is_go {post : Int32 → Mem → Prop} {c n : Nat} {a x2 x3 y2 y3 : Int32} (h3 : ¬ (6 : Int32) ≤ x3) (hk : 0 ≤ x2 ∧ x2 ≤ 5) (ha : ¬ x2 = a) (e2 : tUnder.getD x2.toNatClampNeg 0 = y2) (e3 : x3 + 1 = y3) (h : w_X0_isOne_7 post c n a y2 y3 S) : w_X0_isOne_7 post c (n + 1) a x2 x3 S := by
  rw [w_X0_isOne_7]
  refine ⟨fun z => absurd z h3, fun _ => ⟨fun z => absurd z ha, fun _ => ?_⟩⟩
  rw [x_isKind, bI_t hk]
  refine ⟨fun z => absurd z (by decide), fun _ => ⟨rg_in (b := 5) (by decide) hk, fun z ez z3 ez3 => ?_⟩⟩
  rw [ez, ez3, e2, e3]
  exact h
theorem six {x : Int32} (h : bnd x 0 5) : x = 0 ∨ x = 1 ∨ x = 2 ∨ x = 3 ∨ x = 4 ∨ x = 5 := by
  have h0 := h.1
  have h1 := h.2
  rw [i_eq, i_eq, i_eq, i_eq, i_eq, i_eq, I0, I1, I2, I3, I4, I5]
  omega
theorem x_isOne {post : Int32 → Mem → Prop} {c : Nat} {a : Int32} (hk : bnd (S c 0) 0 5) (ha : 0 ≤ a) (h1 : isOneP (S c 0) a → post 1 S) (h0 : ¬ isOneP (S c 0) a → post 0 S) : w_X0_isOne c a S post := by
  unfold w_X0_isOne
  intro z ez
  have hm : ¬ (-1 : Int32) = a := fun e => by rw [← e] at ha; exact absurd ha (by decide)
  refine ⟨4, ?_⟩
  have hit : ∀ {k x2 x3 : Int32} {n : Nat}, S c 0 = k → ¬ (6 : Int32) ≤ x3 → x2 = a → (isOneP k a) → w_X0_isOne_7 post c (n + 1) a x2 x3 S := fun ek h3 e2 hp => by
    rw [e2]
    exact is_hit h3 (h1 (by rw [ek]; exact hp))
  have fin : ∀ {k x3 : Int32} {n : Nat}, S c 0 = k → ¬ (6 : Int32) ≤ x3 → ¬ isOneP k a → w_X0_isOne_7 post c (n + 1) a (-1) x3 S := fun ek h3 hp => is_end h3 hm (h0 (by rw [ek]; exact hp))
  rw [ez]
  rcases six hk with e | e | e | e | e | e
  · rw [e]
    by_cases c0 : (0 : Int32) = a
    · exact hit e (by decide) c0 (Or.inl c0.symm)
    · refine is_go (y2 := -1) (y3 := 1) (by decide) (by decide) c0 (by decide) (by decide) (fin e (by decide) ?_)
      rintro (z | z | ⟨z, -⟩ | ⟨z, -⟩)
      · exact c0 z.symm
      · exact c0 z
      · exact absurd z (by decide)
      · exact absurd z (by decide)
  · rw [e]
    by_cases c1 : (1 : Int32) = a
    · exact hit e (by decide) c1 (Or.inr (Or.inl c1))
    · refine is_go (y2 := 0) (y3 := 1) (by decide) (by decide) c1 (by decide) (by decide) ?_
      by_cases c0 : (0 : Int32) = a
      · exact hit e (by decide) c0 (Or.inl c0.symm)
      · refine is_go (y2 := -1) (y3 := 2) (by decide) (by decide) c0 (by decide) (by decide) (fin e (by decide) ?_)
        rintro (z | z | ⟨z, -⟩ | ⟨z, -⟩)
        · exact c0 z.symm
        · exact c1 z
        · exact absurd z (by decide)
        · exact absurd z (by decide)
  · rw [e]
    by_cases c1 : (2 : Int32) = a
    · exact hit e (by decide) c1 (Or.inr (Or.inl c1))
    · refine is_go (y2 := 0) (y3 := 1) (by decide) (by decide) c1 (by decide) (by decide) ?_
      by_cases c0 : (0 : Int32) = a
      · exact hit e (by decide) c0 (Or.inl c0.symm)
      · refine is_go (y2 := -1) (y3 := 2) (by decide) (by decide) c0 (by decide) (by decide) (fin e (by decide) ?_)
        rintro (z | z | ⟨z, -⟩ | ⟨z, -⟩)
        · exact c0 z.symm
        · exact c1 z
        · exact absurd z (by decide)
        · exact absurd z (by decide)
  · rw [e]
    by_cases c3 : (3 : Int32) = a
    · exact hit e (by decide) c3 (Or.inr (Or.inl c3))
    · refine is_go (y2 := 1) (y3 := 1) (by decide) (by decide) c3 (by decide) (by decide) ?_
      by_cases c1 : (1 : Int32) = a
      · exact hit e (by decide) c1 (Or.inr (Or.inr (Or.inl ⟨rfl, c1.symm⟩)))
      · refine is_go (y2 := 0) (y3 := 2) (by decide) (by decide) c1 (by decide) (by decide) ?_
        by_cases c0 : (0 : Int32) = a
        · exact hit e (by decide) c0 (Or.inl c0.symm)
        · refine is_go (y2 := -1) (y3 := 3) (by decide) (by decide) c0 (by decide) (by decide) (fin e (by decide) ?_)
          rintro (z | z | ⟨-, z⟩ | ⟨z, -⟩)
          · exact c0 z.symm
          · exact c3 z
          · exact c1 z.symm
          · exact absurd z (by decide)
  · rw [e]
    by_cases c3 : (4 : Int32) = a
    · exact hit e (by decide) c3 (Or.inr (Or.inl c3))
    · refine is_go (y2 := 2) (y3 := 1) (by decide) (by decide) c3 (by decide) (by decide) ?_
      by_cases c1 : (2 : Int32) = a
      · exact hit e (by decide) c1 (Or.inr (Or.inr (Or.inr ⟨rfl, c1.symm⟩)))
      · refine is_go (y2 := 0) (y3 := 2) (by decide) (by decide) c1 (by decide) (by decide) ?_
        by_cases c0 : (0 : Int32) = a
        · exact hit e (by decide) c0 (Or.inl c0.symm)
        · refine is_go (y2 := -1) (y3 := 3) (by decide) (by decide) c0 (by decide) (by decide) (fin e (by decide) ?_)
          rintro (z | z | ⟨z, -⟩ | ⟨-, z⟩)
          · exact c0 z.symm
          · exact c3 z
          · exact absurd z (by decide)
          · exact c1 z.symm
  · rw [e]
    by_cases c1 : (5 : Int32) = a
    · exact hit e (by decide) c1 (Or.inr (Or.inl c1))
    · refine is_go (y2 := 0) (y3 := 1) (by decide) (by decide) c1 (by decide) (by decide) ?_
      by_cases c0 : (0 : Int32) = a
      · exact hit e (by decide) c0 (Or.inl c0.symm)
      · refine is_go (y2 := -1) (y3 := 2) (by decide) (by decide) c0 (by decide) (by decide) (fin e (by decide) ?_)
        rintro (z | z | ⟨z, -⟩ | ⟨z, -⟩)
        · exact c0 z.symm
        · exact c1 z
        · exact absurd z (by decide)
        · exact absurd z (by decide)
theorem h_taken (h : RX S T) : w_X7_taken a1 a2 S (fun r1 S1 => w_X8_taken a1 a2 T (fun r2 T1 => r1 = r2 ∧ RX S1 T1)) := by
  have hsame := h.same SX.rf (sm_thr T 0)
  unfold w_X7_taken w_X7_taken_53 w_X8_taken w_X8_taken_61 w_X8_taken_71 w_X8_taken_75 w_X8_taken_76 w_X8_taken_94
  simp only [x_isKind, x_isLeg, L_0, L_3, L_5, m_in, bI_0, forall_eq, Nat.reduceAdd]
  by_cases c1 : 0 ≤ a2 ∧ a2 ≤ 5
  · by_cases c2 : 0 ≤ a1 ∧ a1 ≤ 3
    · have hin : vp_in a1 4 := rg_in (b := 3) (by decide) c2
      have hlt : a1.toNatClampNeg < 4 := rg_lt (b := 3) (by decide) c2
      obtain ⟨⟨g1, g2, g3⟩, g4, g5, g6⟩ := h.2.1 _ hlt
      have ek : (mset T 0 (upd (T 0) 8 0)) 2 a1.toNatClampNeg = S (4 + a1.toNatClampNeg) 0 := g1.symm
      have el : (mset T 0 (upd (T 0) 8 0)) 3 a1.toNatClampNeg = S (4 + a1.toNatClampNeg) 1 := g2.symm
      simp only [c1, c2, hin, ek, el, q_0_1, q_0_2, q_0_3, q_0_4, q_0_5, q_1_0, q_1_2, q_1_3, q_1_4, q_1_5, q_2_0, q_2_1, q_2_3, q_2_4, q_2_5, q_3_0, q_3_1, q_3_2, q_3_4, q_3_5, q_4_0, q_4_1, q_4_2, q_4_3, q_4_5, q_5_0, q_5_1, q_5_2, q_5_3, q_5_4, not_true_eq_false, not_false_eq_true, true_and, and_true, false_implies, true_implies, and_self]
      refine x_isOne g4 c1.1 (fun hp => ?_) (fun hp => ?_)
      · simp only [q_0_1, q_0_2, q_0_3, q_0_4, q_0_5, q_1_0, q_1_2, q_1_3, q_1_4, q_1_5, q_2_0, q_2_1, q_2_3, q_2_4, q_2_5, q_3_0, q_3_1, q_3_2, q_3_4, q_3_5, q_4_0, q_4_1, q_4_2, q_4_3, q_4_5, q_5_0, q_5_1, q_5_2, q_5_3, q_5_4, not_true_eq_false, not_false_eq_true, true_and, and_true, false_implies, true_implies, and_self]
        rcases hp with z | z | ⟨z1, z2⟩ | ⟨z1, z2⟩
        · simp only [z, not_true_eq_false, not_false_eq_true, true_and, and_true, false_implies, true_implies, and_self]
          exact hsame
        · by_cases c0 : a2 = 0
          · simp only [c0, not_true_eq_false, not_false_eq_true, true_and, and_true, false_implies, true_implies, and_self]
            exact hsame
          · simp only [c0, z, not_true_eq_false, not_false_eq_true, true_and, and_true, false_implies, true_implies, and_self]
            exact hsame
        · simp only [z1, z2, q_0_1, q_0_2, q_0_3, q_0_4, q_0_5, q_1_0, q_1_2, q_1_3, q_1_4, q_1_5, q_2_0, q_2_1, q_2_3, q_2_4, q_2_5, q_3_0, q_3_1, q_3_2, q_3_4, q_3_5, q_4_0, q_4_1, q_4_2, q_4_3, q_4_5, q_5_0, q_5_1, q_5_2, q_5_3, q_5_4, not_true_eq_false, not_false_eq_true, true_and, and_true, false_implies, true_implies, and_self]
          exact hsame
        · simp only [z1, z2, q_0_1, q_0_2, q_0_3, q_0_4, q_0_5, q_1_0, q_1_2, q_1_3, q_1_4, q_1_5, q_2_0, q_2_1, q_2_3, q_2_4, q_2_5, q_3_0, q_3_1, q_3_2, q_3_4, q_3_5, q_4_0, q_4_1, q_4_2, q_4_3, q_4_5, q_5_0, q_5_1, q_5_2, q_5_3, q_5_4, not_true_eq_false, not_false_eq_true, true_and, and_true, false_implies, true_implies, and_self]
          exact hsame
      · unfold isOneP at hp
        have p0 : ¬ a2 = 0 := fun z => hp (Or.inl z)
        have p1 : ¬ S (4 + a1.toNatClampNeg) 0 = a2 := fun z => hp (Or.inr (Or.inl z))
        simp only [p0, p1, q_0_1, q_0_2, q_0_3, q_0_4, q_0_5, q_1_0, q_1_2, q_1_3, q_1_4, q_1_5, q_2_0, q_2_1, q_2_3, q_2_4, q_2_5, q_3_0, q_3_1, q_3_2, q_3_4, q_3_5, q_4_0, q_4_1, q_4_2, q_4_3, q_4_5, q_5_0, q_5_1, q_5_2, q_5_3, q_5_4, not_true_eq_false, not_false_eq_true, true_and, and_true, false_implies, true_implies, and_self]
        refine ⟨fun _ => ⟨fun _ => hsame, fun z4 => ⟨fun _ => hsame, fun z2 => absurd (Or.inr (Or.inr (Or.inr ⟨z4, z2⟩))) hp⟩⟩, fun z3 => ⟨fun z2 => absurd (Or.inr (Or.inr (Or.inl ⟨z3, z2⟩))) hp, fun _ => ⟨fun _ => hsame, fun z4 => ⟨fun _ => hsame, fun z2 => absurd (Or.inr (Or.inr (Or.inr ⟨z4, z2⟩))) hp⟩⟩⟩⟩
    · simp only [c1, c2, not_true_eq_false, not_false_eq_true, true_and, and_true, false_implies, true_implies, and_self]
      exact hsame
  · simp only [c1, not_true_eq_false, not_false_eq_true, true_and, and_true, false_implies, true_implies, and_self]
    exact hsame
end
