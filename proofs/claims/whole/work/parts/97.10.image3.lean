/-! PURE, 16: image, back -/
section
variable {S T S' T' : Mem} {a1 a2 a3 a4 a5 : Int32}
theorem h_image (h : RX S T) : w_X7_image S (fun r1 S1 => w_X8_image T (fun r2 T1 => r1 = r2 ∧ RX S1 T1)) := by
  obtain ⟨h1, h2, h3, h4, h5, h6, h7⟩ := h
  obtain ⟨g4, g5, g6, g7, g15⟩ := h3
  unfold w_X7_image
  refine x_like (c := 8) (d := 1) (by decide) (fun S1 s1 s2 s3 s4 s5 S2 e2 => ?_)
  subst e2
  unfold w_X8_image
  intro T1 e1 T2 e2 T3 e3
  subst e1 e2 e3
  refine m_carryAll (w := 1) rfl (fun T' t1 t2 t4 t5 t6 t7 t15 t8 t9 t10 => ?_)
  have one : ¬ (1 : Int32) = 0 := by decide
  simp only [carV, if_neg one] at t4 t5 t6 t7 t15 t8 t10
  have u1 : T' 1 = T 1 := by
    funext j
    by_cases hj : j < 64
    · exact (t8 j hj).1
    · exact t9 j (by omega)
  have uc : ∀ c, c ≠ 0 → c ≠ 1 → c ≠ 3 → c ≠ 4 → c ≠ 16 → T' c = T c := fun c q0 q1 q3 q4 q16 => by
    rw [t1 c q0 q1 q3 q4 q16, ms_n q0, ms_n q0, ms_n q0]
  have v4 : T' 0 4 = T 0 4 := t4.1
  have v5 : T' 0 5 = T 0 5 := t5.1
  have v6 : T' 0 6 = T 0 6 := t6.1
  have v7 : T' 0 7 = T 0 7 := t7.1
  have v15 : T' 0 15 = T 0 15 := t15.1
  have v13 : T' 0 13 = T 0 13 := t2 13 (by decide) (by decide) (by decide) (by decide) (by decide) (by decide)
  have v14 : T' 0 14 = T 0 14 := t2 14 (by decide) (by decide) (by decide) (by decide) (by decide) (by decide)
  have v38 : T' 0 38 = 1 := t2 38 (by decide) (by decide) (by decide) (by decide) (by decide) (by decide)
  have w1 : S1 1 = S 1 := s1 1 (by decide)
  have w0 : S1 0 = S 0 := s1 0 (by decide)
  refine ⟨?_, h1.fr ?_ u1, ?_, RT.fr ⟨g4, g5, g6, g7, g15⟩ ?_ ?_ v4 v5 v6 v7 v15, h4.fr ?_ ?_ v13 (tp3_of (uc 8 (by decide) (by decide) (by decide) (by decide) (by decide)) (uc 6 (by decide) (by decide) (by decide) (by decide) (by decide)) (uc 7 (by decide) (by decide) (by decide) (by decide) (by decide))), h5.fr ?_ ?_ v14 (uc 9 (by decide) (by decide) (by decide) (by decide) (by decide)) (uc 10 (by decide) (by decide) (by decide) (by decide) (by decide)), ?_, h7.fr ?_ (uc 17 (by decide) (by decide) (by decide) (by decide) (by decide)) (uc 18 (by decide) (by decide) (by decide) (by decide) (by decide)) (uc 19 (by decide) (by decide) (by decide) (by decide) (by decide))⟩
  · show S1 1 4 = T' 0 6
    rw [w1, v6]; exact g6.1
  · exact s1 2 (by decide)
  · intro i hi
    have e : (mset S1 0 (upd (S1 0) 2 1)) (4 + i) = S (4 + i) := by rw [ms_n (by omega)]; exact s1 _ (by omega)
    rw [e, uc 2 (by decide) (by decide) (by decide) (by decide) (by decide), (t10 i hi).1.1, (t10 i hi).2.1]
    exact h2 i hi
  · intro j _ _
    show S1 1 j = S 1 j
    rw [w1]
  · show S1 0 5 = S 0 5
    rw [w0]
  · show S1 15 2 = S 15 2
    rw [s1 15 (by decide)]
  · exact s1 16 (by decide)
  · show S1 0 5 = S 0 5
    rw [w0]
  · intro c c1 c2
    rw [ms_n (by omega)]
    exact s1 c (by omega)
  · refine ⟨v38.symm, Or.inr ⟨fun i hi => ?_, fun i hi => ?_, ?_, ?_, ?_, ?_, ?_⟩⟩
    · have e : (mset S1 0 (upd (S1 0) 2 1)) 9 i = S 2 i := s4 i hi
      have e2 : T' 16 (13 + i) = T 1 i := (t8 i hi).2
      rw [e, e2, ← h1.1]
      exact ⟨rfl, h1.2 i hi⟩
    · obtain ⟨r0, r1, r2⟩ := s3 i hi
      have e : (mset S1 0 (upd (S1 0) 2 1)) (11 + i) = S1 (11 + i) := ms_n (by omega)
      have e2 : T' 16 (5 + 2 * i) = T 3 i := (t10 i hi).1.2
      have e3 : T' 16 (6 + 2 * i) = T 4 i := (t10 i hi).2.2
      rw [show 8 + 3 + i = 11 + i by omega, show 1 + 3 + i = 4 + i by omega] at r1 r2
      rw [e, e2, e3, r1, r2]
      obtain ⟨⟨q1, q2, q3⟩, q4, q5, q6⟩ := h2 i hi
      exact ⟨⟨q2, q3⟩, q5, q6⟩
    · have e : (mset S1 0 (upd (S1 0) 2 1)) 8 2 = S 1 2 := s2 2 (by decide) (by decide)
      have e2 : T' 16 0 = T 0 4 := t4.2
      rw [e, e2]; exact g4
    · have e : (mset S1 0 (upd (S1 0) 2 1)) 8 3 = S 1 3 := s2 3 (by decide) (by decide)
      have e2 : T' 16 1 = T 0 5 := t5.2
      rw [e, e2]; exact g5
    · have e : (mset S1 0 (upd (S1 0) 2 1)) 8 4 = S 1 4 := s2 4 (by decide) (by decide)
      have e2 : T' 16 2 = T 0 6 := t6.2
      rw [e, e2]; exact g6
    · have e : (mset S1 0 (upd (S1 0) 2 1)) 8 5 = S 1 5 := s2 5 (by decide) (by decide)
      have e2 : T' 16 3 = T 0 7 := t7.2
      rw [e, e2]; exact g7
    · have e : (mset S1 0 (upd (S1 0) 2 1)) 8 6 = S 1 6 := s2 6 (by decide) (by decide)
      have e2 : T' 16 4 = T 0 15 := t15.2
      have e3 : (mset S1 0 (upd (S1 0) 2 1)) 0 5 = S 0 5 := by
        show S1 0 5 = S 0 5
        rw [w0]
      rw [e, e2, e3]; exact g15
  · intro c hc
    rw [ms_n (by omega)]
    exact s1 c (by omega)
theorem h_back (h : RX S T) : w_X7_back S (fun r1 S1 => w_X8_back T (fun r2 T1 => r1 = r2 ∧ RX S1 T1)) := by
  have hsame := h.same SX.rf (sm_thr T 0)
  obtain ⟨h1, h2, h3, h4, h5, ⟨k1, k2⟩, h7⟩ := h
  unfold w_X7_back w_X8_back
  refine ⟨fun c => ?_, fun c => ?_⟩
  · have hk := k2.resolve_left c
    obtain ⟨b1, b2, g4, g5, g6, g7, g15⟩ := hk
    refine x_like (c := 1) (d := 8) (by decide) (fun S1 s1 s2 s3 s4 s5 T1 e1 => ?_)
    subst e1
    refine ⟨fun _ T2 e2 => ?_, fun z => absurd (k1.trans z) c⟩
    subst e2
    refine m_carryAll (w := 0) rfl (fun T' t1 t2 t4 t5 t6 t7 t15 t8 t9 t10 => ?_)
    simp only [carV, if_true] at t4 t5 t6 t7 t15 t8 t10
    have uc : ∀ c, c ≠ 0 → c ≠ 1 → c ≠ 3 → c ≠ 4 → c ≠ 16 → T' c = T c := fun c q0 q1 q3 q4 q16 => by
      rw [t1 c q0 q1 q3 q4 q16, ms_n q0, ms_n q0]
    have v4 : T' 0 4 = T 16 0 := t4.1
    have v5 : T' 0 5 = T 16 1 := t5.1
    have v6 : T' 0 6 = T 16 2 := t6.1
    have v7 : T' 0 7 = T 16 3 := t7.1
    have v15 : T' 0 15 = T 16 4 := t15.1
    have v13 : T' 0 13 = T 0 13 := t2 13 (by decide) (by decide) (by decide) (by decide) (by decide) (by decide)
    have v14 : T' 0 14 = T 0 14 := t2 14 (by decide) (by decide) (by decide) (by decide) (by decide) (by decide)
    have v38 : T' 0 38 = T 0 38 := t2 38 (by decide) (by decide) (by decide) (by decide) (by decide) (by decide)
    have w0 : S1 0 = S 0 := s1 0 (by decide)
    have z2 := s2 2 (by decide) (by decide)
    have z3 := s2 3 (by decide) (by decide)
    have z4 := s2 4 (by decide) (by decide)
    have z5 := s2 5 (by decide) (by decide)
    have z6 := s2 6 (by decide) (by decide)
    refine ⟨?_, ⟨?_, fun i hi => ?_⟩, fun i hi => ?_, ⟨?_, ?_, ?_, ?_, ?_⟩, h4.fr ?_ ?_ v13 (tp3_of (uc 8 (by decide) (by decide) (by decide) (by decide) (by decide)) (uc 6 (by decide) (by decide) (by decide) (by decide) (by decide)) (uc 7 (by decide) (by decide) (by decide) (by decide) (by decide))), h5.fr ?_ ?_ v14 (uc 9 (by decide) (by decide) (by decide) (by decide) (by decide)) (uc 10 (by decide) (by decide) (by decide) (by decide) (by decide)), ?_, h7.fr ?_ (uc 17 (by decide) (by decide) (by decide) (by decide) (by decide)) (uc 18 (by decide) (by decide) (by decide) (by decide) (by decide)) (uc 19 (by decide) (by decide) (by decide) (by decide) (by decide))⟩
    · rw [z4, v6]; exact g6.1
    · funext j
      by_cases hj : j < 64
      · have e : T' 1 j = T 16 (13 + j) := (t8 j hj).1
        have e2 : S1 2 j = S 9 j := s4 j hj
        rw [e, e2]; exact (b1 j hj).1
      · have e : T' 1 j = T 1 j := t9 j (by omega)
        have e2 : S1 2 j = S 2 j := s5 j (by omega)
        rw [e, e2, h1.1]
    · have e2 : S1 2 i = S 9 i := s4 i hi
      rw [e2]; exact (b1 i hi).2
    · obtain ⟨r0, r1, r2⟩ := s3 i hi
      rw [show 8 + 3 + i = 11 + i by omega, show 1 + 3 + i = 4 + i by omega] at r1 r2
      rw [show 1 + 3 + i = 4 + i by omega] at r0
      have e2 : T' 3 i = T 16 (5 + 2 * i) := (t10 i hi).1.1
      have e3 : T' 4 i = T 16 (6 + 2 * i) := (t10 i hi).2.1
      rw [r0, r1, r2, uc 2 (by decide) (by decide) (by decide) (by decide) (by decide), e2, e3]
      obtain ⟨⟨q1, q2⟩, q3, q4⟩ := b2 i hi
      exact ⟨⟨(h2 i hi).1.1, q1, q2⟩, (h2 i hi).2.1, q3, q4⟩
    · rw [z2, v4]; exact g4
    · rw [z3, v5]; exact g5
    · rw [z4, v6]; exact g6
    · rw [z5, v7]; exact g7
    · rw [z6, v15, w0]; exact g15
    · rw [s1 15 (by decide)]
    · exact s1 16 (by decide)
    · rw [w0]
    · intro c c1 c2
      exact s1 c (by omega)
    · refine ⟨by rw [w0, v38]; exact k1, Or.inr ⟨fun i hi => ?_, fun i hi => ?_, ?_, ?_, ?_, ?_, ?_⟩⟩
      · rw [s1 9 (by decide), (t8 i hi).2]
        exact b1 i hi
      · rw [s1 (11 + i) (by omega), (t10 i hi).1.2, (t10 i hi).2.2]
        exact b2 i hi
      · rw [s1 8 (by decide), t4.2]; exact g4
      · rw [s1 8 (by decide), t5.2]; exact g5
      · rw [s1 8 (by decide), t6.2]; exact g6
      · rw [s1 8 (by decide), t7.2]; exact g7
      · rw [s1 8 (by decide), t15.2, w0]; exact g15
    · intro c hc
      exact s1 c (by omega)
  · intro T1 e1
    subst e1
    exact ⟨fun z => absurd (k1.symm.trans c) z, fun _ => ⟨rfl, hsame⟩⟩
end
