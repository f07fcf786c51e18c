/-! PURE, 7: set, both sides -/
section
variable {S T S' T' : Mem} {a1 a2 a3 a4 a5 : Int32}
theorem p_lt (k : Int32) (h : (1 : Int32) < k) {p : Prop} : (¬ (1 : Int32) < k ∧ p) = False := eq_false (fun z => z.1 h)
theorem x_setTab {post : Int32 → Mem → Prop} {k v lo hi : Int32} {j : Nat} (hk : (k = 2 ∧ j = 2 ∧ lo = 0 ∧ hi = 63) ∨ (k = 3 ∧ j = 3 ∧ lo = 1 ∧ hi = 3) ∨ (k = 4 ∧ j = 4 ∧ lo = 0 ∧ hi = 7) ∨ (k = 5 ∧ j = 5 ∧ lo = 0 ∧ hi = 9)) (h0 : ¬ (lo ≤ v ∧ v ≤ hi) → post (-2) S) (h1 : (lo ≤ v ∧ v ≤ hi) → post (S 1 j) (mset S 1 (upd (S 1) j v))) : w_X7_set k a2 v S post := by
  unfold w_X7_set w_X7_set_48 w_X7_setOfTable w_X7_setOfTable_37 w_X7_setOfTable_70 w_X7_setOfTable_104 w_X7_setOfTable_135
  simp only [x_within, bI_0, forall_eq]
  rcases hk with ⟨e1, e2, e3, e4⟩ | ⟨e1, e2, e3, e4⟩ | ⟨e1, e2, e3, e4⟩ | ⟨e1, e2, e3, e4⟩ <;> subst e1 <;> subst e2 <;> subst e3 <;> subst e4 <;> simp only [q_0_1, q_0_2, q_0_3, q_0_4, q_0_5, q_1_0, q_1_2, q_1_3, q_1_4, q_1_5, q_2_0, q_2_1, q_2_3, q_2_4, q_2_5, q_3_0, q_3_1, q_3_2, q_3_4, q_3_5, q_4_0, q_4_1, q_4_2, q_4_3, q_4_5, q_5_0, q_5_1, q_5_2, q_5_3, q_5_4, not_true_eq_false, not_false_eq_true, true_and, and_true, false_implies, true_implies, and_self] <;> exact ⟨h0, fun z => h1 (Classical.not_not.mp z)⟩
theorem h_setTab (h : RX S T) {k v lo hi most : Int32} {j : Nat} (hk : (k = 2 ∧ j = 2 ∧ lo = 0 ∧ hi = 63) ∨ (k = 3 ∧ j = 3 ∧ lo = 1 ∧ hi = 3) ∨ (k = 4 ∧ j = 4 ∧ lo = 0 ∧ hi = 7) ∨ (k = 5 ∧ j = 5 ∧ lo = 0 ∧ hi = 9)) : w_X7_set k a2 v S (fun r1 S1 => w_X8_set k a2 v T (fun r2 T1 => r1 = r2 ∧ RX S1 T1)) := by
  have hsame := h.same SX.rf (sm_thr T 0)
  obtain ⟨g2, g3, g4, g5, g6⟩ := h.2.2.1
  have sm : ∀ {T2 : Mem} {y4 y5 y6 y7 : Int32}, (∀ c, c ≠ 0 → T2 c = T c) → (∀ j, j ≠ 4 → j ≠ 5 → j ≠ 6 → j ≠ 7 → j ≠ 8 → T2 0 j = T 0 j) → T2 0 4 = y4 → T2 0 5 = y5 → T2 0 6 = y6 → T2 0 7 = y7 → ∀ f : Nat → Int32, (f 2 = y4 ∧ bnd (f 2) 0 63) → (f 3 = y5 ∧ bnd (f 3) 1 3) → (f 4 = y6 ∧ bnd (f 4) 0 7) → (f 5 = y7 ∧ bnd (f 5) 0 9) → f 6 = S 1 6 → RX (mset S 1 f) T2 := by
    intro T2 y4 y5 y6 y7 c0 cj e4 e5 e6 e7 f q4 q5 q6 q7 q8
    have hr : RX (mset S 1 f) (mset T 0 (T2 0)) := by
      refine h.tab ?_ (cj _ (by decide) (by decide) (by decide) (by decide) (by decide)) (cj _ (by decide) (by decide) (by decide) (by decide) (by decide)) (cj _ (by decide) (by decide) (by decide) (by decide) (by decide))
      refine ⟨⟨?_, ?_⟩, ⟨?_, ?_⟩, ⟨?_, ?_⟩, ⟨?_, ?_⟩, ?_, ?_, ?_⟩
      · show f 2 = T2 0 4; rw [e4]; exact q4.1
      · exact q4.2
      · show f 3 = T2 0 5; rw [e5]; exact q5.1
      · exact q5.2
      · show f 4 = T2 0 6; rw [e6]; exact q6.1
      · exact q6.2
      · show f 5 = T2 0 7; rw [e7]; exact q7.1
      · exact q7.2
      · show f 6 = T2 0 15
        rw [q8, cj 15 (by decide) (by decide) (by decide) (by decide) (by decide)]; exact g6.1
      · show 0 ≤ (f 6).toInt; rw [q8]; exact g6.2.1
      · show (f 6).toInt < (S 0 5).toInt; rw [q8]; exact g6.2.2
    have et : mset T 0 (T2 0) = T2 := by
      funext c
      by_cases hc : c = 0
      · rw [hc, ms_s]
      · rw [ms_n hc, c0 c hc]
    rw [et] at hr
    exact hr
  refine x_setTab hk (fun hb => ?_) (fun hb => ?_)
  · rcases hk with ⟨e1, e2, e3, e4⟩ | ⟨e1, e2, e3, e4⟩ | ⟨e1, e2, e3, e4⟩ | ⟨e1, e2, e3, e4⟩ <;> subst e1 <;> subst e2 <;> subst e3 <;> subst e4 <;> refine m_set rfl (by decide) (fun _ => ⟨rfl, hsame⟩) (fun z _ => absurd ?_ hb) <;> exact z
  · rcases hk with ⟨e1, e2, e3, e4⟩ | ⟨e1, e2, e3, e4⟩ | ⟨e1, e2, e3, e4⟩ | ⟨e1, e2, e3, e4⟩ <;> subst e1 <;> subst e2 <;> subst e3 <;> subst e4 <;> refine m_set rfl (by decide) (fun z => absurd z ?_) (fun _ _ => m_became (by decide) (by decide) (by decide) (fun T2 c0 cj e4 e5 e6 e7 => ⟨?_, sm (fun c hc => (c0 c hc).trans (ms_n hc)) (fun j j4 j5 j6 j7 j8 => (cj j j4 j5 j6 j7).trans (up_n j8)) e4 e5 e6 e7 _ ?_ ?_ ?_ ?_ ?_⟩))
    · rintro (z | z)
      · exact z hb
      · exact z.1 (by decide)
    · exact g2.1
    · exact ⟨rfl, bnd_of (by decide) (by decide) hb⟩
    · exact ⟨by rw [if_neg (by decide)]; exact g3.1, g3.2⟩
    · exact ⟨by rw [if_neg (by decide)]; exact g4.1, g4.2⟩
    · exact ⟨by rw [if_neg (by decide)]; exact g5.1, g5.2⟩
    · rfl
    · rintro (z | z)
      · exact z hb
      · exact z.1 (by decide)
    · exact g3.1
    · exact ⟨by rw [if_neg (by decide)]; exact g2.1, g2.2⟩
    · exact ⟨rfl, bnd_of (by decide) (by decide) hb⟩
    · exact ⟨by rw [if_neg (by decide)]; exact g4.1, g4.2⟩
    · exact ⟨by rw [if_neg (by decide)]; exact g5.1, g5.2⟩
    · rfl
    · rintro (z | z)
      · exact z hb
      · exact z.1 (by decide)
    · exact g4.1
    · exact ⟨by rw [if_neg (by decide)]; exact g2.1, g2.2⟩
    · exact ⟨by rw [if_neg (by decide)]; exact g3.1, g3.2⟩
    · exact ⟨rfl, bnd_of (by decide) (by decide) hb⟩
    · exact ⟨by rw [if_neg (by decide)]; exact g5.1, g5.2⟩
    · rfl
    · rintro (z | z)
      · exact z hb
      · exact z.1 (by decide)
    · exact g5.1
    · exact ⟨by rw [if_neg (by decide)]; exact g2.1, g2.2⟩
    · exact ⟨by rw [if_neg (by decide)]; exact g3.1, g3.2⟩
    · exact ⟨by rw [if_neg (by decide)]; exact g4.1, g4.2⟩
    · exact ⟨rfl, bnd_of (by decide) (by decide) hb⟩
    · rfl
end
