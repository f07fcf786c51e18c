/-! PURE, 6: set -/
section
variable {S T S' T' : Mem} {a1 a2 a3 a4 a5 : Int32}
theorem smr (h0 : T' 0 = T 0) (h1 : ∀ c, 0 < c → c < 20 → T' c = T c) : SM T T' := by
  refine ⟨⟨?_, ?_, ?_, ?_, ?_, ?_, ?_, ?_⟩, ?_, ?_, ?_, ?_, ?_, ?_, ?_, ?_, ?_, ?_, ?_⟩ <;> first | rw [h0] | exact h1 _ (by decide) (by decide)
theorem h_set (h : RX S T) : w_X7_set a1 a2 a3 S (fun r1 S1 => w_X8_set a1 a2 a3 T (fun r2 T1 => r1 = r2 ∧ RX S1 T1)) := by
  have hsame := h.same SX.rf (sm_thr T 0)
  have hT := h.2.2.1
  unfold w_X7_set w_X7_set_40 w_X7_set_48 w_X7_setOfLeg w_X7_setOfLeg_20 w_X7_setOfLeg_26 w_X7_setOfLeg_57 w_X7_setOfLeg_78 w_X7_setOfTable w_X7_setOfTable_37 w_X7_setOfTable_70 w_X7_setOfTable_104 w_X7_setOfTable_135 w_X8_set w_X8_set_24 w_X8_set_50 w_X8_set_76 w_X8_set_102 w_X8_set_106 w_X8_set_107 w_X8_set_126 w_X8_became w_X8_became_67 w_X8_became_80 w_X8_became_92 w_X8_became_106 w_X8_became_123 w_X8_became_140 w_X8_became_157
  simp only [x_within, x_isLeg, L_0, L_1, L_3, L_5, m_in, bI_0, forall_eq, Nat.reduceAdd]
  by_cases e0 : a1 = 0
  · subst e0
    simp only [q_0_1, q_0_2, q_0_3, q_0_4, q_0_5, q_0_6, q_1_0, q_1_2, q_1_3, q_1_4, q_1_5, q_1_6, q_2_0, q_2_1, q_2_3, q_2_4, q_2_5, q_2_6, q_3_0, q_3_1, q_3_2, q_3_4, q_3_5, q_3_6, q_4_0, q_4_1, q_4_2, q_4_3, q_4_5, q_4_6, q_5_0, q_5_1, q_5_2, q_5_3, q_5_4, q_5_6, q_6_0, q_6_1, q_6_2, q_6_3, q_6_4, q_6_5, not_true_eq_false, not_false_eq_true, true_and, and_true, false_implies, true_implies, and_self]
    sorry
  · sorry
end
