/-! PURE, 37: told -/
section
variable {S T S' T' : Mem} {a1 a2 a3 a4 a5 : Int32}
theorem h_told (h : RX S T) : w_X7_told a1 a2 S (fun r1 S1 => w_X8_told a1 a2 T (fun r2 T1 => r1 = r2 ∧ RX S1 T1)) := by
  have hsame := h.same SX.rf (sm_thr T 0)
  obtain ⟨b, hb, e1, e2, e3⟩ := place_of h
  have e6 : (mset T 0 (upd (T 0) 8 0)) 0 6 = nI b := e2
  have e4 : (mset T 0 (upd (T 0) 8 0)) 0 4 = S 1 2 := e3
  have e7 : (mset T 0 (upd (T 0) 8 0)) 0 7 = S 1 5 := h.2.2.1.2.2.2.1.1.symm
  have e5 : (mset T 0 (upd (T 0) 8 0)) 0 5 = S 1 3 := h.2.2.1.2.1.1.symm
  have eh : (mset T 0 (upd (T 0) 8 0)) 1 = S 2 := h.1.1.symm
  unfold w_X7_told w_X7_told_30 w_X8_told w_X8_told_35 w_X8_told_41
  simp only [x_isLeg, x_within, L_0, L_3, L_6, L_63, m_in, bI_0, forall_eq, Nat.reduceAdd]
  refine ⟨fun c6 => ⟨fun c1 => ?_, fun c1 => ?_⟩, fun c6 => ⟨fun c1 => ?_, fun c1 => ?_⟩⟩
  · have d1 := Classical.not_not.mp c1
    obtain ⟨q, hq, eq, ec⟩ := leg_nI d1
    have hin : vp_in a1 4 := rg_in (b := 3) (by decide) d1
    obtain ⟨⟨g1, g2, g3⟩, -⟩ := h.2.1 q hq
    have rng : ∀ k : Int32, a2 = k → 0 ≤ k → k ≤ 5 → ¬ ¬ (0 ≤ a2 ∧ a2 ≤ 6) := fun k e k0 k5 z => z (by
      rw [e]
      refine ⟨k0, ?_⟩
      rw [i_le] at k5 ⊢
      rw [I5] at k5
      rw [I6]
      omega)
    rw [ec]
    refine ⟨fun c => ⟨hin, ?_⟩, fun c0 => ⟨fun c => ⟨hin, ?_⟩, fun c1 => ⟨fun c => ⟨hin, ?_⟩, fun c2 => ⟨fun c => ⟨hin, ?_⟩, fun c3 => ⟨fun c => ?_, fun c4 => ⟨fun c => ?_, fun c5 => ?_⟩⟩⟩⟩⟩⟩
    · refine ⟨fun z => absurd z (rng _ c (by decide) (by decide)), fun _ => ⟨fun _ => ⟨fun _ => ⟨fun _ => ⟨hin, g1, hsame⟩, fun z => absurd c z⟩, fun z => absurd d1 z⟩, fun z => absurd z c6⟩⟩
    · refine ⟨fun z => absurd z (rng _ c (by decide) (by decide)), fun _ => ⟨fun _ => ⟨fun _ => ⟨fun z => absurd z c0, fun _ => ⟨fun _ => ⟨hin, g2, hsame⟩, fun z => absurd c z⟩⟩, fun z => absurd d1 z⟩, fun z => absurd z c6⟩⟩
    · refine ⟨fun z => absurd z (rng _ c (by decide) (by decide)), fun _ => ⟨fun _ => ⟨fun _ => ⟨fun z => absurd z c0, fun _ => ⟨fun z => absurd z c1, fun _ => ⟨fun _ => ⟨hin, g3, hsame⟩, fun z => absurd c z⟩⟩⟩, fun z => absurd d1 z⟩, fun z => absurd z c6⟩⟩
    · rw [show 3 + 1 + q = 4 + q by omega]
      refine x_tall ⟨fun z => absurd z (rng _ c (by decide) (by decide)), fun _ => ⟨fun _ => ⟨fun _ => ⟨fun z => absurd z c0, fun _ => ⟨fun z => absurd z c1, fun _ => ⟨fun z => absurd z c2, fun _ => ⟨fun _ => ?_, fun z => absurd c z⟩⟩⟩⟩, fun z => absurd d1 z⟩, fun z => absurd z c6⟩⟩
      rw [eq]
      exact m_tall hq g1.symm g2.symm g3.symm (by rw [e7]; exact ⟨rfl, hsame⟩)
    · rw [eq, e1]
      refine x_cell hb hq ⟨fun z => absurd z (rng _ c (by decide) (by decide)), fun _ => ⟨fun _ => ⟨fun _ => ⟨fun z => absurd z c0, fun _ => ⟨fun z => absurd z c1, fun _ => ⟨fun z => absurd z c2, fun _ => ⟨fun z => absurd z c3, fun _ => ⟨fun _ => ?_, fun z => absurd c z⟩⟩⟩⟩⟩, fun z => absurd (by rw [← eq]; exact d1) z⟩, fun z => absurd z c6⟩⟩
      rw [e4, e6]
      exact m_cell hb hq (by rw [e5]; exact ⟨rfl, hsame⟩)
    · rw [eq, e1]
      unfold w_X5_heightOf
      refine x_cell hb hq ?_
      obtain ⟨j, hj64, ej⟩ := pC_b (S 1 3) (S 1 2) ((b + 2 * q) % 8)
      rw [ej, nI_clamp (n := j) (by omega), nI_clamp (n := q) (by omega)]
      refine ⟨nI_in hj64 (by decide), four_nI hq, ?_⟩
      rw [show 1 + 2 + 1 + q = 4 + q by omega]
      refine x_tall ⟨fun z => absurd z (rng _ c (by decide) (by decide)), fun _ => ⟨fun _ => ⟨fun _ => ⟨fun z => absurd z c0, fun _ => ⟨fun z => absurd z c1, fun _ => ⟨fun z => absurd z c2, fun _ => ⟨fun z => absurd z c3, fun _ => ⟨fun z => absurd z c4, fun _ => ⟨fun _ => ?_, fun z => absurd c z⟩⟩⟩⟩⟩⟩, fun z => absurd (by rw [← eq]; exact d1) z⟩, fun z => absurd z c6⟩⟩
      rw [e4, e6]
      refine m_cell hb hq ?_
      rw [e5, ej, e7, eh, nI_clamp (by omega)]
      exact ⟨nI_in hj64 (by decide), m_tall hq g1.symm g2.symm g3.symm ⟨rfl, hsame⟩⟩
    · refine ⟨fun _ => ⟨trivial, hsame⟩, fun z => ?_⟩
      exfalso
      have z := Classical.not_not.mp z
      obtain ⟨q1, q2⟩ := z
      rw [i_le] at q1 q2
      rw [i_eq] at c0 c1 c2 c3 c4 c5 c6
      rw [I0] at c0 q1
      rw [I1] at c1
      rw [I2] at c2
      rw [I3] at c3
      rw [I4] at c4
      rw [I5] at c5
      rw [I6] at c6 q2
      omega
  · exact ⟨fun _ => ⟨trivial, hsame⟩, fun _ => ⟨fun _ => ⟨fun z => absurd (Classical.not_not.mp z) c1, fun _ => ⟨trivial, hsame⟩⟩, fun z => absurd z c6⟩⟩
  · refine ⟨fun z => absurd (by rw [c6]; decide) z, fun _ => ⟨fun z => absurd c6 z, fun _ => ⟨fun z => absurd (Classical.not_not.mp z) c1, fun _ => ⟨trivial, hsame⟩⟩⟩⟩
  · have d1 := Classical.not_not.mp c1
    have hin : vp_in a1 64 := rg_in (b := 63) (by decide) d1
    refine ⟨hin, fun z => absurd (by rw [c6]; decide) z, fun _ => ⟨fun z => absurd c6 z, fun _ => ⟨fun _ => ?_, fun z => absurd d1 z⟩⟩⟩
    refine ⟨fun z => absurd (c6.symm.trans z) (by decide), fun _ => ⟨fun z => absurd (c6.symm.trans z) (by decide), fun _ => ⟨fun z => absurd (c6.symm.trans z) (by decide), fun _ => ⟨fun z => absurd (c6.symm.trans z) (by decide), fun _ => ⟨fun z => absurd (c6.symm.trans z) (by decide), fun _ => ⟨fun z => absurd (c6.symm.trans z) (by decide), fun _ => ⟨hin, ?_, hsame⟩⟩⟩⟩⟩⟩⟩
    rw [eh]
end
