/-! PURE, 3: the calls that only read and set -/
section
variable {S T : Mem} {a1 a2 a3 a4 a5 : Int32}
/-- a call of both: alike, and the relation behind -/
def Both (S1 T1 : Mem) (r1 r2 : Int32) : Prop := r1 = r2 ∧ RX S1 T1
theorem h_floor (h : RX S T) : w_X7_floor a1 a2 S (fun r1 S1 => w_X8_floor a1 a2 T (fun r2 T1 => r1 = r2 ∧ RX S1 T1)) := by
  have hsame := h.same SX.rf (sm_thr T 0)
  unfold w_X7_floor w_X7_floor_20 w_X8_floor w_X8_floor_29
  simp only [x_within, L_0, L_63, L_99, m_in, bI_0, forall_eq]
  refine ⟨fun c1 => ⟨fun _ => ⟨trivial, hsame⟩, fun c2 => absurd c1 c2⟩, fun c1 => ⟨fun c2 => ?_, fun c2 => ⟨fun c3 => absurd c3 c1, fun _ => ⟨fun c4 => absurd c2 c4, fun _ => ⟨trivial, hsame⟩⟩⟩⟩⟩
  have d1 := Classical.not_not.mp c1
  have d2 := Classical.not_not.mp c2
  have hin : vp_in a1 64 := rg_in (b := 63) (by decide) d1
  refine ⟨hin, hin, fun c3 => absurd c3 c1, fun _ => ⟨fun _ => ⟨hin, hin, ?_, ?_⟩, fun c4 => absurd c4 c2⟩⟩
  · show S 2 _ = T 1 _
    rw [h.1.1]
  · exact hsame.floor (bnd_of (by decide) (by decide) d2)
theorem h_count (h : RX S T) : w_X7_count a1 S (fun r1 S1 => w_X8_count a1 T (fun r2 T1 => r1 = r2 ∧ RX S1 T1)) := by
  have hsame := h.same SX.rf (sm_thr T 0)
  obtain ⟨h1, h2, h3, h4, h5, h6, h7⟩ := hsame
  unfold w_X7_count w_X8_count
  simp only [forall_eq]
  refine ⟨fun e => ⟨fun _ => ⟨h3.1.1, h1, h2, h3, h4, h5, h6, h7⟩, fun c => absurd e c⟩, fun e0 => ⟨fun e => ⟨fun c => absurd c e0, fun _ => ⟨fun _ => ⟨h3.2.1.1, h1, h2, h3, h4, h5, h6, h7⟩, fun c => absurd e c⟩⟩, fun e1 => ?_⟩⟩
  refine ⟨fun e => ⟨fun c => absurd c e0, fun _ => ⟨fun c => absurd c e1, fun _ => ⟨fun _ => ⟨h3.2.2.1.1, h1, h2, h3, h4, h5, h6, h7⟩, fun c => absurd e c⟩⟩⟩, fun e2 => ?_⟩
  refine ⟨fun e => ⟨fun c => absurd c e0, fun _ => ⟨fun c => absurd c e1, fun _ => ⟨fun c => absurd c e2, fun _ => ⟨fun _ => ⟨h3.2.2.2.1.1, h1, h2, h3, h4, h5, h6, h7⟩, fun c => absurd e c⟩⟩⟩⟩, fun e3 => ?_⟩
  refine ⟨fun e => ⟨fun c => absurd c e0, fun _ => ⟨fun c => absurd c e1, fun _ => ⟨fun c => absurd c e2, fun _ => ⟨fun c => absurd c e3, fun _ => ⟨fun _ => ⟨h5.1, h1, h2, h3, h4, h5, h6, h7⟩, fun c => absurd e c⟩⟩⟩⟩⟩, fun e4 => ?_⟩
  refine ⟨fun e => ⟨fun c => absurd c e0, fun _ => ⟨fun c => absurd c e1, fun _ => ⟨fun c => absurd c e2, fun _ => ⟨fun c => absurd c e3, fun _ => ⟨fun c => absurd c e4, fun _ => ⟨fun _ => ⟨h4.1, h1, h2, h3, h4, h5, h6, h7⟩, fun c => absurd e c⟩⟩⟩⟩⟩⟩, fun e5 => ?_⟩
  refine ⟨fun e => ⟨fun c => absurd c e0, fun _ => ⟨fun c => absurd c e1, fun _ => ⟨fun c => absurd c e2, fun _ => ⟨fun c => absurd c e3, fun _ => ⟨fun c => absurd c e4, fun _ => ⟨fun c => absurd c e5, fun _ => ⟨fun _ => ⟨h3.2.2.2.2.1, h1, h2, h3, h4, h5, h6, h7⟩, fun c => absurd e c⟩⟩⟩⟩⟩⟩⟩, fun e6 => ?_⟩
  exact ⟨fun c => absurd c e0, fun _ => ⟨fun c => absurd c e1, fun _ => ⟨fun c => absurd c e2, fun _ => ⟨fun c => absurd c e3, fun _ => ⟨fun c => absurd c e4, fun _ => ⟨fun c => absurd c e5, fun _ => ⟨fun c => absurd c e6, fun _ => ⟨trivial, h1, h2, h3, h4, h5, h6, h7⟩⟩⟩⟩⟩⟩⟩⟩
theorem RX.legs (h : RX S T) {i : Nat} {k n : Int32} (hk : bnd k 0 5) (hn : bnd n 0 9) : RX (mset (mset S (4 + i) (upd (S (4 + i)) 0 k)) (4 + i) (upd (upd (S (4 + i)) 0 k) 2 n)) (mset (mset T 2 (upd (T 2) i k)) 4 (upd (T 4) i n)) ∨ 4 ≤ i := by
  by_cases hi : 4 ≤ i
  · exact Or.inr hi
  · refine Or.inl ?_
    obtain ⟨h1, h2, h3, h4, h5, h6, h7⟩ := h
    have ne : ∀ c : Nat, c < 4 ∨ 7 < c → (mset (mset S (4 + i) (upd (S (4 + i)) 0 k)) (4 + i) (upd (upd (S (4 + i)) 0 k) 2 n)) c = S c := fun c hc => by
      rw [ms_n (by omega), ms_n (by omega)]
    refine ⟨h1.fr (ne _ (Or.inl (by decide))) rfl, fun j hj => ?_, h3.fr (fun j _ _ => by rw [ne _ (Or.inl (by decide))]) (by rw [ne _ (Or.inl (by decide))]) rfl rfl rfl rfl rfl, h4.fr (by rw [ne _ (Or.inr (by decide))]) (ne _ (Or.inr (by decide))) rfl rfl, h5.fr (by rw [ne _ (Or.inl (by decide))]) (fun c _ _ => ne _ (Or.inr (by omega))) rfl rfl rfl, h6.fr (by rw [ne _ (Or.inl (by decide))]) (by rw [ne _ (Or.inl (by decide))]) (ne _ (Or.inr (by decide))) (ne _ (Or.inr (by decide))) (fun i hi => ne _ (Or.inr (by omega))) rfl rfl, h7.fr (fun c hc => ne _ (Or.inr (by omega))) rfl rfl rfl⟩
    obtain ⟨⟨g1, g2, g3⟩, g4, g5, g6⟩ := h2 j hj
    by_cases e : j = i
    · subst e
      rw [ms_s]
      refine ⟨⟨?_, ?_, ?_⟩, ?_, ?_, ?_⟩
      · rw [up_n (by decide), up_s, ms_n (by decide), ms_s, up_s]
      · rw [up_n (by decide), up_n (by decide)]; exact g2
      · rw [up_s, ms_s, up_s]
      · rw [up_n (by decide), up_s]; exact hk
      · rw [up_n (by decide), up_n (by decide)]; exact g5
      · rw [up_s]; exact hn
    · rw [ms_n (by omega), ms_n (by omega)]
      refine ⟨⟨?_, g2, ?_⟩, g4, g5, g6⟩
      · rw [ms_n (by decide), ms_s, up_n e]; exact g1
      · rw [ms_s, up_n e]; exact g3
theorem h_leg (h : RX S T) : w_X7_leg a1 a2 a3 S (fun r1 S1 => w_X8_leg a1 a2 a3 T (fun r2 T1 => r1 = r2 ∧ RX S1 T1)) := by
  have hsame := h.same SX.rf (sm_thr T 0)
  unfold w_X7_leg w_X7_leg_24 w_X8_leg w_X8_leg_41
  simp only [x_within, x_isLeg, x_isKind, L_0, L_3, L_5, L_9, m_in, bI_0, forall_eq, Nat.reduceAdd]
  by_cases c1 : 0 ≤ a1 ∧ a1 ≤ 3
  · by_cases c2 : 0 ≤ a2 ∧ a2 ≤ 5
    · by_cases c3 : 0 ≤ a3 ∧ a3 ≤ 9
      · have hin : vp_in a1 4 := rg_in (b := 3) (by decide) c1
        have hlt : a1.toNatClampNeg < 4 := rg_lt (b := 3) (by decide) c1
        simp only [c1, c2, c3, hin, not_true_eq_false, not_false_eq_true, true_and, and_true, false_implies, true_implies, and_self, ms_s]
        refine ⟨(h.2.1 _ hlt).1.1, ?_⟩
        rcases hsame.legs (i := a1.toNatClampNeg) (k := a2) (n := a3) (bnd_of (by decide) (by decide) c2) (bnd_of (by decide) (by decide) c3) with z | z
        · exact z
        · omega
      · simp only [c1, c2, c3, not_true_eq_false, not_false_eq_true, true_and, and_true, false_implies, true_implies, and_self]
        exact hsame
    · simp only [c1, c2, not_true_eq_false, not_false_eq_true, true_and, and_true, false_implies, true_implies, and_self]
      exact hsame
  · simp only [c1, not_true_eq_false, not_false_eq_true, true_and, and_true, false_implies, true_implies, and_self]
    exact hsame
end
