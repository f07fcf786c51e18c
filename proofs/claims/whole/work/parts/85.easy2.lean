/-! PURE, 4: force, feed, set, taken -/
section
variable {S T S' T' : Mem} {a1 a2 a3 a4 a5 : Int32}
theorem K0 : (0 : Int32).toNatClampNeg = 0 := by decide
theorem K1 : (1 : Int32).toNatClampNeg = 1 := by decide
theorem K2 : (2 : Int32).toNatClampNeg = 2 := by decide
theorem K3 : (3 : Int32).toNatClampNeg = 3 := by decide
theorem K4 : (4 : Int32).toNatClampNeg = 4 := by decide
theorem K64 : (64 : Int32).toNatClampNeg = 64 := by decide
theorem RX.tab (h : RX S T) {f g : Nat → Int32} (ht : RT (mset S 1 f) (mset T 0 g)) (e13 : g 13 = T 0 13) (e14 : g 14 = T 0 14) (e38 : g 38 = T 0 38) : RX (mset S 1 f) (mset T 0 g) := by
  obtain ⟨h1, h2, h3, h4, h5, h6, h7⟩ := h
  exact ⟨h1.fr rfl rfl, h2.fr (fun i hi => ms_n (by omega)) rfl rfl rfl, ht, h4.fr rfl rfl e13 rfl, h5.fr rfl (fun c _ _ => ms_n (by omega)) e14 rfl rfl, h6.fr rfl rfl rfl rfl (fun i hi => ms_n (by omega)) e38 rfl, h7.fr (fun c hc => ms_n (by omega)) rfl rfl rfl⟩
theorem RX.leg1 (h : RX S T) {i : Nat} {v : Int32} (hi : i < 4) (hv : bnd v 0 99) : RX (mset S (4 + i) (upd (S (4 + i)) 1 v)) (mset T 3 (upd (T 3) i v)) := by
  obtain ⟨h1, h2, h3, h4, h5, h6, h7⟩ := h
  have ne : ∀ c : Nat, c < 4 ∨ 7 < c → (mset S (4 + i) (upd (S (4 + i)) 1 v)) c = S c := fun c hc => ms_n (by omega)
  refine ⟨h1.fr (ne _ (Or.inl (by decide))) rfl, fun j hj => ?_, h3.fr (fun j _ _ => by rw [ne _ (Or.inl (by decide))]) (by rw [ne _ (Or.inl (by decide))]) rfl rfl rfl rfl rfl, h4.fr (by rw [ne _ (Or.inr (by decide))]) (ne _ (Or.inr (by decide))) rfl rfl, h5.fr (by rw [ne _ (Or.inl (by decide))]) (fun c _ _ => ne _ (Or.inr (by omega))) rfl rfl rfl, h6.fr (by rw [ne _ (Or.inl (by decide))]) (by rw [ne _ (Or.inl (by decide))]) (ne _ (Or.inr (by decide))) (ne _ (Or.inr (by decide))) (fun i hi => ne _ (Or.inr (by omega))) rfl rfl, h7.fr (fun c hc => ne _ (Or.inr (by omega))) rfl rfl rfl⟩
  obtain ⟨⟨g1, g2, g3⟩, g4, g5, g6⟩ := h2 j hj
  by_cases e : j = i
  · subst e
    rw [ms_s, up_s, up_n (by decide), up_n (by decide), ms_n (by decide), ms_s, up_s, ms_n (by decide)]
    exact ⟨⟨g1, rfl, g3⟩, g4, hv, g6⟩
  · rw [ms_n (by omega), ms_n (by decide), ms_s, up_n e, ms_n (by decide)]
    exact ⟨⟨g1, g2, g3⟩, g4, g5, g6⟩
theorem RX.leg2 (h : RX S T) {i : Nat} {v : Int32} (hi : i < 4) (hv : bnd v 0 9) : RX (mset S (4 + i) (upd (S (4 + i)) 2 v)) (mset T 4 (upd (T 4) i v)) := by
  obtain ⟨h1, h2, h3, h4, h5, h6, h7⟩ := h
  have ne : ∀ c : Nat, c < 4 ∨ 7 < c → (mset S (4 + i) (upd (S (4 + i)) 2 v)) c = S c := fun c hc => ms_n (by omega)
  refine ⟨h1.fr (ne _ (Or.inl (by decide))) rfl, fun j hj => ?_, h3.fr (fun j _ _ => by rw [ne _ (Or.inl (by decide))]) (by rw [ne _ (Or.inl (by decide))]) rfl rfl rfl rfl rfl, h4.fr (by rw [ne _ (Or.inr (by decide))]) (ne _ (Or.inr (by decide))) rfl rfl, h5.fr (by rw [ne _ (Or.inl (by decide))]) (fun c _ _ => ne _ (Or.inr (by omega))) rfl rfl rfl, h6.fr (by rw [ne _ (Or.inl (by decide))]) (by rw [ne _ (Or.inl (by decide))]) (ne _ (Or.inr (by decide))) (ne _ (Or.inr (by decide))) (fun i hi => ne _ (Or.inr (by omega))) rfl rfl, h7.fr (fun c hc => ne _ (Or.inr (by omega))) rfl rfl rfl⟩
  obtain ⟨⟨g1, g2, g3⟩, g4, g5, g6⟩ := h2 j hj
  by_cases e : j = i
  · subst e
    rw [ms_s, up_s, up_n (by decide), up_n (by decide), ms_n (by decide), ms_n (by decide), ms_s, up_s]
    exact ⟨⟨g1, g2, rfl⟩, g4, g5, hv⟩
  · rw [ms_n (by omega), ms_n (by decide), ms_n (by decide), ms_s, up_n e]
    exact ⟨⟨g1, g2, g3⟩, g4, g5, g6⟩
theorem h_force (h : RX S T) : w_X7_force a1 S (fun r1 S1 => w_X8_force a1 T (fun r2 T1 => r1 = r2 ∧ RX S1 T1)) := by
  have hsame := h.same SX.rf (sm_thr T 0)
  have hr := h.2.2.1
  have h14 : (mset T 0 (upd (T 0) 8 0)) 0 14 = S 0 5 := h.2.2.2.2.1.1.symm
  have hb := h.2.2.2.2.1.2.1
  unfold w_X7_force w_X8_force
  simp only [x_within, L_0, forall_eq]
  rw [h14]
  simp only [m_in, bI_0]
  by_cases c1 : 0 ≤ a1 ∧ a1 ≤ S 0 5 - 1
  · simp only [c1, not_true_eq_false, not_false_eq_true, true_and, and_true, false_implies, true_implies, and_self]
    refine ⟨hr.2.2.2.2.1, hsame.tab ?_ rfl rfl rfl⟩
    obtain ⟨g1, g2, g3, g4, g5⟩ := hsame.2.2.1
    refine ⟨g1, g2, g3, g4, rfl, ?_, ?_⟩
    · show 0 ≤ a1.toInt
      have := c1.1
      rw [i_le, I0] at this
      exact this
    · show a1.toInt < (S 0 5).toInt
      have h2 := c1.2
      rw [i_le] at h2
      have e : (S 0 5 - 1).toInt = (S 0 5).toInt - 1 := by
        obtain ⟨j, hj, ej⟩ := nI_of (x := S 0 5) (by rw [i_lt, I0]; have := hb.1; omega)
        obtain ⟨b1, b2⟩ := hb
        rw [ej] at b1 b2 ⊢
        rw [nI_toInt hj] at b1 b2 ⊢
        exact pk_sub_toInt (b := 1) (by omega) (by omega)
      omega
  · simp only [c1, not_true_eq_false, not_false_eq_true, true_and, and_true, false_implies, true_implies, and_self]
    exact hsame
end
