/-! PURE, 11: sheet, cell -/
section
variable {S T S' T' : Mem} {a1 a2 a3 a4 a5 : Int32}
theorem leg_nI {x : Int32} (h : 0 ≤ x ∧ x ≤ 3) : ∃ q : Nat, q < 4 ∧ x = nI q ∧ x.toNatClampNeg = q := by
  obtain ⟨q, hq, hq2, e⟩ := nI_ofb (bnd_of (a := 0) (b := 3) (by decide) (by decide) h) (by decide)
  subst e
  exact ⟨q, by omega, rfl, nI_clamp (by omega)⟩
theorem four_nI {q : Nat} (hq : q < 4) : vp_in (nI q) 4 := nI_in hq (by decide)
theorem m_sheetGo {post : Int32 → Mem → Prop} {q : Nat} {s m : Int32} (hq : q < 4) (hn : s < 0 ∨ 0 ≤ m) (hp : ∀ T', (∀ d, d ≠ 17 → d ≠ 18 → d ≠ 19 → T' d = T d) → T' 17 = upd (T 17) q s → T' 18 = upd (T 18) q (if 0 ≤ s then m else 0) → (∀ j : Nat, j < 40 → T' 19 (40 * q + j) = 0) → (∀ j, j < 40 * q ∨ 40 * q + 40 ≤ j → T' 19 j = T 19 j) → post 1 T') : w_X8_sheet_44 post (nI q) s m T := by
  have go : w_X8_sheet_55 post (nI q) s m T := by
    unfold w_X8_sheet_55 w_X8_sheet_76
    rw [nI_clamp (by omega)]
    refine ⟨four_nI hq, fun S1 e1 => ?_⟩
    subst e1
    refine ⟨fun c => ⟨four_nI hq, fun S2 e2 => ?_⟩, fun c => ⟨four_nI hq, fun S2 e2 => ?_⟩⟩ <;> subst e2 <;> refine ⟨41, sc_m hq 40 0 _ rfl (fun j hj => absurd hj (by omega)) (fun T' s1 s2 s3 => hp T' (fun d d1 d2 d3 => ?_) ?_ ?_ s2 (fun j hj => ?_))⟩
    · rw [s1 d d3, ms_n d2, ms_n d1]
    · rw [s1 17 (by decide), ms_n (by decide), ms_s]
    · rw [s1 18 (by decide), ms_s, ms_n (by decide), if_pos c]
    · rw [s3 j hj, ms_n (by decide), ms_n (by decide)]
    · rw [s1 d d3, ms_n d2, ms_n d1]
    · rw [s1 17 (by decide), ms_n (by decide), ms_s]
    · rw [s1 18 (by decide), ms_s, ms_n (by decide), if_neg c]
    · rw [s3 j hj, ms_n (by decide), ms_n (by decide)]
  unfold w_X8_sheet_44
  exact ⟨fun _ => go, fun c => ⟨fun _ => go, fun c2 => absurd (hn.resolve_left c) c2⟩⟩
theorem h_sheet (h : RX S T) : w_X7_sheet a1 a2 a3 S (fun r1 S1 => w_X8_sheet a1 a2 a3 T (fun r2 T1 => r1 = r2 ∧ RX S1 T1)) := by
  have hsame := h.same SX.rf (sm_thr T 0)
  unfold w_X7_sheet w_X7_sheet_16 w_X8_sheet w_X8_sheet_41
  simp only [x_isSheet, x_within, L_0, L_2, L_3, L_m1, m_in, bI_0, forall_eq, Nat.reduceAdd]
  by_cases c1 : 0 ≤ a1 ∧ a1 ≤ 3
  · obtain ⟨q, hq, eq, ec⟩ := leg_nI c1
    have hin : vp_in a1 4 := rg_in (b := 3) (by decide) c1
    by_cases c2 : (-1 : Int32) ≤ a2 ∧ a2 ≤ 2
    · by_cases c3 : a2 = -1
      · have c4 : a2 < 0 := by rw [c3]; decide
        simp only [c1, c2, c3, hin, ec, (show ((-1 : Int32) < 0) = True from eq_true (by decide)), (show ((-1 : Int32) ≤ -1) = True from eq_true (by decide)), (show ((-1 : Int32) ≤ 2) = True from eq_true (by decide)), not_true_eq_false, not_false_eq_true, true_and, and_true, false_implies, true_implies, and_self]
        unfold w_X3_vanish
        intro S1 e1 S2 e2
        subst e1 e2
        rw [eq]
        refine m_sheetGo hq (Or.inl (by decide)) (fun T' t1 t2 t3 t4 t5 => ⟨rfl, hsame.sheet (s := -1) (m := 0) hq (fun c d1 d2 => ?_) t1 ?_ ?_ t5 ?_ ?_ (bnd_of (lo := -1) (hi := 2) (by decide) (by decide) (by decide)) (bnd_of (lo := 0) (hi := 40) (by decide) (by decide) (by decide)) (fun j hj => absurd hj (by rw [I0]; omega))⟩)
        · rw [ms_n d1, ms_n d1]
        · rw [t2]; exact ⟨up_s, fun k hk => up_n hk⟩
        · rw [t3]; exact ⟨up_s, fun k hk => up_n hk⟩
        · rw [ms_s, ms_s, up_n (by decide), up_s]
        · rw [ms_s, up_s]
      · have c4 : ¬ a2 < 0 := by
          have := c2.1
          rw [i_le, Im1] at this
          rw [i_eq, Im1] at c3
          rw [i_lt, I0]
          omega
        have c4' : 0 ≤ a2 := by
          rw [i_lt, I0] at c4
          rw [i_le, I0]
          omega
        by_cases c5 : a3 ≤ 40
        · by_cases c6 : 0 ≤ a3
          · simp only [c1, c2, c3, c4, c5, c6, hin, ec, not_true_eq_false, not_false_eq_true, true_and, and_true, false_implies, true_implies, and_self]
            refine x_become ⟨c6, c5⟩ (fun S' s1 s2 s3 s4 => ?_)
            rw [eq]
            refine m_sheetGo hq (Or.inr c6) (fun T' t1 t2 t3 t4 t5 => ⟨rfl, hsame.sheet (s := a2) (m := a3) hq (fun c d1 d2 => s1 c d1 (by omega)) t1 ?_ ?_ t5 s2 s3 (bnd_of (by decide) (by decide) c2) (bnd_of (by decide) (by decide) ⟨c6, c5⟩) (fun j hj => ?_)⟩)
            · rw [t2]; exact ⟨up_s, fun k hk => up_n hk⟩
            · rw [t3, if_pos c4']; exact ⟨up_s, fun k hk => up_n hk⟩
            · have hm := (bnd_of (a := 0) (b := 40) (by decide) (by decide) ⟨c6, c5⟩ : bnd a3 0 40).2
              rw [t4 j (by omega)]
              have := s4 j (by omega)
              rw [show 45 + 2 * q = 44 + 2 * q + 1 by omega]
              exact this
          · unfold w_X8_sheet_44
            simp only [c1, c2, c3, c4, c5, c6, hin, ec, not_true_eq_false, not_false_eq_true, true_and, and_true, false_implies, true_implies, and_self]
            exact hsame
        · simp only [c1, c2, c3, c4, c5, hin, ec, not_true_eq_false, not_false_eq_true, true_and, and_true, false_implies, true_implies, and_self]
          exact hsame
    · simp only [c1, c2, not_true_eq_false, not_false_eq_true, true_and, and_true, false_implies, true_implies, and_self]
      exact hsame
  · simp only [c1, not_true_eq_false, not_false_eq_true, true_and, and_true, false_implies, true_implies, and_self]
    exact hsame
theorem RX.item (h : RX S T) {i k : Nat} {v : Int32} (hi : i < 4) (hk : (k : Int) < (S (44 + 2 * i) 1).toInt) : RX (mset S (45 + 2 * i) (upd (S (45 + 2 * i)) k v)) (mset T 19 (upd (T 19) (40 * i + k) v)) := by
  obtain ⟨g1, g2, g3⟩ := h.2.2.2.2.2.2 i hi
  have hb := g2.2.2
  refine h.sheet (s := S (44 + 2 * i) 0) (m := S (44 + 2 * i) 1) hi (fun c d1 d2 => ms_n d2) (fun c d1 d2 d3 => ms_n d3) ⟨g1.1.symm, fun _ _ => rfl⟩ ⟨g2.1.symm, fun _ _ => rfl⟩ (fun j hj => by rw [ms_s, up_n (by omega)]) (by rw [ms_n (by omega)]) (by rw [ms_n (by omega)]) g1.2 g2.2 (fun j hj => ?_)
  rw [ms_s, ms_s]
  by_cases e : j = k
  · rw [e, up_s, up_s]
  · rw [up_n e, up_n (by omega)]; exact g3 j hj
theorem h_cell (h : RX S T) : w_X7_cell a1 a2 a3 S (fun r1 S1 => w_X8_cell a1 a2 a3 T (fun r2 T1 => r1 = r2 ∧ RX S1 T1)) := by
  have hsame := h.same SX.rf (sm_thr T 0)
  unfold w_X7_cell w_X8_cell w_X8_cell_93 w_X3_put w_X3_put_53
  simp only [x_isSheet, x_isMissing, x_hasItem, L_0, L_3, m_in, bI_0, forall_eq, Nat.reduceAdd]
  by_cases c1 : 0 ≤ a1 ∧ a1 ≤ 3
  · obtain ⟨q, hq, eq, ec⟩ := leg_nI c1
    have hin : vp_in a1 4 := rg_in (b := 3) (by decide) c1
    obtain ⟨g1, g2, g3⟩ := h.2.2.2.2.2.2 q hq
    have e17 : (mset T 0 (upd (T 0) 8 0)) 17 q = S (44 + 2 * q) 0 := g1.1.symm
    have e18 : (mset T 0 (upd (T 0) 8 0)) 18 q = S (44 + 2 * q) 1 := g2.1.symm
    have b0 := g1.2
    have b1 := g2.2
    by_cases c2 : S (44 + 2 * q) 0 = -1
    · have c3 : ¬ (0 : Int32) ≤ -1 := by decide
      simp only [c1, hin, ec, e17, e18, c2, c3, not_true_eq_false, not_false_eq_true, true_and, and_true, false_implies, true_implies, and_self]
      exact hsame
    · have c3 : 0 ≤ S (44 + 2 * q) 0 := by
        rw [i_eq, Im1] at c2
        rw [i_le, I0]
        have := b0.1
        omega
      have es : (S (44 + 2 * q) 1 - 1).toInt = (S (44 + 2 * q) 1).toInt - 1 := by
        obtain ⟨j, hj, hj2, ej⟩ := nI_ofb b1 (by decide)
        rw [ej, nI_toInt hj]
        exact pk_sub_toInt (b := 1) (by omega) (by omega)
      by_cases c4 : 0 ≤ a2 ∧ ¬ S (44 + 2 * q) 1 ≤ a2
      · have c5 : 0 ≤ a2 ∧ a2 ≤ S (44 + 2 * q) 1 - 1 := by
          refine ⟨c4.1, ?_⟩
          have := c4.2
          rw [i_le] at this ⊢
          omega
        have hi2 : vp_in a2 40 := by
          have h0 := c4.1
          have h1 := c4.2
          rw [i_le, I0] at h0
          rw [i_le] at h1
          have := b1.2
          exact in_of h0 (by omega)
        obtain ⟨k, hk, hk2, ek⟩ := nI_ofb (x := a2) (a := 0) (b := 39) (by
          have h0 := c4.1
          have h1 := c4.2
          rw [i_le, I0] at h0
          rw [i_le] at h1
          have := b1.2
          exact ⟨h0, by omega⟩) (by decide)
        have hks : (k : Int) < (S (44 + 2 * q) 1).toInt := by
          have h1 := c4.2
          rw [i_le, ek, nI_toInt hk] at h1
          omega
        have ei : (40 : Int32) * a1 + a2 = nI (40 * q + k) := by
          have e40 : (40 : Int32) = nI 40 := rfl
          rw [eq, ek, e40, pk_mul, nI_add]
        have hi3 : vp_in (nI (40 * q + k)) 160 := nI_in (by omega) (by decide)
        have ek2 : a2.toNatClampNeg = k := by rw [ek, nI_clamp hk]
        have ek3 : (nI (40 * q + k)).toNatClampNeg = 40 * q + k := nI_clamp (by omega)
        simp only [c1, hin, ec, e17, e18, c2, c3, c4, c5, hi2, ei, hi3, ek2, ek3, not_true_eq_false, not_false_eq_true, true_and, and_true, false_implies, true_implies, and_self, Nat.reduceAdd, Nat.add_right_comm _ (2 * q) 1]
        refine ⟨fun z0 => ⟨fun z1 => ?_, fun z1 => ?_⟩, fun z0 => ?_⟩
        · simp only [z0, z1, not_true_eq_false, not_false_eq_true, true_and, and_true, false_implies, true_implies, and_self]
          exact hsame.item hq hks
        · simp only [z1, q_1_0, not_true_eq_false, not_false_eq_true, true_and, and_true, false_implies, true_implies, and_self]
          exact hsame.item hq hks
        · simp only [z0, not_true_eq_false, not_false_eq_true, true_and, and_true, false_implies, true_implies, and_self]
          exact hsame.item hq hks
      · have c5 : ¬ (0 ≤ a2 ∧ a2 ≤ S (44 + 2 * q) 1 - 1) := by
          rintro ⟨z0, z1⟩
          refine c4 ⟨z0, ?_⟩
          rw [i_le] at z1 ⊢
          omega
        simp only [c1, hin, ec, e17, e18, c2, c3, c4, c5, not_true_eq_false, not_false_eq_true, true_and, and_true, false_implies, true_implies, and_self]
        exact hsame
  · simp only [c1, not_true_eq_false, not_false_eq_true, true_and, and_true, false_implies, true_implies, and_self]
    exact hsame
end
