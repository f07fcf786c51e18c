/-! PURE, 12: copy, floors -/
section
variable {S T S' T' : Mem} {a1 a2 a3 a4 a5 : Int32}
theorem e40 : (40 : Int32) = nI 40 := rfl
theorem cp_m2 {post : Int32 → Mem → Prop} {q d m : Nat} (hq : q < 4) (hd : d + m ≤ 40) : ∀ (n k : Nat) (T : Mem), k + n = m → (∀ j : Nat, j < k → T 19 (40 * q + d + j) = T 20 j) → (∀ T', (∀ c, c ≠ 19 → T' c = T c) → (∀ j : Nat, j < m → T' 19 (40 * q + d + j) = T 20 j) → (∀ j, j < 40 * q + d ∨ 40 * q + d + m ≤ j → T' 19 j = T 19 j) → post (nI m) T') → w_X8_copy_155 post (n + 1) (nI q) (nI d) (nI m) (nI k) T := by
  intro n
  induction n with
  | zero =>
    intro k T hk hz hp
    rw [w_X8_copy_155]
    have e : k = m := by omega
    subst e
    exact ⟨fun _ => hp T (fun _ _ => rfl) hz (fun _ _ => rfl), fun z => absurd (nI_le (Nat.le_refl _) (by omega)) z⟩
  | succ n ih =>
    intro k T hk hz hp
    rw [w_X8_copy_155, e40, pk_mul, nI_add, nI_add]
    refine ⟨fun z => absurd z (nI_ge (by omega) (by omega)), fun _ => ⟨nI_in (by omega) (by decide), nI_in (by omega) (by decide), fun S1 e1 z2 e2 => ?_⟩⟩
    rw [e2, e1, nI_1, nI_clamp (n := 40 * q + d + k) (by omega), nI_clamp (n := k) (by omega)]
    refine ih _ _ (by omega) (fun j hj => ?_) (fun S' s1 s2 s3 => hp S' (fun c hc => (s1 c hc).trans (ms_n hc)) s2 (fun j hj => ?_))
    · rw [ms_s, ms_n (by decide)]
      by_cases e : j = k
      · rw [e, up_s]
      · rw [up_n (by omega)]; exact hz j (by omega)
    · rw [s3 j hj, ms_s, up_n (by omega)]
theorem cp_m1 {post : Int32 → Mem → Prop} {p q b d m : Nat} (hp4 : p < 4) (hq : q < 4) (hb : b + m ≤ 40) (hd : d + m ≤ 40) : ∀ (n k : Nat) (T : Mem), k + n = m → (∀ j : Nat, j < k → T 20 j = T 19 (40 * p + b + j)) → (∀ T', (∀ c, c ≠ 19 → c ≠ 20 → T' c = T c) → (∀ j : Nat, j < m → T' 19 (40 * q + d + j) = T 19 (40 * p + b + j)) → (∀ j, j < 40 * q + d ∨ 40 * q + d + m ≤ j → T' 19 j = T 19 j) → post (nI m) T') → w_X8_copy_118 post (n + 1) (nI p) (nI b) (nI q) (nI d) (nI m) (nI k) T := by
  intro n
  induction n with
  | zero =>
    intro k T hk hz hp
    rw [w_X8_copy_118]
    have e : k = m := by omega
    subst e
    refine ⟨fun _ => ⟨k + 1, cp_m2 hq hd k 0 T (by omega) (fun j hj => absurd hj (by omega)) (fun T' t1 t2 t3 => hp T' (fun c hc _ => t1 c hc) (fun j hj => ?_) t3)⟩, fun z => absurd (nI_le (Nat.le_refl _) (by omega)) z⟩
    rw [t2 j hj, hz j hj]
  | succ n ih =>
    intro k T hk hz hp
    rw [w_X8_copy_118, e40, pk_mul, nI_add, nI_add]
    refine ⟨fun z => absurd z (nI_ge (by omega) (by omega)), fun _ => ⟨nI_in (by omega) (by decide), nI_in (by omega) (by decide), fun S1 e1 z2 e2 => ?_⟩⟩
    rw [e2, e1, nI_1, nI_clamp (n := 40 * p + b + k) (by omega), nI_clamp (n := k) (by omega)]
    refine ih _ _ (by omega) (fun j hj => ?_) (fun S' s1 s2 s3 => hp S' (fun c hc hd => (s1 c hc hd).trans (ms_n hd)) (fun j hj => ?_) (fun j hj => ?_))
    · rw [ms_s, ms_n (by decide)]
      by_cases e : j = k
      · rw [e, up_s]
      · rw [up_n e]; exact hz j (by omega)
    · rw [s2 j hj, ms_n (by decide)]
    · rw [s3 j hj, ms_n (by decide)]
theorem sub_toInt {x y : Int32} {a b : Int} (hx : bnd x 0 a) (hy : bnd y 0 b) (ha : a < 1000000000) (hb : b < 1000000000) : (x - y).toInt = x.toInt - y.toInt := by
  obtain ⟨i, hi, hi2, ei⟩ := nI_ofb hx (by decide)
  obtain ⟨j, hj, hj2, ej⟩ := nI_ofb hy (by decide)
  subst ei ej
  rw [nI_toInt hi, nI_toInt hj]
  exact pk_sub_toInt (by omega) (by omega)
theorem RX.cpy (h : RX S T) {p q b d m : Nat} (hp4 : p < 4) (hq : q < 4) (hb : (b : Int) + m ≤ (S (44 + 2 * p) 1).toInt) (hd : (d : Int) + m ≤ (S (44 + 2 * q) 1).toInt) (ht : ∀ c, c ≠ 19 → c ≠ 20 → T' c = T c) (t1 : ∀ j : Nat, j < m → T' 19 (40 * q + d + j) = T 19 (40 * p + b + j)) (t2 : ∀ j, j < 40 * q + d ∨ 40 * q + d + m ≤ j → T' 19 j = T 19 j) : RX (mset S (45 + 2 * q) (va_cpy (S (45 + 2 * p)) (S (45 + 2 * q)) b d m)) T' := by
  obtain ⟨g1, g2, g3⟩ := h.2.2.2.2.2.2 q hq
  obtain ⟨p1, p2, p3⟩ := h.2.2.2.2.2.2 p hp4
  have b1 := g2.2.2
  have b2 := p2.2.2
  have hm : RX (mset S (45 + 2 * q) (va_cpy (S (45 + 2 * p)) (S (45 + 2 * q)) b d m)) (mset T 19 (T' 19)) := by
    refine h.sheet (s := S (44 + 2 * q) 0) (m := S (44 + 2 * q) 1) hq (fun c d1 d2 => ms_n d2) (fun c d1 d2 d3 => ms_n d3) ⟨g1.1.symm, fun _ _ => rfl⟩ ⟨g2.1.symm, fun _ _ => rfl⟩ (fun j hj => ?_) (by rw [ms_n (by omega)]) (by rw [ms_n (by omega)]) g1.2 g2.2 (fun j hj => ?_)
    · rw [ms_s]
      exact t2 j (by omega)
    · rw [ms_s, ms_s]
      by_cases c1 : d ≤ j ∧ j < d + m
      · rw [pk_cpy_in c1.1 c1.2]
        have := t1 (j - d) (by omega)
        rw [show 40 * q + j = 40 * q + d + (j - d) by omega, this, p3 _ (by omega), show 40 * p + (b + (j - d)) = 40 * p + b + (j - d) by omega]
      · rw [pk_cpy_out (by omega), t2 _ (by omega)]
        exact g3 j hj
  refine hm.same SX.rf ?_
  have t0 := ht 0 (by decide) (by decide)
  exact ⟨⟨by rw [t0]; rfl, by rw [t0]; rfl, by rw [t0]; rfl, by rw [t0]; rfl, by rw [t0]; rfl, by rw [t0]; rfl, by rw [t0]; rfl, by rw [t0]; rfl⟩, ht 1 (by decide) (by decide), ht 2 (by decide) (by decide), ht 3 (by decide) (by decide), ht 4 (by decide) (by decide), tp3_of (ht 8 (by decide) (by decide)) (ht 6 (by decide) (by decide)) (ht 7 (by decide) (by decide)), ht 9 (by decide) (by decide), ht 10 (by decide) (by decide), ht 16 (by decide) (by decide), ht 17 (by decide) (by decide), ht 18 (by decide) (by decide), by rw [ms_s]⟩
theorem h_copy (h : RX S T) : w_X7_copy a1 a2 a3 a4 a5 S (fun r1 S1 => w_X8_copy a1 a2 a3 a4 a5 T (fun r2 T1 => r1 = r2 ∧ RX S1 T1)) := by
  have hsame := h.same SX.rf (sm_thr T 0)
  have neg : ∀ x : Int32, (x < 0) = ¬ 0 ≤ x := fun x => by rw [i_lt, i_le]; exact propext (by omega)
  unfold w_X7_copy w_X7_copy_14 w_X7_copy_49 w_X7_copy_91 w_X8_copy w_X8_copy_29 w_X8_copy_50 w_X8_copy_112
  simp only [x_isSheet, x_isMissing, x_hasItems, L_0, L_3, m_in, bI_0, forall_eq, Nat.reduceAdd, neg]
  by_cases c1 : 0 ≤ a1 ∧ a1 ≤ 3
  · by_cases c2 : 0 ≤ a3 ∧ a3 ≤ 3
    · obtain ⟨p, hp, ep, ecp⟩ := leg_nI c1
      obtain ⟨q, hq, eq, ecq⟩ := leg_nI c2
      have hin : vp_in a1 4 := rg_in (b := 3) (by decide) c1
      have hin3 : vp_in a3 4 := rg_in (b := 3) (by decide) c2
      obtain ⟨g1, g2, g3⟩ := h.2.2.2.2.2.2 q hq
      obtain ⟨p1, p2, p3⟩ := h.2.2.2.2.2.2 p hp
      have e17 : (mset T 0 (upd (T 0) 8 0)) 17 q = S (44 + 2 * q) 0 := g1.1.symm
      have e18 : (mset T 0 (upd (T 0) 8 0)) 18 q = S (44 + 2 * q) 1 := g2.1.symm
      have f17 : (mset T 0 (upd (T 0) 8 0)) 17 p = S (44 + 2 * p) 0 := p1.1.symm
      have f18 : (mset T 0 (upd (T 0) 8 0)) 18 p = S (44 + 2 * p) 1 := p2.1.symm
      have ms : ∀ i, bnd (S (44 + 2 * i) 0) (-1) 2 → (S (44 + 2 * i) 0 = -1) = ¬ 0 ≤ S (44 + 2 * i) 0 := fun i hb => by
        rw [i_eq, Im1, i_le, I0]
        have := hb.1
        exact propext (by omega)
      simp only [c1, c2, hin, hin3, ecp, ecq, e17, e18, f17, f18, ms q g1.2, ms p p1.2, not_true_eq_false, not_false_eq_true, true_and, and_true, false_implies, true_implies, and_self]
      by_cases c3 : 0 ≤ S (44 + 2 * p) 0
      · by_cases c4 : 0 ≤ S (44 + 2 * q) 0
        · by_cases c5 : S (44 + 2 * p) 0 = S (44 + 2 * q) 0
          · by_cases c6 : 0 ≤ a5
            · by_cases c7 : 0 ≤ a2
              · by_cases c8 : 0 ≤ a4
                · by_cases c9 : S (44 + 2 * p) 1 - a5 < a2
                  · simp only [c3, c4, c5, c6, c7, c8, c9, not_true_eq_false, not_false_eq_true, true_and, and_true, false_implies, true_implies, and_self, and_false]
                    exact hsame
                  · by_cases c10 : S (44 + 2 * q) 1 - a5 < a4
                    · have c11 : ¬ a4 ≤ S (44 + 2 * q) 1 - a5 := by rw [i_lt] at c10; rw [i_le]; omega
                      simp only [c3, c4, c5, c6, c7, c8, c9, c10, c11, not_true_eq_false, not_false_eq_true, true_and, and_true, false_implies, true_implies, and_self, and_false]
                      exact hsame
                    · have c11 : a4 ≤ S (44 + 2 * q) 1 - a5 := by rw [i_lt] at c10; rw [i_le]; omega
                      obtain ⟨b, hb, eb⟩ := nI_of (x := a2) (by rw [neg]; exact fun z => z c7)
                      obtain ⟨d, hd, ed⟩ := nI_of (x := a4) (by rw [neg]; exact fun z => z c8)
                      obtain ⟨m, hm, em⟩ := nI_of (x := a5) (by rw [neg]; exact fun z => z c6)
                      have sz : ∀ i, bnd (S (44 + 2 * i) 1) 0 40 → ∀ x y : Nat, x < 2 ^ 31 → y < 2 ^ 31 → ¬ (S (44 + 2 * i) 1 - nI y).toInt < (nI x).toInt → (x : Int) + y ≤ (S (44 + 2 * i) 1).toInt := by
                        intro i hb x y hx hy hc
                        obtain ⟨j, hj, hj2, ej⟩ := nI_ofb hb (by decide)
                        rw [ej] at hc ⊢
                        rw [nI_toInt hj]
                        rw [nI_toInt hx] at hc
                        by_cases hy2 : y < 1000
                        · rw [pk_sub_toInt (by omega) (by omega)] at hc
                          omega
                        · exfalso
                          apply hc
                          rw [Int32.toInt_sub, nI_toInt hj, nI_toInt hy]
                          simp only [Int.bmod, (show ((2 ^ 32 : Nat) : Int) = 4294967296 from rfl)]
                          omega
                      rw [i_lt] at c9 c10
                      rw [eb, em] at c9
                      rw [ed, em] at c10
                      have s1 := sz p p2.2 b m hb hm c9
                      have s2 := sz q g2.2 d m hd hm c10
                      have b1 := p2.2.2
                      have b2 := g2.2.2
                      have n2 : ¬ (S (44 + 2 * p) 1 - a5 < a2) := by rw [i_lt, eb, em]; exact c9
                      have n4 : ¬ (S (44 + 2 * q) 1 - a5 < a4) := by rw [i_lt, ed, em]; exact c10
                      simp only [c3, c4, c5, c6, c7, c8, n2, n4, c11, not_true_eq_false, not_false_eq_true, true_and, and_true, false_implies, true_implies, and_self, and_false]
                      rw [eb, ed, em, nI_clamp hb, nI_clamp hd, nI_clamp hm]
                      refine ⟨⟨by omega, by omega⟩, ?_⟩
                      rw [ep, eq]
                      refine ⟨m + 1, cp_m1 hp hq (by omega) (by omega) m 0 _ (by omega) (fun j hj => absurd hj (by omega)) (fun T' t1 t2 t3 => ⟨rfl, ?_⟩)⟩
                      have := hsame.cpy hp hq s1 s2 t1 t2 t3
                      rw [show 45 + 2 * q = 44 + 2 * q + 1 by omega, show 45 + 2 * p = 44 + 2 * p + 1 by omega] at this
                      exact this
                · simp only [c3, c4, c5, c6, c7, c8, not_true_eq_false, not_false_eq_true, true_and, and_true, false_implies, true_implies, and_self, false_and, and_false]
                  by_cases c9 : S (44 + 2 * p) 1 - a5 < a2
                  · simp only [c9, not_true_eq_false, not_false_eq_true, true_and, and_true, false_implies, true_implies, and_self, false_and, and_false]
                    exact hsame
                  · simp only [c9, not_true_eq_false, not_false_eq_true, true_and, and_true, false_implies, true_implies, and_self, false_and, and_false]
                    exact hsame
              · simp only [c3, c4, c5, c6, c7, not_true_eq_false, not_false_eq_true, true_and, and_true, false_implies, true_implies, and_self, false_and, and_false]
                exact hsame
            · simp only [c3, c4, c5, c6, not_true_eq_false, not_false_eq_true, true_and, and_true, false_implies, true_implies, and_self, false_and, and_false]
              exact hsame
          · simp only [c3, c4, c5, not_true_eq_false, not_false_eq_true, true_and, and_true, false_implies, true_implies, and_self]
            exact hsame
        · simp only [c3, c4, not_true_eq_false, not_false_eq_true, true_and, and_true, false_implies, true_implies, and_self]
          exact hsame
      · simp only [c3, not_true_eq_false, not_false_eq_true, true_and, and_true, false_implies, true_implies, and_self]
        exact hsame
    · simp only [c1, c2, not_true_eq_false, not_false_eq_true, true_and, and_true, false_implies, true_implies, and_self]
      exact hsame
  · simp only [c1, not_true_eq_false, not_false_eq_true, true_and, and_true, false_implies, true_implies, and_self]
    exact hsame
end
