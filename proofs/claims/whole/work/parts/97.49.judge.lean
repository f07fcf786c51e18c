/-! PURE, 34: judge, which -/
section
variable {S T S' T' : Mem} {a1 a2 a3 a4 a5 : Int32}
theorem flo_d : ∀ a : Fin 64, 0 ≤ (nI a.val ^^^ (8 : Int32)) := by decide +kernel
theorem x_floorMod2 {post : Int32 → Mem → Prop} {a : Nat} (ha : a < 64) (h : post (nI (a % 8)) S) : w_X7_round (nI a) S post := by
  unfold w_X7_round w_J9_floorMod_7cf53 w_J9_floorMod_7cf53_18
  have e8 : (8 : Int32) = nI 8 := rfl
  refine ⟨by decide, fun z ez => ?_⟩
  rw [e8, jrem_nI (by omega) (by decide) (by decide)] at ez
  rw [ez]
  exact ⟨fun _ => h, fun z => absurd (flo_d ⟨a, ha⟩) z⟩
theorem x_knock {post : Int32 → Mem → Prop} {a : Int32} {b : Nat} (hm : MX S S' a b) (hq : post (knF S a b) S') : w_X4_knock S' post := by
  unfold w_X4_knock w_X4_knock_21
  refine x_isFirm hm ?_
  unfold knF at hq
  rw [hm.2.1]
  by_cases c : rckF S a b = 0
  · rw [if_pos c] at hq
    rw [bI_t c]
    exact ⟨fun z => absurd z (by decide), fun _ => hq⟩
  · rw [if_neg c] at hq
    rw [bI_f c]
    exact ⟨fun _ => ⟨fun z => by rw [if_pos z] at hq; exact hq, fun z => by rw [if_neg z] at hq; exact hq⟩, fun z => absurd rfl z⟩
def foF (it : Nat → Int32) (k : Nat → Int32) (b : Nat) : Nat → Nat → Int32
  | 0, _ => -1
  | n + 1, x => if it x = k ((b + x) % 8) then foF it k b n (x + 1) else nI x
theorem knF_sx (h : SX S S') (hk : rlN S < 6) (a : Int32) (b : Nat) : knF S' a b = knF S a b := by
  unfold knF
  rw [rckF_sx h hk, gapF_sx h]
theorem x_fo {post : Int32 → Mem → Prop} {a : Int32} {b q sz : Nat} (h : RX S T) (hb : b < 8) (eb : S 1 4 = nI b) (hsz : sz ≤ 40) (es : S (44 + 2 * q) 1 = nI sz) : ∀ (n x : Nat) (S1 : Mem), x + n = sz → SX S S1 → (∀ S2, SX S S2 → post (foF (S (45 + 2 * q)) (knF S a) b n x) S2) → w_X7_firstOtherwise_2 post (44 + 2 * q) (n + 1) a (nI x) S1 := by
  intro n
  induction n with
  | zero =>
    intro x S1 hx hs hq
    rw [w_X7_firstOtherwise_2, hs.2.2.2.2.2.2.2 (44 + 2 * q) (by omega), es]
    have e : x = sz := by omega
    rw [e]
    exact ⟨fun _ => hq S1 hs, fun z => absurd (nI_le (Nat.le_refl _) (by omega)) z⟩
  | succ n ih =>
    intro x S1 hx hs hq
    obtain ⟨k6, -⟩ := rl_of h
    rw [w_X7_firstOtherwise_2, hs.2.2.2.2.2.2.2 (44 + 2 * q) (by omega), es]
    refine ⟨fun z => absurd z (nI_ge (by omega) (by omega)), fun _ => ?_⟩
    rw [show S1 1 4 = nI b by rw [hs.2.1]; exact eb, nI_add]
    refine x_floorMod2 (by omega) (x_measure (h.same hs SM.rf) (Nat.mod_lt _ (by decide)) (fun S2 m2 => ⟨nI_in (by omega) (by decide), x_knock m2 ?_⟩))
    have s2 := hs.tr m2.sx
    rw [knF_sx hs k6, nI_clamp (by omega), show 44 + 2 * q + 1 = 45 + 2 * q by omega, s2.2.2.2.2.2.2.2 (45 + 2 * q) (by omega)]
    rw [foF] at hq
    refine ⟨fun c z4 e4 => ?_, fun c => ?_⟩
    · rw [if_pos c] at hq
      rw [e4, nI_1]
      exact ih _ _ (by omega) s2 hq
    · rw [if_neg c] at hq
      exact hq S2 s2
theorem m_fo {post : Int32 → Mem → Prop} {a : Int32} {b q sz : Nat} {it : Nat → Int32} (h : RX S T) (hb : b < 8) (eb : T 0 6 = nI b) (hq4 : q < 4) (hsz : sz ≤ 40) (es : T 18 q = nI sz) (ei : ∀ j, j < sz → T 19 (40 * q + j) = it j) : ∀ (n x : Nat) (T1 : Mem), x + n = sz → SM T T1 → (∀ T2, SM T T2 → post (foF it (knF S a) b n x) T2) → w_X8_firstOtherwise_2 post (n + 1) (nI q) a (nI x) T1 := by
  intro n
  induction n with
  | zero =>
    intro x T1 hx hs hq
    obtain ⟨h0, -, -, -, -, -, -, -, -, -, h18, h19⟩ := id hs
    rw [w_X8_firstOtherwise_2, nI_clamp (by omega), h18, es]
    have e : x = sz := by omega
    rw [e]
    exact ⟨four_nI hq4, fun _ => hq T1 hs, fun z => absurd (nI_le (Nat.le_refl _) (by omega)) z⟩
  | succ n ih =>
    intro x T1 hx hs hq
    obtain ⟨h0, -, -, -, -, -, -, -, -, -, h18, h19⟩ := id hs
    have ej : (40 : Int32) * nI q + nI x = nI (40 * q + x) := by rw [e40, pk_mul, nI_add]
    rw [w_X8_firstOtherwise_2, nI_clamp (n := q) (by omega), h18, es, ej, nI_clamp (n := 40 * q + x) (by omega), h19, ei x (by omega)]
    refine ⟨four_nI hq4, fun z => absurd z (nI_ge (by omega) (by omega)), fun _ => ⟨nI_in (by omega) (by decide), ?_⟩⟩
    rw [show T1 0 6 = nI b by rw [h0.2.2.1]; exact eb, nI_add]
    refine m_knock (h.same SX.rf hs) (by omega) (fun T2 t2 => ?_)
    rw [foF] at hq
    refine ⟨fun c z2 e2 => ?_, fun c => ?_⟩
    · rw [if_pos c] at hq
      rw [e2, nI_1]
      exact ih _ _ (by omega) (hs.tr t2) hq
    · rw [if_neg c] at hq
      exact hq T2 (hs.tr t2)
theorem sheet_of (h : RX S T) {q : Nat} (hq : q < 4) : ∃ sz : Nat, sz ≤ 40 ∧ S (44 + 2 * q) 1 = nI sz ∧ T 18 q = nI sz ∧ (∀ j, j < sz → T 19 (40 * q + j) = S (45 + 2 * q) j) ∧ T 17 q = S (44 + 2 * q) 0 ∧ (S (44 + 2 * q) 0 = -1) = ¬ 0 ≤ S (44 + 2 * q) 0 := by
  obtain ⟨g1, g2, g3⟩ := h.2.2.2.2.2.2 q hq
  obtain ⟨sz, hs, hs2, es⟩ := nI_ofb g2.2 (by decide)
  refine ⟨sz, by omega, es, by rw [← g2.1, es], fun j hj => (g3 j ?_).symm, g1.1.symm, ?_⟩
  · rw [es, nI_toInt hs]; omega
  · rw [i_eq, Im1, i_le, I0]
    have := g1.2.1
    exact propext (by omega)
theorem h_judge (h : RX S T) : w_X7_judge a1 S (fun r1 S1 => w_X8_judge a1 T (fun r2 T1 => r1 = r2 ∧ RX S1 T1)) := by
  have hsame := h.same SX.rf (sm_thr T 0)
  obtain ⟨b, hb, e1, e2, e3⟩ := place_of h
  unfold w_X7_judge w_X7_judge_44 w_X8_judge w_X8_judge_26 w_X8_judge_45
  simp only [x_isSheet, x_isMissing, L_0, L_3, m_in, bI_0, forall_eq, Nat.reduceAdd]
  by_cases c1 : 0 ≤ a1 ∧ a1 ≤ 3
  · obtain ⟨q, hq, eq, ec⟩ := leg_nI c1
    have hin : vp_in a1 4 := rg_in (b := 3) (by decide) c1
    obtain ⟨sz, s1, s2, s3, s4, s5, s6⟩ := sheet_of hsame hq
    simp only [c1, hin, ec, s5, s6, not_true_eq_false, not_false_eq_true, true_and, and_true, false_implies, true_implies, and_self]
    by_cases c2 : 0 ≤ S (44 + 2 * q) 0
    · simp only [c2, not_true_eq_false, not_false_eq_true, true_and, and_true, false_implies, true_implies, and_self]
      unfold w_X7_firstOtherwise w_X8_firstOtherwise
      refine ⟨sz + 1, x_fo (b := b) h hb e1 s1 s2 sz 0 S (by omega) SX.rf (fun S2 t2 => ?_)⟩
      rw [eq, show (mset T 0 (upd (T 0) 8 0)) 0 4 = S 1 2 from e3]
      exact ⟨sz + 1, m_fo (b := b) (it := S (45 + 2 * q)) hsame hb e2 hq s1 s3 s4 sz 0 _ (by omega) SM.rf (fun T2 t3 => ⟨rfl, hsame.same t2 t3⟩)⟩
    · simp only [c2, not_true_eq_false, not_false_eq_true, true_and, and_true, false_implies, true_implies, and_self]
      exact hsame
  · simp only [c1, not_true_eq_false, not_false_eq_true, true_and, and_true, false_implies, true_implies, and_self]
    exact hsame
end
