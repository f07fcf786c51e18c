/-! PURE, 25: stands, standsAt -/
section
variable {S T S' T' : Mem} {a1 a2 a3 a4 a5 : Int32}
def wrtF (S : Mem) (a : Int32) (b : Nat) : Int32 := hl (vR S (rlN S) 1 (nmF S a b (rckF S a b) (leaF S a b))) (-999) 999
def splF (S : Mem) (a : Int32) (b : Nat) : Int32 := hl (vR S (rlN S) 2 (nmF S a b (rckF S a b) (leaF S a b))) 0 99
def bitF (S : Mem) (a : Int32) (b : Nat) : Int32 := if gapF S a b = 0 then 0 else if gapF S a b ≤ 0 then 5 else 10
def stF (S : Mem) (a : Int32) (b : Nat) (k : Int32) : Int32 := if k = 0 then gapF S a b else if k = 1 then rckF S a b else if k = 2 then leaF S a b else if k = 3 then bitF S a b else if k = 4 then wrtF S a b else splF S a b
theorem nmF_0 {a x y : Int32} {b : Nat} : nmF S a b x y 0 = x := if_pos rfl
theorem nmF_1 {a x y : Int32} {b : Nat} : nmF S a b x y 1 = y := by
  unfold nmF
  rw [if_neg (by decide), if_pos rfl]
theorem nmF_2 {a x y x' y' : Int32} {b j : Nat} (j0 : j ≠ 0) (j1 : j ≠ 1) : nmF S a b x y j = nmF S a b x' y' j := by
  unfold nmF
  rw [if_neg j0, if_neg j1, if_neg j0, if_neg j1]
theorem x_says {post : Int32 → Mem → Prop} {a lo hi : Int32} {b p : Nat} (h : RX S T) (hp : p < 3) (hm : MX S S' a b) (hq : ∀ S2, SX S S2 → post (hl (vR S (rlN S) p (nmF S a b (rckF S a b) (leaF S a b))) lo hi) S2) : w_X4_name (-1 : Int32) (S' 39 5) S' (fun S1 => w_X4_name (-2 : Int32) (S1 39 6) S1 (fun S2 => w_X2_value (20 + 1 + 3 * rlN S) (nI p) 41 42 S2 (fun r3 S3 => w_X7_held r3 lo hi S3 (fun r4 S4 => post r4 S4)))) := by
  obtain ⟨k6, k1, k2, k3⟩ := rl_of h
  have hsx := hm.sx
  obtain ⟨c0, g3, g4, g5, g6, gn⟩ := hm
  refine x_name (j := 0) (by decide) (by decide) (x_name (j := 1) (by decide) (by decide) ?_)
  simp only [mm, ms_s]
  have r3 : ∀ f : Nat → Int32, RuleOk (mset S' 41 f) T (rlN S) := fun f => k3.fr k6 (fun c c1 c2 => by rw [ms_n (by omega)]; exact c0 c (Or.inl (by omega))) rfl rfl
  have x39 : ∀ f : Nat → Int32, (mset S' 41 f) 39 6 = leaF S a b := fun f => g6
  refine x_value (p := p) (r3 _) k6 hp (fun S5 s5 => ?_)
  rw [ms_s, x39, vR_cg (S := S) (nm' := nmF S a b (rckF S a b) (leaF S a b)) k3 hp ?_ (by rw [ms_n (by omega)]; exact c0 _ (Or.inl (by omega))) (by rw [ms_n (by omega)]; exact c0 _ (Or.inl (by omega))), x_held2]
  · refine hq S5 (hsx.tr ?_)
    have q : ∀ d, d ≠ 41 → d ≠ 42 → S5 d = S' d := fun d d1 d2 => by rw [s5 d d2, ms_n d1]
    exact ⟨q _ (by decide) (by decide), q _ (by decide) (by decide), q _ (by decide) (by decide), fun c _ _ => q _ (by omega) (by omega), by rw [q _ (by decide) (by decide)], q _ (by decide) (by decide), fun c _ _ => q _ (by omega) (by omega), fun c _ => q _ (by omega) (by omega)⟩
  · intro j hj
    by_cases j0 : j = 0
    · rw [j0, nmF_0, up_n (by decide), up_s]; exact g5
    · by_cases j1 : j = 1
      · rw [j1, nmF_1, up_s]
      · rw [up_n j1, up_n j0, nmF_2 (x := rckF S a b) (y := leaF S a b) (x' := 0) (y' := 0) j0 j1]
        exact gn j (by omega) hj
theorem x_worth {post : Int32 → Mem → Prop} {a : Int32} {b : Nat} (h : RX S T) (hm : MX S S' a b) (hq : ∀ S2, SX S S2 → post (wrtF S a b) S2) : w_X4_worth (20 + 1 + 3 * rlN S) S' post := by
  unfold w_X4_worth
  exact x_says (p := 1) h (by decide) hm hq
theorem x_spills {post : Int32 → Mem → Prop} {a : Int32} {b : Nat} (h : RX S T) (hm : MX S S' a b) (hq : ∀ S2, SX S S2 → post (splF S a b) S2) : w_X4_spills (20 + 1 + 3 * rlN S) S' post := by
  unfold w_X4_spills
  exact x_says (p := 2) h (by decide) hm hq
theorem x_inForce {post : Nat → Mem → Prop} {a : Int32} {b : Nat} (h : RX S T) (hm : MX S S' a b) (hq : post (20 + 1 + 3 * rlN S) S') : w_X7_ruleInForce S' post := by
  obtain ⟨k6, k1, k2, k3⟩ := rl_of h
  unfold w_X7_ruleInForce
  rw [hm.1 1 (Or.inl (by decide)), k1, nI_clamp (by omega)]
  exact ⟨nI_in k6 (by decide), hq⟩
theorem x_bits {post : Int32 → Mem → Prop} {a : Int32} {b : Nat} (hm : MX S S' a b) (hq : post (bitF S a b) S') : w_X4_looseBits S' post := by
  unfold w_X4_looseBits w_X4_looseBits_22
  unfold bitF at hq
  rw [hm.2.1]
  exact ⟨fun c => by rw [if_neg c] at hq; exact ⟨fun z => by rw [if_pos z] at hq; exact hq, fun z => by rw [if_neg z] at hq; exact hq⟩, fun c => by rw [if_pos c] at hq; exact hq⟩
theorem x_standing {post : Int32 → Mem → Prop} {a k : Int32} {b : Nat} (h : RX S T) (hb : b < 8) (hk : 0 ≤ k ∧ k ≤ 5) (hq : ∀ S2, SX S S2 → post (stF S a b k) S2) : w_X7_standing a (nI b) k S post := by
  obtain ⟨k6, k1, k2, k3⟩ := rl_of h
  unfold w_X7_standing
  rw [x_within]
  simp only [bI_0]
  refine ⟨fun _ => x_measure h hb (fun S1 hm => ?_), fun z => absurd hk z⟩
  have q1 := hq S1 hm.sx
  unfold stF at hq q1
  refine ⟨fun c => ?_, fun c0 => ⟨fun c => ?_, fun c1 => ⟨fun c => ?_, fun c2 => ⟨fun c => ?_, fun c3 => ⟨fun c => ?_, fun c4 => ?_⟩⟩⟩⟩⟩
  · rw [hm.2.1]; rw [if_pos c] at q1; exact q1
  · rw [hm.2.2.2.1]; rw [if_neg c0, if_pos c] at q1; exact q1
  · rw [hm.2.2.2.2.1]; rw [if_neg c0, if_neg c1, if_pos c] at q1; exact q1
  · rw [if_neg c0, if_neg c1, if_neg c2, if_pos c] at q1; exact x_bits hm q1
  · rw [if_neg c0, if_neg c1, if_neg c2, if_neg c3, if_pos c] at hq
    exact x_inForce h hm ⟨kd7 k6, x_worth h hm hq⟩
  · rw [if_neg c0, if_neg c1, if_neg c2, if_neg c3, if_neg c4] at hq
    exact x_inForce h hm ⟨kd7 k6, x_spills h hm hq⟩
theorem m_saysF {post : Int32 → Mem → Prop} {a : Int32} {b p : Nat} (h : RX S T) (hp : p < 3) (hm : MM S T T' a b) (hq : ∀ T2, SM T T2 → post (vR S (rlN S) p (nmF S a b (rckF S a b) (leaF S a b))) T2) : w_X8_says (nI p) T' post := by
  obtain ⟨k6, k1, k2, k3⟩ := rl_of h
  have hsm := hm.sm
  obtain ⟨c0, f0, g31, g33, g34, g36, gn, -⟩ := hm
  have r3 : RuleOk S T' (rlN S) := k3.fr k6 (fun _ _ _ => rfl) (c0 9 (by decide) (by decide)) (c0 10 (by decide) (by decide))
  refine m_says r3 k6 hp (by rw [f0 15 (by decide)]; exact k2) (fun T2 t2 => ?_)
  rw [vR_cg (S := S) (nm' := nmF S a b (rckF S a b) (leaF S a b)) k3 hp gn rfl rfl]
  refine hq T2 (hsm.tr ?_)
  have t0 := t2 0 (by decide)
  exact ⟨⟨by rw [t0], by rw [t0], by rw [t0], by rw [t0], by rw [t0], by rw [t0], by rw [t0], by rw [t0]⟩, t2 _ (by decide), t2 _ (by decide), t2 _ (by decide), t2 _ (by decide), tp3_of (t2 _ (by decide)) (t2 _ (by decide)) (t2 _ (by decide)), t2 _ (by decide), t2 _ (by decide), t2 _ (by decide), t2 _ (by decide), t2 _ (by decide), t2 _ (by decide)⟩
theorem m_found {post : Int32 → Mem → Prop} {a k : Int32} {b : Nat} (h : RX S T) (hm : MM S T T' a b) (hq : ∀ T2, SM T T2 → post (stF S a b k) T2) : w_X8_foundOf k T' post := by
  have q1 := hq T' hm.sm
  unfold stF at hq q1
  unfold w_X8_foundOf w_X8_foundOf_76
  refine ⟨fun c => ?_, fun c0 => ⟨fun c => ?_, fun c1 => ⟨fun c => ?_, fun c2 => ⟨fun c => ?_, fun c3 => ⟨fun c => ?_, fun c4 => ?_⟩⟩⟩⟩⟩
  · rw [hm.2.2.1]; rw [if_pos c] at q1; exact q1
  · rw [hm.2.2.2.1]; rw [if_neg c0, if_pos c] at q1; exact q1
  · rw [hm.2.2.2.2.1]; rw [if_neg c0, if_neg c1, if_pos c] at q1; exact q1
  · rw [if_neg c0, if_neg c1, if_neg c2, if_pos c] at q1
    rw [hm.2.2.1, hm.2.2.2.2.2.1]
    unfold bitF at q1
    unfold lfN
    refine ⟨fun z => ?_, fun z => by rw [if_pos z] at q1; exact q1⟩
    rw [if_neg z] at q1
    refine ⟨fun y => ?_, fun y => ?_⟩
    · rw [if_pos] at q1
      · exact q1
      · by_cases w : 0 ≤ gapF S a b
        · rw [if_pos w] at y; exact absurd rfl y
        · rw [i_le] at w ⊢; rw [I0] at w ⊢; omega
    · rw [if_neg] at q1
      · exact q1
      · by_cases w : 0 ≤ gapF S a b
        · intro w2
          apply z
          rw [i_le] at w w2
          rw [i_eq]
          omega
        · rw [if_neg w] at y; exact absurd y (by decide)
  · rw [if_neg c0, if_neg c1, if_neg c2, if_neg c3, if_pos c] at hq
    refine m_saysF (p := 1) h (by decide) hm (fun T2 t2 => ?_)
    rw [m_held2]
    exact hq T2 t2
  · rw [if_neg c0, if_neg c1, if_neg c2, if_neg c3, if_neg c4] at hq
    refine m_saysF (p := 2) h (by decide) hm (fun T2 t2 => ?_)
    rw [m_held2]
    exact hq T2 t2
theorem place_of (h : RX S T) : ∃ b, b < 8 ∧ S 1 4 = nI b ∧ T 0 6 = nI b ∧ T 0 4 = S 1 2 := by
  obtain ⟨-, -, ⟨g4, g5, g6, -⟩, -⟩ := h
  obtain ⟨b, hb, hb2, e⟩ := nI_ofb g6.2 (by decide)
  exact ⟨b, by omega, e, by rw [← g6.1, e], g4.1.symm⟩
theorem h_stands (h : RX S T) : w_X7_stands a1 S (fun r1 S1 => w_X8_stands a1 T (fun r2 T1 => r1 = r2 ∧ RX S1 T1)) := by
  have hsame := h.same SX.rf (sm_thr T 0)
  obtain ⟨b, hb, e1, e2, e3⟩ := place_of h
  unfold w_X7_stands w_X8_stands
  by_cases c1 : 0 ≤ a1 ∧ a1 ≤ 5
  · rw [e1]
    refine x_standing h hb c1 (fun S2 s2 T1 t1 => ?_)
    subst t1
    simp only [L_0, L_5, m_in, bI_0]
    refine ⟨fun _ => ?_, fun z => absurd c1 z⟩
    unfold w_X8_findNow
    have f4 : (mset T 0 (upd (T 0) 8 0)) 0 4 = S 1 2 := e3
    have f6 : (mset T 0 (upd (T 0) 8 0)) 0 6 = nI b := e2
    rw [f4, f6]
    exact m_find hsame hb (fun T2 t2 => m_found hsame t2 (fun T3 t3 => ⟨rfl, hsame.same s2 t3⟩))
  · unfold w_X7_standing
    rw [x_within]
    simp only [L_0, L_5, m_in, bI_0, forall_eq]
    exact ⟨fun z => absurd (Classical.not_not.mp z) c1, fun _ => ⟨fun z => absurd (Classical.not_not.mp z) c1, fun _ => ⟨trivial, hsame⟩⟩⟩
theorem h_standsAt (h : RX S T) : w_X7_standsAt a1 a2 a3 S (fun r1 S1 => w_X8_standsAt a1 a2 a3 T (fun r2 T1 => r1 = r2 ∧ RX S1 T1)) := by
  have hsame := h.same SX.rf (sm_thr T 0)
  unfold w_X7_standsAt w_X7_standsAt_20 w_X8_standsAt w_X8_standsAt_41
  simp only [x_within, L_0, L_5, L_7, L_63, m_in, bI_0, forall_eq]
  by_cases c1 : 0 ≤ a1 ∧ a1 ≤ 63
  · by_cases c2 : 0 ≤ a2 ∧ a2 ≤ 7
    · obtain ⟨b, hb, hb2, eb⟩ := nI_ofb (bnd_of (a := 0) (b := 7) (by decide) (by decide) c2) (by decide)
      by_cases c3 : 0 ≤ a3 ∧ a3 ≤ 5
      · simp only [c1, c2, c3, not_true_eq_false, not_false_eq_true, true_and, and_true, false_implies, true_implies, and_self]
        rw [eb]
        exact x_standing h (by omega) c3 (fun S2 s2 => m_find hsame (by omega) (fun T2 t2 => m_found hsame t2 (fun T3 t3 => ⟨rfl, hsame.same s2 t3⟩)))
      · unfold w_X7_standing
        simp only [x_within, bI_0, c1, c2, c3, not_true_eq_false, not_false_eq_true, true_and, and_true, false_implies, true_implies, and_self]
        exact hsame
    · simp only [c1, c2, not_true_eq_false, not_false_eq_true, true_and, and_true, false_implies, true_implies, and_self]
      exact hsame
  · simp only [c1, not_true_eq_false, not_false_eq_true, true_and, and_true, false_implies, true_implies, and_self]
    exact hsame
end
