/-! PURE, 27: fewest, feels -/
section
variable {S T S' T' : Mem} {a1 a2 a3 a4 a5 : Int32}
theorem rnd_d : ∀ t : Fin 8, ∀ x : Fin 9, ((0 ≤ (nI t.val - nI x.val) ^^^ (8 : Int32)) → jrem (nI t.val - nI x.val) 8 = nI ((t.val + 8 - x.val) % 8)) ∧ (¬ (0 ≤ (nI t.val - nI x.val) ^^^ (8 : Int32)) → (jrem (nI t.val - nI x.val) 8 = 0 → jrem (nI t.val - nI x.val) 8 = nI ((t.val + 8 - x.val) % 8)) ∧ (¬ jrem (nI t.val - nI x.val) 8 = 0 → jrem (nI t.val - nI x.val) 8 + 8 = nI ((t.val + 8 - x.val) % 8))) := by decide +kernel
theorem x_roundM {post : Int32 → Mem → Prop} {t x : Nat} (ht : t < 8) (hx : x < 9) (h : post (nI ((t + 8 - x) % 8)) S) : w_X7_round (nI t - nI x) S post := by
  obtain ⟨d1, d2⟩ := rnd_d ⟨t, ht⟩ ⟨x, hx⟩
  unfold w_X7_round w_J9_floorMod_7cf53 w_J9_floorMod_7cf53_18
  refine ⟨by decide, fun z ez => ⟨fun c => ?_, fun c => ⟨fun c2 => ?_, fun c2 => ?_⟩⟩⟩
  · have := d1 c
    rw [ez]
    rw [show jrem (nI t - nI x) 8 = nI ((t + 8 - x) % 8) from this]
    exact h
  · have := (d2 c).1 (by rw [← c2, ez])
    rw [ez]
    rw [show jrem (nI t - nI x) 8 = nI ((t + 8 - x) % 8) from this]
    exact h
  · have := (d2 c).2 (by intro z; apply c2; rw [ez]; exact z)
    rw [ez]
    rw [show jrem (nI t - nI x) 8 + 8 = nI ((t + 8 - x) % 8) from this]
    exact h
/-- fewest: turn b, from x on -/
def fwF (q : Nat → Bool) (b : Nat) (p : Int32) : Nat → Nat → Int32
  | 0, _ => -1
  | n + 1, x => if q ((b + x) % 8) then (if p = 0 then nI x else nI ((b + x) % 8)) else if q ((b + 8 - x) % 8) then (if p = 0 then nI x else nI ((b + 8 - x) % 8)) else fwF q b p n (x + 1)
theorem x_fewLoop {post : Int32 → Mem → Prop} {p : Int32} {b : Nat} (h : RX S T) (hb : b < 8) (eb : S 1 4 = nI b) : ∀ (n x : Nat) (S1 : Mem), x + n = 5 → SX S S1 → (∀ S2, SX S S2 → post (fwF (frB S (S 1 2)) b p n x) S2) → w_X7_fewest_14 post (n + 1) p (nI x) S1 := by
  intro n
  induction n with
  | zero =>
    intro x S1 hx hs hq
    rw [w_X7_fewest_14]
    have e : x = 5 := by omega
    subst e
    exact ⟨fun _ => hq S1 hs, fun z => absurd (by decide) z⟩
  | succ n ih =>
    intro x S1 hx hs hq
    obtain ⟨k6, -⟩ := rl_of h
    rw [w_X7_fewest_14]
    refine ⟨fun z => absurd z (nI_nlt (a := 4) (b := x) (by omega) (by omega)), fun _ => ?_⟩
    rw [show S1 1 4 = nI b by rw [hs.2.1]; exact eb, nI_add]
    refine x_floorMod (by omega) ?_
    have e2 : S1 1 2 = S 1 2 := by rw [hs.2.1]
    rw [e2]
    refine x_isFirmAt (h.same hs SM.rf) (Nat.mod_lt _ (by decide)) (fun S2 s2 => ?_)
    rw [rckF_sx hs k6]
    unfold w_X7_fewest_56 w_X7_fewest_97
    rw [fwF] at hq
    have s3 := hs.tr s2
    by_cases c1 : rckF S (S 1 2) ((b + x) % 8) = 0
    · rw [bI_t c1]
      have q := hq S2 s3
      rw [frB_t c1, if_pos rfl] at q
      refine ⟨fun z => absurd z (by decide), fun _ => ⟨fun z => ?_, fun z => ?_⟩⟩
      · rw [if_neg z] at q; exact q
      · rw [if_pos z] at q; exact q
    · rw [bI_f c1]
      refine ⟨fun _ => ?_, fun z => absurd rfl z⟩
      rw [show S2 1 4 = nI b by rw [s3.2.1]; exact eb]
      refine x_roundM hb (by omega) ?_
      have e3 : S2 1 2 = S 1 2 := by rw [s3.2.1]
      rw [e3]
      refine x_isFirmAt (h.same s3 SM.rf) (Nat.mod_lt _ (by decide)) (fun S4 s4 => ?_)
      rw [rckF_sx s3 k6]
      have s5 := s3.tr s4
      by_cases c2 : rckF S (S 1 2) ((b + 8 - x) % 8) = 0
      · rw [bI_t c2]
        have q := hq S4 s5
        rw [frB_f c1, if_neg (by decide), frB_t c2, if_pos rfl] at q
        refine ⟨fun z => absurd z (by decide), fun _ => ⟨fun z => ?_, fun z => ?_⟩⟩
        · rw [if_neg z] at q; exact q
        · rw [if_pos z] at q; exact q
      · rw [bI_f c2]
        refine ⟨fun _ z5 e5 => ?_, fun z => absurd rfl z⟩
        rw [e5, nI_1]
        refine ih _ _ (by omega) s5 (fun S6 s6 => ?_)
        have q := hq S6 s6
        rw [frB_f c1, if_neg (by decide), frB_f c2, if_neg (by decide)] at q
        exact q
theorem m_fewLoop {post : Int32 → Mem → Prop} {p : Int32} {b : Nat} {q : Nat → Bool} {T : Mem} (hb : b < 8) (eb : T 0 6 = nI b) : ∀ (n x : Nat), x + n = 5 → post (fwF q b p n x) T → w_X8_fewest_29 post (n + 1) p (fmF q 8 0 0) (nI x) T := by
  intro n
  induction n with
  | zero =>
    intro x hx hq
    rw [w_X8_fewest_29]
    have e : x = 5 := by omega
    subst e
    exact ⟨fun _ => hq, fun z => absurd (by decide) z⟩
  | succ n ih =>
    intro x hx hq
    rw [w_X8_fewest_29, eb]
    have e8 : (8 : Int32) = nI 8 := rfl
    refine ⟨fun z => absurd z (nI_ge (b := 5) (by omega) (by decide)), fun _ z1 e1 z2 e2 => ?_⟩
    rw [nI_add, e8, jrem_nI (by omega) (by decide) (by decide)] at e1
    rw [e8, nI_add, pk_sub (by omega), jrem_nI (by omega) (by decide) (by decide)] at e2
    subst e1 e2
    rw [bit_of q (Nat.mod_lt _ (by decide)), bit_of q (Nat.mod_lt _ (by decide))]
    unfold w_X8_fewest_79 w_X8_fewest_100
    rw [fwF] at hq
    refine ⟨fun c1 => ?_, fun c1 => ?_⟩
    · rw [if_neg c1] at hq
      refine ⟨fun c2 z3 e3 => ?_, fun c2 => ?_⟩
      · rw [if_neg c2] at hq
        rw [e3, nI_1]
        exact ih _ (by omega) hq
      · rw [if_pos c2] at hq
        refine ⟨fun z => ?_, fun z => ?_⟩
        · rw [if_neg z] at hq; exact hq
        · rw [if_pos z] at hq; exact hq
    · rw [if_pos c1] at hq
      refine ⟨fun z => ?_, fun z => ?_⟩
      · rw [if_neg z] at hq; exact hq
      · rw [if_pos z] at hq; exact hq
theorem h_fewest (h : RX S T) : w_X7_fewest a1 S (fun r1 S1 => w_X8_fewest a1 T (fun r2 T1 => r1 = r2 ∧ RX S1 T1)) := by
  have hsame := h.same SX.rf (sm_thr T 0)
  obtain ⟨b, hb, e1, e2, e3⟩ := place_of h
  unfold w_X7_fewest w_X8_fewest
  simp only [x_within, L_0, L_1, m_in, bI_0, forall_eq]
  by_cases c1 : 0 ≤ a1 ∧ a1 ≤ 1
  · simp only [c1, not_true_eq_false, not_false_eq_true, true_and, and_true, false_implies, true_implies, and_self]
    refine ⟨6, x_fewLoop h hb e1 5 0 S (by decide) SX.rf (fun S2 s2 => ?_)⟩
    unfold w_X8_firmAt
    have f4 : (mset T 0 (upd (T 0) 8 0)) 0 4 = S 1 2 := e3
    rw [f4]
    refine ⟨9, m_firmLoop hsame 8 0 _ _ (by decide) SM.rf (fun T2 t2 => ⟨6, m_fewLoop hb ?_ 5 0 (by decide) ⟨rfl, hsame.same s2 t2⟩⟩)⟩
    rw [t2.1.2.2.1]; exact e2
  · simp only [c1, not_true_eq_false, not_false_eq_true, true_and, and_true, false_implies, true_implies, and_self]
    exact hsame
end
