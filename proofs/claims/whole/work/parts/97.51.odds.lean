/-! PURE, 36: odds -/
section
variable {S T S' T' : Mem} {a1 a2 a3 a4 a5 : Int32}
def cdN (c m : Nat) : Nat → Nat → Nat → Nat
  | 0, _, g => g
  | n + 1, x, g => if c % x = 0 then (if m % x = 0 then cdN c m n (x + 1) x else cdN c m n (x + 1) g) else cdN c m n (x + 1) g
def euN : Nat → Nat → Nat → Nat
  | 0, x, _ => x
  | n + 1, x, y => if y = 0 then x else euN n y (x % y)
def euT : Nat → Nat → Nat → Bool
  | 0, _, _ => false
  | n + 1, x, y => if y = 0 then true else euT n y (x % y)
theorem gcd_d : ∀ c : Fin 31, ∀ m : Fin 30, cdN c.val (m.val + 1) m.val 2 1 = euN 40 c.val (m.val + 1) ∧ euT 40 c.val (m.val + 1) = true ∧ 0 < euN 40 c.val (m.val + 1) ∧ euN 40 c.val (m.val + 1) < 31 := by decide +kernel
theorem nI_z {n : Nat} (h : n < 2 ^ 31) : (nI n = 0) ↔ n = 0 := nI_eq (b := 0) h (by decide)
theorem x_cdLoop {post : Int32 → Mem → Prop} {c m : Nat} (hc : c < 1000) (hm : m < 1000) : ∀ (n x g : Nat), x + n = m + 1 → 2 ≤ x → post (nI (cdN c m n x g)) S → w_X7_commonDivisor_4 post (n + 1) (nI c) (nI m) (nI g) (nI x) S := by
  intro n
  induction n with
  | zero =>
    intro x g hx h2 hq
    rw [w_X7_commonDivisor_4]
    exact ⟨fun _ => hq, fun z => absurd (nI_lt (by omega) (by omega)) z⟩
  | succ n ih =>
    intro x g hx h2 hq
    rw [w_X7_commonDivisor_4, jrem_nI (by omega) (by omega) (by omega), jrem_nI (by omega) (by omega) (by omega)]
    have h1 := Nat.mod_lt c (show 0 < x by omega)
    have h3 := Nat.mod_lt m (show 0 < x by omega)
    have nz : ¬ nI x = 0 := nI_ne0 (by omega) (by omega)
    rw [nI_z (n := c % x) (by omega), nI_z (n := m % x) (by omega)]
    unfold w_X7_commonDivisor_23
    rw [cdN] at hq
    refine ⟨fun z => absurd z (nI_nlt (by omega) (by omega)), fun _ => ⟨nz, fun z z1 e1 => ?_, fun z => ⟨nz, fun z2 z1 e1 => ?_, fun z2 z1 e1 => ?_⟩⟩⟩
    · rw [if_neg z] at hq
      rw [e1, nI_1]
      exact ih _ _ (by omega) (by omega) hq
    · rw [if_pos z, if_neg z2] at hq
      rw [e1, nI_1]
      exact ih _ _ (by omega) (by omega) hq
    · rw [if_pos z, if_pos z2] at hq
      rw [e1, nI_1]
      exact ih _ _ (by omega) (by omega) hq
def oddR (p c m : Int32) (g : Nat) : Int64 := if p = 0 then (c / nI g).toInt64 else (m / nI g).toInt64
theorem m_euLoop {post : Int64 → Mem → Prop} {p c m : Int32} : ∀ (n x y : Nat), x < 1000 → y < 1000 → euT n x y = true → 0 < euN n x y → euN n x y < 1000 → post (oddR p c m (euN n x y)) T → w_X8_odds_77 post n m p c (nI x) (nI y) T := by
  intro n
  induction n with
  | zero => intro x y _ _ h; exact absurd (show false = true from h) (by decide)
  | succ n ih =>
    intro x y hx hy h h0 h1 hq
    rw [w_X8_odds_77]
    rw [euT] at h
    rw [euN] at h0 h1 hq
    unfold w_X8_odds_118
    refine ⟨fun z => ?_, fun z => ?_⟩
    · rw [if_pos ((nI_z (by omega)).mp z)] at h0 h1 hq
      have nz : ¬ nI x = 0 := nI_ne0 h0 (by omega)
      unfold oddR at hq
      refine ⟨fun p0 => ⟨nz, ?_⟩, fun p0 => ⟨nz, ?_⟩⟩
      · rw [if_neg p0] at hq; exact hq
      · rw [if_pos p0] at hq; exact hq
    · have ny : ¬ y = 0 := fun e => z ((nI_z (by omega)).mpr e)
      rw [if_neg ny] at h h0 h1 hq
      refine ⟨z, fun z2 e2 => ?_⟩
      rw [jrem_nI (by omega) (by omega) (by omega)] at e2
      rw [e2]
      have hm := Nat.mod_lt x (show 0 < y by omega)
      exact ih _ _ hy (by omega) h h0 h1 hq
def odN (S : Mem) (z : Int32) : Nat → Nat → Nat → Nat
  | 0, _, c => c
  | n + 1, i, c => if dwF S (z + nI i) = 0 then odN S z n (i + 1) (c + 1) else odN S z n (i + 1) c
theorem odN_le (S : Mem) (z : Int32) : ∀ (n i c : Nat), odN S z n i c ≤ c + n := by
  intro n
  induction n with
  | zero => intro i c; exact Nat.le_refl _
  | succ n ih =>
    intro i c
    rw [odN]
    by_cases h : dwF S (z + nI i) = 0
    · rw [if_pos h]; have := ih (i + 1) (c + 1); omega
    · rw [if_neg h]; have := ih (i + 1) c; omega
theorem dwF_sx (h : SX S S') (hk : rlN S < 6) (z : Int32) : dwF S' z = dwF S z := by
  unfold dwF
  rw [rckF_sx h hk]
theorem x_oddLoop {post : Int64 → Mem → Prop} {z p : Int32} {m : Nat} (h : RX S T) (hm0 : 1 ≤ m) (hm : m ≤ 30) : ∀ (n i c : Nat) (S1 : Mem), i + n = m → c ≤ i → SX S S1 → (∀ S2, SX S S2 → post (oddR p (nI (odN S z n i c)) (nI m) (euN 40 (odN S z n i c) m)) S2) → w_X7_odds_29 post (n + 1) z (nI m) p (nI c) (nI i) S1 := by
  intro n
  induction n with
  | zero =>
    intro i c S1 hi hc hs hq
    rw [w_X7_odds_29]
    have e : i = m := by omega
    subst e
    refine ⟨fun _ => ?_, fun z => absurd (nI_le (Nat.le_refl _) (by omega)) z⟩
    obtain ⟨d1, d2, d3, d4⟩ := gcd_d ⟨c, by omega⟩ ⟨i - 1, by omega⟩
    have q := hq S1 hs
    rw [odN] at q
    have em : i - 1 + 1 = i := by omega
    rw [show (⟨i - 1, by omega⟩ : Fin 30).val + 1 = i from em] at d1 d2 d3 d4
    unfold w_X7_commonDivisor
    refine ⟨i - 1 + 1, x_cdLoop (c := c) (m := i) (by omega) (by omega) (i - 1) 2 1 (by omega) (by decide) ?_⟩
    rw [show cdN c i (i - 1) 2 1 = euN 40 c i from d1]
    have nz : ¬ nI (euN 40 c i) = 0 := nI_ne0 d3 (by
      have d4 : euN 40 c i < 31 := d4
      omega)
    unfold w_X7_odds_81
    unfold oddR at q
    refine ⟨fun p0 => ⟨nz, ?_⟩, fun p0 => ⟨nz, ?_⟩⟩
    · rw [if_neg p0] at q; exact q
    · rw [if_pos p0] at q; exact q
  | succ n ih =>
    intro i c S1 hi hc hs hq
    obtain ⟨k6, -⟩ := rl_of h
    rw [w_X7_odds_29]
    refine ⟨fun z => absurd z (nI_ge (by omega) (by omega)), fun _ => x_drawn (h.same hs SM.rf) (fun S2 s2 => ?_)⟩
    rw [dwF_sx hs k6]
    rw [odN] at hq
    unfold w_X7_odds_49
    refine ⟨fun c1 z1 e1 => ?_, fun c1 z4 e4 z1 e1 => ?_⟩
    · rw [if_neg c1] at hq
      rw [e1, nI_1]
      exact ih _ _ _ (by omega) (by omega) (hs.tr s2) hq
    · rw [if_pos c1] at hq
      rw [e1, e4, nI_1, nI_1]
      exact ih _ _ _ (by omega) (by omega) (hs.tr s2) hq
theorem m_oddLoop {post : Int64 → Mem → Prop} {z p : Int32} {m : Nat} (h : RX S T) (hm0 : 1 ≤ m) (hm : m ≤ 30) : ∀ (n i c : Nat) (T1 : Mem), i + n = m → c ≤ i → SM T T1 → (∀ T2, SM T T2 → post (oddR p (nI (odN S z n i c)) (nI m) (euN 40 (odN S z n i c) m)) T2) → w_X8_odds_37 post (n + 1) z (nI m) p (nI c) (nI i) T1 := by
  intro n
  induction n with
  | zero =>
    intro i c T1 hi hc hs hq
    rw [w_X8_odds_37]
    have e : i = m := by omega
    subst e
    refine ⟨fun _ => ⟨40, ?_⟩, fun z => absurd (nI_le (Nat.le_refl _) (by omega)) z⟩
    obtain ⟨d1, d2, d3, d4⟩ := gcd_d ⟨c, by omega⟩ ⟨i - 1, by omega⟩
    have q := hq T1 hs
    rw [odN] at q
    have em : i - 1 + 1 = i := by omega
    rw [show (⟨i - 1, by omega⟩ : Fin 30).val + 1 = i from em] at d1 d2 d3 d4
    have d4 : euN 40 c i < 31 := d4
    exact m_euLoop 40 c i (by omega) (by omega) d2 d3 (by omega) q
  | succ n ih =>
    intro i c T1 hi hc hs hq
    rw [w_X8_odds_37]
    refine ⟨fun z => absurd z (nI_ge (by omega) (by omega)), fun _ => m_rockBy (h.same SX.rf hs) (fun T2 t2 => ?_)⟩
    rw [odN] at hq
    unfold w_X8_odds_61
    refine ⟨fun c1 z1 e1 z2 e2 => ?_, fun c1 z1 e1 z2 e2 => ?_⟩
    · rw [if_neg c1] at hq
      rw [e1, e2, nI_1, show nI c + (0 : Int32) = nI c from nI_add c 0]
      exact ih _ _ _ (by omega) (by omega) (hs.tr t2) hq
    · rw [if_pos c1] at hq
      rw [e1, e2, nI_1, nI_1]
      exact ih _ _ _ (by omega) (by omega) (hs.tr t2) hq
theorem L_30' : (30 : Int64) = (30 : Int32).toInt64 := by decide
theorem h_odds (h : RX S T) : w_X7_odds a1 a2 a3 S (fun r1 S1 => w_X8_odds a1 a2 a3 T (fun r2 T1 => r1 = r2 ∧ RX S1 T1)) := by
  have hsame := h.same SX.rf (sm_thr T 0)
  unfold w_X7_odds w_X7_odds_19 w_X8_odds w_X8_odds_27
  simp only [x_within, L_0, L_1, L_30', m_in, bI_0, forall_eq]
  by_cases c1 : 1 ≤ a2 ∧ a2 ≤ 30
  · by_cases c2 : 0 ≤ a3 ∧ a3 ≤ 1
    · simp only [c1, c2, not_true_eq_false, not_false_eq_true, true_and, and_true, false_implies, true_implies, and_self]
      obtain ⟨m, hm, hm2, em⟩ := nI_ofb (bnd_of (a := 1) (b := 30) (by decide) (by decide) c1) (by decide)
      have hm1 : 1 ≤ m := by
        have q := (bnd_of (a := 1) (b := 30) (by decide) (by decide) c1).1
        rw [em, nI_toInt hm] at q
        omega
      rw [em]
      exact ⟨m + 1, x_oddLoop h hm1 (by omega) m 0 0 S (by omega) (by omega) SX.rf (fun S2 s2 => ⟨m + 1, m_oddLoop hsame hm1 (by omega) m 0 0 _ (by omega) (by omega) SM.rf (fun T2 t2 => ⟨rfl, hsame.same s2 t2⟩)⟩)⟩
    · simp only [c1, c2, not_true_eq_false, not_false_eq_true, true_and, and_true, false_implies, true_implies, and_self]
      exact hsame
  · simp only [c1, not_true_eq_false, not_false_eq_true, true_and, and_true, false_implies, true_implies, and_self]
    exact hsame
end
