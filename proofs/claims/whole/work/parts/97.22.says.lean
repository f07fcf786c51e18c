/-! PURE, 19: the model's run of a part -/
section
variable {S T S' T' : Mem} {a1 a2 a3 a4 a5 : Int32}
theorem e4 : (4 : Int32) = nI 4 := rfl
theorem e160 : (160 : Int32) = nI 160 := rfl
theorem trS_lit {s : Int32} (h0 : 0 ≤ s) (h : bnd s (-15) 9999) : trS s = -1 - s ∧ ¬ (10 : Int32) ≤ -1 - s ∧ ¬ 0 ≤ -1 - s ∧ (-1 : Int32) - (-1 - s) = s := by
  obtain ⟨j, hj, hj2, e⟩ := nI_ofb (x := s) (a := 0) (b := 9999) ⟨by rw [i_le, I0] at h0; exact h0, h.2⟩ (by decide)
  have em : ((-1 : Int32) - s).toInt = -1 - (s.toInt) := by
    rw [e, Int32.toInt_sub, nI_toInt hj, Im1]
    simp only [Int.bmod, (show ((2 ^ 32 : Nat) : Int) = 4294967296 from rfl)]
    omega
  have es : s.toInt = j := by rw [e, nI_toInt hj]
  refine ⟨?_, ?_, ?_, ?_⟩
  · unfold trS
    rw [if_neg]
    rw [i_le, show (-7 : Int32).toInt = -7 by decide]
    omega
  · rw [i_le, em, show (10 : Int32).toInt = 10 by decide]
    omega
  · rw [i_le, em, I0]
    omega
  · apply Int32.toInt_inj.mp
    rw [Int32.toInt_sub, em, Im1]
    simp only [Int.bmod, (show ((2 ^ 32 : Nat) : Int) = 4294967296 from rfl)]
    omega
theorem m_run {post : Int32 → Mem → Prop} {q p e : Nat} {code : Nat → Int32} (hq6 : q < 6) (hp : p < 3) (he : e ≤ 160) : ∀ (k a n m : Nat) (T : Mem), a + k = e → n ≤ a → T 0 15 = nI q → T 10 (4 * q + p + 1) = nI e → (∀ i, i < e → T 9 (160 * q + i) = trS (code i)) → (∀ i, i < 160 → i < e → bnd (code i) (-15) 9999) → dep (seg code a e) n = some (m + 1) → (∀ T', (∀ d, d ≠ 13 → T' d = T d) → post (evF (T 12) (seg code a e) n (T 13)) T') → w_X8_says_16 post (k + 1) (nI p) (nI n) (nI a) T := by
  intro k
  induction k with
  | zero =>
    intro a n m T hk hn h15 h0 hc hb hd hq
    have ea : a = e := by omega
    subst ea
    rw [seg_nil] at hd hq
    have ei : (4 : Int32) * T 0 15 + nI p + 1 = nI (4 * q + p + 1) := by rw [h15, e4, pk_mul, nI_add, nI_1]
    rw [w_X8_says_16, ei, nI_clamp (by omega), h0]
    exact ⟨nI_in (by omega) (by decide), fun _ => hq T (fun _ _ => rfl), fun z => absurd (nI_le (Nat.le_refl _) (by omega)) z⟩
  | succ k ih =>
    intro a n m T hk hn h15 h0 hc hb hd hq
    have hae : a < e := by omega
    rw [seg_cons _ hae] at hd hq
    have hba := hb a (by omega) hae
    have hca := hc a hae
    have ei : (4 : Int32) * T 0 15 + nI p + 1 = nI (4 * q + p + 1) := by rw [h15, e4, pk_mul, nI_add, nI_1]
    have ej : (160 : Int32) * T 0 15 + nI a = nI (160 * q + a) := by rw [h15, e160, pk_mul, nI_add]
    rw [w_X8_says_16, ei, ej, nI_clamp (n := 4 * q + p + 1) (by omega), nI_clamp (n := 160 * q + a) (by omega), h0]
    refine ⟨nI_in (by omega) (by decide), fun z => absurd z (nI_ge hae (by omega)), fun _ => ⟨nI_in (by omega) (by decide), fun z1 ez1 => ?_⟩⟩
    rw [hca] at ez1
    generalize code a = s at hd hq hba ez1
    rw [dep] at hd
    rw [evF] at hq
    have step : ∀ (n' : Nat) (v : Int32) (i : Nat), n' ≤ a + 1 → dep (seg code (a + 1) e) n' = some (m + 1) → (∀ T', (∀ d, d ≠ 13 → T' d = T d) → post (evF (T 12) (seg code (a + 1) e) n' (upd (T 13) i v)) T') → w_X8_says_181 (w_X8_says_16 post (k + 1)) post (nI p) (nI n') (nI a) (mset T 13 (upd (T 13) i v)) := by
      intro n' v i h1 h2 h3
      unfold w_X8_says_181
      intro z ez
      rw [ez, nI_1]
      refine ih (a + 1) n' m _ (by omega) h1 h15 h0 hc hb h2 (fun T' s1 => ?_)
      rw [ms_n (by decide), ms_s]
      exact h3 T' (fun d hd => (s1 d hd).trans (ms_n hd))
    have push : ∀ v : Int32, dep (seg code (a + 1) e) (n + 1) = some (m + 1) → (∀ T', (∀ d, d ≠ 13 → T' d = T d) → post (evF (T 12) (seg code (a + 1) e) (n + 1) (upd (T 13) n v)) T') → w_X8_says_83 (w_X8_says_16 post (k + 1)) post (nI p) (nI n) (nI a) v (nI n) T := by
      intro v h1 h2
      unfold w_X8_says_83
      refine ⟨nI_in (by omega) (by decide), fun S1 e1 z2 e2 => ?_⟩
      rw [e1, e2, nI_1, nI_clamp (by omega)]
      exact step (n + 1) v n (by omega) h1 h2
    by_cases c1 : 0 ≤ s
    · rw [if_pos (Or.inl c1)] at hd
      rw [if_pos c1] at hq
      obtain ⟨t1, t2, t3, t4⟩ := trS_lit c1 hba
      rw [ez1, t1]
      refine ⟨fun z => absurd z t2, fun _ => ⟨fun z => absurd z t3, fun _ => ?_⟩⟩
      rw [t4]
      exact push s hd hq
    rw [if_neg c1] at hq
    have hs := (stp hba).resolve_left c1
    rcases hs with h6 | hr | hbin
    · have c2' : (-6 ≤ s ∧ s ≤ -1) ∧ trS s = -1 - s ∧ (0 ≤ -1 - s ∧ -1 - s ≤ 5) ∧ ¬ (10 : Int32) ≤ -1 - s := by rcases h6 with q | q | q | q | q | q <;> rw [q] <;> decide
      obtain ⟨c2, t1, t2, t3⟩ := c2'
      rw [if_pos (Or.inr c2)] at hd
      rw [if_pos c2.1] at hq
      rw [ez1, t1]
      exact ⟨fun z => absurd z t3, fun _ => ⟨fun _ => ⟨rg_in (b := 5) (by decide) t2, push _ hd hq⟩, fun z => absurd t2.1 z⟩⟩
    · have c2' : ¬ -6 ≤ s := by rcases hr with q | q <;> rw [q] <;> decide
      rw [if_neg (fun z => z.elim c1 (fun y => c2' y.1)), if_pos hr] at hd
      rw [if_neg c2', if_pos hr] at hq
      by_cases c4 : 1 ≤ n
      · rw [if_pos c4] at hd
        have hin : vp_in (nI (n - 1)) 170 := nI_in (by omega) (by decide)
        have ecl : (nI (n - 1)).toNatClampNeg = n - 1 := nI_clamp (by omega)
        rw [nI_sub1 c4, ecl]
        rcases hr with hr | hr
        · subst hr
          have tt : trS (-9) = 12 := by decide
          rw [ez1, tt]
          refine ⟨fun _ => ⟨fun z => absurd rfl z, fun _ => ⟨hin, ?_⟩⟩, fun z => absurd (by decide) z⟩
          have ev : ∀ v : Int32, v = tu (-9) (T 13 (n - 1)) → w_X8_says_120 (w_X8_says_16 post (k + 1)) post (nI p) (nI n) (nI a) v (nI (n - 1)) T := by
            intro v ev
            unfold w_X8_says_120
            refine ⟨hin, fun S1 e1 => ?_⟩
            rw [e1, ecl, ev]
            exact step n _ (n - 1) (by omega) hd hq
          have tv : tu (-9) (T 13 (n - 1)) = bI (T 13 (n - 1) = 0) := rfl
          exact ⟨fun z => ev _ (by rw [tv, bI_f z]), fun z => ev _ (by rw [tv, bI_t z])⟩
        · subst hr
          have tt : trS (-15) = 18 := by decide
          rw [ez1, tt]
          refine ⟨fun _ => ⟨fun _ => ⟨fun z => absurd rfl z, fun _ => ⟨hin, hin, fun S5 e5 => ?_⟩⟩, fun z => absurd z (by decide)⟩, fun z => absurd (by decide) z⟩
          rw [e5]
          have tv : tu (-15) (T 13 (n - 1)) = -(T 13 (n - 1)) := rfl
          rw [← tv]
          exact step n _ (n - 1) (by omega) hd hq
      · rw [if_neg c4] at hd
        exact absurd hd (by simp)
    · have q9 : ¬ s = -9 ∧ ¬ s = -15 ∧ ¬ -6 ≤ s ∧ -15 ≤ s ∧ (10 : Int32) ≤ trS s ∧ ¬ trS s = 12 ∧ ¬ trS s = 18 := by
        have hb2 := hbin
        unfold bin at hb2
        rcases hb2 with q | q | q | q | q | q | q <;> rw [q] <;> decide
      obtain ⟨q9, q15, q6, qm, g10, g12, g18⟩ := q9
      have n15 : ¬ (s = -9 ∨ s = -15) := fun z => z.elim q9 q15
      rw [if_neg (fun z => z.elim c1 (fun y => q6 y.1)), if_neg n15, if_pos qm] at hd
      rw [if_neg q6, if_neg n15] at hq
      by_cases c4 : 2 ≤ n
      · rw [if_pos c4] at hd
        rw [ez1]
        refine ⟨fun _ => ⟨fun _ => ⟨fun _ z2 e2 => ?_, fun z => absurd z g18⟩, fun z => absurd z g12⟩, fun z => absurd g10 z⟩
        rw [nI_m1 (by omega)] at e2
        have hin1 : vp_in (nI (n - 1)) 170 := nI_in (by omega) (by decide)
        have hin2 : vp_in (nI (n - 1 - 1)) 170 := nI_in (by omega) (by decide)
        rw [e2, nI_sub1 (by omega), nI_clamp (n := n - 1) (by omega), nI_clamp (n := n - 1 - 1) (by omega)]
        refine ⟨hin2, hin1, m_done hbin _ _ ⟨hin2, fun S4 e4 => ?_⟩⟩
        rw [e4]
        have := step (n - 1) (jn s (T 13 (n - 2)) (T 13 (n - 1))) (n - 2) (by omega) hd hq
        rw [show n - 1 - 1 = n - 2 by omega]
        exact this
      · rw [if_neg c4] at hd
        exact absurd hd (by simp)
end
