/-! PURE, 44: screwed, the whole -/
section
variable {S T S' T' : Mem} {a1 a2 a3 a4 a5 : Int32}
theorem RX.four {f : Nat → Int32} (h : RX S (mset T 4 f)) (hf : ∀ i, i < 4 → T 4 i = f i) : RX S T := by
  obtain ⟨h1, h2, h3, h4, h5, h6, h7⟩ := h
  refine ⟨h1.fr rfl rfl, fun i hi => ?_, h3.fr (fun _ _ _ => rfl) rfl rfl rfl rfl rfl rfl, h4.fr rfl rfl rfl rfl, h5.fr rfl (fun _ _ _ => rfl) rfl rfl rfl, h6.fr rfl rfl rfl rfl (fun _ _ => rfl) rfl rfl, h7.fr (fun _ _ => rfl) rfl rfl rfl⟩
  obtain ⟨⟨g1, g2, g3⟩, g4, g5, g6⟩ := h2 i hi
  rw [ms_s] at g3
  exact ⟨⟨g1, g2, g3.trans (hf i hi).symm⟩, g4, g5, g6⟩
theorem m_rsLoop {post : Int32 → Mem → Prop} {y : Nat} (h : RX S T) (hy : y ≤ 4 ∨ y = 9) (hq : ∀ T2, RX S T2 → post (sgC y) T2) : ∀ (n i : Nat) (T1 : Mem), i + n = 4 → SW S T T1 → (∀ j, j < i → T1 4 j = T 4 j) → w_X8_screwed_78 post (n + 1) (nI y) (nI i) T1 := by
  intro n
  induction n with
  | zero =>
    intro i T1 hi hw hj
    rw [w_X8_screwed_78]
    have e : i = 4 := by omega
    subst e
    unfold w_X8_screwed_112
    have hr : RX S T1 := (h.same SX.rf hw.1).four (fun j hj4 => hj j hj4)
    have q := hq T1 hr
    unfold sgC at q
    refine ⟨fun _ => ⟨fun z => ?_, fun z => ?_⟩, fun z => absurd (by decide) z⟩
    · have hz := (nI_leI (a := 9) (b := y) (by omega) (by omega)).mp z
      rw [if_neg (by omega)] at q
      exact q
    · have hz : ¬ 9 ≤ y := fun w => z ((nI_leI (a := 9) (b := y) (by omega) (by omega)).mpr w)
      rw [if_pos (by omega)] at q
      exact q
  | succ n ih =>
    intro i T1 hi hw hj
    rw [w_X8_screwed_78]
    refine ⟨fun z => absurd z (nI_ge (b := 4) (by omega) (by decide)), fun _ => ⟨four_nI (by omega), four_nI (by omega), fun S2 e2 z3 e3 => ?_⟩⟩
    rw [nI_clamp (by omega)] at e2
    rw [e2, e3, nI_1]
    refine ih _ _ (by omega) hw.up (fun j hj2 => ?_)
    rw [ms_s]
    by_cases e : j = i
    · rw [e, up_s, hw.2 i (by omega)]
      exact (h.2.1 i (by omega)).1.2.2
    · rw [up_n e]; exact hj j (by omega)
theorem m_cpLoop {post : Int32 → Mem → Prop} (h : RX S T) (hq : ∀ T2, SW S T T2 → ∃ k, w_X8_screwed_35 post k (9 : Int32) (0 : Int32) T2) : ∀ (n i : Nat) (T1 : Mem), i + n = 4 → SM T T1 → (∀ j, j < i → T1 15 j = S (4 + j) 2) → w_X8_screwed_7 post (n + 1) (nI i) T1 := by
  intro n
  induction n with
  | zero =>
    intro i T1 hi hs hj
    rw [w_X8_screwed_7]
    have e : i = 4 := by omega
    subst e
    refine ⟨fun _ => hq T1 ⟨?_, fun j hj4 => hj j hj4⟩, fun z => absurd (by decide) z⟩
    obtain ⟨h0, h1, h2, h3, h4, h5, h6, h7, h8, h9, h10, h11⟩ := hs
    exact ⟨h0, h1, h2, h3, ms_s, h5, h6, h7, h8, h9, h10, h11⟩
  | succ n ih =>
    intro i T1 hi hs hj
    rw [w_X8_screwed_7]
    refine ⟨fun z => absurd z (nI_ge (b := 4) (by omega) (by decide)), fun _ => ⟨four_nI (by omega), four_nI (by omega), fun S2 e2 z3 e3 => ?_⟩⟩
    rw [nI_clamp (by omega)] at e2
    rw [e2, e3, nI_1]
    obtain ⟨h0, h1, h2, h3, h4, h5, h6, h7, h8, h9, h10, h11⟩ := id hs
    refine ih _ _ (by omega) ⟨h0, h1, h2, h3, h4, h5, h6, h7, h8, h9, h10, h11⟩ (fun j hj2 => ?_)
    rw [ms_s]
    by_cases e : j = i
    · rw [e, up_s, h4]
      exact ((h.2.1 i (by omega)).1.2.2).symm
    · rw [up_n e]; exact hj j (by omega)
theorem sbF_le {a : Int32} {b : Nat} : ∀ (n c m : Nat), (m ≤ 4 ∨ m = 9) → (sbF S a b n c m ≤ 4 ∨ sbF S a b n c m = 9) := by
  intro n
  induction n with
  | zero => intro c m h; exact h
  | succ n ih =>
    intro c m h
    rw [sbF]
    by_cases z : suF S c 4 0 0 ≤ 4 ∧ suF S c 4 0 0 < m ∧ rckF (scP S c 1 4) a b = 0
    · rw [if_pos z]; exact ih _ _ (Or.inl z.1)
    · rw [if_neg z]; exact ih _ _ h
theorem h_screwed (h : RX S T) : w_X7_screwed S (fun r1 S1 => w_X8_screwed T (fun r2 T1 => r1 = r2 ∧ RX S1 T1)) := by
  have hsame := h.same SX.rf (sm_thr T 0)
  obtain ⟨b, hb, e1, e2, e3⟩ := place_of h
  unfold w_X7_screwed
  refine ⟨2402, x_scrLoop h hb e1 2401 0 9 S (by decide) (Or.inr rfl) SX.rf (fun S2 s2 => ?_)⟩
  unfold w_X8_screwed
  intro T1 t1
  subst t1
  refine ⟨5, m_cpLoop hsame (fun T2 w2 => ⟨2402, m_scrLoop hsame hb e2 e3 2401 0 9 T2 (by decide) (Or.inr rfl) w2 (fun T3 w3 hy => ⟨5, m_rsLoop hsame hy (fun T4 r4 => ⟨rfl, r4.same s2 SM.rf⟩) 4 0 T3 (by decide) w3 (fun j hj => absurd hj (by omega))⟩)⟩) 4 0 _ (by decide) SM.rf (fun j hj => absurd hj (by omega))⟩
end
