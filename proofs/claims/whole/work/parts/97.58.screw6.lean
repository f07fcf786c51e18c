/-! PURE, 43: screwed: the model's outer loop -/
section
variable {S T S' T' : Mem} {a1 a2 a3 a4 a5 : Int32}
theorem SW.sm (h : SW S T T') : SM (mset T 4 (T' 4)) T' := by
  obtain ⟨⟨h0, h1, h2, h3, h4, h5, h6, h7, h8, h9, h10, h11⟩, -⟩ := h
  exact ⟨h0, h1, h2, h3, ms_s.symm, h5, h6, h7, h8, h9, h10, h11⟩
theorem SW.go {T2 : Mem} (h : SW S T T') (hs : SM T' T2) (h15 : T2 15 = T' 15) : SW S T T2 := by
  obtain ⟨⟨h0, h1, h2, h3, h4, h5, h6, h7, h8, h9, h10, h11⟩, hn⟩ := h
  refine ⟨?_, fun i hi => by rw [h15]; exact hn i hi⟩
  have q : SM T (mset T' 4 (T 4)) := ⟨h0, h1, h2, h3, h4, h5, h6, h7, h8, h9, h10, h11⟩
  obtain ⟨g0, g1, g2, g3, g4, g5, g6, g7, g8, g9, g10, g11⟩ := hs
  exact q.tr ⟨g0, g1, g2, g3, by rw [ms_s, ms_s], g5, g6, g7, g8, g9, g10, g11⟩
theorem m_scrLoop {post : Int32 → Mem → Prop} {b : Nat} (h : RX S T) (hb : b < 8) (eb : T 0 6 = nI b) (ep : T 0 4 = S 1 2) : ∀ (n c m : Nat) (T1 : Mem), c + n = 2401 → (m ≤ 4 ∨ m = 9) → SW S T T1 → (∀ T2, SW S T T2 → (sbF S (S 1 2) b n c m ≤ 4 ∨ sbF S (S 1 2) b n c m = 9) → ∃ k, w_X8_screwed_78 post k (nI (sbF S (S 1 2) b n c m)) (0 : Int32) T2) → w_X8_screwed_35 post (n + 1) (nI m) (nI c) T1 := by
  intro n
  induction n with
  | zero =>
    intro c m T1 hc hm hw hq
    rw [w_X8_screwed_35]
    have e : c = 2401 := by omega
    subst e
    exact ⟨fun _ => hq T1 hw hm, fun z => absurd (by decide) z⟩
  | succ n ih =>
    intro c m T1 hc hm hw hq
    rw [w_X8_screwed_35]
    refine ⟨fun z => absurd z (nI_ge (b := 2401) (by omega) (by decide)), fun _ => ?_⟩
    unfold w_X8_screwBy
    have e9 : (9 : Int32) = nI 9 := rfl
    refine ⟨5, m_byLoop h (c := c) (by omega) 4 0 0 T1 (by decide) (by decide) hw (fun j hj => absurd hj (by omega)) (fun T2 w2 hok => ?_)⟩
    rw [sbF] at hq
    generalize hsu : suF S c 4 0 0 = s at hq
    have keep : (¬ (s ≤ 4 ∧ s < m ∧ rckF (scP S c 1 4) (S 1 2) b = 0)) → ∀ T3, SW S T T3 → ∀ z1 : Int32, z1 = nI c + 1 → w_X8_screwed_35 post (n + 1) (nI m) z1 T3 := by
      intro hn T3 w3 z1 e1
      rw [e1, nI_1]
      rw [if_neg hn] at hq
      exact ih _ _ _ (by omega) hm w3 hq
    unfold w_X8_screwed_70 w_X8_screwed_69 w_X8_screwed_70
    by_cases h4 : s ≤ 4
    · have es : sgM s = nI s := if_pos h4
      rw [es, nI_leI (by omega) (by omega)]
      refine ⟨fun z => keep (fun y => absurd y.2.1 (by omega)) T2 w2, fun z => ?_⟩
      have hall : ∀ j, j < 4 → okB S c j = true := fun j hj => suF_ok 4 0 0 (by rw [hsu]; exact h4) j (by omega) (by omega)
      have hr : RX (scP S c 1 4) T2 := (h.screw (T' := mset T 4 (T2 4)) hall (fun d d1 _ => ms_n d1) (fun i hi => by rw [ms_s]; exact hok i hi (hall i hi))).same SX.rf w2.sm
      have f4 : T2 0 4 = S 1 2 := w2.1.1.1.trans ep
      have f6 : T2 0 6 = nI b := w2.1.1.2.2.1.trans eb
      unfold w_X8_findNow
      rw [f4, f6]
      refine m_find hr hb (fun T3 m3 => ?_)
      try dsimp only
      rw [m3.2.2.2.1]
      have w3 : SW S T T3 := w2.go m3.sm (m3.1 15 (by decide) (by decide))
      refine ⟨fun z2 => keep (fun y => z2 y.2.2) T3 w3, fun z2 z1 e1 => ?_⟩
      rw [e1, nI_1]
      rw [if_pos ⟨h4, by omega, z2⟩] at hq
      exact ih _ _ _ (by omega) (Or.inl h4) w3 hq
    · have es : sgM s = nI 9 := if_neg h4
      rw [es, nI_leI (by omega) (by omega)]
      exact ⟨fun _ => keep (fun y => h4 y.1) T2 w2, fun z => absurd (show m ≤ 9 by omega) z⟩
end
