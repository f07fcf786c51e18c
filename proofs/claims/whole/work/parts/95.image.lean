/-! PURE, 14: image, back: the model's carrying -/
section
variable {S T S' T' : Mem} {a1 a2 a3 a4 a5 : Int32}
theorem m_carry {post : Int32 → Mem → Prop} {p : Int32} {k : Nat} (hk : k < 77) (e : T 0 40 = nI k) (hp : ∀ T', (∀ c, c ≠ 0 → c ≠ 16 → T' c = T c) → (∀ j, j ≠ 40 → T' 0 j = T 0 j) → T' 0 40 = nI (k + 1) → T' 16 k = (if T 0 41 = 0 then T 16 k else p) → (∀ j, j ≠ k → T' 16 j = T 16 j) → post (if T 0 41 = 0 then T 16 k else p) T') : w_X8_carry p T post := by
  have step : ∀ T1 : Mem, T1 0 = T 0 → (∀ c, c ≠ 0 → c ≠ 16 → T1 c = T c) → T1 16 k = (if T 0 41 = 0 then T 16 k else p) → (∀ j, j ≠ k → T1 16 j = T 16 j) → w_X8_carry_17 post T1 := by
    intro T1 e0 ec ek ej
    unfold w_X8_carry_17
    intro S1 e1
    have ei : S1 0 40 - 1 = nI k := by
      rw [e1, ms_s, up_s, e0, e, nI_1, nI_pred]
    rw [ei]
    refine ⟨nI_in hk (by decide), ?_⟩
    rw [nI_clamp (by omega), e1, ms_n (by decide), ek]
    refine hp _ (fun c c0 c1 => ?_) (fun j hj => ?_) ?_ ?_ (fun j hj => ?_)
    · rw [ms_n c0]; exact ec c c0 c1
    · rw [ms_s, up_n hj, e0]
    · rw [ms_s, up_s, e0, e, nI_1]
    · rw [ms_n (by decide)]; exact ek
    · rw [ms_n (by decide)]; exact ej j hj
  unfold w_X8_carry
  rw [e, nI_clamp (by omega)]
  refine ⟨fun z => step T rfl (fun _ _ _ => rfl) (by rw [if_pos z]) (fun _ _ => rfl), fun z => ⟨nI_in hk (by decide), fun S1 e1 => ?_⟩⟩
  subst e1
  refine step _ rfl (fun c c0 c1 => ms_n c1) ?_ (fun j hj => ?_)
  · rw [ms_s, up_s, if_neg z]
  · rw [ms_s, up_n hj]
theorem m_carry112 {post : Mem → Prop} {w : Int32} : ∀ (n k : Nat) (T : Mem), k + n = 64 → T 0 40 = nI (13 + k) → T 0 41 = w → (∀ T', (∀ c, c ≠ 0 → c ≠ 1 → c ≠ 16 → T' c = T c) → (∀ j, j ≠ 40 → T' 0 j = T 0 j) → (∀ j, k ≤ j → j < 64 → T' 1 j = (if w = 0 then T 16 (13 + j) else T 1 j) ∧ T' 16 (13 + j) = (if w = 0 then T 16 (13 + j) else T 1 j)) → (∀ j, j < k ∨ 64 ≤ j → T' 1 j = T 1 j) → (∀ j, j < 13 + k ∨ 77 ≤ j → T' 16 j = T 16 j) → post T') → w_X8_carryAll_112 post (n + 1) (nI k) T := by
  intro n
  induction n with
  | zero =>
    intro k T hk e ew hp
    rw [w_X8_carryAll_112]
    have ek : k = 64 := by omega
    subst ek
    exact ⟨fun _ => hp T (fun _ _ _ _ => rfl) (fun _ _ => rfl) (fun j h1 h2 => absurd h1 (by omega)) (fun _ _ => rfl) (fun _ _ => rfl), fun z => absurd (by decide) z⟩
  | succ n ih =>
    intro k T hk e ew hp
    rw [w_X8_carryAll_112, nI_clamp (by omega)]
    refine ⟨fun z => absurd z (nI_ge (b := 64) (by omega) (by decide)), fun _ => ⟨nI_in (by omega) (by decide), m_carry (by omega) e (fun T1 c1 c2 c3 c4 c5 => ⟨nI_in (by omega) (by decide), fun S2 e2 z3 e3 => ?_⟩)⟩⟩
    rw [ew] at c4 e2
    rw [e3, nI_1]
    subst e2
    refine ih _ _ (by omega) c3 ((c2 41 (by decide)).trans ew) (fun T' t1 t2 t3 t4 t5 => hp T' (fun c d0 d1 d2 => ?_) (fun j hj => ?_) (fun j h1 h2 => ?_) (fun j hj => ?_) (fun j hj => ?_))
    · rw [t1 c d0 d1 d2, ms_n d1, c1 c d0 d2]
    · rw [t2 j hj, ms_n (by decide), c2 j hj]
    · by_cases ej : j = k
      · subst ej
        rw [t4 j (Or.inl (by omega)), t5 (13 + j) (Or.inl (by omega)), ms_s, up_s, ms_n (by decide)]
        exact ⟨rfl, c4⟩
      · obtain ⟨r1, r2⟩ := t3 j (by omega) h2
        rw [ms_s, up_n ej, ms_n (by decide), c5 _ (by omega), c1 1 (by decide) (by decide)] at r1 r2
        exact ⟨r1, r2⟩
    · rw [t4 j (by omega), ms_s, up_n (by omega), c1 1 (by decide) (by decide)]
    · rw [t5 j (by omega), ms_n (by decide), c5 j (by omega)]
theorem m_carry67 {post : Mem → Prop} {w : Int32} : ∀ (n k : Nat) (T : Mem), k + n = 4 → T 0 40 = nI (5 + 2 * k) → T 0 41 = w → (∀ T', (∀ c, c ≠ 0 → c ≠ 1 → c ≠ 3 → c ≠ 4 → c ≠ 16 → T' c = T c) → (∀ j, j ≠ 40 → T' 0 j = T 0 j) → (∀ j, j < 64 → T' 1 j = (if w = 0 then T 16 (13 + j) else T 1 j) ∧ T' 16 (13 + j) = (if w = 0 then T 16 (13 + j) else T 1 j)) → (∀ j, 64 ≤ j → T' 1 j = T 1 j) → (∀ i, k ≤ i → i < 4 → (T' 3 i = (if w = 0 then T 16 (5 + 2 * i) else T 3 i) ∧ T' 16 (5 + 2 * i) = (if w = 0 then T 16 (5 + 2 * i) else T 3 i)) ∧ (T' 4 i = (if w = 0 then T 16 (6 + 2 * i) else T 4 i) ∧ T' 16 (6 + 2 * i) = (if w = 0 then T 16 (6 + 2 * i) else T 4 i))) → (∀ i, i < k → T' 3 i = T 3 i ∧ T' 4 i = T 4 i) → (∀ j, j < 5 + 2 * k → T' 16 j = T 16 j) → post T') → w_X8_carryAll_67 post (n + 1) (nI k) T := by
  intro n
  induction n with
  | zero =>
    intro k T hk e ew hp
    rw [w_X8_carryAll_67]
    have ek : k = 4 := by omega
    subst ek
    refine ⟨fun _ => ⟨65, m_carry112 (w := w) 64 0 T (by decide) e ew (fun T' t1 t2 t3 t4 t5 => hp T' (fun c d0 d1 d3 d4 d16 => t1 c d0 d1 d16) t2 (fun j hj => t3 j (by omega) hj) (fun j hj => t4 j (Or.inr hj)) (fun i h1 h2 => absurd h1 (by omega)) (fun i hi => ?_) (fun j hj => t5 j (Or.inl (by omega))))⟩, fun z => absurd (by decide) z⟩
    rw [t1 3 (by decide) (by decide) (by decide), t1 4 (by decide) (by decide) (by decide)]
    exact ⟨rfl, rfl⟩
  | succ n ih =>
    intro k T hk e ew hp
    rw [w_X8_carryAll_67, nI_clamp (by omega)]
    refine ⟨fun z => absurd z (nI_ge (b := 4) (by omega) (by decide)), fun _ => ⟨nI_in (by omega) (by decide), m_carry (by omega) e (fun T1 c1 c2 c3 c4 c5 => ⟨nI_in (by omega) (by decide), fun S2 e2 => ⟨nI_in (by omega) (by decide), ?_⟩⟩)⟩⟩
    rw [ew] at c4 e2
    subst e2
    refine m_carry (k := 6 + 2 * k) (by omega) (c3.trans (by rw [show 5 + 2 * k + 1 = 6 + 2 * k by omega])) (fun T2 b1 b2 b3 b4 b5 => ⟨nI_in (by omega) (by decide), fun S4 e4 z5 e5 => ?_⟩)
    have ew1 : T1 0 41 = w := (c2 41 (by decide)).trans ew
    have ew2 : T2 0 41 = w := (b2 41 (by decide)).trans ew1
    have ew1' : (mset T1 3 (upd (T1 3) k (if w = 0 then T 16 (5 + 2 * k) else T 3 k))) 0 41 = w := ew1
    have x44 : (mset T1 3 (upd (T1 3) k (if w = 0 then T 16 (5 + 2 * k) else T 3 k))) 4 = T 4 := (ms_n (by decide)).trans (c1 4 (by decide) (by decide))
    have x16 : (mset T1 3 (upd (T1 3) k (if w = 0 then T 16 (5 + 2 * k) else T 3 k))) 16 = T1 16 := ms_n (by decide)
    rw [ew1', x44, x16, c5 _ (by omega)] at b4 e4
    rw [x16] at b5
    rw [e5, nI_1]
    subst e4
    have y16 : ∀ j, j ≠ 5 + 2 * k → j ≠ 6 + 2 * k → T2 16 j = T 16 j := fun j h1 h2 => (b5 j h2).trans (c5 j h1)
    have y1 : T2 1 = T 1 := (b1 1 (by decide) (by decide)).trans ((ms_n (by decide)).trans (c1 1 (by decide) (by decide)))
    have y3 : ∀ i, i ≠ k → T2 3 i = T 3 i := fun i hi => by
      rw [b1 3 (by decide) (by decide), ms_s, up_n hi, c1 3 (by decide) (by decide)]
    have y4 : T2 4 = T 4 := (b1 4 (by decide) (by decide)).trans x44
    refine ih _ _ (by omega) ?_ ew2 (fun T' t1 t2 t3 t4 t5 t6 t7 => hp T' (fun c d0 d1 d3 d4 d16 => ?_) (fun j hj => ?_) (fun j hj => ?_) (fun j hj => ?_) (fun i h1 h2 => ?_) (fun i hi => ?_) (fun j hj => ?_))
    · rw [ms_n (by decide), b3, show 6 + 2 * k + 1 = 5 + 2 * (k + 1) by omega]
    · rw [t1 c d0 d1 d3 d4 d16, ms_n d4, b1 c d0 d16, ms_n d3, c1 c d0 d16]
    · rw [t2 j hj, ms_n (by decide), b2 j hj, ms_n (by decide), c2 j hj]
    · have r := t3 j hj
      rw [ms_n (by decide), ms_n (by decide), y16 _ (by omega) (by omega), y1] at r
      exact r
    · rw [t4 j hj, ms_n (by decide), y1]
    · by_cases ei : i = k
      · subst ei
        obtain ⟨q3, q4⟩ := t6 i (by omega)
        have q5 := t7 (5 + 2 * i) (by omega)
        have q6 := t7 (6 + 2 * i) (by omega)
        rw [ms_n (by decide)] at q3 q5 q6
        rw [ms_s, up_s] at q4
        rw [b4] at q6
        rw [b5 _ (by omega), c4] at q5
        rw [b1 3 (by decide) (by decide), ms_s, up_s] at q3
        exact ⟨⟨q3, q5⟩, ⟨q4, q6⟩⟩
      · have r := t5 i (by omega) h2
        rw [ms_n (by decide), ms_n (by decide), ms_s, up_n ei, y16 _ (by omega) (by omega), y16 _ (by omega) (by omega), y3 i ei, y4] at r
        exact r
    · obtain ⟨q3, q4⟩ := t6 i (by omega)
      rw [ms_n (by decide), y3 i (by omega)] at q3
      rw [ms_s, up_n (by omega), y4] at q4
      exact ⟨q3, q4⟩
    · rw [t7 j (by omega), ms_n (by decide), y16 j (by omega) (by omega)]
end
