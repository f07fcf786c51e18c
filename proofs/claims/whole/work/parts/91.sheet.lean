/-! PURE, 10: sheets -/
section
variable {S T S' T' : Mem} {a1 a2 a3 a4 a5 : Int32}
theorem x_isMissing (c : Nat) (S : Mem) (post : Int32 → Mem → Prop) : w_X3_isMissing c S post = post (bI (S c 0 = -1)) S := by
  unfold w_X3_isMissing w_X3_isMissing_13 bI
  by_cases h : S c 0 = -1
  · simp only [h, not_true_eq_false, false_implies, true_and, true_implies, if_true, or_true, q_1_0, false_or]
  · simp only [h, not_false_eq_true, false_implies, and_true, true_implies, if_false, true_or, true_and]
theorem x_hasItem (c : Nat) (p : Int32) (S : Mem) (post : Int32 → Mem → Prop) : w_X3_hasItem c p S post = post (bI (0 ≤ p ∧ ¬ S c 1 ≤ p)) S := by
  have e1 : (p < 0) = ¬ (0 ≤ p) := by rw [i_lt, i_le]; exact propext (by omega)
  unfold w_X3_hasItem w_X3_hasItem_16 w_X3_hasItem_17 bI
  rw [e1]
  by_cases h1 : 0 ≤ p <;> by_cases h2 : S c 1 ≤ p <;> simp [h1, h2]
theorem x_hasItems (c : Nat) (p q : Int32) (S : Mem) (post : Int32 → Mem → Prop) : w_X3_hasItems c p q S post = post (bI (0 ≤ p ∧ 0 ≤ q ∧ ¬ S c 1 - q < p)) S := by
  have e1 : (p < 0) = ¬ (0 ≤ p) := by rw [i_lt, i_le]; exact propext (by omega)
  have e2 : (q < 0) = ¬ (0 ≤ q) := by rw [i_lt, i_le]; exact propext (by omega)
  unfold w_X3_hasItems w_X3_hasItems_22 w_X3_hasItems_23 bI
  rw [e1, e2]
  by_cases h1 : 0 ≤ p <;> by_cases h2 : 0 ≤ q <;> by_cases h3 : S c 1 - q < p <;> simp [h1, h2, h3]
theorem RX.sheet (h : RX S T) {i : Nat} {s m : Int32} (hi : i < 4) (hs : ∀ c, c ≠ 44 + 2 * i → c ≠ 45 + 2 * i → S' c = S c) (ht : ∀ c, c ≠ 17 → c ≠ 18 → c ≠ 19 → T' c = T c) (h17 : T' 17 i = s ∧ ∀ k, k ≠ i → T' 17 k = T 17 k) (h18 : T' 18 i = m ∧ ∀ k, k ≠ i → T' 18 k = T 18 k) (h19 : ∀ k, k < 40 * i ∨ 40 * i + 40 ≤ k → T' 19 k = T 19 k) (e0 : S' (44 + 2 * i) 0 = s) (e1 : S' (44 + 2 * i) 1 = m) (hb : bnd s (-1) 2) (hm : bnd m 0 40) (hj : ∀ j : Nat, (j : Int) < m.toInt → S' (45 + 2 * i) j = T' 19 (40 * i + j)) : RX S' T' := by
  obtain ⟨h1, h2, h3, h4, h5, h6, h7⟩ := h
  have tn : ∀ c, c < 17 → T' c = T c := fun c hc => ht c (by omega) (by omega) (by omega)
  have sn : ∀ c, c < 44 → S' c = S c := fun c hc => hs c (by omega) (by omega)
  have t0 := tn 0 (by decide)
  have s0 := sn 0 (by decide)
  have s1 := sn 1 (by decide)
  refine ⟨h1.fr (sn _ (by decide)) (tn _ (by decide)), h2.fr (fun i hi => sn _ (by omega)) (tn _ (by decide)) (tn _ (by decide)) (tn _ (by decide)), h3.fr (fun _ _ _ => by rw [s1]) (by rw [s0]) (by rw [t0]) (by rw [t0]) (by rw [t0]) (by rw [t0]) (by rw [t0]), h4.fr (by rw [sn 15 (by decide)]) (sn _ (by decide)) (by rw [t0]) (tp3_of (tn _ (by decide)) (tn _ (by decide)) (tn _ (by decide))), h5.fr (by rw [s0]) (fun c _ _ => sn _ (by omega)) (by rw [t0]) (tn _ (by decide)) (tn _ (by decide)), h6.fr (by rw [s0]) (by rw [s0]) (sn _ (by decide)) (sn _ (by decide)) (fun i hi => sn _ (by omega)) (by rw [t0]) (tn _ (by decide)), fun k hk => ?_⟩
  by_cases e : k = i
  · subst e
    rw [e0, e1, h17.1, h18.1]
    exact ⟨⟨rfl, hb⟩, ⟨rfl, hm⟩, hj⟩
  · rw [hs (44 + 2 * k) (by omega) (by omega), hs (45 + 2 * k) (by omega) (by omega), h17.2 k e, h18.2 k e]
    obtain ⟨g1, g2, g3⟩ := h7 k hk
    refine ⟨g1, g2, fun j hj => ?_⟩
    have hb := g2.2.2
    rw [h19 _ (by omega)]
    exact g3 j hj
theorem sc_x {post : Mem → Prop} {c : Nat} : ∀ (n k : Nat) (S : Mem), k + n = 40 → (∀ j : Nat, j < k → S (c + 1) j = 0) → (∀ S', (∀ d, d ≠ c + 1 → S' d = S d) → (∀ j : Nat, j < 40 → S' (c + 1) j = 0) → post S') → w_X3_become_18 post c (n + 1) (nI k) S := by
  intro n
  induction n with
  | zero =>
    intro k S hk hz hp
    rw [w_X3_become_18]
    have e : k = 40 := by omega
    subst e
    exact ⟨fun _ => hp S (fun _ _ => rfl) hz, fun z => absurd (by decide) z⟩
  | succ n ih =>
    intro k S hk hz hp
    rw [w_X3_become_18]
    refine ⟨fun z => absurd z (nI_ge (b := 40) (by omega) (by decide)), fun _ => ⟨nI_in (by omega) (by decide), fun S1 e1 z2 e2 => ?_⟩⟩
    rw [e2, e1, nI_1, nI_clamp (by omega)]
    refine ih _ _ (by omega) (fun j hj => ?_) (fun S' s1 s2 => hp S' (fun d hd => (s1 d hd).trans (ms_n hd)) s2)
    rw [ms_s]
    by_cases e : j = k
    · rw [e, up_s]
    · rw [up_n e]; exact hz j (by omega)
theorem x_become {post : Mem → Prop} {c : Nat} {s m : Int32} (hm : 0 ≤ m ∧ m ≤ 40) (hp : ∀ S', (∀ d, d ≠ c → d ≠ c + 1 → S' d = S d) → S' c 0 = s → S' c 1 = m → (∀ j : Nat, j < 40 → S' (c + 1) j = 0) → post S') : w_X3_become c s m S post := by
  unfold w_X3_become
  simp only [x_held, forall_eq]
  rw [if_pos hm.1, if_pos hm.2]
  refine ⟨41, sc_x 40 0 _ rfl (fun j hj => absurd hj (by omega)) (fun S' s1 s2 => hp S' (fun d d1 d2 => ?_) ?_ ?_ s2)⟩
  · rw [s1 d d2, ms_n d1, ms_n d1]
  · rw [s1 c (by omega), ms_s, up_n (by decide), ms_s, up_s]
  · rw [s1 c (by omega), ms_s, up_s]
theorem sc_m {post : Int32 → Mem → Prop} {q : Nat} (hq : q < 4) : ∀ (n k : Nat) (S : Mem), k + n = 40 → (∀ j : Nat, j < k → S 19 (40 * q + j) = 0) → (∀ S', (∀ d, d ≠ 19 → S' d = S d) → (∀ j : Nat, j < 40 → S' 19 (40 * q + j) = 0) → (∀ j, j < 40 * q ∨ 40 * q + 40 ≤ j → S' 19 j = S 19 j) → post 1 S') → w_X8_sheet_80 post (n + 1) (nI q) (nI k) S := by
  intro n
  induction n with
  | zero =>
    intro k S hk hz hp
    rw [w_X8_sheet_80]
    have e : k = 40 := by omega
    subst e
    exact ⟨fun _ => hp S (fun _ _ => rfl) hz (fun _ _ => rfl), fun z => absurd (by decide) z⟩
  | succ n ih =>
    intro k S hk hz hp
    have ei : (40 : Int32) * nI q + nI k = nI (40 * q + k) := by
      have e40 : (40 : Int32) = nI 40 := rfl
      rw [e40, pk_mul, nI_add]
    rw [w_X8_sheet_80, ei]
    refine ⟨fun z => absurd z (nI_ge (b := 40) (by omega) (by decide)), fun _ => ⟨nI_in (by omega) (by decide), fun S1 e1 z2 e2 => ?_⟩⟩
    rw [e2, e1, nI_1, nI_clamp (by omega)]
    refine ih _ _ (by omega) (fun j hj => ?_) (fun S' s1 s2 s3 => hp S' (fun d hd => (s1 d hd).trans (ms_n hd)) s2 (fun j hj => ?_))
    · rw [ms_s]
      by_cases e : j = k
      · rw [e, up_s]
      · rw [up_n (by omega)]; exact hz j (by omega)
    · rw [s3 j hj, ms_s, up_n (by omega)]
end
