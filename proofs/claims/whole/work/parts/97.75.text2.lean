/-! PURE, 60: text -/
section
variable {S T S' T' : Mem} {a1 a2 a3 a4 a5 : Int32}
section
variable {g h : Nat → Int32} {n : Nat}
theorem lxS_cg (e : ∀ i, i < n → g i = h i) : ∀ (f p : Nat), p + f ≤ n → lxS g f p = lxS h f p := by
  intro f
  induction f with
  | zero => intro p _; rfl
  | succ f ih =>
    intro p hp
    rw [lxS, lxS, e p (by omega), ih (p + 1) (by omega)]
theorem lxR_cg {a b : Int32} (e : ∀ i, i < n → g i = h i) : ∀ (f p : Nat), p + f ≤ n → lxR g a b f p = lxR h a b f p := by
  intro f
  induction f with
  | zero => intro p _; rfl
  | succ f ih =>
    intro p hp
    rw [lxR, lxR, e p (by omega), ih (p + 1) (by omega)]
theorem lxN_cg (e : ∀ i, i < n → g i = h i) : ∀ (f p : Nat) (a : Int32), p + f ≤ n → lxN g f p a = lxN h f p a := by
  intro f
  induction f with
  | zero => intro p a _; rfl
  | succ f ih =>
    intro p a hp
    rw [lxN, lxN, e p (by omega), ih (p + 1) _ (by omega)]
theorem lxEq_cg (e : ∀ i, i < n → g i = h i) {q : Nat} : lxEq g n q = lxEq h n q := by
  rw [lxEq, lxEq]
  by_cases c : n ≤ q
  · rw [if_pos c, if_pos c]
  · rw [if_neg c, if_neg c, e q (by omega), lxR_cg e _ _ (by omega), lxR_cg e _ _ (by omega)]
theorem seg_cg (e : ∀ i, i < n → g i = h i) {a b : Nat} (hb : b ≤ n) : seg g a b = seg h a b := by
  unfold seg
  refine List.map_congr_left (fun i hi => ?_)
  have := List.mem_range.mp hi
  exact e (a + i) (by omega)
theorem lxQ_cg (e : ∀ i, i < n → g i = h i) {p : Nat} (hp : p ≤ n) : lxQ g n p = lxQ h n p := lxS_cg e _ _ (by omega)
theorem lxT_cg (e : ∀ i, i < n → g i = h i) {p : Nat} (hp : p ≤ n) : lxT g n p = lxT h n p := by
  unfold lxT
  rw [lxQ_cg e hp]
  have hq := (lxQ_b (tp := h) hp).2
  generalize lxQ h n p = q at hq
  have eb := lxEq_b (tp := h) hq
  rw [lxTq, lxTq]
  by_cases c : n ≤ q
  · rw [if_pos c, if_pos c]
  · rw [if_neg c, if_neg c, lxEq_cg e, seg_cg e eb.2.1, e q (by omega)]
theorem lxV_cg (e : ∀ i, i < n → g i = h i) {p : Nat} (hp : p ≤ n) : lxV g n p = lxV h n p := by
  unfold lxV
  rw [lxQ_cg e hp]
  have hq := (lxQ_b (tp := h) hp).2
  generalize lxQ h n p = q at hq
  have eb := lxEq_b (tp := h) hq
  rw [lxVq, lxVq, lxEq_cg e]
  exact lxN_cg e _ _ _ (by omega)
theorem lxE_cg (e : ∀ i, i < n → g i = h i) {p : Nat} (hp : p ≤ n) : lxE g n p = lxE h n p := by
  unfold lxE
  rw [lxQ_cg e hp]
  exact lxEq_cg e
theorem lxL_cg (e : ∀ i, i < n → g i = h i) : ∀ (f p : Nat), p ≤ n → lxL g n f p = lxL h n f p := by
  intro f
  induction f with
  | zero => intro p _; rfl
  | succ f ih =>
    intro p hp
    have hq := (lxQ_b (tp := h) hp).2
    rw [lxL, lxL, lxT_cg e hp, lxV_cg e hp, lxQ_cg e hp, lxE_cg e hp, ih (lxE h n p) (lxEq_b hq).2.1]
end
/-- a whole text -/
theorem rdX_s {m k : Nat} {l : List rdT} {o : rdO} {es : List Nat} {r : rdO × List Nat} (h : rdX (m + 1) k l o es = Sum.inr r) : ∃ l2 o2, rdE l.tail o = Sum.inr (l2, o2) ∧ rdX m (k + 1) l2 o2 (es ++ [o2.length]) = Sum.inr r := by
  rw [rdX] at h
  by_cases c : rdH l = nI (6 + k)
  · rw [if_pos c] at h
    generalize hr : rdE l.tail o = x at h
    match x, hr, h with
    | Sum.inl q, _, h => exact absurd h (by simp)
    | Sum.inr (l2, o2), hr, h => exact ⟨l2, o2, rfl, h⟩
  · rw [if_neg c] at h
    exact absurd h (by simp)
theorem rdX_0 {k : Nat} {l : List rdT} {o : rdO} {es : List Nat} {r : rdO × List Nat} (h : rdX 0 k l o es = Sum.inr r) : r = (o, es) := by
  rw [rdX] at h
  by_cases c : rdH l = 0
  · rw [if_pos c] at h
    exact (Sum.inr.inj h).symm
  · rw [if_neg c] at h
    exact absurd h (by simp)
theorem rdX_ok {l : List rdT} {o : rdO} {es : List Nat} (h : rdX 3 0 l [] [] = Sum.inr (o, es)) (hg : rdG l) (hl : l.length ≤ 161) : ∃ c0 c1 c2 : List Int32, o = c0 ++ (c1 ++ c2) ∧ es = [c0.length, c0.length + c1.length, c0.length + (c1.length + c2.length)] ∧ c0.length + (c1.length + c2.length) ≤ 160 ∧ (∀ s ∈ o, bnd s (-15) 9999) ∧ dep c0 0 = some 1 ∧ dep c1 0 = some 1 ∧ dep c2 0 = some 1 := by
  obtain ⟨l1, o1, h1, k1⟩ := rdX_s h
  obtain ⟨l2, o2, h2, k2⟩ := rdX_s k1
  obtain ⟨l3, o3, h3, k3⟩ := rdX_s k2
  have e := rdX_0 k3
  obtain ⟨⟨c0, e0, n0, y0⟩, m0⟩ := pg_E _ _ _ _ h1
  obtain ⟨⟨c1, e1, n1, y1⟩, m1⟩ := pg_E _ _ _ _ h2
  obtain ⟨⟨c2, e2, n2, y2⟩, m2⟩ := pg_E _ _ _ _ h3
  obtain ⟨g1, b0, d0⟩ := y0 hg.tl
  obtain ⟨g2, b1, d1⟩ := y1 g1.tl
  obtain ⟨g3, b2, d2⟩ := y2 g2.tl
  have t1 := len_tl' l1
  have t2 := len_tl' l2
  have t0 : l.tail.length ≤ 160 := by rw [List.length_tail]; omega
  rw [List.nil_append] at e0
  subst e0
  subst e1
  subst e2
  have eo : o = (o1 ++ c1) ++ c2 := congrArg (fun x => x.1) e
  have ees : es = (([] ++ [o1.length]) ++ [(o1 ++ c1).length]) ++ [((o1 ++ c1) ++ c2).length] := congrArg (fun x => x.2) e
  refine ⟨o1, c1, c2, ?_, ?_, by omega, fun s hs => ?_, ?_, ?_, ?_⟩
  · rw [eo, List.append_assoc]
  · rw [ees]
    simp only [List.nil_append, List.length_append, Nat.add_assoc, List.cons_append]
  · rw [eo] at hs
    rcases List.mem_append.mp hs with z | z
    · rcases List.mem_append.mp z with z | z
      · exact b0 s z
      · exact b1 s z
    · exact b2 s z
  · have := d0 0 []
    rw [List.append_nil] at this
    exact this
  · have := d1 0 []
    rw [List.append_nil] at this
    exact this
  · have := d2 0 []
    rw [List.append_nil] at this
    exact this
theorem RuleOk.fr2 {j : Nat} (h : RuleOk S T j) (a : S' (22 + 3 * j) = S (22 + 3 * j)) (b : S' (23 + 3 * j) = S (23 + 3 * j)) (c : ∀ i, i < 160 → T' 9 (160 * j + i) = T 9 (160 * j + i)) (d : ∀ i, i < 4 → T' 10 (4 * j + i) = T 10 (4 * j + i)) : RuleOk S' T' j := by
  obtain ⟨e0, e1, e2, h01, h12, h2, q0, q1, q2, q3, q4, q5, q6, q7, q8⟩ := h
  have d0 : T' 10 (4 * j) = T 10 (4 * j) := d 0 (by decide)
  refine ⟨e0, e1, e2, h01, h12, h2, by rw [b]; exact q0, by rw [b]; exact q1, by rw [b]; exact q2, by rw [d0]; exact q3, by rw [d 1 (by decide)]; exact q4, by rw [d 2 (by decide)]; exact q5, by rw [d 3 (by decide)]; exact q6, fun i hi => ?_, ?_⟩
  · rw [c i (by omega), a]; exact q7 i hi
  · rw [a]; exact q8
theorem RX.txt (h : RX S T) {c d : Nat} (hd : 1 ≤ d ∧ d ≤ 6) (hcd : c ≤ d) (ec : S 0 5 = nI c) (s5 : S' 0 5 = nI d) (t14 : T' 0 14 = nI d) (hr : ∀ j, j < d → RuleOk S' T' j) (sf : ∀ i, i ≠ 0 → i ≠ 15 → i ≠ 17 → i ≠ 18 → i ≠ 19 → (i < 21 ∨ 38 < i) → S' i = S i) (s2 : S' 0 2 = S 0 2) (s15 : S' 15 2 = 0) (tf : ∀ i, i ≠ 0 → i ≠ 9 → i ≠ 10 → i ≠ 11 → T' i = T i) (t0 : ∀ j, j ≠ 13 → j ≠ 14 → (j < 16 ∨ 27 < j) → T' 0 j = T 0 j) (t13 : T' 0 13 = 0) : RX S' T' := by
  obtain ⟨h1, h2, h3, h4, h5, h6, h7⟩ := h
  obtain ⟨g4, g5, g6, g7, g15⟩ := h3
  have lt : ∀ x : Int32, (x.toInt < (S 0 5).toInt) → x.toInt < (S' 0 5).toInt := fun x hx => by
    rw [s5, nI_toInt (by omega)]
    rw [ec, nI_toInt (by omega)] at hx
    omega
  have s1 := sf 1 (by decide) (by decide) (by decide) (by decide) (by decide) (by decide)
  have s8 := sf 8 (by decide) (by decide) (by decide) (by decide) (by decide) (by decide)
  have s9 := sf 9 (by decide) (by decide) (by decide) (by decide) (by decide) (by decide)
  have t16 := tf 16 (by decide) (by decide) (by decide) (by decide)
  refine ⟨h1.fr (sf 2 (by decide) (by decide) (by decide) (by decide) (by decide) (by decide)) (tf 1 (by decide) (by decide) (by decide) (by decide)), h2.fr (fun i hi => sf _ (by omega) (by omega) (by omega) (by omega) (by omega) (by omega)) (tf 2 (by decide) (by decide) (by decide) (by decide)) (tf 3 (by decide) (by decide) (by decide) (by decide)) (tf 4 (by decide) (by decide) (by decide) (by decide)), ⟨?_, ?_, ?_, ?_, ?_⟩, ⟨by rw [s15, t13], by rw [s15]; exact ⟨by decide, by decide⟩, fun i hi => ?_, ?_⟩, ⟨by rw [s5, t14], ?_, fun j hj => hr j ?_⟩, ⟨?_, ?_⟩, h7.fr (fun i hi => sf i (by omega) (by omega) (by omega) (by omega) (by omega) (by omega)) (tf 17 (by decide) (by decide) (by decide) (by decide)) (tf 18 (by decide) (by decide) (by decide) (by decide)) (tf 19 (by decide) (by decide) (by decide) (by decide))⟩
  · rw [s1, t0 4 (by decide) (by decide) (by decide)]; exact g4
  · rw [s1, t0 5 (by decide) (by decide) (by decide)]; exact g5
  · rw [s1, t0 6 (by decide) (by decide) (by decide)]; exact g6
  · rw [s1, t0 7 (by decide) (by decide) (by decide)]; exact g7
  · rw [s1, t0 15 (by decide) (by decide) (by decide)]
    exact ⟨g15.1, g15.2.1, lt _ g15.2.2⟩
  · rw [s15, I0] at hi
    omega
  · unfold RW
    rw [tf 6 (by decide) (by decide) (by decide) (by decide), tf 7 (by decide) (by decide) (by decide) (by decide)]
    exact h4.2.2.2
  · rw [s5]
    unfold bnd
    rw [nI_toInt (by omega)]
    omega
  · rw [s5, nI_toInt (by omega)] at hj
    omega
  · rw [s2, t0 38 (by decide) (by decide) (by decide)]; exact h6.1
  · rw [s2]
    rcases h6.2 with z | z
    · exact Or.inl z
    · obtain ⟨k1, k2, k4, k5, k6, k7, k15⟩ := z
      refine Or.inr ⟨by rw [s9, t16]; exact k1, fun i hi => ?_, by rw [s8, t16]; exact k4, by rw [s8, t16]; exact k5, by rw [s8, t16]; exact k6, by rw [s8, t16]; exact k7, ?_⟩
      · rw [sf (11 + i) (by omega) (by omega) (by omega) (by omega) (by omega) (by omega), t16]
        exact k2 i hi
      · rw [s8, t16]
        exact ⟨k15.1, k15.2.1, lt _ k15.2.2⟩
end
