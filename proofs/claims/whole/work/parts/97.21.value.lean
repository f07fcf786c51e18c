/-! PURE, 18: the two runs of a part -/
section
variable {S T S' T' : Mem} {a1 a2 a3 a4 a5 : Int32}
theorem x_isName2 (a : Int32) (S : Mem) (post : Int32 → Mem → Prop) : w_X6_isName a S post = post (bI (0 ≤ -1 - a ∧ -1 - a ≤ 5)) S := x_isName a S post
theorem nI_sub1 {n : Nat} (h : 1 ≤ n) : nI n - (1 : Int32) = nI (n - 1) := pk_sub h
theorem nI_sub2 {n : Nat} (h : 2 ≤ n) : nI n - (2 : Int32) = nI (n - 2) := pk_sub h
theorem nI_m1 {n : Nat} (h : 1 ≤ n) : nI n + (-1 : Int32) = nI (n - 1) := by
  obtain ⟨k, rfl⟩ : ∃ k, n = k + 1 := ⟨n - 1, by omega⟩
  rw [pk_m1]
  rfl
theorem x_run {post : Int32 → Mem → Prop} {c c2 c3 e : Nat} {p : Int32} (hp : 0 ≤ p ∧ p ≤ 2) (h21 : c3 ≠ c + 1) (h22 : c3 ≠ c + 2) (h23 : c3 ≠ c2) (he : e ≤ 160) : ∀ (k a n m : Nat) (S : Mem), a + k = e → n ≤ a → S (c + 2) p.toNatClampNeg = nI e → (∀ i, i < 160 → i < e → bnd (S (c + 1) i) (-15) 9999) → dep (seg (S (c + 1)) a e) n = some (m + 1) → (∀ S', (∀ d, d ≠ c3 → S' d = S d) → post (evF (S c2) (seg (S (c + 1)) a e) n (S c3)) S') → w_X2_value_32 post c c2 c3 (k + 1) p (nI n) (nI a) S := by
  intro k
  induction k with
  | zero =>
    intro a n m S hk hn h0 hb hd hq
    have ea : a = e := by omega
    subst ea
    rw [seg_nil] at hd hq
    have hd : some n = some (m + 1) := hd
    have en : n = m + 1 := by injection hd
    rw [w_X2_value_32, h0]
    unfold w_X2_value_190
    refine ⟨rg_in (b := 2) (by decide) hp, fun _ => ⟨fun z => absurd z (nI_nlt (a := n) (b := 1) (by omega) (by omega)), fun _ => hq S (fun _ _ => rfl)⟩, fun z => absurd (nI_le (Nat.le_refl _) (by omega)) z⟩
  | succ k ih =>
    intro a n m S hk hn h0 hb hd hq
    have hae : a < e := by omega
    rw [seg_cons _ hae] at hd hq
    have hba := hb a (by omega) hae
    rw [w_X2_value_32, h0, nI_clamp (n := a) (by omega)]
    refine ⟨rg_in (b := 2) (by decide) hp, fun z => absurd z (nI_ge hae (by omega)), fun _ => ⟨nI_in (by omega) (by decide), fun s es => ?_⟩⟩
    rw [← es] at hd hq hba
    rw [dep] at hd
    rw [evF] at hq
    have step : ∀ (n' : Nat) (v : Int32) (i : Nat), n' ≤ a + 1 → dep (seg (S (c + 1)) (a + 1) e) n' = some (m + 1) → (∀ S', (∀ d, d ≠ c3 → S' d = S d) → post (evF (S c2) (seg (S (c + 1)) (a + 1) e) n' (upd (S c3) i v)) S') → w_X2_value_171 (w_X2_value_32 post c c2 c3 (k + 1)) post c c2 c3 p (nI n') (nI a) (mset S c3 (upd (S c3) i v)) := by
      intro n' v i h1 h2 h3
      unfold w_X2_value_171
      intro z ez
      rw [ez, nI_1]
      refine ih (a + 1) n' m _ (by omega) h1 ?_ ?_ ?_ (fun S' s1 => ?_)
      · rw [ms_n (Ne.symm h22)]; exact h0
      · rw [ms_n (Ne.symm h21)]; exact hb
      · rw [ms_n (Ne.symm h21)]; exact h2
      · rw [ms_n (Ne.symm h21), ms_n (Ne.symm h23), ms_s]
        exact h3 S' (fun d hd => (s1 d hd).trans (ms_n hd))
    have hn160 : ¬ (160 : Int32) ≤ nI n := nI_ge (b := 160) (by omega) (by decide)
    have push : ∀ v : Int32, dep (seg (S (c + 1)) (a + 1) e) (n + 1) = some (m + 1) → (∀ S', (∀ d, d ≠ c3 → S' d = S d) → post (evF (S c2) (seg (S (c + 1)) (a + 1) e) (n + 1) (upd (S c3) n v)) S') → w_X2_value_92 (w_X2_value_32 post c c2 c3 (k + 1)) post c c2 c3 p (nI n) (nI a) v (nI n) S := by
      intro v h1 h2
      unfold w_X2_value_92
      refine ⟨nI_in (by omega) (by decide), fun S1 e1 z2 e2 => ?_⟩
      rw [e1, e2, nI_1, nI_clamp (by omega)]
      exact step (n + 1) v n (by omega) h1 h2
    have neg : ∀ x : Int32, (x < 0) = ¬ 0 ≤ x := fun x => by rw [i_lt, i_le]; exact propext (by omega)
    by_cases c1 : 0 ≤ s
    · rw [if_pos (Or.inl c1)] at hd
      rw [if_pos c1] at hq
      refine ⟨fun _ => ?_, fun z => absurd c1 z⟩
      unfold w_X2_value_65
      rw [neg]
      exact ⟨fun z => absurd z hn160, fun _ => ⟨fun z => absurd c1 z, fun _ => push s hd hq⟩⟩
    refine ⟨fun z => absurd z c1, fun _ => ?_⟩
    rw [x_isName]
    simp only [bI_0]
    rw [if_neg c1] at hq
    have hs := (stp hba).resolve_left c1
    rcases hs with h6 | h15 | hbin
    · have c2' : -6 ≤ s ∧ s ≤ -1 := by rcases h6 with q | q | q | q | q | q <;> rw [q] <;> decide
      have c3' : 0 ≤ -1 - s ∧ -1 - s ≤ 5 := by rcases h6 with q | q | q | q | q | q <;> rw [q] <;> decide
      rw [if_pos (Or.inr c2')] at hd
      rw [if_pos c2'.1] at hq
      refine ⟨fun z => absurd c3' z, fun _ => ?_⟩
      unfold w_X2_value_65
      rw [x_nameIndex, neg]
      exact ⟨fun z => absurd z hn160, fun _ => ⟨fun _ => ⟨rg_in (b := 5) (by decide) c3', push _ hd hq⟩, fun z => absurd c1 z⟩⟩
    · have c2' : ¬ -6 ≤ s := by rcases h15 with q | q <;> rw [q] <;> decide
      have c3' : ¬ (0 ≤ -1 - s ∧ -1 - s ≤ 5) := by rcases h15 with q | q <;> rw [q] <;> decide
      rw [if_neg (fun z => z.elim c1 (fun y => c2' y.1)), if_pos h15] at hd
      rw [if_neg c2', if_pos h15] at hq
      by_cases c4 : 1 ≤ n
      · rw [if_pos c4] at hd
        have go : w_X2_value_113 (w_X2_value_32 post c c2 c3 (k + 1)) post c c2 c3 p (nI n) (nI a) s S := by
          unfold w_X2_value_113
          have hin : vp_in (nI n - (1 : Int32)) 160 := by rw [nI_sub1 c4]; exact nI_in (by omega) (by decide)
          refine ⟨fun z => absurd z (nI_nlt (a := n) (b := 1) c4 (by omega)), fun _ => ⟨hin, ?_⟩⟩
          rw [nI_sub1 c4, nI_clamp (n := n - 1) (by omega)]
          refine x_turnedRound _ _ _ _ ⟨by rw [← nI_sub1 c4]; exact hin, fun S2 e2 => ?_⟩
          rw [e2]
          exact step n _ (n - 1) (by omega) hd hq
        refine ⟨fun _ => ⟨fun _ => go, fun z9 => ⟨fun z => absurd (h15.resolve_left z9) z, fun _ => go⟩⟩, fun z => absurd (Classical.not_not.mp z) c3'⟩
      · rw [if_neg c4] at hd
        exact absurd hd (by simp)
    · have q9 : ¬ s = -9 ∧ ¬ s = -15 ∧ ¬ -6 ≤ s ∧ -15 ≤ s ∧ ¬ (0 ≤ -1 - s ∧ -1 - s ≤ 5) := by
        unfold bin at hbin
        rcases hbin with q | q | q | q | q | q | q <;> rw [q] <;> decide
      obtain ⟨q9, q15, q6, qm, c3'⟩ := q9
      have n15 : ¬ (s = -9 ∨ s = -15) := fun z => z.elim q9 q15
      rw [if_neg (fun z => z.elim c1 (fun y => q6 y.1)), if_neg n15, if_pos qm] at hd
      rw [if_neg q6, if_neg n15] at hq
      by_cases c4 : 2 ≤ n
      · rw [if_pos c4] at hd
        have hin1 : vp_in (nI n - (1 : Int32)) 160 := by rw [nI_sub1 (by omega)]; exact nI_in (by omega) (by decide)
        have hin2 : vp_in (nI n - (2 : Int32)) 160 := by rw [nI_sub2 c4]; exact nI_in (by omega) (by decide)
        refine ⟨fun _ => ⟨fun z => absurd z q9, fun _ => ⟨fun _ => ⟨fun z => absurd z (nI_nlt (a := n) (b := 2) c4 (by omega)), fun _ => ⟨hin2, hin1, ?_⟩⟩, fun z => absurd z q15⟩⟩, fun z => absurd (Classical.not_not.mp z) c3'⟩
        rw [nI_sub1 (by omega), nI_sub2 c4, nI_clamp (n := n - 1) (by omega), nI_clamp (n := n - 2) (by omega)]
        refine x_joined _ _ _ _ _ ⟨by rw [← nI_sub2 c4]; exact hin2, fun S5 e5 z6 e6 => ?_⟩
        rw [e5, e6, nI_m1 (by omega)]
        exact step (n - 1) _ (n - 2) (by omega) hd hq
      · rw [if_neg c4] at hd
        exact absurd hd (by simp)
end
