/-! PURE, 41: screwed: the model's sums -/
section
variable {S T S' T' : Mem} {a1 a2 a3 a4 a5 : Int32}
theorem sgM_of (s : Nat) : sgM s = if s ≤ 4 then nI s else 9 := rfl
/-- one leg of screwBy -/
theorem m_byLeg {K : Int32 → Int32 → Int32 → Mem → Prop} {post : Int32 → Mem → Prop} {c i s : Nat} {x3 : Int32} (hi : i < 4) (hk : T 2 i = S (4 + i) 0) (hn : T 15 i = S (4 + i) 2) (hbn : bnd (S (4 + i) 2) 0 9) (h1 : okB S c i = true → K (nI (s + abN c i)) x3 (nI (i + 1)) (mset T 4 (upd (T 4) i (S (4 + i) 2 + dgI c i)))) (h0 : okB S c i = false → K (nI (s + 9)) x3 (nI (i + 1)) (mset T 4 (upd (T 4) i (S (4 + i) 2)))) : ((T 2 i = (2 : Int32) → w_X8_screwBy_48 K post (nI s) x3 (nI i) (dgI c i) T) ∧ (¬ T 2 i = (2 : Int32) → (vp_in (nI i) 4 ∧ ((¬ T 2 i = (4 : Int32) → w_X8_screwBy_53 K post (nI s) x3 (nI i) (dgI c i) (0 : Int32) T) ∧ (T 2 i = (4 : Int32) → w_X8_screwBy_48 K post (nI s) x3 (nI i) (dgI c i) T))))) := by
  obtain ⟨b1, b2, b3⟩ := ab_of c i
  have yes : okB S c i = true → w_X8_screwBy_86 K post (nI s) x3 (nI i) (dgI c i) T := by
    intro ho
    have q := h1 ho
    unfold w_X8_screwBy_86 w_X8_screwBy_91
    have go : ∀ y : Int32, y = nI (abN c i) → w_X8_screwBy_117 K post x3 (nI i) (dgI c i) 1 y (nI s) T := by
      intro y ey
      unfold w_X8_screwBy_117
      intro z1 e1
      refine ⟨fun z => absurd z (by decide), fun _ => ⟨four_nI hi, ?_⟩⟩
      unfold w_X8_screwBy_150
      refine ⟨four_nI hi, fun S1 es z2 e2 => ?_⟩
      rw [nI_clamp (by omega), hn] at es
      rw [e2, nI_1, es, e1, ey, nI_add]
      exact q
    refine ⟨fun _ => ⟨fun z => go _ ?_, fun z => go _ ?_⟩, fun z => absurd z (by decide)⟩
    · rw [← b1, b3, if_pos z]
    · rw [← b1, b3, if_neg z]
  have no : okB S c i = false → w_X8_screwBy_90 K post (nI s) x3 (nI i) (dgI c i) T := by
    intro ho
    have q := h0 ho
    unfold w_X8_screwBy_90 w_X8_screwBy_91 w_X8_screwBy_117
    refine ⟨fun z => absurd rfl z, fun _ z1 e1 => ⟨fun _ => ⟨four_nI hi, ?_⟩, fun z => absurd rfl z⟩⟩
    unfold w_X8_screwBy_150
    refine ⟨four_nI hi, fun S1 es z2 e2 => ?_⟩
    rw [nI_clamp (by omega), hn] at es
    rw [e2, nI_1, es, e1, show nI s + (9 : Int32) = nI (s + 9) from nI_add s 9]
    exact q
  have go : ∀ y0 : Int32, (y0 = 0 ↔ ¬ (S (4 + i) 0 = 2 ∨ S (4 + i) 0 = 4)) → w_X8_screwBy_53 K post (nI s) x3 (nI i) (dgI c i) y0 T := by
    intro y0 hy
    unfold w_X8_screwBy_53
    refine ⟨fun z => yes ?_, fun z => ⟨fun z2 => no ?_, fun z2 => ⟨four_nI hi, ?_⟩⟩⟩
    · unfold okB
      rw [decide_eq_true z, Bool.true_or]
    · unfold okB
      rw [decide_eq_false z, Bool.false_or, decide_eq_false (hy.mp z2), Bool.false_and]
    · rw [nI_clamp (by omega), hn]
      have hk2 : S (4 + i) 0 = 2 ∨ S (4 + i) 0 = 4 := Classical.byContradiction (fun y => z2 (hy.mpr y))
      simp only [L_0, L_9, m_in, bI_0]
      refine ⟨fun y => no ?_, fun y => yes ?_⟩
      · unfold okB
        rw [decide_eq_false z, Bool.false_or, decide_eq_true hk2, decide_eq_false y]
        rfl
      · unfold okB
        rw [decide_eq_true hk2, decide_eq_true (Classical.not_not.mp y), Bool.and_self, Bool.or_true]
  rw [hk]
  unfold w_X8_screwBy_48
  refine ⟨fun z => go 1 ⟨fun y => absurd y (by decide), fun y => absurd (Or.inl z) y⟩, fun z => ⟨four_nI hi, fun z2 => go 0 ⟨fun _ y => y.elim z z2, fun _ => rfl⟩, fun z2 => go 1 ⟨fun y => absurd y (by decide), fun y => absurd (Or.inr z2) y⟩⟩⟩
end
