/-! PURE, 6: set -/
section
variable {S T S' T' : Mem} {a1 a2 a3 a4 a5 : Int32}
theorem m_bec106 {post : Int32 → Mem → Prop} {x1 x3 x4 y0 : Int32} {S : Mem} (h : ∀ S' : Mem, (∀ c, c ≠ 0 → S' c = S c) → (∀ j, j ≠ 4 → j ≠ 5 → j ≠ 6 → j ≠ 7 → S' 0 j = S 0 j) → S' 0 4 = y0 → S' 0 5 = (if x1 = 3 then x3 else S 0 5) → S' 0 6 = (if x1 = 4 then x3 else S 0 6) → S' 0 7 = (if x1 = 5 then x3 else S 0 7) → post x4 S') : w_X8_became_106 post x1 x3 x4 y0 S := by
  have key : ∀ y5 y6 y7 : Int32, y5 = (if x1 = 3 then x3 else S 0 5) → y6 = (if x1 = 4 then x3 else S 0 6) → y7 = (if x1 = 5 then x3 else S 0 7) → post x4 (mset (mset (mset (mset S 0 (upd (S 0) 4 y0)) 0 (upd (upd (S 0) 4 y0) 5 y5)) 0 (upd (upd (upd (S 0) 4 y0) 5 y5) 6 y6)) 0 (upd (upd (upd (upd (S 0) 4 y0) 5 y5) 6 y6) 7 y7)) := by
    intro y5 y6 y7 e5 e6 e7
    refine h _ (fun c hc => by rw [ms_n hc, ms_n hc, ms_n hc, ms_n hc]) (fun j j4 j5 j6 j7 => by rw [ms_s, up_n j7, up_n j6, up_n j5, up_n j4]) rfl e5 e6 e7
  unfold w_X8_became_106
  intro S1 e1
  subst e1
  unfold w_X8_became_123
  refine ⟨fun c3 => ?_, fun c3 => ?_⟩ <;> intro S2 e2 <;> subst e2 <;> unfold w_X8_became_140 <;> refine ⟨fun c4 => ?_, fun c4 => ?_⟩ <;> intro S3 e3 <;> subst e3 <;> unfold w_X8_became_157 <;> refine ⟨fun c5 => ?_, fun c5 => ?_⟩ <;> intro S4 e4 <;> subst e4 <;> refine key _ _ _ ?_ ?_ ?_ <;> first | rw [if_pos c3] | (rw [if_neg c3]; rfl) | rw [if_pos c4] | (rw [if_neg c4]; rfl) | rw [if_pos c5] | (rw [if_neg c5]; rfl)
theorem m_bec92 {post : Int32 → Mem → Prop} {x1 x3 x4 : Int32} {S : Mem} (h : ∀ S' : Mem, (∀ c, c ≠ 0 → S' c = S c) → (∀ j, j ≠ 4 → j ≠ 5 → j ≠ 6 → j ≠ 7 → S' 0 j = S 0 j) → S' 0 4 = (if x1 = 2 then x3 else S 0 4) → S' 0 5 = (if x1 = 3 then x3 else S 0 5) → S' 0 6 = (if x1 = 4 then x3 else S 0 6) → S' 0 7 = (if x1 = 5 then x3 else S 0 7) → post x4 S') : w_X8_became_92 post x1 x3 x4 S := by
  unfold w_X8_became_92
  refine ⟨fun c2 => m_bec106 (fun S' h1 h2 h3 => h S' h1 h2 ?_), fun c2 => m_bec106 (fun S' h1 h2 h3 => h S' h1 h2 ?_)⟩
  · rw [if_neg c2]; exact h3
  · rw [if_pos c2]; exact h3
/-- the table's four numbers after 'became' with what = x1 in 2 .. 5 -/
theorem m_became {post : Int32 → Mem → Prop} {x1 x2 x3 : Int32} {S : Mem} (n0 : ¬ x1 = 0) (n1 : ¬ x1 = 1) (hx : x1 = 2 ∨ x1 = 3 ∨ x1 = 4 ∨ x1 = 5) (h : ∀ S' : Mem, (∀ c, c ≠ 0 → S' c = S c) → (∀ j, j ≠ 4 → j ≠ 5 → j ≠ 6 → j ≠ 7 → S' 0 j = S 0 j) → S' 0 4 = (if x1 = 2 then x3 else S 0 4) → S' 0 5 = (if x1 = 3 then x3 else S 0 5) → S' 0 6 = (if x1 = 4 then x3 else S 0 6) → S' 0 7 = (if x1 = 5 then x3 else S 0 7) → post (if x1 = 2 then S 0 4 else if x1 = 3 then S 0 5 else if x1 = 4 then S 0 6 else S 0 7) S') : w_X8_became x1 x2 x3 S post := by
  have go : ∀ y : Int32, y = (if x1 = 2 then S 0 4 else if x1 = 3 then S 0 5 else if x1 = 4 then S 0 6 else S 0 7) → w_X8_became_67 post x1 x2 x3 y S := by
    intro y ey
    unfold w_X8_became_67
    refine ⟨fun _ => ?_, fun z => absurd z n0⟩
    unfold w_X8_became_80
    refine ⟨fun _ => ?_, fun z => absurd z n1⟩
    rw [ey]
    exact m_bec92 h
  unfold w_X8_became
  refine ⟨fun _ => ⟨fun _ => ⟨fun c2 => ⟨fun c3 => ⟨fun c4 => go _ ?_, fun c4 => go _ ?_⟩, fun c3 => go _ ?_⟩, fun c2 => go _ ?_⟩, fun z => absurd z n1⟩, fun z => absurd z n0⟩
  · rw [if_neg c2, if_neg c3, if_neg c4]
  · rw [if_neg c2, if_neg c3, if_pos c4]
  · rw [if_neg c2, if_pos c3]
  · rw [if_pos c2]
theorem m_set76 {post : Int32 → Mem → Prop} {x1 x2 x3 x4 lo : Int32} {S : Mem} (h0 : ¬ (lo ≤ x3 ∧ x3 ≤ x4) ∨ (¬ 1 < x1 ∧ ¬ (0 ≤ x2 ∧ x2 ≤ 3)) → post (-2) S) (h1 : (lo ≤ x3 ∧ x3 ≤ x4) → (1 < x1 ∨ (0 ≤ x2 ∧ x2 ≤ 3)) → w_X8_became x1 x2 x3 S post) : w_X8_set_76 post x1 x2 x3 x4 lo.toInt64 x3.toInt64 S := by
  unfold w_X8_set_76 w_X8_set_106 w_X8_set_102 w_X8_set_107 w_X8_set_126
  simp only [L_0, L_3, m_in, bI_0]
  refine ⟨fun c1 => ⟨fun _ => h0 (Or.inl c1), fun z => absurd trivial z⟩, fun c1 => ?_⟩
  have d1 := Classical.not_not.mp c1
  refine ⟨fun c2 => ⟨fun z => absurd z (by decide), fun _ => h1 d1 (Or.inl c2)⟩, fun c2 => ⟨fun c3 => ⟨fun _ => h0 (Or.inr ⟨c2, c3⟩), fun z => absurd trivial z⟩, fun c3 => ⟨fun z => absurd z (by decide), fun _ => h1 d1 (Or.inr (Classical.not_not.mp c3))⟩⟩⟩
theorem m_set50 {post : Int32 → Mem → Prop} {x1 x2 x3 x4 : Int32} {S : Mem} (hx : 0 ≤ x1 ∧ x1 ≤ 5) (h0 : ¬ ((if x1 = 3 then 1 else 0) ≤ x3 ∧ x3 ≤ x4) ∨ (¬ 1 < x1 ∧ ¬ (0 ≤ x2 ∧ x2 ≤ 3)) → post (-2) S) (h1 : ((if x1 = 3 then 1 else 0) ≤ x3 ∧ x3 ≤ x4) → (1 < x1 ∨ (0 ≤ x2 ∧ x2 ≤ 3)) → w_X8_became x1 x2 x3 S post) : w_X8_set_50 post x1 x2 x3 x4 S := by
  unfold w_X8_set_50
  simp only [L_0, L_1, L_5, m_in, bI_0]
  refine ⟨fun c => absurd hx c, fun _ => ⟨fun c3 => ?_, fun c3 => ?_⟩⟩
  · rw [if_neg c3] at h0 h1
    exact m_set76 h0 h1
  · rw [if_pos c3] at h0 h1
    exact m_set76 h0 h1
theorem m_set {post : Int32 → Mem → Prop} {x1 x2 x3 most : Int32} {S : Mem} (em : most = (if x1 = 0 then 99 else if x1 = 1 then 9 else if x1 = 5 then 9 else if x1 = 2 then 63 else if x1 = 3 then 3 else 7)) (hx : 0 ≤ x1 ∧ x1 ≤ 5) (h0 : ¬ ((if x1 = 3 then 1 else 0) ≤ x3 ∧ x3 ≤ most) ∨ (¬ 1 < x1 ∧ ¬ (0 ≤ x2 ∧ x2 ≤ 3)) → post (-2) (mset S 0 (upd (S 0) 8 0))) (h1 : ((if x1 = 3 then 1 else 0) ≤ x3 ∧ x3 ≤ most) → (1 < x1 ∨ (0 ≤ x2 ∧ x2 ≤ 3)) → w_X8_became x1 x2 x3 (mset S 0 (upd (S 0) 8 0)) post) : w_X8_set x1 x2 x3 S post := by
  unfold w_X8_set w_X8_set_24
  intro S1 e1
  subst e1
  refine ⟨fun c0 => ⟨fun c1 => ?_, fun c1 => ⟨fun c5 => ⟨fun c2 => ⟨fun c3 => ?_, fun c3 => ?_⟩, fun c2 => ?_⟩, fun c5 => ?_⟩⟩, fun c0 => ?_⟩
  · rw [if_neg c0, if_pos c1] at em; rw [em] at h0 h1; exact m_set50 hx h0 h1
  · rw [if_neg c0, if_neg c1, if_neg c5, if_neg c2, if_neg c3] at em; rw [em] at h0 h1; exact m_set50 hx h0 h1
  · rw [if_neg c0, if_neg c1, if_neg c5, if_neg c2, if_pos c3] at em; rw [em] at h0 h1; exact m_set50 hx h0 h1
  · rw [if_neg c0, if_neg c1, if_neg c5, if_pos c2] at em; rw [em] at h0 h1; exact m_set50 hx h0 h1
  · rw [if_neg c0, if_neg c1, if_pos c5] at em; rw [em] at h0 h1; exact m_set50 hx h0 h1
  · rw [if_pos c0] at em; rw [em] at h0 h1; exact m_set50 hx h0 h1
theorem m_setbad {post : Int32 → Mem → Prop} {x1 x2 x3 : Int32} {S : Mem} (hx : ¬ (0 ≤ x1 ∧ x1 ≤ 5)) (h0 : post (-2) (mset S 0 (upd (S 0) 8 0))) : w_X8_set x1 x2 x3 S post := by
  have go : ∀ m : Int32, w_X8_set_50 post x1 x2 x3 m (mset S 0 (upd (S 0) 8 0)) := by
    intro m
    unfold w_X8_set_50 w_X8_set_106 w_X8_set_107 w_X8_set_126
    simp only [L_0, L_1, L_5, m_in, bI_0]
    exact ⟨fun _ => ⟨fun _ => h0, fun z => absurd trivial z⟩, fun c => absurd hx c⟩
  unfold w_X8_set w_X8_set_24
  intro S1 e1
  subst e1
  exact ⟨fun c0 => ⟨fun c1 => go _, fun c1 => ⟨fun c5 => ⟨fun c2 => ⟨fun c3 => go _, fun c3 => go _⟩, fun c2 => go _⟩, fun c5 => go _⟩⟩, fun c0 => go _⟩
theorem m_becLeg {post : Int32 → Mem → Prop} {x1 x2 x3 : Int32} {S : Mem} (hi : 0 ≤ x2 ∧ x2 ≤ 3) (h0 : x1 = 0 → ∀ S', SM (mset S 3 (upd (S 3) x2.toNatClampNeg x3)) S' → post (S 3 x2.toNatClampNeg) S') (h1 : x1 = 1 → ∀ S', SM (mset S 4 (upd (S 4) x2.toNatClampNeg x3)) S' → post (S 4 x2.toNatClampNeg) S') (hx : x1 = 0 ∨ x1 = 1) : w_X8_became x1 x2 x3 S post := by
  have hin : vp_in x2 4 := rg_in (b := 3) (by decide) hi
  have fin : ∀ {S2 : Mem} {x4 : Int32}, (∀ S', SM S2 S' → post x4 S') → w_X8_became_92 post x1 x3 x4 S2 := by
    intro S2 x4 hh
    refine m_bec92 (fun S' k1 k2 k4 k5 k6 k7 => hh S' ?_)
    have n2 : ¬ x1 = 2 := by rcases hx with e | e <;> rw [e] <;> decide
    have n3 : ¬ x1 = 3 := by rcases hx with e | e <;> rw [e] <;> decide
    have n4 : ¬ x1 = 4 := by rcases hx with e | e <;> rw [e] <;> decide
    have n5 : ¬ x1 = 5 := by rcases hx with e | e <;> rw [e] <;> decide
    rw [if_neg n2] at k4
    rw [if_neg n3] at k5
    rw [if_neg n4] at k6
    rw [if_neg n5] at k7
    exact ⟨⟨k4, k5, k6, k7, k2 _ (by decide) (by decide) (by decide) (by decide), k2 _ (by decide) (by decide) (by decide) (by decide), k2 _ (by decide) (by decide) (by decide) (by decide), k2 _ (by decide) (by decide) (by decide) (by decide)⟩, k1 _ (by decide), k1 _ (by decide), k1 _ (by decide), k1 _ (by decide), tp3_of (k1 _ (by decide)) (k1 _ (by decide)) (k1 _ (by decide)), k1 _ (by decide), k1 _ (by decide), k1 _ (by decide), k1 _ (by decide), k1 _ (by decide), k1 _ (by decide)⟩
  unfold w_X8_became w_X8_became_67 w_X8_became_80
  rcases hx with e | e
  · have e1 : ¬ x1 = 1 := by rw [e]; decide
    refine ⟨fun z => absurd e z, fun _ => ⟨hin, fun z => absurd e z, fun _ => ⟨hin, fun S1 es => ?_⟩⟩⟩
    subst es
    exact ⟨fun _ => fin (h0 e), fun z => absurd z e1⟩
  · have e0 : ¬ x1 = 0 := by rw [e]; decide
    refine ⟨fun _ => ⟨fun z => absurd e z, fun _ => ⟨hin, fun _ => ⟨fun z => absurd e z, fun _ => ⟨hin, fun S1 es => ?_⟩⟩, fun z => absurd z e0⟩⟩, fun z => absurd z e0⟩
    subst es
    exact fin (h1 e)
end
