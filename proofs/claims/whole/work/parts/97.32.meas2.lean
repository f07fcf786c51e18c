/-! PURE, 22: the class's measure -/
section
variable {S T S' T' : Mem} {a1 a2 a3 a4 a5 : Int32}
theorem x_firstB {post : Int32 → Mem → Prop} {g : Int32} (e : S 39 3 = g) (h : post (nI (if 0 ≤ g then 0 else 1)) S) : w_X4_firstBearing S post := by
  unfold w_X4_firstBearing w_X4_firstBearing_12
  rw [e]
  exact ⟨fun z => by rw [if_pos z] at h; exact h, fun z => by rw [if_neg z] at h; exact h⟩
theorem x_firstL {post : Int32 → Mem → Prop} {g : Int32} (e : S 39 3 = g) (h : post (nI (if 0 ≤ g then 1 else 0)) S) : w_X4_firstLoose S post := by
  unfold w_X4_firstLoose w_X4_firstLoose_12
  rw [e]
  exact ⟨fun z => by rw [if_pos z] at h; exact h, fun z => by rw [if_neg z] at h; exact h⟩
def leanOf (hh : Nat → Int32) (k : Nat) : Int32 := jmax (jmax (hh k) (hh (k + 2))) (jmax (hh (1 - k)) (hh k + hh (k + 2) - hh (1 - k))) - jmin (jmin (hh k) (hh (k + 2))) (jmin (hh (1 - k)) (hh k + hh (k + 2) - hh (1 - k)))
theorem x_lean {post : Int32 → Mem → Prop} {g : Int32} {hh : Nat → Int32} (e : S 39 3 = g) (eh : ∀ j, j < 4 → S 40 j = hh j) (h : post (leanOf hh (if 0 ≤ g then 0 else 1)) S) : w_X4_measureLean S post := by
  unfold w_X4_measureLean
  have hk : (if 0 ≤ g then 0 else 1 : Nat) < 2 := by by_cases z : 0 ≤ g <;> simp [z]
  refine x_firstB e ⟨four_nI (by omega), fun z2 e2 => x_firstB e ?_⟩
  have ek2 : ∀ k, nI k + (2 : Int32) = nI (k + 2) := fun k => nI_add k 2
  rw [ek2]
  refine ⟨four_nI (by omega), fun z4 e4 => x_firstB e ?_⟩
  have ek1 : (1 : Int32) - nI (if 0 ≤ g then 0 else 1) = nI (1 - (if 0 ≤ g then 0 else 1)) := pk_sub (a := 1) (by omega)
  rw [ek1]
  refine ⟨four_nI (by omega), fun z6 e6 z7 e7 z8 e8 z9 e9 => ?_⟩
  rw [nI_clamp (by omega), eh _ (by omega)] at e2 e4 e6
  subst e2 e4 e6 e7 e8 e9
  exact h
theorem x_give {post : Int32 → Mem → Prop} {g s : Int32} (e : S 39 3 = g) (es : S 39 4 = s) (h : post (if g = 0 then 0 else pG (S (4 + (if 0 ≤ g then 1 else 0)) 0) (S (4 + (if 0 ≤ g then 1 else 0)) 2) s + pG (S (4 + ((if 0 ≤ g then 1 else 0) + 2)) 0) (S (4 + ((if 0 ≤ g then 1 else 0) + 2)) 2) s) S) : w_X4_giveOfLoose 1 S post := by
  unfold w_X4_giveOfLoose
  rw [e]
  have hk : (if 0 ≤ g then 1 else 0 : Nat) < 2 := by by_cases z : 0 ≤ g <;> simp [z]
  have ek2 : ∀ k, nI k + (2 : Int32) = nI (k + 2) := fun k => nI_add k 2
  refine ⟨fun c => ?_, fun c => ?_⟩
  · rw [if_neg c] at h
    refine x_firstL e ⟨four_nI (by omega), ?_⟩
    rw [nI_clamp (by omega), show 1 + 2 + 1 + (if 0 ≤ g then 1 else 0) = 4 + (if 0 ≤ g then 1 else 0) by omega, es]
    refine x_gives (x_firstL e ?_)
    rw [ek2]
    refine ⟨four_nI (by omega), ?_⟩
    rw [nI_clamp (by omega), show 1 + 2 + 1 + ((if 0 ≤ g then 1 else 0) + 2) = 4 + ((if 0 ≤ g then 1 else 0) + 2) by omega, es]
    exact x_gives h
  · rw [if_pos c] at h; exact h
theorem x_held2 (a b c : Int32) (S : Mem) (post : Int32 → Mem → Prop) : w_X7_held a b c S post = post (hl a b c) S := x_held a b c S post
theorem m_held2 (a b c : Int32) (S : Mem) (post : Int32 → Mem → Prop) : w_X8_held a b c S post = post (hl a b c) S := m_held a b c S post
theorem rl_of (h : RX S T) : rlN S < 6 ∧ S 1 6 = nI (rlN S) ∧ T 0 15 = nI (rlN S) ∧ RuleOk S T (rlN S) := by
  obtain ⟨-, -, ⟨-, -, -, -, g1, g2, g3⟩, -, ⟨r1, r2, r3⟩, -⟩ := h
  have hb := r2.2
  obtain ⟨j, hj, hj2, e⟩ := nI_ofb (x := S 1 6) (a := 0) (b := 5) ⟨g2, by omega⟩ (by decide)
  have ej : rlN S = j := by
    unfold rlN
    rw [e, nI_clamp hj]
  rw [ej]
  refine ⟨by omega, e, by rw [← g1, e], r3 j ?_⟩
  rw [e, nI_toInt hj] at g3
  exact g3
theorem kd7 {k : Nat} (hk : k < 6) : kdX (20 + 1 + 3 * k) = 7 := by
  have hc : k = 0 ∨ k = 1 ∨ k = 2 ∨ k = 3 ∨ k = 4 ∨ k = 5 := by omega
  rcases hc with e | e | e | e | e | e <;> subst e <;> rfl
/-- what the class's measure leaves -/
def MX (S S' : Mem) (a : Int32) (b : Nat) : Prop := (∀ d, d < 39 ∨ 42 < d → S' d = S d) ∧ S' 39 3 = gapF S a b ∧ S' 39 4 = sizF S a b ∧ S' 39 5 = rckF S a b ∧ S' 39 6 = leaF S a b ∧ ∀ j, 2 ≤ j → j < 6 → S' 41 j = nmF S a b 0 0 j
theorem MX.sx {a : Int32} {b : Nat} (h : MX S S' a b) : SX S S' := by
  have q := h.1
  exact ⟨q _ (Or.inl (by decide)), q _ (Or.inl (by decide)), q _ (Or.inl (by decide)), fun c _ _ => q _ (Or.inl (by omega)), by rw [q _ (Or.inl (by decide))], q _ (Or.inl (by decide)), fun c _ _ => q _ (Or.inl (by omega)), fun c _ => q _ (Or.inr (by omega))⟩
theorem vR_cg {k p : Nat} (h : RuleOk S T k) (hp : p < 3) {nm nm' : Nat → Int32} (hn : ∀ j, j < 6 → nm j = nm' j) (e1 : S' (22 + 3 * k) = S (22 + 3 * k)) (e2 : S' (23 + 3 * k) = S (23 + 3 * k)) : vR S' k p nm = vR S k p nm' := by
  unfold vR
  rw [e1, e2]
  obtain ⟨a, e, q1, q2, q3, q4, q5, q6, q7, q8, q9, q10⟩ := h.part hp
  have z2 : (if p = 0 then 0 else (S (23 + 3 * k) (p - 1)).toNatClampNeg) = a := by
    by_cases p0 : p = 0
    · rw [if_pos p0, q5 p0]
    · rw [if_neg p0, q4 p0, nI_clamp (by omega)]
  have z1 : (S (23 + 3 * k) p).toNatClampNeg = e := by rw [q3, nI_clamp (by omega)]
  rw [z1, z2]
  exact evF_cg hn _ 0 0 _ _ (fun _ _ => rfl) (seg_mem (e - a) a e (by omega) (fun i hi => q10 i hi)) q8
theorem x_measure {post : Mem → Prop} {a : Int32} {b : Nat} (h : RX S T) (hb : b < 8) (hq : ∀ S', MX S S' a b → post S') : w_X7_measure a (nI b) S post := by
  obtain ⟨k6, k1, k2, k3⟩ := rl_of h
  unfold w_X7_measure w_X7_ruleInForce
  rw [k1, nI_clamp (by omega)]
  refine ⟨nI_in k6 (by decide), kd7 k6, ?_⟩
  unfold w_X4_measure
  refine ⟨5, x_heights (S0 := S) hb 4 0 S (by decide) (fun _ _ => rfl) (fun j hj => absurd hj (by omega)) (fun S1 m s1 s2 => ?_)⟩
  rw [w_X4_measure_3]
  refine ⟨fun _ => ?_, fun z => absurd (by decide) z⟩
  rw [K0, K1, K2, K3, s2 0 (by decide), s2 1 (by decide), s2 2 (by decide), s2 3 (by decide)]
  intro S2 e2 S3 e3
  subst e2
  have g3 : S3 39 3 = gapF S a b := by rw [e3]; rfl
  have g4 : S3 39 4 = sizF S a b := by rw [e3]; rfl
  have q3 : ∀ d, d ≠ 39 → d ≠ 40 → S3 d = S d := fun d d1 d2 => by rw [e3, ms_n d1, ms_n d1, s1 d d2]
  have q40 : S3 40 = S1 40 := by rw [e3, ms_n (by decide), ms_n (by decide)]
  refine x_lean g3 (hh := hgtF S a b) (fun j hj => by rw [q40]; exact s2 j hj) (fun S4 e4 => ?_)
  have h3 : S4 39 3 = gapF S a b := by rw [e4]; exact g3
  have h4 : S4 39 4 = sizF S a b := by rw [e4]; exact g4
  have h6 : S4 39 6 = leaF S a b := by rw [e4, ms_s, up_s]; rfl
  have q4 : ∀ d, d ≠ 39 → d ≠ 40 → S4 d = S d := fun d d1 d2 => by rw [e4, ms_n d1]; exact q3 d d1 d2
  refine x_give h3 h4 ?_
  have eg : (if gapF S a b = 0 then 0 else pG (S4 (4 + (if 0 ≤ gapF S a b then 1 else 0)) 0) (S4 (4 + (if 0 ≤ gapF S a b then 1 else 0)) 2) (sizF S a b) + pG (S4 (4 + ((if 0 ≤ gapF S a b then 1 else 0) + 2)) 0) (S4 (4 + ((if 0 ≤ gapF S a b then 1 else 0) + 2)) 2) (sizF S a b)) = givF S a b := by
    have hk : (if 0 ≤ gapF S a b then 1 else 0 : Nat) < 2 := by by_cases z : 0 ≤ gapF S a b <;> simp [z]
    unfold givF lfN
    rw [q4 _ (by omega) (by omega), q4 _ (by omega) (by omega)]
  rw [eg]
  refine x_name (j := 2) (by decide) (by decide) (x_name (j := 3) (by decide) (by decide) (x_name (j := 4) (by decide) (by decide) (x_name (j := 5) (by decide) (by decide) ?_)))
  simp only [mm, ms_s]
  unfold w_X4_slack
  refine x_name (j := 0) (by decide) (by decide) (x_name (j := 1) (by decide) (by decide) ?_)
  simp only [mm, ms_s]
  have r3 : ∀ f : Nat → Int32, RuleOk (mset S4 41 f) T (rlN S) := fun f => k3.fr k6 (fun c c1 c2 => by rw [ms_n (by omega)]; exact q4 c (by omega) (by omega)) rfl rfl
  refine x_value (p := 0) (r3 _) k6 (by decide) (fun S5 s5 => ?_)
  rw [ms_s, vR_cg (S := S) (nm' := nmF S a b (sizF S a b) 0) k3 (by decide) ?_ (by rw [ms_n (by omega)]; exact q4 _ (by omega) (by omega)) (by rw [ms_n (by omega)]; exact q4 _ (by omega) (by omega)), x_held2]
  · have f39 : S5 39 = S4 39 := by rw [s5 39 (by decide), ms_n (by decide)]
    have f41 : S5 41 = _ := (s5 41 (by decide)).trans ms_s
    have fin : ∀ y : Int32, y = rckF S a b → w_X4_measure_152 post 1 (20 + 1 + 3 * rlN S) y S5 := by
      intro y ey
      unfold w_X4_measure_152
      intro S6 e6
      subst e6
      refine hq _ ⟨fun d hd => ?_, ?_, ?_, ?_, ?_, fun j j2 j6 => ?_⟩
      · rw [ms_n (by omega), s5 d (by omega), ms_n (by omega)]
        exact q4 d (by omega) (by omega)
      · rw [ms_s, up_n (by decide), f39]; exact h3
      · rw [ms_s, up_n (by decide), f39]; exact h4
      · rw [ms_s, up_s]; exact ey
      · rw [ms_s, up_n (by decide), f39]; exact h6
      · rw [ms_n (by decide), f41]
        have hc : j = 2 ∨ j = 3 ∨ j = 4 ∨ j = 5 := by omega
        rcases hc with e | e | e | e <;> subst e <;> rfl
    rw [f39, h4]
    have h4' : ∀ f : Nat → Int32, (mset S4 41 f) 39 4 = sizF S a b := fun f => h4
    refine ⟨fun c => fin _ ?_, fun c => fin _ ?_⟩
    · rw [h4'] at c
      unfold rckF slkF
      rw [if_pos c]
    · rw [h4'] at c
      unfold rckF slkF
      rw [if_neg c]
  · intro j hj
    have hc : j = 0 ∨ j = 1 ∨ j = 2 ∨ j = 3 ∨ j = 4 ∨ j = 5 := by omega
    rcases hc with e | e | e | e | e | e <;> subst e <;> first | exact h4 | rfl
end
