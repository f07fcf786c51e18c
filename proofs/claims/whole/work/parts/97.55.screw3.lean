/-! PURE, 40: screwed: the class's loop -/
section
variable {S T S' T' : Mem} {a1 a2 a3 a4 a5 : Int32}
def sbF (S : Mem) (a : Int32) (b : Nat) : Nat → Nat → Nat → Nat
  | 0, _, m => m
  | n + 1, c, m => if suF S c 4 0 0 ≤ 4 ∧ suF S c 4 0 0 < m ∧ rckF (scP S c 1 4) a b = 0 then sbF S a b n (c + 1) (suF S c 4 0 0) else sbF S a b n (c + 1) m
theorem okB_sx (h : SX S S') {c i : Nat} (hi : i < 4) : okB S' c i = okB S c i := by
  unfold okB
  rw [h.2.2.2.1 (4 + i) (by omega) (by omega)]
theorem suF_sx (h : SX S S') {c : Nat} : ∀ (n i s : Nat), i + n ≤ 4 → suF S' c n i s = suF S c n i s := by
  intro n
  induction n with
  | zero => intro i s _; rfl
  | succ n ih =>
    intro i s hi
    rw [suF, suF, okB_sx h (by omega), ih _ _ (by omega)]
theorem scP_sx (h : SX S S') {c : Nat} {s : Int32} : SX (scP S c s 4) (scP S' c s 4) := by
  obtain ⟨q0, q1, q2, q3, q4, q5, q6, q7⟩ := h
  have n : ∀ d, d < 4 ∨ 8 ≤ d → S' d = S d → scP S' c s 4 d = scP S c s 4 d := fun d hd e => by
    rw [scP_n hd, scP_n hd, e]
  refine ⟨n 0 (by omega) q0, n 1 (by omega) q1, n 2 (by omega) q2, fun d d1 d2 => ?_, ?_, n 16 (by omega) q5, fun d d1 d2 => n d (by omega) (q6 d d1 d2), fun d d1 => n d (by omega) (q7 d d1)⟩
  · funext j
    unfold scP
    rw [q3 d d1 d2]
  · rw [scP_n (by omega), scP_n (by omega), q4]
theorem x_scrLoop {post : Int32 → Mem → Prop} {b : Nat} (h : RX S T) (hb : b < 8) (eb : S 1 4 = nI b) : ∀ (n c m : Nat) (S1 : Mem), c + n = 2401 → (m ≤ 4 ∨ m = 9) → SX S S1 → (∀ S2, SX S S2 → post (sgC (sbF S (S 1 2) b n c m)) S2) → w_X7_screwed_4 post (n + 1) (sgC m) (nI c) S1 := by
  intro n
  induction n with
  | zero =>
    intro c m S1 hc hm hs hq
    rw [w_X7_screwed_4]
    have e : c = 2401 := by omega
    subst e
    exact ⟨fun _ => hq S1 hs, fun z => absurd (by decide) z⟩
  | succ n ih =>
    intro c m S1 hc hm hs hq
    obtain ⟨k6, -⟩ := rl_of h
    have hr := h.same hs SM.rf
    rw [w_X7_screwed_4]
    refine ⟨fun z => absurd z (nI_ge (b := 2401) (by omega) (by decide)), fun _ => ?_⟩
    unfold w_X7_screwSum
    refine ⟨5, x_sumLoop hr.2.1 (by omega) 4 0 0 (by decide) (by decide) ?_⟩
    rw [suF_sx hs 4 0 0 (by decide)]
    rw [sbF] at hq
    generalize hsu : suF S c 4 0 0 = s at hq
    have keep : (¬ (s ≤ 4 ∧ s < m ∧ rckF (scP S c 1 4) (S 1 2) b = 0)) → ∀ S2, SX S S2 → w_X7_screwed_54 (w_X7_screwed_4 post (n + 1)) post (sgC m) (nI c) S2 := by
      intro hn S2 s2
      unfold w_X7_screwed_54
      intro z1 e1
      rw [e1, nI_1]
      rw [if_neg hn] at hq
      exact ih _ _ _ (by omega) hm s2 hq
    have k36 : ¬ (s ≤ 4 ∧ s < m) → w_X7_screwed_36 (w_X7_screwed_4 post (n + 1)) post (sgC m) (nI c) (sgC s) S1 := by
      intro hn
      unfold w_X7_screwed_36 w_X7_screwed_37
      exact ⟨fun _ => keep (fun z => hn ⟨z.1, z.2.1⟩) S1 hs, fun z => absurd rfl z⟩
    have k32 : s ≤ 4 → s < m → w_X7_screwed_32 (w_X7_screwed_4 post (n + 1)) post (sgC m) (nI c) (sgC s) S1 := by
      intro h1 h2
      unfold w_X7_screwed_32 w_X7_screwed_37
      have hok : ∀ j, j < 4 → okB S1 c j = true := fun j hj => by
        rw [okB_sx hs hj]
        exact suF_ok 4 0 0 (by rw [hsu]; exact h1) j (by omega) (by omega)
      have eb1 : S1 1 4 = nI b := by rw [hs.2.1]; exact eb
      refine ⟨fun z => absurd z (by decide), fun _ => x_isFirmScrewed hr (by omega) hb eb1 hok (fun S2 s2 => ?_)⟩
      have e2 : S1 1 2 = S 1 2 := by rw [hs.2.1]
      have er : rckF (scP S1 c 1 4) (S1 1 2) b = rckF (scP S c 1 4) (S 1 2) b := by
        rw [e2]
        refine rckF_sx (scP_sx hs) ?_ _ _
        have : rlN (scP S c 1 4) = rlN S := by
          unfold rlN
          rw [scP_n (by omega)]
        rw [this]; exact k6
      rw [er]
      have s3 := hs.tr s2
      by_cases c1 : rckF (scP S c 1 4) (S 1 2) b = 0
      · rw [bI_t c1]
        refine ⟨fun z => absurd z (by decide), fun _ => ?_⟩
        unfold w_X7_screwed_54
        intro z1 e1
        rw [e1, nI_1]
        rw [if_pos ⟨h1, h2, c1⟩] at hq
        exact ih _ _ _ (by omega) (Or.inl h1) s3 hq
      · rw [bI_f c1]
        exact ⟨fun _ => keep (fun z => c1 z.2.2) S2 s3, fun z => absurd rfl z⟩
    have sg : ∀ x : Nat, (sgC x = -1) ↔ ¬ x ≤ 4 := by
      intro x
      unfold sgC
      by_cases hx : x ≤ 4
      · rw [if_pos hx]
        refine ⟨fun z => ?_, fun z => absurd hx z⟩
        have := nI_toInt (n := x) (by omega)
        rw [z, Im1] at this
        omega
      · rw [if_neg hx]; exact ⟨fun _ => hx, fun _ => rfl⟩
    refine ⟨fun z => k36 (fun y => (sg s).mp z y.1), fun z => ?_⟩
    have h4 : s ≤ 4 := Classical.byContradiction (fun y => z ((sg s).mpr y))
    refine ⟨fun z2 => k32 h4 ?_, fun z2 => ⟨fun z3 => k36 ?_, fun z3 => k32 h4 ?_⟩⟩
    · have := (sg m).mp z2
      omega
    · have hm4 : m ≤ 4 := Classical.byContradiction (fun y => z2 ((sg m).mpr y))
      unfold sgC at z3
      rw [if_pos h4, if_pos hm4, nI_leI (by omega) (by omega)] at z3
      omega
    · have hm4 : m ≤ 4 := Classical.byContradiction (fun y => z2 ((sg m).mpr y))
      unfold sgC at z3
      rw [if_pos h4, if_pos hm4, nI_leI (by omega) (by omega)] at z3
      omega
end
