/-! PURE, 49: the class's reader goes on by a token -/
section
variable {S T S' T' : Mem} {a1 a2 a3 a4 a5 : Int32}
theorem ite_mem {P : Prop} [Decidable P] {a b : Int32} {L : List Int32} (ha : a ∈ L) (hb : b ∈ L) : (if P then a else b) ∈ L := by
  by_cases h : P
  · rw [if_pos h]; exact ha
  · rw [if_neg h]; exact hb
theorem lxW_c (w : List Int32) : lxW w ∈ ([1, 6, 7, 8, -7, -8, -9, -1, -2, -3, -4, -5, -6] : List Int32) := ite_mem (by decide) (ite_mem (by decide) (ite_mem (by decide) (ite_mem (by decide) (ite_mem (by decide) (ite_mem (by decide) (ite_mem (by decide) (ite_mem (by decide) (ite_mem (by decide) (ite_mem (by decide) (ite_mem (by decide) (ite_mem (by decide) (by decide))))))))))))
theorem lxG_c (c : Int32) : lxG c ∈ ([1, 3, 4, 5, -10, -11, -12, -13, -14] : List Int32) := ite_mem (by decide) (ite_mem (by decide) (ite_mem (by decide) (ite_mem (by decide) (ite_mem (by decide) (ite_mem (by decide) (ite_mem (by decide) (ite_mem (by decide) (by decide))))))))
def SA (S S2 : Mem) : Prop := (∀ c, c ≠ 15 → S2 c = S c) ∧ ∀ j, j < 3 ∨ 6 < j → S2 15 j = S 15 j
theorem SA.rf : SA S S := ⟨fun _ _ => rfl, fun _ _ => rfl⟩
theorem SA.up {j : Nat} {v : Int32} (h : SA S S') (hj : 2 < j ∧ j < 7) : SA S (mset S' 15 (upd (S' 15) j v)) := by
  refine ⟨fun c hc => ?_, fun i hi => ?_⟩
  · rw [ms_n hc]; exact h.1 c hc
  · rw [ms_s, up_n (by omega)]; exact h.2 i hi
theorem x_adv60 {post : Mem → Prop} {n q : Nat} (hn : S 15 2 = nI n) (h160 : n ≤ 160) (hq : q ≤ n) (ha : SA S S') (h4 : S' 15 4 = nI q) (hp : ∀ S2, SA S S2 → S2 15 4 = nI q → S2 15 5 = nI (lxEq (S 16) n q) → S2 15 3 = lxTq (S 16) n q → (lxTq (S 16) n q = 2 → S2 15 6 = lxVq (S 16) n q) → post S2) : w_X1_advance_60 post S' := by
  unfold w_X1_advance_60 w_X1_advance_197
  intro T1 e1
  have sa : SA S T1 := by rw [e1]; exact ha.up (by decide)
  have t4 : T1 15 4 = nI q := by rw [e1, ms_s, up_n (by decide)]; exact h4
  have t5 : T1 15 5 = nI q := by rw [e1, ms_s, up_s]; exact h4
  have t2 : T1 15 2 = nI n := by rw [sa.2 2 (by decide)]; exact hn
  have t16 : T1 16 = S 16 := sa.1 16 (by decide)
  clear e1
  rw [t4, t2]
  by_cases c0 : n ≤ q
  · refine ⟨fun z => absurd z (nI_nlt c0 (by omega)), fun _ S2 e2 => ?_⟩
    rw [e2]
    refine hp _ (sa.up (by decide)) ?_ ?_ ?_ (fun z => ?_)
    · rw [ms_s, up_n (by decide)]; exact t4
    · rw [ms_s, up_n (by decide), lxEq, if_pos c0]; exact t5
    · rw [ms_s, up_s, lxTq, if_pos c0]
    · rw [lxTq, if_pos c0] at z
      exact absurd z (by decide)
  · refine ⟨fun _ => ⟨nI_in (by omega) (by decide), ?_⟩, fun z => absurd (nI_lt (by omega) (by omega)) z⟩
    rw [x_within, nI_clamp (by omega), t16]
    try dsimp only
    rw [t4]
    by_cases c1 : 97 ≤ S 16 q ∧ S 16 q ≤ 122
    · rw [bI_t c1]
      refine ⟨fun z => absurd z (by decide), fun _ => x_eor t2 h160 t4 hq (fun S2 e2 => ?_)⟩
      have ee : lxEq (S 16) n q = lxR (S 16) 97 122 (n - q) q := by rw [lxEq, if_neg c0, if_pos c1]
      have eb := lxEq_b (tp := S 16) hq
      rw [t16, ← ee] at e2
      have sb : SA S S2 := by rw [e2]; exact sa.up (by decide)
      have s4 : S2 15 4 = nI q := by rw [e2, ms_s, up_n (by decide)]; exact t4
      have s5 : S2 15 5 = nI (lxEq (S 16) n q) := by rw [e2, ms_s, up_s]
      have s16 : S2 16 = S 16 := sb.1 16 (by decide)
      clear e2
      refine x_word s4 s5 (by omega) eb.1 (fun S3 e3 => ?_)
      rw [s16] at e3
      rw [e3]
      refine hp _ (sb.up (by decide)) ?_ ?_ ?_ (fun z => ?_)
      · rw [ms_s, up_n (by decide)]; exact s4
      · rw [ms_s, up_n (by decide)]; exact s5
      · rw [ms_s, up_s, lxTq, if_neg c0, if_pos c1]
      · rw [lxTq, if_neg c0, if_pos c1] at z
        have y := lxW_c (seg (S 16) q (lxEq (S 16) n q))
        rw [z] at y
        exact absurd y (by decide)
    · rw [bI_f c1]
      refine ⟨fun _ => ⟨nI_in (by omega) (by decide), ?_⟩, fun z => absurd rfl z⟩
      rw [x_within, nI_clamp (by omega)]
      by_cases c2 : 48 ≤ S 16 q ∧ S 16 q ≤ 57
      · rw [bI_t c2]
        refine ⟨fun z => absurd z (by decide), fun _ => x_eor t2 h160 t4 hq (fun S2 e2 => ?_)⟩
        have ee : lxEq (S 16) n q = lxR (S 16) 48 57 (n - q) q := by rw [lxEq, if_neg c0, if_neg c1, if_pos c2]
        have eb := lxEq_b (tp := S 16) hq
        rw [t16, ← ee] at e2
        have sb : SA S S2 := by rw [e2]; exact sa.up (by decide)
        have s4 : S2 15 4 = nI q := by rw [e2, ms_s, up_n (by decide)]; exact t4
        have s5 : S2 15 5 = nI (lxEq (S 16) n q) := by rw [e2, ms_s, up_s]
        have s16 : S2 16 = S 16 := sb.1 16 (by decide)
        clear e2
        unfold w_X1_numberToken
        rw [s4, s5, pk_sub eb.1]
        refine ⟨fun z S3 e3 z2 ez => ?_, fun z S3 e3 => ?_⟩
        · have z4 : ¬ 4 < lxEq (S 16) n q - q := fun y => absurd z (nI_ge (a := 4) y (by omega))
          have sc : SA S S3 := by rw [e3]; exact sb.up (by decide)
          have r4 : S3 15 4 = nI q := by rw [e3, ms_s, up_n (by decide)]; exact s4
          have r5 : S3 15 5 = nI (lxEq (S 16) n q) := by rw [e3, ms_s, up_n (by decide)]; exact s5
          have r6 : S3 15 6 = 0 := by rw [e3, ms_s, up_s]
          have r16 : S3 16 = S 16 := sc.1 16 (by decide)
          clear e3
          rw [ez, r4]
          refine ⟨_, x_numLoop (S := S3) (e := lxEq (S 16) n q) (by omega) (lxEq (S 16) n q - q) q S3 (by omega) ⟨r5, fun _ _ => rfl⟩ (fun _ _ => rfl) (fun S4 g1 g2 g3 S5 e5 => ?_)⟩
          rw [e5]
          have sd : SA S S4 := ⟨fun c hc => (g1 c hc).trans (sc.1 c hc), fun j hj => (g2 j (by omega)).trans (sc.2 j hj)⟩
          refine hp _ (sd.up (by decide)) ?_ ?_ ?_ (fun z => ?_)
          · rw [ms_s, up_n (by decide), g2 _ (by decide)]; exact r4
          · rw [ms_s, up_n (by decide), g2 _ (by decide)]; exact r5
          · rw [ms_s, up_s, lxTq, if_neg c0, if_neg c1, if_pos c2, if_neg z4]
          · rw [ms_s, up_n (by decide), g3, r6, r16, lxVq]
        · have z4 : 4 < lxEq (S 16) n q - q := by
            refine Classical.byContradiction (fun y => z ?_)
            exact nI_le (b := 4) (by omega) (by decide)
          rw [e3]
          refine hp _ (sb.up (by decide)) ?_ ?_ ?_ (fun z => ?_)
          · rw [ms_s, up_n (by decide)]; exact s4
          · rw [ms_s, up_n (by decide)]; exact s5
          · rw [ms_s, up_s, lxTq, if_neg c0, if_neg c1, if_pos c2, if_pos z4]
          · rw [lxTq, if_neg c0, if_neg c1, if_pos c2, if_pos z4] at z
            exact absurd z (by decide)
      · rw [bI_f c2]
        refine ⟨fun _ S2 e2 => ?_, fun z => absurd rfl z⟩
        have ee : lxEq (S 16) n q = q + 1 := by rw [lxEq, if_neg c0, if_neg c1, if_neg c2]
        rw [t4, nI_1, ← ee] at e2
        have sb : SA S S2 := by rw [e2]; exact sa.up (by decide)
        have s4 : S2 15 4 = nI q := by rw [e2, ms_s, up_n (by decide)]; exact t4
        have s5 : S2 15 5 = nI (lxEq (S 16) n q) := by rw [e2, ms_s, up_s]
        have s16 : S2 16 = S 16 := sb.1 16 (by decide)
        clear e2
        rw [s4, nI_clamp (by omega), s16]
        refine ⟨nI_in (by omega) (by decide), x_sign (fun S3 e3 => ?_)⟩
        rw [e3]
        refine hp _ (sb.up (by decide)) ?_ ?_ ?_ (fun z => ?_)
        · rw [ms_s, up_n (by decide)]; exact s4
        · rw [ms_s, up_n (by decide)]; exact s5
        · rw [ms_s, up_s, lxTq, if_neg c0, if_neg c1, if_neg c2]
        · rw [lxTq, if_neg c0, if_neg c1, if_neg c2] at z
          have y := lxG_c (S 16 q)
          rw [z] at y
          exact absurd y (by decide)
theorem x_skip {post : Mem → Prop} {n : Nat} (hn : S 15 2 = nI n) (h160 : n ≤ 160) : ∀ (f p : Nat) (S1 : Mem), p + f = n → SA S S1 → S1 15 4 = nI p → (∀ S2, SA S S2 → S2 15 4 = nI (lxS (S 16) f p) → w_X1_advance_60 post S2) → w_X1_advance_8 post (f + 1) S1 := by
  intro f
  induction f with
  | zero =>
    intro p S1 hp ha h4 hq
    rw [w_X1_advance_8, h4, ha.2 2 (by decide), hn]
    have e : p = n := by omega
    refine ⟨fun _ => hq S1 ha h4, fun z => absurd (nI_le (by omega) (by omega)) z⟩
  | succ f ih =>
    intro p S1 hp ha h4 hq
    rw [w_X1_advance_8, h4, ha.2 2 (by decide), hn, nI_clamp (by omega), ha.1 16 (by decide)]
    rw [lxS] at hq
    have go : (S 16 p = 32 ∨ S 16 p = 10) → w_X1_advance_47 (w_X1_advance_8 post (f + 1)) post S1 := by
      intro c
      rw [if_pos c] at hq
      unfold w_X1_advance_47
      intro S2 e2
      rw [h4, nI_1] at e2
      rw [e2]
      refine ih _ _ (by omega) (ha.up (by decide)) ?_ hq
      rw [ms_s, up_s]
    refine ⟨fun z => absurd z (nI_ge (by omega) (by omega)), fun _ => ⟨nI_in (by omega) (by decide), fun c => go (Or.inl c), fun c => ⟨nI_in (by omega) (by decide), fun c2 => ?_, fun c2 => go (Or.inr c2)⟩⟩⟩
    rw [if_neg (fun z => z.elim c c2)] at hq
    exact hq S1 ha h4
theorem x_advance {post : Mem → Prop} {n p : Nat} (hn : S 15 2 = nI n) (h160 : n ≤ 160) (hp : p ≤ n) (h5 : S 15 5 = nI p) (hq : ∀ S2, SA S S2 → S2 15 4 = nI (lxQ (S 16) n p) → S2 15 5 = nI (lxE (S 16) n p) → S2 15 3 = lxT (S 16) n p → (lxT (S 16) n p = 2 → S2 15 6 = lxV (S 16) n p) → post S2) : w_X1_advance S post := by
  unfold w_X1_advance
  intro S1 e1
  rw [e1]
  refine ⟨_, x_skip hn h160 (n - p) p _ (by omega) (SA.rf.up (by decide)) (by rw [ms_s, up_s]; exact h5) (fun S2 a2 b2 => x_adv60 hn h160 (lxQ_b hp).2 a2 b2 hq)⟩
end
