/-! PURE, 42: screwed: the model's loops -/
section
variable {S T S' T' : Mem} {a1 a2 a3 a4 a5 : Int32}
/-- within screwed: all but T 4 and T 15 as T, scratch aside; the old numbers in T 15 -/
def SW (S T T' : Mem) : Prop := SM T (mset T' 4 (T 4)) ∧ ∀ i, i < 4 → T' 15 i = S (4 + i) 2
theorem SW.up {i : Nat} {v : Int32} (h : SW S T T') : SW S T (mset T' 4 (upd (T' 4) i v)) := by
  refine ⟨?_, fun j hj => ?_⟩
  · rw [mm]; exact h.1
  · rw [ms_n (by decide)]; exact h.2 j hj
theorem m_byLoop {post : Int32 → Mem → Prop} {c : Nat} (h : RX S T) (hc : c < 10000) : ∀ (n i s : Nat) (T1 : Mem), i + n = 4 → s ≤ 9 * i → SW S T T1 → (∀ j, j < i → okB S c j = true → T1 4 j = T 4 j + dgI c j) → (∀ T2, SW S T T2 → (∀ j, j < 4 → okB S c j = true → T2 4 j = T 4 j + dgI c j) → post (sgM (suF S c n i s)) T2) → w_X8_screwBy_7 post (n + 1) (nI s) (nI (dgN c i)) (nI i) T1 := by
  intro n
  induction n with
  | zero =>
    intro i s T1 hi hs hw hj hq
    rw [w_X8_screwBy_7]
    have e : i = 4 := by omega
    subst e
    unfold w_X8_screwBy_168
    have q := hq T1 hw hj
    unfold sgM suF at q
    refine ⟨fun _ => ⟨fun z => ?_, fun z => ?_⟩, fun z => absurd (by decide) z⟩
    · rw [if_pos ((nI_leI (a := s) (b := 4) (by omega) (by decide)).mp z)] at q; exact q
    · rw [if_neg (fun y => z ((nI_leI (a := s) (b := 4) (by omega) (by decide)).mpr y))] at q; exact q
  | succ n ih =>
    intro i s T1 hi hs hw hj hq
    rw [w_X8_screwBy_7]
    have hd := dgN_le i c
    refine ⟨fun z => absurd z (nI_ge (b := 4) (by omega) (by decide)), fun _ z2 e2 z3 e3 => ⟨four_nI (by omega), ?_⟩⟩
    rw [rem7 (by omega)] at e2
    rw [div7 (by omega), ← dgN_s] at e3
    have e2 : z2 = dgI c i := e2
    rw [nI_clamp (by omega), e2, e3]
    obtain ⟨b1, b2, b3⟩ := ab_of c i
    obtain ⟨⟨g1, g2, g3⟩, g4, g5, g6⟩ := h.2.1 i (by omega)
    have w2 : T1 2 = T 2 := (ms_n (show 2 ≠ 4 by decide)).symm.trans hw.1.2.2.1
    rw [suF] at hq
    refine m_byLeg (S := S) (c := c) (by omega) (by rw [w2]; exact g1.symm) (hw.2 i (by omega)) g6 (fun ho => ?_) (fun ho => ?_)
    · rw [if_pos ho] at hq
      refine ih _ _ _ (by omega) (by omega) hw.up (fun j hj2 hoj => ?_) hq
      rw [ms_s]
      by_cases e : j = i
      · rw [e, up_s, ← g3]
      · rw [up_n e]; exact hj j (by omega) hoj
    · rw [ho, if_neg (by decide)] at hq
      refine ih _ _ _ (by omega) (by omega) hw.up (fun j hj2 hoj => ?_) hq
      rw [ms_s]
      by_cases e : j = i
      · rw [e, ho] at hoj; exact absurd hoj (by decide)
      · rw [up_n e]; exact hj j (by omega) hoj
end
