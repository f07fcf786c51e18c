/-! PURE, 24: the model's find, the whole -/
section
variable {S T S' T' : Mem} {a1 a2 a3 a4 a5 : Int32}
/-- what the model's find leaves -/
def MM (S T T' : Mem) (a : Int32) (b : Nat) : Prop := (∀ d, d ≠ 0 → d < 12 ∨ 14 < d → T' d = T d) ∧ (∀ j, j < 31 ∨ 36 < j → T' 0 j = T 0 j) ∧ T' 0 31 = gapF S a b ∧ T' 0 33 = rckF S a b ∧ T' 0 34 = leaF S a b ∧ T' 0 36 = nI (lfN S a b) ∧ (∀ j, j < 6 → T' 12 j = nmF S a b (rckF S a b) (leaF S a b) j) ∧ T' 0 35 = nI (bfN S a b)
theorem MM.sm {a : Int32} {b : Nat} (h : MM S T T' a b) : SM T T' := by
  obtain ⟨q, f, -⟩ := h
  exact ⟨⟨f _ (by decide), f _ (by decide), f _ (by decide), f _ (by decide), f _ (by decide), f _ (by decide), f _ (by decide), f _ (by decide)⟩, q _ (by decide) (by decide), q _ (by decide) (by decide), q _ (by decide) (by decide), q _ (by decide) (by decide), tp3_of (q _ (by decide) (by decide)) (q _ (by decide) (by decide)) (q _ (by decide) (by decide)), q _ (by decide) (by decide), q _ (by decide) (by decide), q _ (by decide) (by decide), q _ (by decide) (by decide), q _ (by decide) (by decide), q _ (by decide) (by decide)⟩
theorem m_findLean {post : Mem → Prop} {a : Int32} {b : Nat} (h : RX S T') (e31 : T 0 31 = gapF S a b) (e35 : T 0 35 = nI (bfN S a b)) (e36 : T 0 36 = nI (lfN S a b)) (e14 : ∀ j, j < 4 → T 14 j = hgtF S a b j) (hp : post (mset T 0 (upd (T 0) 34 (leaF S a b)))) : w_X8_findLean T post := by
  have hb : bfN S a b < 2 ∧ lfN S a b = 1 - bfN S a b := by
    unfold bfN lfN
    by_cases z : 0 ≤ gapF S a b <;> simp [z]
  obtain ⟨hb2, hl⟩ := hb
  rw [hl] at e36
  have ek2 : ∀ k, nI k + (2 : Int32) = nI (k + 2) := fun k => nI_add k 2
  have fin : ∀ y : Int32, y = hgtF S a b (bfN S a b) + hgtF S a b (bfN S a b + 2) - hgtF S a b (1 - bfN S a b) → w_X8_findLean_54 post y T := by
    intro y ey
    unfold w_X8_findLean_54
    rw [e35, nI_clamp (by omega)]
    refine ⟨four_nI (by omega), fun z1 e1 => ⟨4, ?_⟩⟩
    rw [e14 _ (by omega)] at e1
    refine m_leanLoop hb2 e35 e36 (e14 _ (by omega)) (e14 _ (by omega)) ?_
    rw [e1, ey]
    exact hp
  unfold w_X8_findLean
  rw [e35, e36, e31, ek2, ek2, nI_clamp (by omega), nI_clamp (by omega), nI_clamp (by omega), nI_clamp (by omega), e14 _ (by omega), e14 _ (by omega), e14 _ (by omega), e14 _ (by omega)]
  refine ⟨four_nI (by omega), four_nI (by omega), fun z1 e1 => ⟨fun _ => ⟨four_nI (by omega), fin _ (by rw [e1])⟩, fun c => ⟨four_nI (by omega), fin _ ?_⟩⟩⟩
  have b0 : bfN S a b = 0 := by
    unfold bfN
    rw [if_pos (by rw [c]; decide)]
  rw [b0]
  obtain ⟨g1, g2, -⟩ := gap_t h a b
  rw [c, I0] at g1
  apply Int32.toInt_inj.mp
  show (hgtF S a b 3).toInt = (hgtF S a b 0 + hgtF S a b 2 - hgtF S a b 1).toInt
  omega
theorem m_find {post : Mem → Prop} {a : Int32} {b : Nat} (h : RX S T) (hb : b < 8) (hq : ∀ T', MM S T T' a b → post T') : w_X8_find a (nI b) T post := by
  obtain ⟨k6, k1, k2, k3⟩ := rl_of h
  unfold w_X8_find
  refine ⟨5, m_heights (T0 := T) h hb 4 0 T (by decide) (fun _ _ => rfl) (fun j hj => absurd hj (by omega)) (fun T1 m s1 s2 => ?_)⟩
  rw [w_X8_find_2]
  refine ⟨fun _ => ?_, fun z => absurd (by decide) z⟩
  rw [K0, K1, K2, K3, s2 0 (by decide), s2 1 (by decide), s2 2 (by decide), s2 3 (by decide)]
  intro T2 e2
  have g31 : T2 0 31 = gapF S a b := by rw [e2]; rfl
  have c2 : ∀ d, d ≠ 0 → d ≠ 14 → T2 d = T d := fun d d0 d1 => by rw [e2, ms_n d0, s1 d d1]
  have f2 : ∀ j, j < 31 ∨ 36 < j → T2 0 j = T 0 j := fun j hj => by rw [e2, ms_s, up_n (by omega), s1 0 (by decide)]
  have h2 : ∀ j, j < 4 → T2 14 j = hgtF S a b j := fun j hj => by rw [e2, ms_n (by decide)]; exact s2 j hj
  clear e2
  rw [g31]
  have go : ∀ y : Int32, y = sizF S a b → w_X8_find_92 post a (nI b) y T2 := by
    intro y ey
    unfold w_X8_find_92
    intro T3 e3
    have g31' : T3 0 31 = gapF S a b := by rw [e3, ms_s, up_n (by decide)]; exact g31
    have g32 : T3 0 32 = sizF S a b := by rw [e3, ms_s, up_s]; exact ey
    have c3 : ∀ d, d ≠ 0 → d ≠ 14 → T3 d = T d := fun d d0 d1 => by rw [e3, ms_n d0]; exact c2 d d0 d1
    have f3 : ∀ j, j < 31 ∨ 36 < j → T3 0 j = T 0 j := fun j hj => by rw [e3, ms_s, up_n (by omega)]; exact f2 j hj
    have h3 : ∀ j, j < 4 → T3 14 j = hgtF S a b j := fun j hj => by rw [e3, ms_n (by decide)]; exact h2 j hj
    clear e3
    rw [g31']
    have hk : bfN S a b < 2 ∧ lfN S a b = 1 - bfN S a b := by
      unfold bfN lfN
      by_cases z : 0 ≤ gapF S a b <;> simp [z]
    have go2 : w_X8_find_108 post a (nI b) (nI (bfN S a b)) T3 := by
      unfold w_X8_find_108
      intro T4 e4 T5 e5
      have ek1 : (1 : Int32) - nI (bfN S a b) = nI (lfN S a b) := by rw [hk.2]; exact pk_sub (a := 1) (by omega)
      have g31'' : T5 0 31 = gapF S a b := by rw [e5, ms_s, up_n (by decide), e4, ms_s, up_n (by decide)]; exact g31'
      have g32' : T5 0 32 = sizF S a b := by rw [e5, ms_s, up_n (by decide), e4, ms_s, up_n (by decide)]; exact g32
      have g35 : T5 0 35 = nI (bfN S a b) := by rw [e5, ms_s, up_n (by decide), e4, ms_s, up_s]
      have g36 : T5 0 36 = nI (lfN S a b) := by rw [e5, ms_s, up_s, e4, ms_s, up_s, ek1]
      have c5 : ∀ d, d ≠ 0 → d ≠ 14 → T5 d = T d := fun d d0 d1 => by rw [e5, ms_n d0, e4, ms_n d0]; exact c3 d d0 d1
      have f5 : ∀ j, j < 31 ∨ 36 < j → T5 0 j = T 0 j := fun j hj => by rw [e5, ms_s, up_n (by omega), e4, ms_s, up_n (by omega)]; exact f3 j hj
      have h5 : ∀ j, j < 4 → T5 14 j = hgtF S a b j := fun j hj => by rw [e5, ms_n (by decide), e4, ms_n (by decide)]; exact h3 j hj
      clear e5 e4
      rw [g31'', g36, g32']
      have go3 : w_X8_find_159 post a (nI b) (givF S a b) T5 := by
        unfold w_X8_find_159
        rw [K0, K1, K2, K3, K4, show (5 : Int32).toNatClampNeg = 5 by decide]
        intro U1 u1 U2 u2 U3 u3 U4 u4 U5 u5 U6 u6
        have cU : ∀ d, d ≠ 12 → U6 d = T5 d := fun d hd => by rw [u6, ms_n hd, u5, ms_n hd, u4, ms_n hd, u3, ms_n hd, u2, ms_n hd, u1, ms_n hd]
        have nU : ∀ j, j < 6 → U6 12 j = nmF S a b (sizF S a b) 0 j := by
          intro j hj
          have : U6 12 = upd (upd (upd (upd (upd (upd (T5 12) 0 (T5 0 32)) 1 0) 2 (nI b)) 3 (a / 8)) 4 (jrem a 8)) 5 (givF S a b) := by
            rw [u6, ms_s, u5, ms_s, u4, ms_s, u3, ms_s, u2, ms_s, u1, ms_s]
          rw [this, g32']
          have hc : j = 0 ∨ j = 1 ∨ j = 2 ∨ j = 3 ∨ j = 4 ∨ j = 5 := by omega
          rcases hc with e | e | e | e | e | e <;> subst e <;> rfl
        clear u1 u2 u3 u4 u5 u6
        have r15 : U6 0 15 = nI (rlN S) := by rw [cU 0 (by decide), f5 15 (by decide)]; exact k2
        have r3 : RuleOk S U6 (rlN S) := k3.fr k6 (fun _ _ _ => rfl) (by rw [cU 9 (by decide)]; exact c5 9 (by decide) (by decide)) (by rw [cU 10 (by decide)]; exact c5 10 (by decide) (by decide))
        refine m_says (p := 0) r3 k6 (by decide) r15 (fun U7 u7 => ?_)
        rw [vR_cg (S := S) (nm' := nmF S a b (sizF S a b) 0) k3 (by decide) nU rfl rfl, m_held2]
        have v32 : U7 0 32 = sizF S a b := by rw [u7 0 (by decide), cU 0 (by decide)]; exact g32'
        have c7 : ∀ d, d ≠ 0 → d < 12 ∨ 14 < d → U7 d = T d := fun d d0 d1 => by rw [u7 d (by omega), cU d (by omega)]; exact c5 d d0 (by omega)
        have f7 : U7 0 = T5 0 := by rw [u7 0 (by decide), cU 0 (by decide)]
        have h7 : ∀ j, j < 4 → U7 14 j = hgtF S a b j := fun j hj => by rw [u7 14 (by decide), cU 14 (by decide)]; exact h5 j hj
        have n7 : ∀ j, j < 6 → U7 12 j = nmF S a b (sizF S a b) 0 j := fun j hj => by rw [u7 12 (by decide)]; exact nU j hj
        clear u7
        rw [v32]
        have fin : ∀ y : Int32, y = rckF S a b → w_X8_find_252 post y U7 := by
          intro y ey
          unfold w_X8_find_252
          intro V1 v1
          have w0 : V1 0 = upd (T5 0) 33 y := by rw [v1, ms_s, f7]
          have wc : ∀ d, d ≠ 0 → V1 d = U7 d := fun d hd => by rw [v1, ms_n hd]
          clear v1
          refine m_findLean (S := S) (T' := T) h (by rw [w0, up_n (by decide)]; exact g31'') (by rw [w0, up_n (by decide)]; exact g35) (by rw [w0, up_n (by decide)]; exact g36) (fun j hj => by rw [wc 14 (by decide)]; exact h7 j hj) (fun V3 v3 V4 v4 => ?_)
          rw [K0] at v3
          rw [K1] at v4
          have z0 : V4 0 = upd (upd (T5 0) 33 y) 34 (leaF S a b) := by rw [v4, ms_n (by decide), v3, ms_n (by decide), ms_s, w0]
          have x33 : (mset V1 0 (upd (V1 0) 34 (leaF S a b))) 0 33 = y := by rw [ms_s, up_n (by decide), w0, up_s]
          have x34 : V3 0 34 = leaF S a b := by rw [v3, ms_n (by decide), ms_s, up_s]
          have z12 : V4 12 = upd (upd (U7 12) 0 y) 1 (leaF S a b) := by
            rw [v4, ms_s, x34, v3, ms_s, x33, ms_n (by decide), wc 12 (by decide)]
          refine hq V4 ⟨fun d d0 d1 => ?_, fun j hj => ?_, ?_, ?_, ?_, ?_, fun j hj => ?_, by rw [z0, up_n (by decide), up_n (by decide)]; exact g35⟩
          · rw [v4, ms_n (by omega), v3, ms_n (by omega), ms_n d0, wc d d0]
            exact c7 d d0 d1
          · rw [z0, up_n (by omega), up_n (by omega)]
            exact f5 j hj
          · rw [z0, up_n (by decide), up_n (by decide)]; exact g31''
          · rw [z0, up_n (by decide), up_s]; exact ey
          · rw [z0, up_s]
          · rw [z0, up_n (by decide), up_n (by decide)]; exact g36
          · rw [z12, ← ey]
            by_cases j1 : j = 1
            · subst j1; rfl
            · rw [up_n j1]
              by_cases j0 : j = 0
              · subst j0; rfl
              · rw [up_n j0, n7 j hj]
                unfold nmF
                rw [if_neg j0, if_neg j1, if_neg j0, if_neg j1]
        have hs := siz_b h a b
        have hg := giv_b h a b
        have est := sub_t (hs.w (by decide) (by decide)) (hg.w (by decide) (by decide))
        have slkE : hl (vR S (rlN S) 0 (nmF S a b (sizF S a b) 0)) 0 9 = slkF S a b := rfl
        rw [slkE]
        refine ⟨fun c => fin _ ?_, fun c => ⟨fun c2 => fin _ ?_, fun c2 => fin _ ?_⟩⟩
        · unfold rckF
          rw [if_neg (by rw [i_le] at c; rw [i_lt]; omega)]
        · unfold rckF
          rw [if_pos (by rw [i_le] at c; rw [i_lt]; omega), jmax0, if_pos]
          rw [i_le] at c2 ⊢
          rw [I0]
          omega
        · unfold rckF
          rw [if_pos (by rw [i_le] at c; rw [i_lt]; omega), jmax0, if_neg]
          rw [i_le] at c2 ⊢
          rw [I0]
          omega
      have ek2 : nI (lfN S a b) + (2 : Int32) = nI (lfN S a b + 2) := nI_add _ 2
      refine ⟨fun c => ?_, fun c => ?_⟩
      · obtain ⟨⟨p1, -, p3⟩, -⟩ := h.2.1 (lfN S a b) (by omega)
        obtain ⟨⟨r1, -, r3⟩, -⟩ := h.2.1 (lfN S a b + 2) (by omega)
        refine m_gives (k := S (4 + lfN S a b) 0) (n := S (4 + lfN S a b) 2) (by omega) (by rw [c5 2 (by decide) (by decide)]; exact p1.symm) (by rw [c5 4 (by decide) (by decide)]; exact p3.symm) ?_
        rw [g36, g32', ek2]
        refine m_gives (k := S (4 + (lfN S a b + 2)) 0) (n := S (4 + (lfN S a b + 2)) 2) (by omega) (by rw [c5 2 (by decide) (by decide)]; exact r1.symm) (by rw [c5 4 (by decide) (by decide)]; exact r3.symm) ?_
        have : givF S a b = pG (S (4 + lfN S a b) 0) (S (4 + lfN S a b) 2) (sizF S a b) + pG (S (4 + (lfN S a b + 2)) 0) (S (4 + (lfN S a b + 2)) 2) (sizF S a b) := by
          unfold givF
          rw [if_neg c]
        rw [← this]
        exact go3
      · have : givF S a b = 0 := by
          unfold givF
          rw [if_pos c]
        rw [this] at go3
        exact go3
    refine ⟨fun c => ?_, fun c => ?_⟩
    · have : bfN S a b = 0 := by unfold bfN; rw [if_pos c]
      rw [this] at go2
      exact go2
    · have : bfN S a b = 1 := by unfold bfN; rw [if_neg c]
      rw [this] at go2
      exact go2
  refine ⟨fun c => go _ ?_, fun c => go _ ?_⟩
  · unfold sizF jabs
    rw [if_pos c]
  · unfold sizF jabs
    rw [if_neg c, Int32.sub_eq_add_neg, Int32.zero_add]
end
