/-! PURE, 54: the model's tokens, the whole -/
section
variable {S T S' T' : Mem} {a1 a2 a3 a4 a5 : Int32}
theorem mw_d : ∀ j, j < 12 → mtK (lxW (mW j)) = (if 6 ≤ j then 4 else 2) ∧ mtV (lxW (mW j)) 0 = nI j ∧ ¬ lxW (mW j) = 2 := by decide +kernel
theorem mw_i : ∀ k, k < 12 → strByt.getD (k + 1) [] = mW (if k < 6 then k + 6 else k - 6) ∧ (if k < 6 then k + 6 else k - 6) < 12 := by decide +kernel
theorem lxW_1 {w : List Int32} (h : ∀ j, j < 12 → ¬ w = mW j) : lxW w = 1 := by
  have g : ∀ k, k < 12 → ¬ w = strByt.getD (k + 1) [] := fun k hk => by
    obtain ⟨e1, e2⟩ := mw_i k hk
    rw [e1]
    exact h _ e2
  unfold lxW
  rw [if_neg (g 0 (by decide)), if_neg (g 1 (by decide)), if_neg (g 2 (by decide)), if_neg (g 3 (by decide)), if_neg (g 4 (by decide)), if_neg (g 5 (by decide)), if_neg (g 6 (by decide)), if_neg (g 7 (by decide)), if_neg (g 8 (by decide)), if_neg (g 9 (by decide)), if_neg (g 10 (by decide)), if_neg (g 11 (by decide))]
theorem mtV_v {t : Int32} (v : Int32) (h : ¬ t = 2) : mtV t v = mtV t 0 := by
  unfold mtV
  rw [if_neg h, if_neg h]
section
variable {n q : Nat} {post : Mem → Prop}
theorem m_word53 {e : Nat} (hw : RW T) (hqe : q ≤ e) (he : e ≤ 160) : ∀ (f j : Nat) (T1 : Mem), j + f = 12 → FA T T1 → T1 0 17 = nI q → T1 0 19 = nI e → (∀ T2, FA T T2 → T2 0 17 = nI q → T2 0 19 = nI e → ((∃ k, j ≤ k ∧ k < 12 ∧ seg (T 8) q e = mW k ∧ T2 0 16 = (if 6 ≤ k then 4 else 2) ∧ T2 0 18 = nI k) ∨ ((∀ k, j ≤ k → k < 12 → ¬ seg (T 8) q e = mW k) ∧ T2 0 16 = T1 0 16 ∧ T2 0 18 = T1 0 18)) → post T2) → w_X8_readWord_53 post (f + 1) (nI j) T1 := by
  intro f
  induction f with
  | zero =>
    intro j T1 hj ha h17 h19 hq
    rw [w_X8_readWord_53]
    have e : j = 12 := by omega
    refine ⟨fun _ => hq T1 ha h17 h19 (Or.inr ⟨fun k h1 h2 => absurd h1 (by omega), rfl, rfl⟩), fun z => absurd (by rw [e]; decide) z⟩
  | succ f ih =>
    intro j T1 hj ha h17 h19 hq
    rw [w_X8_readWord_53, h17, h19]
    have hw1 : RW T1 := by
      unfold RW
      rw [ha.1 6 (by decide), ha.1 7 (by decide)]
      exact hw
    refine ⟨fun z => absurd z (nI_ge (b := 12) (by omega) (by decide)), fun _ => m_isWord hw1 (by omega) he hqe ?_⟩
    rw [ha.1 8 (by decide)]
    unfold w_X8_readWord_87 w_X8_readWord_95
    by_cases c : seg (T 8) q e = mW j
    · rw [bI_t c]
      have go : ∀ y : Int32, y = (if 6 ≤ j then (4 : Int32) else 2) → ∀ S1, S1 = mset T1 0 (upd (T1 0) 16 y) → ∀ S2, S2 = mset S1 0 (upd (S1 0) 18 (nI j)) → ∀ z1 : Int32, z1 = nI j + 1 → w_X8_readWord_53 post (f + 1) z1 S2 := by
        intro y ey S1 e1 S2 e2 z1 e3
        have b1 : FA T S1 := by rw [e1]; exact ha.up (by decide)
        have b2 : FA T S2 := by rw [e2]; exact b1.up (by decide)
        rw [e3, nI_1]
        refine ih _ _ (by omega) b2 ?_ ?_ (fun T2 g1 g2 g3 g4 => hq T2 g1 g2 g3 (Or.inl ?_))
        · rw [e2, ms_s, up_n (by decide), e1, ms_s, up_n (by decide)]; exact h17
        · rw [e2, ms_s, up_n (by decide), e1, ms_s, up_n (by decide)]; exact h19
        · rcases g4 with ⟨k, k1, k2, k3⟩ | ⟨k1, k2, k3⟩
          · exact ⟨k, by omega, k2, k3⟩
          · refine ⟨j, Nat.le_refl _, by omega, c, ?_, ?_⟩
            · rw [k2, e2, ms_s, up_n (by decide), e1, ms_s, up_s]; exact ey
            · rw [k3, e2, ms_s, up_s]
      refine ⟨fun z => absurd z (by decide), fun _ => ⟨fun z => ?_, fun z => ?_⟩⟩
      · have z := (nI_leI (a := 6) (b := j) (by decide) (by omega)).mp z
        exact go 4 (by rw [if_pos z])
      · have z : ¬ 6 ≤ j := fun y => z ((nI_leI (a := 6) (b := j) (by decide) (by omega)).mpr y)
        exact go 2 (by rw [if_neg z])
    · rw [bI_f c]
      refine ⟨fun _ z1 e1 => ?_, fun z => absurd rfl z⟩
      rw [e1, nI_1]
      refine ih _ _ (by omega) ha h17 h19 (fun T2 g1 g2 g3 g4 => hq T2 g1 g2 g3 ?_)
      rcases g4 with ⟨k, k1, k2, k3⟩ | ⟨k1, k2⟩
      · exact Or.inl ⟨k, by omega, k2, k3⟩
      · refine Or.inr ⟨fun k h1 h2 => ?_, k2⟩
        by_cases ck : k = j
        · rw [ck]; exact c
        · exact k1 k (by omega) h2
theorem m_wordLoop (hn : T 0 13 = nI n) (h160 : n ≤ 160) : ∀ (f p : Nat) (T1 : Mem), p + f = n → FA T T1 → T1 0 19 = nI p → T1 0 17 = nI q → (∀ T2, FA T T2 → T2 0 19 = nI (lxR (T 8) 97 122 f p) → T2 0 17 = nI q → w_X8_readWord_46 post T2) → w_X8_readWord_0 post (f + 1) T1 := by
  intro f
  induction f with
  | zero =>
    intro p T1 hp ha h19 h17 hq
    rw [w_X8_readWord_0, h19, ha.2 13 (by decide), hn]
    have e : p = n := by omega
    refine ⟨fun _ => hq T1 ha h19 h17, fun z => absurd (nI_le (by omega) (by omega)) z⟩
  | succ f ih =>
    intro p T1 hp ha h19 h17 hq
    rw [w_X8_readWord_0, h19, ha.2 13 (by decide), hn, nI_clamp (by omega), L_97, L_122, m_in, ha.1 8 (by decide)]
    try dsimp only
    rw [lxR] at hq
    refine ⟨fun z => absurd z (nI_ge (by omega) (by omega)), fun _ => ⟨nI_in (by omega) (by decide), ?_⟩⟩
    by_cases c : 97 ≤ T 8 p ∧ T 8 p ≤ 122
    · rw [if_pos c] at hq
      rw [bI_t c]
      refine ⟨fun z => absurd z (by decide), fun _ S2 e2 => ?_⟩
      have a2 : FA T S2 := by rw [e2]; exact ha.up (by decide)
      refine ih (p + 1) S2 (by omega) a2 ?_ ?_ hq
      · rw [e2, ms_s, up_s, h19, nI_1]
      · rw [e2, ms_s, up_n (by decide)]; exact h17
    · rw [if_neg c] at hq
      rw [bI_f c]
      exact ⟨fun _ => hq T1 ha h19 h17, fun z => absurd rfl z⟩
/-- what a token leaves in the model -/
def MK (T : Mem) (t v : Int32) : Prop := T 0 16 = mtK t ∧ (t = 0 ∨ t = 1 ∨ T 0 18 = mtV t v)
theorem m_tok35 (hw : RW T) (hn : T 0 13 = nI n) (h160 : n ≤ 160) (hqn : q ≤ n) (ha : FA T T') (h19 : T' 0 19 = nI q) (hq : ∀ T2, FA T T2 → T2 0 17 = nI q → T2 0 19 = nI (lxEq (T 8) n q) → MK T2 (lxTq (T 8) n q) (lxVq (T 8) n q) → post T2) : w_X8_readToken_35 post T' := by
  unfold w_X8_readToken_35
  intro T1 e1
  have a1 : FA T T1 := by rw [e1]; exact ha.up (by decide)
  have g19 : T1 0 19 = nI q := by rw [e1, ms_s, up_n (by decide)]; exact h19
  have g17 : T1 0 17 = nI q := by rw [e1, ms_s, up_s]; exact h19
  have g13 : T1 0 13 = nI n := by rw [a1.2 13 (by decide)]; exact hn
  have g8 : T1 8 = T 8 := a1.1 8 (by decide)
  clear e1
  rw [g19, g13]
  by_cases c0 : n ≤ q
  · have e : q = n := by omega
    refine ⟨fun z => absurd (by rw [e]) z, fun _ S2 e2 => ?_⟩
    rw [e2]
    refine hq _ (a1.up (by decide)) ?_ ?_ ⟨?_, Or.inl ?_⟩
    · rw [ms_s, up_n (by decide)]; exact g17
    · rw [ms_s, up_n (by decide), lxEq, if_pos c0]; exact g19
    · rw [ms_s, up_s, lxTq, if_pos c0]; rfl
    · rw [lxTq, if_pos c0]
  · refine ⟨fun _ => ⟨nI_in (by omega) (by decide), fun z2 ez => ?_⟩, fun z => absurd ((nI_eq (by omega) (by omega)).mp z) (by omega)⟩
    rw [nI_clamp (by omega), g8] at ez
    subst ez
    rw [L_97, L_122, m_in]
    try dsimp only
    by_cases c1 : 97 ≤ T 8 q ∧ T 8 q ≤ 122
    · rw [bI_t c1]
      refine ⟨fun z => absurd z (by decide), fun _ => ?_⟩
      unfold w_X8_readWord
      have ee : lxEq (T 8) n q = lxR (T 8) 97 122 (n - q) q := by rw [lxEq, if_neg c0, if_pos c1]
      have eb := lxEq_b (tp := T 8) hqn
      refine ⟨_, m_wordLoop hn h160 (n - q) q T1 (by omega) a1 g19 g17 (fun T2 a2 k19 k17 => ?_)⟩
      rw [← ee] at k19
      unfold w_X8_readWord_46
      intro S1 e1
      have a3 : FA T S1 := by rw [e1]; exact a2.up (by decide)
      have et : lxTq (T 8) n q = lxW (seg (T 8) q (lxEq (T 8) n q)) := by rw [lxTq, if_neg c0, if_pos c1]
      refine ⟨13, m_word53 (e := lxEq (T 8) n q) hw eb.1 (by omega) 12 0 S1 rfl a3 ?_ ?_ (fun T3 a4 r17 r19 r => hq T3 a4 r17 r19 ?_)⟩
      · rw [e1, ms_s, up_n (by decide)]; exact k17
      · rw [e1, ms_s, up_n (by decide)]; exact k19
      · rw [et]
        rcases r with ⟨k, -, k12, ks, kk, kv⟩ | ⟨kn, kk, -⟩
        · obtain ⟨d1, d2, d3⟩ := mw_d k k12
          rw [ks]
          exact ⟨by rw [kk, d1], Or.inr (Or.inr (by rw [kv, mtV_v _ d3, d2]))⟩
        · have e5 : lxW (seg (T 8) q (lxEq (T 8) n q)) = 1 := lxW_1 (fun j hj => kn j (Nat.zero_le _) hj)
          rw [e5]
          refine ⟨?_, Or.inr (Or.inl rfl)⟩
          rw [kk, e1, ms_s, up_s]
          rfl
    · rw [bI_f c1]
      refine ⟨fun _ => ?_, fun z => absurd rfl z⟩
      rw [L_48, L_57, m_in]
      by_cases c2 : 48 ≤ T 8 q ∧ T 8 q ≤ 57
      · rw [bI_t c2]
        refine ⟨fun z => absurd z (by decide), fun _ => ?_⟩
        unfold w_X8_readNumber
        intro S1 e1
        have ee : lxEq (T 8) n q = lxR (T 8) 48 57 (n - q) q := by rw [lxEq, if_neg c0, if_neg c1, if_pos c2]
        have eb := lxEq_b (tp := T 8) hqn
        have a2 : FA T S1 := by rw [e1]; exact a1.up (by decide)
        refine ⟨_, m_numLoop (q := q) hn h160 (n - q) q S1 (by omega) (Nat.le_refl _) a2 ?_ ?_ (fun _ => ?_) (fun i h1 h2 => absurd h1 (by omega)) (fun T2 a3 k19 k17 k18 => ?_)⟩
        · rw [e1, ms_s, up_n (by decide)]; exact g19
        · rw [e1, ms_s, up_n (by decide)]; exact g17
        · rw [e1, ms_s, up_s, Nat.sub_self]; rfl
        · rw [← ee] at k19 k18
          refine m_num92 k19 k17 eb.1 (by omega) ?_
          have et : lxTq (T 8) n q = if 4 < lxEq (T 8) n q - q then 1 else 2 := by rw [lxTq, if_neg c0, if_neg c1, if_pos c2]
          refine hq _ (a3.up (by decide)) ?_ ?_ ?_
          · rw [ms_s, up_n (by decide)]; exact k17
          · rw [ms_s, up_n (by decide)]; exact k19
          · rw [et]
            by_cases c4 : 4 < lxEq (T 8) n q - q
            · rw [if_pos c4, if_pos c4]
              refine ⟨?_, Or.inr (Or.inl rfl)⟩
              rw [ms_s, up_s]; rfl
            · rw [if_neg c4, if_neg c4]
              refine ⟨?_, Or.inr (Or.inr ?_)⟩
              · rw [ms_s, up_s]; rfl
              · rw [ms_s, up_n (by decide), k18 (by omega), mtV, if_pos rfl, lxVq]
      · rw [bI_f c2]
        refine ⟨fun _ S5 e5 => ?_, fun z => absurd rfl z⟩
        have ee : lxEq (T 8) n q = q + 1 := by rw [lxEq, if_neg c0, if_neg c1, if_neg c2]
        have et : lxTq (T 8) n q = lxG (T 8 q) := by rw [lxTq, if_neg c0, if_neg c1, if_neg c2]
        have a2 : FA T S5 := by rw [e5]; exact a1.up (by decide)
        have k19 : S5 0 19 = nI (lxEq (T 8) n q) := by rw [e5, ms_s, up_s, g19, nI_1, ee]
        have k17 : S5 0 17 = nI q := by rw [e5, ms_s, up_n (by decide)]; exact g17
        have fin : ∀ y : Int32, (y = 3 ∧ mtK (lxG (T 8 q)) = 3 ∧ mtV (lxG (T 8 q)) (lxVq (T 8) n q) = T 8 q) ∨ (y = 5 ∧ lxG (T 8 q) = 1) → w_X8_readToken_182 post (T 8 q) y S5 := by
          intro y hy
          unfold w_X8_readToken_182
          intro S6 e6 S7 e7
          have b6 : FA T S6 := by rw [e6]; exact a2.up (by decide)
          have b7 : FA T S7 := by rw [e7]; exact b6.up (by decide)
          refine hq S7 b7 ?_ ?_ ?_
          · rw [e7, ms_s, up_n (by decide), e6, ms_s, up_n (by decide)]; exact k17
          · rw [e7, ms_s, up_n (by decide), e6, ms_s, up_n (by decide)]; exact k19
          · rw [et]
            have v16 : S7 0 16 = y := by rw [e7, ms_s, up_n (by decide), e6, ms_s, up_s]
            have v18 : S7 0 18 = T 8 q := by rw [e7, ms_s, up_s]
            rcases hy with ⟨y1, y2, y3⟩ | ⟨y1, y2⟩
            · exact ⟨by rw [v16, y1, y2], Or.inr (Or.inr (by rw [v18, y3]))⟩
            · rw [y2]
              exact ⟨by rw [v16, y1]; rfl, Or.inr (Or.inl rfl)⟩
        have yes : (mtK (lxG (T 8 q)) = 3 ∧ ¬ lxG (T 8 q) = 2 ∧ mtV (lxG (T 8 q)) 0 = T 8 q) → w_X8_readToken_166 post (T 8 q) S5 := by
          intro h
          unfold w_X8_readToken_166 w_X8_readToken_171
          refine ⟨fun z => absurd z (by decide), fun _ => fin 3 (Or.inl ⟨rfl, h.1, by rw [mtV_v _ h.2.1]; exact h.2.2⟩)⟩
        refine ⟨fun z => yes (by rw [z]; decide), fun n40 => ?_⟩
        refine ⟨fun z => yes (by rw [z]; decide), fun n41 => ?_⟩
        refine ⟨fun z => yes (by rw [z]; decide), fun n59 => ?_⟩
        refine ⟨fun z => yes (by rw [z]; decide), fun n43 => ?_⟩
        refine ⟨fun z => yes (by rw [z]; decide), fun n45 => ?_⟩
        refine ⟨fun z => yes (by rw [z]; decide), fun n42 => ?_⟩
        refine ⟨fun z => yes (by rw [z]; decide), fun n60 => ?_⟩
        refine ⟨fun n61 => ?_, fun z => yes (by rw [z]; decide)⟩
        unfold w_X8_readToken_171
        refine ⟨fun _ => fin 5 (Or.inr ⟨rfl, ?_⟩), fun z => absurd rfl z⟩
        unfold lxG
        rw [if_neg n40, if_neg n41, if_neg n42, if_neg n43, if_neg n45, if_neg n59, if_neg n60, if_neg n61]
theorem m_skip (hn : T 0 13 = nI n) (h160 : n ≤ 160) : ∀ (f p : Nat) (T1 : Mem), p + f = n → FA T T1 → T1 0 19 = nI p → (∀ T2, FA T T2 → T2 0 19 = nI (lxS (T 8) f p) → w_X8_readToken_35 post T2) → w_X8_readToken_0 post (f + 1) T1 := by
  intro f
  induction f with
  | zero =>
    intro p T1 hp ha h19 hq
    rw [w_X8_readToken_0, h19, ha.2 13 (by decide), hn]
    exact ⟨fun _ => hq T1 ha h19, fun z => absurd (nI_le (by omega) (by omega)) z⟩
  | succ f ih =>
    intro p T1 hp ha h19 hq
    rw [w_X8_readToken_0, h19, ha.2 13 (by decide), hn]
    unfold w_X8_isBlank w_X8_isBlank_22 w_X8_isBlank_27
    try dsimp only
    rw [nI_clamp (by omega), ha.1 8 (by decide), h19]
    rw [lxS] at hq
    have go : (T 8 p = 32 ∨ T 8 p = 10) → ∀ S2 : Mem, S2 = mset T1 0 (upd (T1 0) 19 (nI p + 1)) → w_X8_readToken_0 post (f + 1) S2 := by
      intro c S2 e2
      rw [if_pos c] at hq
      rw [nI_1] at e2
      rw [e2]
      exact ih _ _ (by omega) (ha.up (by decide)) (by rw [ms_s, up_s]) hq
    refine ⟨fun z => absurd z (nI_ge (by omega) (by omega)), fun _ => ⟨nI_in (by omega) (by decide), fun c => ⟨Or.inr rfl, fun z => absurd z (by decide), fun _ => go (Or.inl c)⟩, fun c => ⟨nI_in (by omega) (by decide), fun c2 => ⟨Or.inl rfl, fun _ => ?_, fun z => absurd rfl z⟩, fun c2 => ⟨Or.inr rfl, fun z => absurd z (by decide), fun _ => go (Or.inr c2)⟩⟩⟩⟩
    rw [if_neg (fun z => z.elim c c2)] at hq
    exact hq T1 ha h19
theorem m_readToken {p : Nat} (hw : RW T) (hn : T 0 13 = nI n) (h160 : n ≤ 160) (hp : p ≤ n) (h19 : T 0 19 = nI p) (hq : ∀ T2, FA T T2 → T2 0 17 = nI (lxQ (T 8) n p) → T2 0 19 = nI (lxE (T 8) n p) → MK T2 (lxT (T 8) n p) (lxV (T 8) n p) → post T2) : w_X8_readToken T post := by
  unfold w_X8_readToken
  exact ⟨_, m_skip hn h160 (n - p) p T (by omega) FA.rf h19 (fun T2 a2 b2 => m_tok35 hw hn h160 (lxQ_b hp).2 a2 b2 hq)⟩
end
end
