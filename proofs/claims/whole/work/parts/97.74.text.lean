/-! PURE, 59: the model reads the tape, the whole -/
section
variable {S T S' T' : Mem} {a1 a2 a3 a4 a5 : Int32}
def FX (k : Nat) (T T2 : Mem) : Prop := (∀ c, c ≠ 0 → c ≠ 9 → c ≠ 10 → c ≠ 11 → T2 c = T c) ∧ (∀ j, j < 16 ∨ 27 < j → T2 0 j = T 0 j) ∧ (∀ i, i < 160 * k → T2 9 i = T 9 i) ∧ ∀ i, i < 4 * k → T2 10 i = T 10 i
theorem FX.rf {k : Nat} : FX k T T := ⟨fun _ _ _ _ _ => rfl, fun _ _ => rfl, fun _ _ => rfl, fun _ _ => rfl⟩
theorem FX.tr {k : Nat} {T2 : Mem} (h : FX k T T') (h2 : FX k T' T2) : FX k T T2 := ⟨fun c c1 c2 c3 c4 => (h2.1 c c1 c2 c3 c4).trans (h.1 c c1 c2 c3 c4), fun j hj => (h2.2.1 j hj).trans (h.2.1 j hj), fun i hi => (h2.2.2.1 i hi).trans (h.2.2.1 i hi), fun i hi => (h2.2.2.2 i hi).trans (h.2.2.2 i hi)⟩
theorem FM.fx {k : Nat} (h : FM k T T') : FX k T T' := ⟨fun c c1 c2 _ c4 => h.1 c c1 c2 c4, h.2.1, h.2.2, fun i _ => by rw [h.1 10 (by decide) (by decide) (by decide)]⟩
theorem fx_10 {k i : Nat} {v : Int32} (hi : 4 * k ≤ i) : FX k T (mset T 10 (upd (T 10) i v)) := ⟨fun c _ _ c3 _ => ms_n c3, fun j _ => by rw [ms_n (by decide)], fun j _ => by rw [ms_n (by decide)], fun j hj => by rw [ms_s, up_n (by omega)]⟩
theorem kd_j : ∀ j : Fin 3, ∀ i : Fin 23, (mtK (nI i.val - 14) = 4 ∧ mtV (nI i.val - 14) 0 = nI (6 + j.val)) ↔ nI i.val - 14 = nI (6 + j.val) := by decide +kernel
theorem k0_d : ∀ i : Fin 23, mtK (nI i.val - 14) = 0 ↔ nI i.val - 14 = (0 : Int32) := by decide +kernel
theorem g0_l {es : List Nat} {s : Nat} {i : Nat} (h : i ≤ es.length) : (0 :: (es ++ [s])).getD i 0 = (0 :: es).getD i 0 := by
  match i, h with
  | 0, _ => rfl
  | i + 1, h =>
    show (es ++ [s]).getD i 0 = es.getD i 0
    exact gn_l (by omega)
section
variable {k n : Nat} {tp : Nat → Int32}
theorem m_rtLoop {post : Int32 → Mem → Prop} (hk : k < 6) (h160 : n ≤ 160) : ∀ (m j f p : Nat) (T : Mem) (o : rdO) (es : List Nat), j + m = 3 → es.length = j → o.length = (0 :: es).getD j 0 → T 8 = tp → T 0 13 = nI n → T 0 14 = nI k → RW T → p ≤ n → n + 1 ≤ f + p → T 0 19 = nI p → MO k T o → (∀ i, i < j → T 10 (4 * k + i) = nI ((0 :: es).getD i 0)) → o.length + (lxL tp n f p).length ≤ 161 → (∀ q T2, rdX m j (lxL tp n f p) o es = Sum.inl q → FX k T T2 → post (nI q) T2) → (∀ o2 es2 T2, rdX m j (lxL tp n f p) o es = Sum.inr (o2, es2) → FX k T T2 → MO k T2 o2 → (∀ i, i < 4 → T2 10 (4 * k + i) = nI ((0 :: es2).getD i 0)) → post (-1) T2) → w_X8_readText_12 post (m + 1) (nI j) T := by
  intro m
  induction m with
  | zero =>
    intro j f p T o es hj hes hol h8 h13 h14 hrw hp hf h19 ho h10 hl hq0 hq1
    have ej : j = 3 := by omega
    subst ej
    rw [w_X8_readText_12, h14, ho.1]
    unfold w_X8_readText_108
    have e43 : (4 : Int32) * nI k + 3 = nI (4 * k + 3) := by
      rw [show (4 : Int32) * nI k = nI (4 * k) from pk_mul 4 k]
      exact nI_add _ 3
    rw [e43, nI_clamp (by omega)]
    refine ⟨fun _ => ⟨nI_in (by omega) (by decide), fun S1 e1 => ?_⟩, fun z => absurd (by decide) z⟩
    have f1 : FX k T S1 := by rw [e1]; exact fx_10 (by omega)
    have g0 : S1 0 = T 0 := by rw [e1, ms_n (by decide)]
    have g8 : S1 8 = tp := (f1.1 8 (by decide) (by decide) (by decide) (by decide)).trans h8
    have g9 : S1 9 = T 9 := by rw [e1, ms_n (by decide)]
    have g10 : S1 10 = upd (T 10) (4 * k + 3) (nI o.length) := by rw [e1, ms_s]
    have grw : RW S1 := by
      unfold RW
      rw [f1.1 6 (by decide) (by decide) (by decide) (by decide), f1.1 7 (by decide) (by decide) (by decide) (by decide)]
      exact hrw
    clear e1
    refine m_readToken grw (by rw [g0]; exact h13) h160 hp (by rw [g0]; exact h19) (fun T2 fa k17 k19 gk => ?_)
    rw [g8] at k17 gk
    have fx := f1.tr fa.fm.fx
    obtain ⟨i, ei⟩ := lxT_r (tp := tp) (n := n) (p := p)
    have kd := k0_d i
    rw [← ei] at kd
    match f, hf with
    | 0, hf => exact absurd hf (by omega)
    | f + 1, hf =>
      have er : rdX 0 3 (lxL tp n (f + 1) p) o es = if lxT tp n p = 0 then Sum.inr (o, es) else Sum.inl (lxQ tp n p) := rfl
      rw [er] at hq0 hq1
      rw [gk.1, k17]
      refine ⟨fun z => ?_, fun z => ?_⟩
      · have z2 : ¬ lxT tp n p = 0 := fun y => z (kd.mpr y)
        rw [if_neg z2] at hq0
        exact hq0 _ T2 rfl fx
      · rw [if_pos (kd.mp z)] at hq1
        refine hq1 o es T2 rfl fx ⟨?_, fun i hi => ?_⟩ (fun i hi => ?_)
        · rw [fa.2 22 (by decide), g0]; exact ho.1
        · rw [fa.1 9 (by decide), g9]; exact ho.2 i hi
        · rw [fa.1 10 (by decide), g10]
          by_cases c : i = 3
          · rw [c, up_s, hol]
          · rw [up_n (by omega)]
            exact h10 i (by omega)
  | succ m ih =>
    intro j f p T o es hj hes hol h8 h13 h14 hrw hp hf h19 ho h10 hl hq0 hq1
    rw [w_X8_readText_12]
    refine ⟨fun z => absurd z (nI_ge (b := 3) (by omega) (by decide)), fun _ => ?_⟩
    refine m_readToken hrw h13 h160 hp h19 (fun T1 fa k17 k19 gk => ?_)
    rw [h8] at k17 k19 gk
    have e6 : (6 : Int32) + nI j = nI (6 + j) := nI_add 6 j
    rw [e6]
    match f, hf with
    | 0, hf => exact absurd hf (by omega)
    | f + 1, hf =>
      have er : rdX (m + 1) j (lxL tp n (f + 1) p) o es = if lxT tp n p = nI (6 + j) then (match rdE (if lxT tp n p = 0 then [] else lxL tp n f (lxE tp n p)) o with
        | Sum.inl q => Sum.inl q
        | Sum.inr x => rdX m (j + 1) x.1 x.2 (es ++ [x.2.length])) else Sum.inl (lxQ tp n p) := rfl
      have el : (lxL tp n (f + 1) p).length = (if lxT tp n p = 0 then ([] : List rdT) else lxL tp n f (lxE tp n p)).length + 1 := rfl
      rw [er] at hq0 hq1
      rw [el] at hl
      refine m_isKey (kd_j ⟨j, by omega⟩) gk lxT_r ?_
      by_cases c : lxT tp n p = nI (6 + j)
      · rw [bI_t c]
        have hn : ¬ lxT tp n p = 0 := fun z => by
          rw [c] at z
          have := (nI_eq (b := 0) (by omega) (by decide)).mp z
          omega
        obtain ⟨x1, x2, x3⟩ := lx_not0 hp hn
        rw [if_pos c, if_neg hn] at hq0 hq1
        rw [if_neg hn] at hl
        refine ⟨fun _ => ?_, fun z => absurd z (by decide)⟩
        rw [fa.2 14 (by decide), h14]
        have e4 : (4 : Int32) * nI k + nI j = nI (4 * k + j) := by
          rw [show (4 : Int32) * nI k = nI (4 * k) from pk_mul 4 k, nI_add]
        rw [e4, nI_clamp (by omega)]
        refine ⟨nI_in (by omega) (by decide), fun S6 q6 => ?_⟩
        rw [fa.2 22 (by decide), ho.1] at q6
        have f6 : FX k T S6 := fa.fm.fx.tr (by rw [q6]; exact fx_10 (by omega))
        have g0 : S6 0 = T1 0 := by rw [q6, ms_n (by decide)]
        have g9 : S6 9 = T 9 := by rw [q6, ms_n (by decide), fa.1 9 (by decide)]
        have g10 : S6 10 = upd (T 10) (4 * k + j) (nI o.length) := by rw [q6, ms_s, fa.1 10 (by decide)]
        clear q6
        have g8 : S6 8 = tp := (f6.1 8 (by decide) (by decide) (by decide) (by decide)).trans h8
        have grw : RW S6 := by
          unfold RW
          rw [f6.1 6 (by decide) (by decide) (by decide) (by decide), f6.1 7 (by decide) (by decide) (by decide) (by decide)]
          exact hrw
        have go : MO k S6 o := ⟨by rw [g0, fa.2 22 (by decide)]; exact ho.1, fun i hi => by rw [g9]; exact ho.2 i hi⟩
        refine m_readOne (tp := tp) (f := f) (p := lxE tp n p) (o := o) hk h160 g8 ((f6.2.1 13 (by decide)).trans h13) ((f6.2.1 14 (by decide)).trans h14) grw x3 (by omega) (by rw [g0]; exact k19) go (by omega) (fun q T2 a1 a2 a3 => ?_) (fun l2 o2 T2 a1 a2 a3 a4 => ?_)
        · rw [a1] at hq0
          try dsimp only
          rw [a3]
          refine ⟨fun z => absurd rfl z, fun _ => hq0 q T2 rfl (f6.tr a2.fx)⟩
        · obtain ⟨f2, p2, b1, b2, b3, b4⟩ := a4
          have ys := (pg_E _ _ _ _ a1).1.sz
          rw [a1] at hq0 hq1
          refine ⟨fun _ z8 e8 => ?_, fun z => absurd z (by decide)⟩
          rw [e8, nI_1]
          have fx := f6.tr a2.fx
          subst b3
          refine ih (j + 1) f2 p2 T2 o2 (es ++ [o2.length]) (by omega) (by rw [List.length_append, List.length_singleton, hes]) ?_ ((a2.1 8 (by decide) (by decide) (by decide)).trans g8) ((fx.2.1 13 (by decide)).trans h13) ((fx.2.1 14 (by decide)).trans h14) ?_ b1 b2 b4 a3 (fun i hi => ?_) (by omega) (fun q T3 c1 c2 => hq0 q T3 c1 (fx.tr c2)) (fun o3 es3 T3 c1 c2 c3 c4 => hq1 o3 es3 T3 c1 (fx.tr c2) c3 c4)
          · show o2.length = (es ++ [o2.length]).getD j 0
            rw [← hes, gn_r]
          · unfold RW
            rw [a2.1 6 (by decide) (by decide) (by decide), a2.1 7 (by decide) (by decide) (by decide)]
            exact grw
          · rw [a2.1 10 (by decide) (by decide) (by decide), g10, g0_l (by omega)]
            by_cases ci : i = j
            · rw [ci, up_s, hol]
            · rw [up_n (by omega)]
              exact h10 i (by omega)
      · rw [bI_f c]
        rw [if_neg c] at hq0
        refine ⟨fun z => absurd rfl z, fun _ => ?_⟩
        rw [k17]
        exact hq0 _ T1 rfl fa.fm.fx
theorem m_readText {post : Int32 → Mem → Prop} (hk : k < 6) (h160 : n ≤ 160) (h8 : T 8 = tp) (h13 : T 0 13 = nI n) (h14 : T 0 14 = nI k) (hrw : RW T) (hq0 : ∀ q T2, rdX 3 0 (tks tp n) [] [] = Sum.inl q → FX k T T2 → post (nI q) T2) (hq1 : ∀ o2 es2 T2, rdX 3 0 (tks tp n) [] [] = Sum.inr (o2, es2) → FX k T T2 → MO k T2 o2 → (∀ i, i < 4 → T2 10 (4 * k + i) = nI ((0 :: es2).getD i 0)) → post (-1) T2) : w_X8_readText T post := by
  unfold w_X8_readText
  intro S1 e1 S2 e2
  have f1 : FX k T S1 := FA.fm (by rw [e1]; exact FA.rf.up (by decide)) |>.fx
  have f2 : FX k S1 S2 := FN.fm (by rw [e2]; exact FN.rf.up (by decide)) |>.fx
  have fx := f1.tr f2
  have g19 : S2 0 19 = 0 := by rw [e2, ms_s, up_n (by decide), e1, ms_s, up_s]
  have g22 : S2 0 22 = 0 := by rw [e2, ms_s, up_s]
  have hl := lxL_len (n := n) (tp := tp) (n + 1) 0
  refine ⟨4, m_rtLoop (tp := tp) hk h160 3 0 (n + 1) 0 S2 [] [] rfl rfl rfl ((fx.1 8 (by decide) (by decide) (by decide) (by decide)).trans h8) ((fx.2.1 13 (by decide)).trans h13) ((fx.2.1 14 (by decide)).trans h14) ?_ (Nat.zero_le _) (by omega) g19 ⟨g22, fun i hi => absurd hi (by simp)⟩ (fun i hi => absurd hi (by omega)) (by rw [List.length_nil]; omega) (fun q T2 a1 a2 => hq0 q T2 a1 (fx.tr a2)) (fun o2 es2 T2 a1 a2 a3 a4 => hq1 o2 es2 T2 a1 (fx.tr a2) a3 a4)⟩
  unfold RW
  rw [fx.1 6 (by decide) (by decide) (by decide) (by decide), fx.1 7 (by decide) (by decide) (by decide) (by decide)]
  exact hrw
end
end
