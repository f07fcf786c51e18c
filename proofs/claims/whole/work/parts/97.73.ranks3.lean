/-! PURE, 58: the model reads the tape -/
section
variable {S T S' T' : Mem} {a1 a2 a3 a4 a5 : Int32}
theorem lxV_b {tp : Nat → Int32} {n p : Nat} (hp : p ≤ n) (h : lxT tp n p = 2) : bnd (lxV tp n p) 0 9999 := by
  have hq := (lxQ_b (tp := tp) hp).2
  unfold lxT at h
  unfold lxV
  generalize lxQ tp n p = q at h hq ⊢
  rw [lxTq] at h
  by_cases c : n ≤ q
  · rw [if_pos c] at h
    exact absurd h (by decide)
  · rw [if_neg c] at h
    by_cases c1 : 97 ≤ tp q ∧ tp q ≤ 122
    · rw [if_pos c1] at h
      have y := lxW_c (seg tp q (lxEq tp n q))
      rw [h] at y
      exact absurd y (by decide)
    · rw [if_neg c1] at h
      by_cases c2 : 48 ≤ tp q ∧ tp q ≤ 57
      · rw [if_pos c2] at h
        by_cases c3 : 4 < lxEq tp n q - q
        · rw [if_pos c3] at h
          exact absurd h (by decide)
        · have ee : lxEq tp n q = lxR tp 48 57 (n - q) q := by rw [lxEq, if_neg c, if_neg c1, if_pos c2]
          have eb := lxEq_b (tp := tp) hq
          obtain ⟨m, hm, em⟩ := lxN_b (tp := tp) (q := q) (lxEq tp n q - q) (by omega) (fun i h1 h2 => lxR_in (n - q) q i h1 (by rw [← ee]; omega))
          have h10 : 10 ^ (lxEq tp n q - q) ≤ 10 ^ 4 := Nat.pow_le_pow_right (by decide) (by omega)
          rw [lxVq, em]
          unfold bnd
          rw [nI_toInt (by omega)]
          omega
      · rw [if_neg c2] at h
        have y := lxG_c (tp q)
        rw [h] at y
        exact absurd y (by decide)
theorem lxL_G {tp : Nat → Int32} {n : Nat} : ∀ (f p : Nat), p ≤ n → rdG (lxL tp n f p) := by
  intro f
  induction f with
  | zero => intro p _ x hx; exact absurd hx (by simp [lxL])
  | succ f ih =>
    intro p hp x hx
    rw [lxL] at hx
    rcases List.mem_cons.mp hx with e | e
    · rw [e]
      exact fun h => lxV_b hp h
    · by_cases c : lxT tp n p = 0
      · rw [if_pos c] at e
        exact absurd e (by simp)
      · rw [if_neg c] at e
        exact ih _ (lx_not0 hp c).2.2 x e
section
variable {k n : Nat} {tp : Nat → Int32}
theorem bb_0 (b : Bool) : (bb b = 0) ↔ b = false := by
  cases b <;> decide
theorem m_oneLoop {post : Int32 → Mem → Prop} (hk : k < 6) (h160 : n ≤ 160) : ∀ (f p : Nat) (T : Mem) (b mn : Bool) (w o : rdO), T 8 = tp → T 0 13 = nI n → T 0 14 = nI k → RW T → p ≤ n → n + 1 ≤ f + p → T 0 19 = nI p → MW T w → MO k T o → T 0 25 = 0 → T 0 26 = bb b → T 0 27 = bb mn → o.length + w.length + (lxL tp n f p).length ≤ 160 → (∀ q T2, rkRun (lxL tp n f p) b mn w o = Sum.inl q → FM k T T2 → T2 0 17 = nI q → post 0 T2) → (∀ l2 o2 T2, rkRun (lxL tp n f p) b mn w o = Sum.inr (l2, o2) → FM k T T2 → MO k T2 o2 → (∃ f2 p2, p2 ≤ n ∧ n + 1 ≤ f2 + p2 ∧ l2 = lxL tp n f2 p2 ∧ T2 0 19 = nI p2) → post 1 T2) → w_X8_readOne_22 post (f + 1) 1 T := by
  intro f
  induction f with
  | zero => intro p T b mn w o _ _ _ _ hp hf; exact absurd hf (by omega)
  | succ f ih =>
    intro p T b mn w o h8 h13 h14 hrw hp hf h19 hw ho h25 h26 h27 hl hq0 hq1
    rw [w_X8_readOne_22, h25]
    refine ⟨fun z => absurd z (by decide), fun _ => ⟨fun z => absurd rfl z, fun _ => m_readToken hrw h13 h160 hp h19 (fun T1 fa g17 g19 gk => ?_)⟩⟩
    rw [h8] at g17 g19 gk
    have e1 : lxL tp n (f + 1) p = (lxT tp n p, lxV tp n p, lxQ tp n p) :: (if lxT tp n p = 0 then [] else lxL tp n f (lxE tp n p)) := rfl
    rw [e1] at hq0 hq1 hl
    rw [List.length_cons] at hl
    have k8 : T1 8 = tp := (fa.1 8 (by decide)).trans h8
    have k13 : T1 0 13 = nI n := (fa.2 13 (by decide)).trans h13
    have k14 : T1 0 14 = nI k := (fa.2 14 (by decide)).trans h14
    have k25 : T1 0 25 = 0 := (fa.2 25 (by decide)).trans h25
    have k26 : T1 0 26 = bb b := (fa.2 26 (by decide)).trans h26
    have k27 : T1 0 27 = bb mn := (fa.2 27 (by decide)).trans h27
    have krw : RW T1 := by
      unfold RW
      rw [fa.1 6 (by decide), fa.1 7 (by decide)]
      exact hrw
    have kw : MW T1 w := ⟨by rw [fa.2 24 (by decide)]; exact hw.1, hw.2.1.cg (fun i _ => by rw [fa.1 11 (by decide)]), hw.2.2⟩
    have ko : MO k T1 o := ⟨by rw [fa.2 22 (by decide)]; exact ho.1, fun i hi => by rw [fa.1 9 (by decide)]; exact ho.2 i hi⟩
    have hr : RG (lxT tp n p) := lxT_r
    have hv : lxT tp n p = 2 → 0 ≤ lxV tp n p := fun z => by
      rw [i_le, I0]
      exact (lxV_b hp z).1
    have ex : ∀ T2, FN k T1 T2 → rkRun (((lxT tp n p, lxV tp n p, lxQ tp n p) : rdT) :: (if lxT tp n p = 0 then [] else lxL tp n f (lxE tp n p))) b mn w o = Sum.inl (lxQ tp n p) → w_X8_readOne_22 post (f + 1) 0 T2 := by
      intro T2 f2 h
      rw [w_X8_readOne_22]
      unfold w_X8_readOne_59
      refine ⟨fun _ => ⟨Or.inl rfl, hq0 _ T2 h (fa.fm.tr f2.fm) ?_⟩, fun z => absurd rfl z⟩
      rw [f2.2.1 17 (by decide)]
      exact g17
    have nx : ∀ (b2 mn2 : Bool) (w2 o2 : rdO) (T2 : Mem), ¬ lxT tp n p = 0 → rkRun (((lxT tp n p, lxV tp n p, lxQ tp n p) : rdT) :: (if lxT tp n p = 0 then [] else lxL tp n f (lxE tp n p))) b mn w o = rkRun (lxL tp n f (lxE tp n p)) b2 mn2 w2 o2 → o2.length + w2.length ≤ o.length + w.length + 1 → FN k T1 T2 → T2 0 25 = 0 → MW T2 w2 → MO k T2 o2 → T2 0 26 = bb b2 → T2 0 27 = bb mn2 → w_X8_readOne_22 post (f + 1) 1 T2 := by
      intro b2 mn2 w2 o2 T2 hn he hlen f2 r25 rw2 ro2 r26 r27
      obtain ⟨x1, x2, x3⟩ := lx_not0 hp hn
      rw [if_neg hn] at hl hq0 hq1 he
      have fm := fa.fm.tr f2.fm
      refine ih (lxE tp n p) T2 b2 mn2 w2 o2 ((f2.1 8 (by decide) (by decide) (by decide)).trans k8) ((f2.2.1 13 (by decide)).trans k13) ((f2.2.1 14 (by decide)).trans k14) ?_ x3 (by omega) ((f2.2.1 19 (by decide)).trans g19) rw2 ro2 r25 r26 r27 (by omega) (fun q T3 a1 a2 a3 => hq0 q T3 (he.trans a1) (fm.tr a2) a3) (fun l3 o3 T3 a1 a2 a3 a4 => hq1 l3 o3 T3 (he.trans a1) (fm.tr a2) a3 a4)
      unfold RW
      rw [f2.1 6 (by decide) (by decide) (by decide), f2.1 7 (by decide) (by decide) (by decide)]
      exact krw
    unfold w_X8_readOne_55
    try dsimp only
    rw [k26]
    cases b with
    | true =>
      refine ⟨fun z => absurd z (by decide), fun _ => ?_⟩
      refine m_begins hk k14 gk hr hv kw ko (by omega) k25 k26 k27 (fun hK T2 f2 => ex T2 f2 (hK _ _)) (fun b2 mn2 w2 o2 hK hlen T2 f2 r25 rw2 ro2 r26 r27 => ?_)
      have hn : ¬ lxT tp n p = 0 := fun z => by
        have g := hK (fun _ _ _ _ => Sum.inr ([], [])) 0
        rw [z] at g
        unfold rkB at g
        rw [if_neg (by decide), if_neg (by decide), if_neg (fun y => absurd y.1 (by decide)), if_neg (by decide), if_neg (by decide)] at g
        exact absurd g (by simp)
      refine nx b2 mn2 w2 o2 T2 hn ?_ hlen f2 r25 rw2 ro2 r26 r27
      rw [if_neg hn]
      exact hK _ _
    | false =>
      refine ⟨fun _ => ?_, fun z => absurd rfl z⟩
      refine m_follows hk k14 gk hr kw ko (by omega) k25 k26 k27 (fun hK T2 f2 => ex T2 f2 (hK _ _ _)) (fun b2 mn2 w2 o2 hK hlen T2 f2 r25 rw2 ro2 r26 r27 => ?_) (fun o2 hK hlen T2 f2 r25 ro2 => ?_)
      · have hn : ¬ lxT tp n p = 0 := fun z => by
          have g := hK (fun _ _ _ _ => Sum.inr ([], [])) 0 []
          rw [z] at g
          unfold rkA at g
          rw [if_neg (by decide), if_neg (by decide), if_neg (fun y => absurd y.1 (by decide)), if_neg (fun y => absurd y.1 (by decide))] at g
          exact absurd g (by simp)
        refine nx b2 mn2 w2 o2 T2 hn ?_ hlen f2 r25 rw2 ro2 r26 r27
        rw [if_neg hn]
        exact hK _ _ _
      · have hn : ¬ lxT tp n p = 0 := fun z => by
          have g := hK (fun _ _ _ _ => Sum.inl 0) 0 []
          rw [z] at g
          unfold rkA at g
          rw [if_neg (by decide), if_neg (by decide), if_neg (fun y => absurd y.1 (by decide)), if_neg (fun y => absurd y.1 (by decide))] at g
          exact absurd g (by simp)
        obtain ⟨x1, x2, x3⟩ := lx_not0 hp hn
        rw [w_X8_readOne_22, r25]
        unfold w_X8_readOne_59
        refine ⟨fun z => absurd z (by decide), fun _ => ⟨fun _ => ⟨Or.inr rfl, ?_⟩, fun z => absurd z (by decide)⟩⟩
        rw [if_neg hn] at hq1
        exact hq1 (lxL tp n f (lxE tp n p)) o2 T2 (hK _ _ _) (fa.fm.tr f2.fm) ro2 ⟨f, lxE tp n p, x3, by omega, rfl, (f2.2.1 19 (by decide)).trans g19⟩
theorem m_readOne {post : Int32 → Mem → Prop} {f p : Nat} {o : rdO} (hk : k < 6) (h160 : n ≤ 160) (h8 : T 8 = tp) (h13 : T 0 13 = nI n) (h14 : T 0 14 = nI k) (hrw : RW T) (hp : p ≤ n) (hf : n + 1 ≤ f + p) (h19 : T 0 19 = nI p) (ho : MO k T o) (hl : o.length + (lxL tp n f p).length ≤ 160) (hq0 : ∀ q T2, rdE (lxL tp n f p) o = Sum.inl q → FM k T T2 → T2 0 17 = nI q → post 0 T2) (hq1 : ∀ l2 o2 T2, rdE (lxL tp n f p) o = Sum.inr (l2, o2) → FM k T T2 → MO k T2 o2 → (∃ f2 p2, p2 ≤ n ∧ n + 1 ≤ f2 + p2 ∧ l2 = lxL tp n f2 p2 ∧ T2 0 19 = nI p2) → post 1 T2) : w_X8_readOne T post := by
  unfold w_X8_readOne
  intro S1 e1 S2 e2 S3 e3 S4 e4
  have f1 : FN k T S1 := by rw [e1]; exact FN.rf.up (by decide)
  have f2 : FN k T S2 := by rw [e2]; exact f1.up (by decide)
  have f3 : FN k T S3 := by rw [e3]; exact f2.up (by decide)
  have f4 : FN k T S4 := by rw [e4]; exact f3.up (by decide)
  have g0 : S4 0 = upd (upd (upd (upd (T 0) 24 0) 25 0) 26 1) 27 1 := by
    rw [e4, ms_s, e3, ms_s, e2, ms_s, e1, ms_s]
  have g9 : S4 9 = T 9 := by
    rw [e4, ms_n (by decide), e3, ms_n (by decide), e2, ms_n (by decide), e1, ms_n (by decide)]
  clear e1 e2 e3 e4
  refine ⟨f + 1, m_oneLoop (tp := tp) hk h160 f p S4 true true [] o ((f4.1 8 (by decide) (by decide) (by decide)).trans h8) ((f4.2.1 13 (by decide)).trans h13) ((f4.2.1 14 (by decide)).trans h14) ?_ hp hf ((f4.2.1 19 (by decide)).trans h19) ⟨by rw [g0]; rfl, trivial, fun x hx => absurd hx (by simp)⟩ ⟨by rw [g0]; exact ho.1, fun i hi => by rw [g9]; exact ho.2 i hi⟩ (by rw [g0]; rfl) (by rw [g0]; rfl) (by rw [g0]; rfl) (by rw [List.length_nil]; omega) (fun q T2 a1 a2 a3 => ?_) (fun l2 o2 T2 a1 a2 a3 a4 => ?_)⟩
  · unfold RW
    rw [f4.1 6 (by decide) (by decide) (by decide), f4.1 7 (by decide) (by decide) (by decide)]
    exact hrw
  · rw [rd_eq (by omega)] at a1
    exact hq0 q T2 a1 (f4.fm.tr a2) a3
  · rw [rd_eq (by omega)] at a1
    exact hq1 l2 o2 T2 a1 (f4.fm.tr a2) a3 a4
end
end
