/-! PURE, 52: the class reads the tape -/
section
variable {S T S' T' : Mem} {a1 a2 a3 a4 a5 : Int32}
abbrev rdX2 := Sum Nat (rdO × List Nat)
def rdX : Nat → Nat → List rdT → rdO → List Nat → rdX2
  | 0, _, l, o, es => if rdH l = 0 then Sum.inr (o, es) else Sum.inl (rdQ l)
  | m + 1, k, l, o, es => if rdH l = nI (6 + k) then (match rdE l.tail o with
    | Sum.inl q => Sum.inl q
    | Sum.inr x => rdX m (k + 1) x.1 x.2 (es ++ [x.2.length])) else Sum.inl (rdQ l)
def XZ (Q : Int32 → Mem → (Mem → Prop) → Prop) (x : Int32) : Prop := ∀ (S : Mem) (q : Nat) (post : Mem → Prop), CF S q → (∀ S2, XF S S2 → CF S2 q → post S2) → Q x S post
theorem z_one {Q1 Q2 : Int32 → Mem → (Mem → Prop) → Prop} {x : Int32} : XZ (w_X1_readOneB Q1 Q2) x := by
  intro S q post h hq
  unfold w_X1_readOneB w_X1_readOneB_91 w_X1_readOneB_123 w_X1_readOneB_127
  rw [x_isName, h.1, bI_f (by decide)]
  refine ⟨fun _ => ⟨fun _ => ⟨fun _ => ⟨fun _ => h.fail hq, fun z => absurd z (by decide)⟩, fun z => absurd z (by decide)⟩, fun z => absurd rfl z⟩, fun z => absurd z (by decide)⟩
theorem z_Term {Q : Int32 → Mem → (Mem → Prop) → Prop} {x : Int32} (hz : XZ Q x) : XZ (w_X1_readTermB Q) x := by
  intro S q post h hq
  unfold w_X1_readTermB
  refine hz S q _ h (fun S1 f1 c1 => ⟨1, ?_⟩)
  rw [w_X1_readTermB_7]
  unfold w_X1_readTermB_47
  rw [c1.1]
  have fin := hq S1 f1 c1
  exact ⟨fun _ => fin, fun _ => ⟨fun _ => fin, fun y => absurd y (by decide)⟩⟩
theorem z_And {Q : Int32 → Mem → (Mem → Prop) → Prop} {x : Int32} (hz : XZ Q x) : XZ (w_X1_readAndB Q) x := by
  intro S q post h hq
  unfold w_X1_readAndB
  refine hz S q _ h (fun S1 f1 c1 => ⟨1, ?_⟩)
  rw [w_X1_readAndB_7]
  unfold w_X1_readAndB_47
  rw [c1.1]
  have fin := hq S1 f1 c1
  exact ⟨fun _ => fin, fun _ => ⟨fun _ => fin, fun y => absurd y (by decide)⟩⟩
theorem z_Or {Q : Int32 → Mem → (Mem → Prop) → Prop} {x : Int32} (hz : XZ Q x) : XZ (w_X1_readOrB Q) x := by
  intro S q post h hq
  unfold w_X1_readOrB
  refine hz S q _ h (fun S1 f1 c1 => ⟨1, ?_⟩)
  rw [w_X1_readOrB_7]
  unfold w_X1_readOrB_47
  rw [c1.1]
  have fin := hq S1 f1 c1
  exact ⟨fun _ => fin, fun _ => ⟨fun _ => fin, fun y => absurd y (by decide)⟩⟩
theorem z_Sum {Q : Int32 → Mem → (Mem → Prop) → Prop} {x : Int32} (hz : XZ Q x) : XZ (w_X1_readSumB Q) x := by
  intro S q post h hq
  unfold w_X1_readSumB
  refine hz S q _ h (fun S1 f1 c1 => ⟨1, ?_⟩)
  rw [w_X1_readSumB_7]
  unfold w_X1_readSumB_60
  rw [c1.1]
  have fin := hq S1 f1 c1
  exact ⟨fun _ => fin, fun _ => ⟨fun y => absurd y (by decide), fun _ => ⟨fun _ => fin, fun y => absurd y (by decide)⟩⟩⟩
theorem z_not {Q1 Q2 : Int32 → Mem → (Mem → Prop) → Prop} {x : Int32} (hz : XZ Q2 x) : XZ (w_X1_readNotB Q1 Q2) x := by
  intro S q post h hq
  unfold w_X1_readNotB w_X1_readNotB_85
  rw [h.1]
  refine ⟨fun _ => hz S q _ h (fun S1 f1 c1 => ?_), fun z => absurd z (by decide)⟩
  rw [c1.1]
  exact ⟨fun y => absurd y (by decide), fun _ => ⟨fun _ => hq S1 f1 c1, fun y => absurd y (by decide)⟩⟩
theorem z_readOr : XZ (fun x S post => w_X1_readOr x S post) 0 := by
  have a5 : XZ (wRec 55 5) 0 := z_one (Q1 := wRec 54 5) (Q2 := wRec 54 0)
  have a4 : XZ (wRec 56 4) 0 := z_Term a5
  have a3 : XZ (wRec 57 3) 0 := z_Sum a4
  have a2 : XZ (wRec 58 2) 0 := z_not (Q1 := wRec 57 2) a3
  have a1 : XZ (wRec 59 1) 0 := z_And a2
  exact z_Or a1
def XG (S S2 : Mem) : Prop := ∀ c, c ≠ 15 → c ≠ 17 → c ≠ 18 → c ≠ 19 → S2 c = S c
theorem XF.xg {S2 : Mem} (h : XF S S') (h2 : XG S' S2) : XG S S2 := fun c c1 c2 c3 c4 => (h2 c c1 c2 c3 c4).trans (h.1 c c1 c2 c3)
theorem XG.rf : XG S S := fun _ _ _ _ _ => rfl
def ES (S : Mem) (es : List Nat) : Prop := ∀ j, j < es.length → S 19 j = nI (es.getD j 0)
theorem ES.go {es : List Nat} {S2 : Mem} (h : ES S es) (f : XF S S2) : ES S2 es := fun j hj => by
  rw [f.1 19 (by decide) (by decide) (by decide)]
  exact h j hj
theorem gn_l {es : List Nat} {s : Nat} {i : Nat} (h : i < es.length) : (es ++ [s]).getD i 0 = es.getD i 0 := by
  rw [List.getD_eq_getElem?_getD, List.getD_eq_getElem?_getD, List.getElem?_append_left h]
theorem gn_r {es : List Nat} {s : Nat} : (es ++ [s]).getD es.length 0 = s := by
  rw [List.getD_eq_getElem?_getD, List.getElem?_append_right (Nat.le_refl _), Nat.sub_self]
  rfl
theorem x_endPart {post : Mem → Prop} {k : Nat} (hk : k < 3) (hq : post (mset S 19 (upd (S 19) k (S 17 2)))) : w_X2_endPart 17 (nI k) S post := by
  unfold w_X2_endPart w_X2_endPart_19
  rw [x_within, bI_t ⟨nI_pos' (by omega), nI_le (b := 2) (by omega) (by decide)⟩]
  refine ⟨fun z => absurd z (by decide), fun _ => ⟨nI_in hk (by decide), fun S2 e2 => ?_⟩⟩
  rw [nI_clamp (by omega)] at e2
  rw [e2]
  exact hq
section
variable {tp : Nat → Int32} {n : Nat} {post : Int32 → Mem → Prop}
theorem x_rt72 {q : Nat} (h : CF S q) (hq : ∀ S2, XG S S2 → S2 15 2 = 0 → post (nI q) S2) : w_X1_readTape_72 post S := by
  unfold w_X1_readTape_72
  intro S1 e1
  have e7 : S1 15 7 = nI q := by
    rw [e1, ms_s, up_n (by decide)]
    exact h.2.1.1
  rw [e7]
  exact hq S1 (fun c c1 _ _ _ => by rw [e1]; exact ms_n c1) (by rw [e1, ms_s, up_s])
theorem z_rtLoop {q : Nat} : ∀ (m k : Nat) (S : Mem), k + m = 3 → CF S q → (∀ S2, XG S S2 → S2 15 2 = 0 → post (nI q) S2) → w_X1_readTape_24 post (m + 1) (nI k) S := by
  intro m
  induction m with
  | zero =>
    intro k S hk h hq
    rw [w_X1_readTape_24, h.1]
    have e : k = 3 := by omega
    rw [e]
    refine ⟨fun _ => ⟨fun z => absurd z (by decide), fun _ => h.fail (fun S1 f1 c1 => x_rt72 c1 (fun S2 g2 z2 => hq S2 (f1.xg g2) z2))⟩, fun z => absurd (by decide) z⟩
  | succ m ih =>
    intro k S hk h hq
    rw [w_X1_readTape_24]
    refine ⟨fun z => absurd z (nI_ge (b := 3) (by omega) (by decide)), fun _ => ?_⟩
    have h6 : (6 : Int32) + nI k = nI (6 + k) := nI_add 6 k
    rw [h6]
    refine h.acc (fun z => ?_) (fun S1 f1 c1 => z_readOr S1 q _ c1 (fun S2 f2 c2 => c2.acc (by decide) (fun S3 f3 c3 => x_endPart (by omega) (fun z4 e4 => ?_))))
    · have := (nI_eq (b := 1) (by omega) (by decide)).mp z
      omega
    · rw [e4, nI_1]
      refine ih _ _ (by omega) ?_ (fun S5 g5 z5 => hq S5 (((f1.tr f2).tr f3).xg (fun c q1 q2 q3 q4 => (g5 c q1 q2 q3 q4).trans (ms_n q4))) z5)
      obtain ⟨d3, d7, dk⟩ := c3
      exact ⟨d3, d7, dk⟩
theorem x_rtLoop (h160 : n ≤ 160) : ∀ (m k : Nat) (S : Mem) (l : List rdT) (o : rdO) (es : List Nat), k + m = 3 → es.length = k → CR tp n S l o → ES S es → o.length + l.length ≤ 161 → o.length ≤ 160 → (∀ q S2, rdX m k l o es = Sum.inl q → q ≤ 160 → XG S S2 → S2 15 2 = 0 → post (nI q) S2) → (∀ o2 es2 S2, rdX m k l o es = Sum.inr (o2, es2) → XG S S2 → S2 15 2 = 0 → CC S2 o2 → ES S2 es2 → post (-1) S2) → w_X1_readTape_24 post (m + 1) (nI k) S := by
  intro m
  induction m with
  | zero =>
    intro k S l o es hk he h hes ho ho2 hq hq2
    rw [w_X1_readTape_24, h.hd.1]
    have e : k = 3 := by omega
    rw [e]
    rw [rdX] at hq hq2
    refine ⟨fun _ => ⟨fun z => ?_, fun z => ?_⟩, fun z => absurd (by decide) z⟩
    · rw [if_pos z] at hq2
      unfold w_X1_readTape_72
      intro S1 e1
      obtain ⟨-, -, h7, hc, -⟩ := h
      have e7 : S1 15 7 = -1 := by
        rw [e1, ms_s, up_n (by decide)]
        exact h7
      rw [e7]
      refine hq2 _ _ S1 rfl (fun c c1 _ _ _ => by rw [e1]; exact ms_n c1) (by rw [e1, ms_s, up_s]) ⟨?_, ?_⟩ ?_
      · rw [e1, ms_n (by decide)]; exact hc.1
      · rw [e1, ms_n (by decide)]; exact hc.2
      · intro j hj
        rw [e1, ms_n (by decide)]
        exact hes j hj
    · rw [if_neg z] at hq
      exact h.fail h160 ho2 (fun S1 f1 c1 => x_rt72 c1 (fun S2 g2 z2 => hq _ S2 rfl c1.2.1.2 (f1.xg g2) z2))
  | succ m ih =>
    intro k S l o es hk he h hes ho ho2 hq hq2
    rw [w_X1_readTape_24]
    refine ⟨fun z => absurd z (nI_ge (b := 3) (by omega) (by decide)), fun _ => ?_⟩
    have h6 : (6 : Int32) + nI k = nI (6 + k) := nI_add 6 k
    have hne : ∀ j : Nat, j < 6 → ¬ nI (6 + k) = nI j := fun j hj z => by
      have := (nI_eq (by omega) (by omega)).mp z
      omega
    rw [h6]
    rw [rdX] at hq hq2
    refine h.acc h160 ho2 (hne 0 (by decide)) (fun S1 f1 c1 => ?_)
    unfold rdAcc at c1
    by_cases c : rdH l = nI (6 + k)
    · rw [if_pos c] at c1 hq hq2
      have c1 : CR tp n S1 l.tail o := c1
      have hlt := len_tl2 (l := l) (by rw [c]; exact hne 0 (by decide))
      refine ((x_rec h160 5 (Nat.le_refl _)).2.2 60 (by decide)) S1 l.tail o _ c1 (by omega) (fun S2 f2 c2 => ?_)
      unfold rdE at hq hq2
      generalize hr : (rdL 5).2.2 l.tail o = r at c2 hq hq2
      match r, hr, c2, hq, hq2 with
      | Sum.inl q, hr, c2, hq, hq2 =>
        have c2 : CF S2 q := c2
        have hq : ∀ q2 S2, (Sum.inl q : rdX2) = Sum.inl q2 → q2 ≤ 160 → XG S S2 → S2 15 2 = 0 → post (nI q2) S2 := hq
        refine c2.acc (by decide) (fun S3 f3 c3 => x_endPart (by omega) (fun z4 e4 => ?_))
        rw [e4, nI_1]
        refine z_rtLoop _ _ _ (by omega) ?_ (fun S5 g5 z5 => hq _ S5 rfl c2.2.1.2 (((f1.tr f2).tr f3).xg (fun c q1 q2 q3 q4 => (g5 c q1 q2 q3 q4).trans (ms_n q4))) z5)
        obtain ⟨d3, d7, dk⟩ := c3
        exact ⟨d3, d7, dk⟩
      | Sum.inr (l1, o1), hr, c2, hq, hq2 =>
        have c2 : CR tp n S2 l1 o1 := c2
        obtain ⟨y, y2⟩ := (pg_L 5).2.2 _ _ _ _ hr
        have ys := y.sz
        refine c2.acc h160 (by omega) (by decide) (fun S3 f3 c3 => x_endPart (by omega) (fun z4 e4 => ?_))
        rw [e4, nI_1]
        have frx : ∀ S5, XG (mset S3 19 (upd (S3 19) k (S3 17 2))) S5 → XG S S5 := fun S5 g5 => ((f1.tr f2).tr f3).xg (fun c q1 q2 q3 q4 => (g5 c q1 q2 q3 q4).trans (ms_n q4))
        have hq : ∀ q2 S2, (match (rdAcc 5 l1 o1 : rdR) with
          | Sum.inl q => Sum.inl q
          | Sum.inr x => rdX m (k + 1) x.1 x.2 (es ++ [x.2.length])) = Sum.inl q2 → q2 ≤ 160 → XG S S2 → S2 15 2 = 0 → post (nI q2) S2 := hq
        have hq2 : ∀ o2 es2 S2, (match (rdAcc 5 l1 o1 : rdR) with
          | Sum.inl q => Sum.inl q
          | Sum.inr x => rdX m (k + 1) x.1 x.2 (es ++ [x.2.length])) = Sum.inr (o2, es2) → XG S S2 → S2 15 2 = 0 → CC S2 o2 → ES S2 es2 → post (-1) S2 := hq2
        unfold rdAcc at c3 hq hq2
        by_cases c5 : rdH l1 = 5
        · rw [if_pos c5] at c3 hq hq2
          have c3 : CR tp n S3 l1.tail o1 := c3
          have hq : ∀ q2 S2, rdX m (k + 1) l1.tail o1 (es ++ [o1.length]) = Sum.inl q2 → q2 ≤ 160 → XG S S2 → S2 15 2 = 0 → post (nI q2) S2 := hq
          have hq2 : ∀ o2 es2 S2, rdX m (k + 1) l1.tail o1 (es ++ [o1.length]) = Sum.inr (o2, es2) → XG S S2 → S2 15 2 = 0 → CC S2 o2 → ES S2 es2 → post (-1) S2 := hq2
          have hl1 := len_tl' l1
          refine ih (k + 1) _ l1.tail o1 (es ++ [o1.length]) (by omega) (by rw [List.length_append, List.length_singleton, he]) ?_ ?_ (by omega) (by omega) (fun q2 S5 a ab b z5 => hq q2 S5 a ab (frx S5 b) z5) (fun o2 es2 S5 a b z5 g1 g2 => hq2 o2 es2 S5 a (frx S5 b) z5 g1 g2)
          · exact c3
          · intro j hj
            rw [List.length_append, List.length_singleton] at hj
            rw [ms_s]
            by_cases cj : j = k
            · rw [cj, up_s, ← he, gn_r]
              exact c3.2.2.2.1.1
            · rw [up_n cj, gn_l (by omega)]
              exact (((hes.go f1).go f2).go f3) j (by omega)
        · rw [if_neg c5] at c3 hq
          have c3 : CF S3 (rdQ l1) := c3
          have hq : ∀ q2 S2, (Sum.inl (rdQ l1) : rdX2) = Sum.inl q2 → q2 ≤ 160 → XG S S2 → S2 15 2 = 0 → post (nI q2) S2 := hq
          refine z_rtLoop _ _ _ (by omega) ?_ (fun S5 g5 z5 => hq _ S5 rfl c3.2.1.2 (frx S5 g5) z5)
          obtain ⟨d3, d7, dk⟩ := c3
          exact ⟨d3, d7, dk⟩
    · rw [if_neg c] at c1 hq
      have c1 : CF S1 (rdQ l) := c1
      refine z_readOr S1 _ _ c1 (fun S2 f2 c2 => c2.acc (by decide) (fun S3 f3 c3 => x_endPart (by omega) (fun z4 e4 => ?_)))
      rw [e4, nI_1]
      refine z_rtLoop _ _ _ (by omega) ?_ (fun S5 g5 z5 => hq _ S5 rfl c1.2.1.2 (((f1.tr f2).tr f3).xg (fun c q1 q2 q3 q4 => (g5 c q1 q2 q3 q4).trans (ms_n q4))) z5)
      obtain ⟨d3, d7, dk⟩ := c3
      exact ⟨d3, d7, dk⟩
theorem lxL_len {tp : Nat → Int32} : ∀ (f p : Nat), (lxL tp n f p).length ≤ f := by
  intro f
  induction f with
  | zero => intro p; exact Nat.le_refl _
  | succ f ih =>
    intro p
    rw [lxL, List.length_cons]
    by_cases c : lxT tp n p = 0
    · rw [if_pos c]
      exact Nat.succ_le_succ (Nat.zero_le _)
    · rw [if_neg c]
      exact Nat.succ_le_succ (ih _)
/-- the tokens of a tape -/
def tks (tp : Nat → Int32) (n : Nat) : List rdT := lxL tp n (n + 1) 0
theorem x_readTape (h160 : n ≤ 160) (hn : S 15 2 = nI n) (hq : ∀ q S2, rdX 3 0 (tks (S 16) n) [] [] = Sum.inl q → q ≤ 160 → XG S S2 → S2 15 2 = 0 → post (nI q) S2) (hq2 : ∀ o2 es2 S2, rdX 3 0 (tks (S 16) n) [] [] = Sum.inr (o2, es2) → XG S S2 → S2 15 2 = 0 → CC S2 o2 → ES S2 es2 → post (-1) S2) : w_X1_readTape S post := by
  unfold w_X1_readTape
  intro S1 e1 S2 e2 S3 e3
  have g : ∀ c, c ≠ 15 → c ≠ 17 → S3 c = S c := fun c c1 c2 => by
    rw [e3, ms_n c1, e2, ms_n c1, e1, ms_n c2]
  have g15 : S3 15 = upd (upd (S 15) 5 0) 7 (-1) := by
    rw [e3, ms_s, e2, ms_s, e1, ms_n (by decide)]
  have g17 : S3 17 2 = 0 := by
    rw [e3, ms_n (by decide), e2, ms_n (by decide), e1, ms_s, up_s]
  have g16 := g 16 (by decide) (by decide)
  clear e1 e2 e3
  refine x_advance (n := n) (p := 0) (by rw [g15]; exact hn) h160 (Nat.zero_le _) (by rw [g15]; rfl) (fun S4 sa h4 h5 h3 h6 => ?_)
  have i16 : S4 16 = S 16 := (sa.1 16 (by decide)).trans g16
  rw [g16] at h4 h5 h3 h6
  have hl := lxL_len (n := n) (tp := S 16) (n + 1) 0
  have fr : ∀ S5, XG S4 S5 → XG S S5 := fun S5 q5 c c1 c2 c3 c4 => (q5 c c1 c2 c3 c4).trans ((sa.1 c c1).trans (g c c1 c2))
  refine ⟨4, x_rtLoop (tp := S 16) (n := n) h160 3 0 S4 (tks (S 16) n) [] [] rfl rfl ⟨i16, ?_, ?_, ⟨?_, fun i hi => absurd hi (by simp)⟩, n + 1, 0, Nat.zero_le _, by omega, rfl, h4, h5, h3, h6⟩ (fun j hj => absurd hj (by simp)) (by unfold tks; simp only [List.length_nil]; omega) (by simp) (fun q S5 a ab b c => hq q S5 a ab (fr S5 b) c) (fun o2 es2 S5 a b c d e => hq2 o2 es2 S5 a (fr S5 b) c d e)⟩
  · rw [sa.2 2 (by decide), g15]; exact hn
  · rw [sa.2 7 (by decide), g15]; rfl
  · rw [sa.1 17 (by decide), g17]; rfl
end
end
