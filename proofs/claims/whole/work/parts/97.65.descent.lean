/-! PURE, 50: the class's descent -/
section
variable {S T S' T' : Mem} {a1 a2 a3 a4 a5 : Int32}
/-- what a reading method leaves alone -/
def XF (S S2 : Mem) : Prop := (∀ c, c ≠ 15 → c ≠ 17 → c ≠ 18 → S2 c = S c) ∧ S2 15 2 = S 15 2
theorem XF.rf : XF S S := ⟨fun _ _ _ _ => rfl, rfl⟩
theorem XF.tr {S2 : Mem} (h : XF S S') (h2 : XF S' S2) : XF S S2 := ⟨fun c c1 c2 c3 => (h2.1 c c1 c2 c3).trans (h.1 c c1 c2 c3), h2.2.trans h.2⟩
def CC (S : Mem) (o : rdO) : Prop := S 17 2 = nI o.length ∧ ∀ i, i < o.length → S 18 i = o.getD i 0
def CR (tp : Nat → Int32) (n : Nat) (S : Mem) (l : List rdT) (o : rdO) : Prop := S 16 = tp ∧ S 15 2 = nI n ∧ S 15 7 = -1 ∧ CC S o ∧ ∃ f p : Nat, p ≤ n ∧ n + 1 ≤ f + p ∧ l = lxL tp n f p ∧ S 15 4 = nI (lxQ tp n p) ∧ S 15 5 = nI (lxE tp n p) ∧ S 15 3 = lxT tp n p ∧ (lxT tp n p = 2 → S 15 6 = lxV tp n p)
def CF (S : Mem) (q : Nat) : Prop := S 15 3 = 1 ∧ (S 15 7 = nI q ∧ q ≤ 160) ∧ ∃ k : Nat, k ≤ 160 ∧ S 17 2 = nI k
def CO (tp : Nat → Int32) (n : Nat) (S : Mem) (r : rdR) : Prop := match r with
  | Sum.inl q => CF S q
  | Sum.inr x => CR tp n S x.1 x.2
section
variable {tp : Nat → Int32} {n q : Nat} {l : List rdT} {o : rdO} {post : Mem → Prop} {t : Int32}
theorem CR.hd (h : CR tp n S l o) : S 15 3 = rdH l ∧ S 15 4 = nI (rdQ l) ∧ rdQ l ≤ n ∧ (rdH l = 2 → S 15 6 = rdV l) := by
  obtain ⟨-, -, -, -, f, p, hp, hf, e, h4, h5, h3, h6⟩ := h
  match f, hf, e with
  | 0, hf, _ => exact absurd hf (by omega)
  | f + 1, _, e =>
    rw [e]
    exact ⟨h3, h4, (lxQ_b hp).2, h6⟩
theorem lx_not0 {p : Nat} (hp : p ≤ n) (h : ¬ lxT tp n p = 0) : lxQ tp n p < n ∧ p < lxE tp n p ∧ lxE tp n p ≤ n := by
  have hq := lxQ_b (tp := tp) hp
  have he := lxEq_b (tp := tp) hq.2
  have h1 : lxQ tp n p < n := by
    refine Classical.byContradiction (fun z => h ?_)
    unfold lxT
    rw [lxTq, if_pos (by omega)]
  refine ⟨h1, ?_, he.2.1⟩
  have h2 := he.2.2 h1
  unfold lxE
  omega
theorem CR.adv (h : CR tp n S l o) (h160 : n ≤ 160) (hl : ¬ rdH l = 0) (hq : ∀ S2, XF S S2 → CR tp n S2 l.tail o → post S2) : w_X1_advance S post := by
  have hh := h.hd
  obtain ⟨h16, h2, h7, hc, f, p, hp, hf, e, h4, h5, h3, h6⟩ := h
  match f, hf, e with
  | 0, hf, _ => exact absurd hf (by omega)
  | f + 1, hf, e =>
    have e0 : ¬ lxT tp n p = 0 := by rw [e] at hl; exact hl
    obtain ⟨b1, b2, b3⟩ := lx_not0 hp e0
    have et : l.tail = lxL tp n f (lxE tp n p) := by
      rw [e, lxL, if_neg e0]
      rfl
    subst h16
    refine x_advance h2 h160 b3 h5 (fun S2 sa g4 g5 g3 g6 => ?_)
    refine hq S2 ⟨fun c c1 _ _ => sa.1 c c1, sa.2 2 (by decide)⟩ ⟨sa.1 16 (by decide), by rw [sa.2 2 (by decide)]; exact h2, by rw [sa.2 7 (by decide)]; exact h7, ?_, f, lxE (S 16) n p, b3, by omega, et, g4, g5, g3, g6⟩
    exact ⟨by rw [sa.1 17 (by decide)]; exact hc.1, by rw [sa.1 18 (by decide)]; exact hc.2⟩
theorem gd_l {s : Int32} {i : Nat} (h : i < o.length) : (o ++ [s]).getD i 0 = o.getD i 0 := by
  rw [List.getD_eq_getElem?_getD, List.getD_eq_getElem?_getD, List.getElem?_append_left h]
theorem gd_r {s : Int32} : (o ++ [s]).getD o.length 0 = s := by
  rw [List.getD_eq_getElem?_getD, List.getElem?_append_right (Nat.le_refl _), Nat.sub_self]
  rfl
theorem CR.ap {s : Int32} (h : CR tp n S l o) (ho : o.length < 160) (hq : ∀ S2, XF S S2 → CR tp n S2 l (o ++ [s]) → post S2) : w_X2_append 17 s S post := by
  obtain ⟨h16, h2, h7, ⟨hc, hd⟩, f, p, hp, hf, e, h4, h5, h3, h6⟩ := h
  unfold w_X2_append w_X2_append_30
  rw [hc]
  refine ⟨fun z => absurd z (nI_ge (b := 160) ho (by decide)), fun _ => ⟨nI_in ho (by decide), fun S1 e1 S2 e2 => ?_⟩⟩
  rw [nI_clamp (by omega)] at e1
  have f17 : S1 17 = S 17 := by rw [e1]; exact ms_n (by decide)
  have g : ∀ c, c ≠ 17 → c ≠ 18 → S2 c = S c := fun c c1 c2 => by
    rw [e2, ms_n c1, e1]
    exact ms_n c2
  have g15 := g 15 (by decide) (by decide)
  have g16 := g 16 (by decide) (by decide)
  have g18 : S2 18 = upd (S 18) o.length s := by
    rw [e2, ms_n (by decide), e1]
    exact ms_s
  refine hq S2 ⟨fun c _ c2 c3 => g c c2 c3, by rw [g15]⟩ ⟨by rw [g16]; exact h16, by rw [g15]; exact h2, by rw [g15]; exact h7, ⟨?_, fun i hi => ?_⟩, f, p, hp, hf, e, by rw [g15]; exact h4, by rw [g15]; exact h5, by rw [g15]; exact h3, by rw [g15]; exact h6⟩
  · rw [e2, ms_s, up_s, f17, hc, nI_1, List.length_append, List.length_singleton]
  · rw [List.length_append, List.length_singleton] at hi
    rw [g18]
    by_cases c : i = o.length
    · rw [c, up_s, gd_r]
    · rw [up_n c, gd_l (by omega)]
      exact hd i (by omega)
theorem CF.ap {s : Int32} (h : CF S q) (hq : ∀ S2, XF S S2 → CF S2 q → post S2) : w_X2_append 17 s S post := by
  obtain ⟨h3, h7, k, hk, hc⟩ := h
  unfold w_X2_append w_X2_append_30
  rw [hc]
  by_cases c : k = 160
  · refine ⟨fun _ => hq S XF.rf ⟨h3, h7, k, hk, hc⟩, fun z => absurd (by rw [c]; decide) z⟩
  · refine ⟨fun z => absurd z (nI_ge (b := 160) (by omega) (by decide)), fun _ => ⟨nI_in (by omega) (by decide), fun S1 e1 S2 e2 => ?_⟩⟩
    have f17 : S1 17 = S 17 := by rw [e1]; exact ms_n (by decide)
    have g : ∀ c, c ≠ 17 → c ≠ 18 → S2 c = S c := fun c c1 c2 => by
      rw [e2, ms_n c1, e1]
      exact ms_n c2
    have g15 := g 15 (by decide) (by decide)
    refine hq S2 ⟨fun c _ c2 c3 => g c c2 c3, by rw [g15]⟩ ⟨by rw [g15]; exact h3, by rw [g15]; exact h7, k + 1, by omega, ?_⟩
    rw [e2, ms_s, up_s, f17, hc, nI_1]
theorem CR.fail (h : CR tp n S l o) (h160 : n ≤ 160) (ho : o.length ≤ 160) (hq : ∀ S2, XF S S2 → CF S2 (rdQ l) → post S2) : w_X1_fail S post := by
  obtain ⟨-, k4, kq, -⟩ := h.hd
  obtain ⟨h16, h2, h7, ⟨hc, hd⟩, -⟩ := h
  unfold w_X1_fail w_X1_fail_16
  refine ⟨fun z => absurd h7 z, fun _ S1 e1 S2 e2 => ?_⟩
  have g : ∀ c, c ≠ 15 → S2 c = S c := fun c c1 => by
    rw [e2, ms_n c1, e1, ms_n c1]
  have g15 : S2 15 = upd (upd (S 15) 7 (S 15 4)) 3 1 := by
    rw [e2, ms_s, e1, ms_s]
  refine hq S2 ⟨fun c c1 _ _ => g c c1, by rw [g15]; rfl⟩ ⟨by rw [g15]; rfl, ⟨by rw [g15]; exact k4, by omega⟩, o.length, ho, by rw [g 17 (by decide)]; exact hc⟩
theorem CF.fail (h : CF S q) (hq : ∀ S2, XF S S2 → CF S2 q → post S2) : w_X1_fail S post := by
  obtain ⟨h3, ⟨h7, hq6⟩, k, hk, hc⟩ := h
  unfold w_X1_fail w_X1_fail_16
  have hn : ¬ S 15 7 = -1 := by
    rw [h7]
    intro z
    have := nI_toInt (n := q) (by omega)
    rw [z, Im1] at this
    omega
  refine ⟨fun _ S1 e1 => ?_, fun z => absurd z hn⟩
  have g : ∀ c, c ≠ 15 → S1 c = S c := fun c c1 => by
    rw [e1, ms_n c1]
  have g15 : S1 15 = upd (S 15) 3 1 := by
    rw [e1, ms_s]
  exact hq S1 ⟨fun c c1 _ _ => g c c1, by rw [g15]; rfl⟩ ⟨by rw [g15]; rfl, ⟨by rw [g15]; exact h7, hq6⟩, k, hk, by rw [g 17 (by decide)]; exact hc⟩
theorem CF.acc (h : CF S q) (ht : ¬ t = 1) (hq : ∀ S2, XF S S2 → CF S2 q → post S2) : w_X1_accept t S post := by
  unfold w_X1_accept w_X1_accept_19
  refine ⟨fun _ => h.fail hq, fun z => absurd (z.symm.trans h.1) ht⟩
theorem CR.acc (h : CR tp n S l o) (h160 : n ≤ 160) (ho : o.length ≤ 160) (ht : ¬ t = 0) (hq : ∀ S2, XF S S2 → CO tp n S2 (rdAcc t l o) → post S2) : w_X1_accept t S post := by
  unfold w_X1_accept w_X1_accept_19
  unfold rdAcc at hq
  have hh := h.hd
  rw [hh.1]
  refine ⟨fun z => ?_, fun z => ?_⟩
  · rw [if_neg z] at hq
    exact h.fail h160 ho hq
  · rw [if_pos z] at hq
    exact h.adv h160 (by rw [z]; exact ht) hq
end
def XP (tp : Nat → Int32) (n : Nat) (Q : Int32 → Mem → (Mem → Prop) → Prop) (x : Int32) (p : rdP) : Prop := ∀ (S : Mem) (l : List rdT) (o : rdO) (post : Mem → Prop), CR tp n S l o → o.length + l.length ≤ 160 → (∀ S2, XF S S2 → CO tp n S2 (p l o) → post S2) → Q x S post
theorem rdY.sz {k : Nat} {l l2 : List rdT} {o o2 : rdO} (h : rdY k l l2 o o2) : o2.length + l2.length ≤ o.length + l.length := by
  obtain ⟨c, e, h, -⟩ := h
  rw [e, List.length_append]
  omega
theorem len_tl2 {l : List rdT} (h : ¬ rdH l = 0) : l.tail.length < l.length := by
  have := len_tl h
  omega
theorem x_lpTerm {tp : Nat → Int32} {n : Nat} (h160 : n ≤ 160) {Q : Int32 → Mem → (Mem → Prop) → Prop} {sub : rdP} {x : Int32} {post : Mem → Prop} (hp : rdPG sub) (hx : XP tp n Q x sub) : ∀ (f i : Nat) (S : Mem) (l : List rdT) (o : rdO), i + f = 160 → CR tp n S l o → o.length + l.length ≤ 160 → (∀ S2, XF S S2 → CO tp n S2 (rdLoop opT sub f l o) → post S2) → w_X1_readTermB_7 Q post (f + 1) x (nI i) S := by
  intro f
  induction f with
  | zero =>
    intro i S l o hi h ho hq
    rw [w_X1_readTermB_7]
    unfold w_X1_readTermB_47
    have e : i = 160 := by omega
    rw [e]
    exact ⟨fun _ => hq S XF.rf h, fun z => absurd (by decide) z⟩
  | succ f ih =>
    intro i S l o hi h ho hq
    rw [w_X1_readTermB_7]
    unfold w_X1_readTermB_47
    rw [rdLoop] at hq
    rw [h.hd.1]
    refine ⟨fun z => absurd z (nI_ge (b := 160) (by omega) (by decide)), fun _ => ⟨fun z => ?_, fun z => ?_⟩⟩
    · rw [if_neg (fun y : opT (rdH l) = true => z (of_decide_eq_true y))] at hq
      exact hq S XF.rf h
    · have hn : ¬ rdH l = 0 := by rw [z]; decide
      have hlt := len_tl2 hn
      rw [if_pos (by rw [z]; decide), z] at hq
      refine h.adv h160 hn (fun S1 f1 c1 => hx S1 _ _ _ c1 (by omega) (fun S2 f2 c2 => ?_))
      generalize hr : sub l.tail o = r at c2 hq
      match r, hr, c2, hq with
      | Sum.inl q, hr, c2, hq =>
        have c2 : CF S2 q := c2
        refine c2.ap (fun S3 f3 c3 z4 e4 => ?_)
        rw [w_X1_readTermB_7]
        unfold w_X1_readTermB_47
        have fin := hq S3 ((f1.tr f2).tr f3) c3
        rw [c3.1]
        exact ⟨fun _ => fin, fun _ => ⟨fun _ => fin, fun y => absurd y (by decide)⟩⟩
      | Sum.inr (l1, o1), hr, c2, hq =>
        have c2 : CR tp n S2 l1 o1 := c2
        have y := (hp _ _ _ _ hr).1.sz
        refine c2.ap (by omega) (fun S3 f3 c3 z4 e4 => ?_)
        rw [e4, nI_1]
        refine ih _ S3 l1 _ (by omega) c3 (by rw [List.length_append, List.length_singleton]; omega) (fun S4 f4 c4 => hq S4 (((f1.tr f2).tr f3).tr f4) c4)
theorem x_Term {tp : Nat → Int32} {n : Nat} (h160 : n ≤ 160) {Q : Int32 → Mem → (Mem → Prop) → Prop} {sub : rdP} {x : Int32} (hp : rdPG sub) (hx : XP tp n Q x sub) : XP tp n (w_X1_readTermB Q) x (fun l o => rdB (sub l o) (rdLoop opT sub 160)) := by
  intro S l o post h ho hq
  have hq : ∀ S2, XF S S2 → CO tp n S2 (rdB (sub l o) (rdLoop opT sub 160)) → post S2 := hq
  unfold w_X1_readTermB
  refine hx S l o _ h ho (fun S1 f1 c1 => ?_)
  generalize hr : sub l o = r at c1 hq
  match r, hr, c1, hq with
  | Sum.inl q, hr, c1, hq =>
    have c1 : CF S1 q := c1
    refine ⟨1, ?_⟩
    rw [w_X1_readTermB_7]
    unfold w_X1_readTermB_47
    have fin := hq S1 f1 c1
    rw [c1.1]
    exact ⟨fun _ => fin, fun _ => ⟨fun _ => fin, fun y => absurd y (by decide)⟩⟩
  | Sum.inr (l1, o1), hr, c1, hq =>
    have c1 : CR tp n S1 l1 o1 := c1
    have y := (hp _ _ _ _ hr).1.sz
    exact ⟨161, x_lpTerm h160 hp hx 160 0 S1 l1 o1 rfl c1 (by omega) (fun S2 f2 c2 => hq S2 (f1.tr f2) c2)⟩
theorem x_lpAnd {tp : Nat → Int32} {n : Nat} (h160 : n ≤ 160) {Q : Int32 → Mem → (Mem → Prop) → Prop} {sub : rdP} {x : Int32} {post : Mem → Prop} (hp : rdPG sub) (hx : XP tp n Q x sub) : ∀ (f i : Nat) (S : Mem) (l : List rdT) (o : rdO), i + f = 160 → CR tp n S l o → o.length + l.length ≤ 160 → (∀ S2, XF S S2 → CO tp n S2 (rdLoop opA sub f l o) → post S2) → w_X1_readAndB_7 Q post (f + 1) x (nI i) S := by
  intro f
  induction f with
  | zero =>
    intro i S l o hi h ho hq
    rw [w_X1_readAndB_7]
    unfold w_X1_readAndB_47
    have e : i = 160 := by omega
    rw [e]
    exact ⟨fun _ => hq S XF.rf h, fun z => absurd (by decide) z⟩
  | succ f ih =>
    intro i S l o hi h ho hq
    rw [w_X1_readAndB_7]
    unfold w_X1_readAndB_47
    rw [rdLoop] at hq
    rw [h.hd.1]
    refine ⟨fun z => absurd z (nI_ge (b := 160) (by omega) (by decide)), fun _ => ⟨fun z => ?_, fun z => ?_⟩⟩
    · rw [if_neg (fun y : opA (rdH l) = true => z (of_decide_eq_true y))] at hq
      exact hq S XF.rf h
    · have hn : ¬ rdH l = 0 := by rw [z]; decide
      have hlt := len_tl2 hn
      rw [if_pos (by rw [z]; decide), z] at hq
      refine h.adv h160 hn (fun S1 f1 c1 => hx S1 _ _ _ c1 (by omega) (fun S2 f2 c2 => ?_))
      generalize hr : sub l.tail o = r at c2 hq
      match r, hr, c2, hq with
      | Sum.inl q, hr, c2, hq =>
        have c2 : CF S2 q := c2
        refine c2.ap (fun S3 f3 c3 z4 e4 => ?_)
        rw [w_X1_readAndB_7]
        unfold w_X1_readAndB_47
        have fin := hq S3 ((f1.tr f2).tr f3) c3
        rw [c3.1]
        exact ⟨fun _ => fin, fun _ => ⟨fun _ => fin, fun y => absurd y (by decide)⟩⟩
      | Sum.inr (l1, o1), hr, c2, hq =>
        have c2 : CR tp n S2 l1 o1 := c2
        have y := (hp _ _ _ _ hr).1.sz
        refine c2.ap (by omega) (fun S3 f3 c3 z4 e4 => ?_)
        rw [e4, nI_1]
        refine ih _ S3 l1 _ (by omega) c3 (by rw [List.length_append, List.length_singleton]; omega) (fun S4 f4 c4 => hq S4 (((f1.tr f2).tr f3).tr f4) c4)
theorem x_And {tp : Nat → Int32} {n : Nat} (h160 : n ≤ 160) {Q : Int32 → Mem → (Mem → Prop) → Prop} {sub : rdP} {x : Int32} (hp : rdPG sub) (hx : XP tp n Q x sub) : XP tp n (w_X1_readAndB Q) x (fun l o => rdB (sub l o) (rdLoop opA sub 160)) := by
  intro S l o post h ho hq
  have hq : ∀ S2, XF S S2 → CO tp n S2 (rdB (sub l o) (rdLoop opA sub 160)) → post S2 := hq
  unfold w_X1_readAndB
  refine hx S l o _ h ho (fun S1 f1 c1 => ?_)
  generalize hr : sub l o = r at c1 hq
  match r, hr, c1, hq with
  | Sum.inl q, hr, c1, hq =>
    have c1 : CF S1 q := c1
    refine ⟨1, ?_⟩
    rw [w_X1_readAndB_7]
    unfold w_X1_readAndB_47
    have fin := hq S1 f1 c1
    rw [c1.1]
    exact ⟨fun _ => fin, fun _ => ⟨fun _ => fin, fun y => absurd y (by decide)⟩⟩
  | Sum.inr (l1, o1), hr, c1, hq =>
    have c1 : CR tp n S1 l1 o1 := c1
    have y := (hp _ _ _ _ hr).1.sz
    exact ⟨161, x_lpAnd h160 hp hx 160 0 S1 l1 o1 rfl c1 (by omega) (fun S2 f2 c2 => hq S2 (f1.tr f2) c2)⟩
theorem x_lpOr {tp : Nat → Int32} {n : Nat} (h160 : n ≤ 160) {Q : Int32 → Mem → (Mem → Prop) → Prop} {sub : rdP} {x : Int32} {post : Mem → Prop} (hp : rdPG sub) (hx : XP tp n Q x sub) : ∀ (f i : Nat) (S : Mem) (l : List rdT) (o : rdO), i + f = 160 → CR tp n S l o → o.length + l.length ≤ 160 → (∀ S2, XF S S2 → CO tp n S2 (rdLoop opR sub f l o) → post S2) → w_X1_readOrB_7 Q post (f + 1) x (nI i) S := by
  intro f
  induction f with
  | zero =>
    intro i S l o hi h ho hq
    rw [w_X1_readOrB_7]
    unfold w_X1_readOrB_47
    have e : i = 160 := by omega
    rw [e]
    exact ⟨fun _ => hq S XF.rf h, fun z => absurd (by decide) z⟩
  | succ f ih =>
    intro i S l o hi h ho hq
    rw [w_X1_readOrB_7]
    unfold w_X1_readOrB_47
    rw [rdLoop] at hq
    rw [h.hd.1]
    refine ⟨fun z => absurd z (nI_ge (b := 160) (by omega) (by decide)), fun _ => ⟨fun z => ?_, fun z => ?_⟩⟩
    · rw [if_neg (fun y : opR (rdH l) = true => z (of_decide_eq_true y))] at hq
      exact hq S XF.rf h
    · have hn : ¬ rdH l = 0 := by rw [z]; decide
      have hlt := len_tl2 hn
      rw [if_pos (by rw [z]; decide), z] at hq
      refine h.adv h160 hn (fun S1 f1 c1 => hx S1 _ _ _ c1 (by omega) (fun S2 f2 c2 => ?_))
      generalize hr : sub l.tail o = r at c2 hq
      match r, hr, c2, hq with
      | Sum.inl q, hr, c2, hq =>
        have c2 : CF S2 q := c2
        refine c2.ap (fun S3 f3 c3 z4 e4 => ?_)
        rw [w_X1_readOrB_7]
        unfold w_X1_readOrB_47
        have fin := hq S3 ((f1.tr f2).tr f3) c3
        rw [c3.1]
        exact ⟨fun _ => fin, fun _ => ⟨fun _ => fin, fun y => absurd y (by decide)⟩⟩
      | Sum.inr (l1, o1), hr, c2, hq =>
        have c2 : CR tp n S2 l1 o1 := c2
        have y := (hp _ _ _ _ hr).1.sz
        refine c2.ap (by omega) (fun S3 f3 c3 z4 e4 => ?_)
        rw [e4, nI_1]
        refine ih _ S3 l1 _ (by omega) c3 (by rw [List.length_append, List.length_singleton]; omega) (fun S4 f4 c4 => hq S4 (((f1.tr f2).tr f3).tr f4) c4)
theorem x_Or {tp : Nat → Int32} {n : Nat} (h160 : n ≤ 160) {Q : Int32 → Mem → (Mem → Prop) → Prop} {sub : rdP} {x : Int32} (hp : rdPG sub) (hx : XP tp n Q x sub) : XP tp n (w_X1_readOrB Q) x (fun l o => rdB (sub l o) (rdLoop opR sub 160)) := by
  intro S l o post h ho hq
  have hq : ∀ S2, XF S S2 → CO tp n S2 (rdB (sub l o) (rdLoop opR sub 160)) → post S2 := hq
  unfold w_X1_readOrB
  refine hx S l o _ h ho (fun S1 f1 c1 => ?_)
  generalize hr : sub l o = r at c1 hq
  match r, hr, c1, hq with
  | Sum.inl q, hr, c1, hq =>
    have c1 : CF S1 q := c1
    refine ⟨1, ?_⟩
    rw [w_X1_readOrB_7]
    unfold w_X1_readOrB_47
    have fin := hq S1 f1 c1
    rw [c1.1]
    exact ⟨fun _ => fin, fun _ => ⟨fun _ => fin, fun y => absurd y (by decide)⟩⟩
  | Sum.inr (l1, o1), hr, c1, hq =>
    have c1 : CR tp n S1 l1 o1 := c1
    have y := (hp _ _ _ _ hr).1.sz
    exact ⟨161, x_lpOr h160 hp hx 160 0 S1 l1 o1 rfl c1 (by omega) (fun S2 f2 c2 => hq S2 (f1.tr f2) c2)⟩
theorem x_lpSum {tp : Nat → Int32} {n : Nat} (h160 : n ≤ 160) {Q : Int32 → Mem → (Mem → Prop) → Prop} {sub : rdP} {x : Int32} {post : Mem → Prop} (hp : rdPG sub) (hx : XP tp n Q x sub) : ∀ (f i : Nat) (S : Mem) (l : List rdT) (o : rdO), i + f = 160 → CR tp n S l o → o.length + l.length ≤ 160 → (∀ S2, XF S S2 → CO tp n S2 (rdLoop opS sub f l o) → post S2) → w_X1_readSumB_7 Q post (f + 1) x (nI i) S := by
  intro f
  induction f with
  | zero =>
    intro i S l o hi h ho hq
    rw [w_X1_readSumB_7]
    unfold w_X1_readSumB_60
    have e : i = 160 := by omega
    rw [e]
    exact ⟨fun _ => hq S XF.rf h, fun z => absurd (by decide) z⟩
  | succ f ih =>
    intro i S l o hi h ho hq
    rw [w_X1_readSumB_7]
    unfold w_X1_readSumB_60
    rw [rdLoop] at hq
    rw [h.hd.1]
    have go : (rdH l = -12 ∨ rdH l = -13) → w_X1_readSumB_32 Q (w_X1_readSumB_7 Q post (f + 1)) post x (nI i) S := by
      intro z
      have hn : ¬ rdH l = 0 := by
        rcases z with e | e <;> rw [e] <;> decide
      have hlt := len_tl2 hn
      rw [if_pos (show opS (rdH l) = true from decide_eq_true z)] at hq
      unfold w_X1_readSumB_32
      intro z1 e1
      rw [h.hd.1] at e1
      rw [e1]
      refine h.adv h160 hn (fun S1 f1 c1 => hx S1 _ _ _ c1 (by omega) (fun S2 f2 c2 => ?_))
      generalize hr : sub l.tail o = r at c2 hq
      match r, hr, c2, hq with
      | Sum.inl q, hr, c2, hq =>
        have c2 : CF S2 q := c2
        refine c2.ap (fun S3 f3 c3 z4 e4 => ?_)
        rw [w_X1_readSumB_7]
        unfold w_X1_readSumB_60
        have fin := hq S3 ((f1.tr f2).tr f3) c3
        rw [c3.1]
        exact ⟨fun _ => fin, fun _ => ⟨fun y => absurd y (by decide), fun _ => ⟨fun _ => fin, fun y => absurd y (by decide)⟩⟩⟩
      | Sum.inr (l1, o1), hr, c2, hq =>
        have c2 : CR tp n S2 l1 o1 := c2
        have y := (hp _ _ _ _ hr).1.sz
        refine c2.ap (by omega) (fun S3 f3 c3 z4 e4 => ?_)
        rw [e4, nI_1]
        refine ih _ S3 l1 _ (by omega) c3 (by rw [List.length_append, List.length_singleton]; omega) (fun S4 f4 c4 => hq S4 (((f1.tr f2).tr f3).tr f4) c4)
    refine ⟨fun z => absurd z (nI_ge (b := 160) (by omega) (by decide)), fun _ => ⟨fun z => go (Or.inl z), fun z => ⟨fun z2 => ?_, fun z2 => go (Or.inr z2)⟩⟩⟩
    rw [if_neg (fun y : opS (rdH l) = true => (of_decide_eq_true y : rdH l = -12 ∨ rdH l = -13).elim z z2)] at hq
    exact hq S XF.rf h
theorem x_Sum {tp : Nat → Int32} {n : Nat} (h160 : n ≤ 160) {Q : Int32 → Mem → (Mem → Prop) → Prop} {sub : rdP} {x : Int32} (hp : rdPG sub) (hx : XP tp n Q x sub) : XP tp n (w_X1_readSumB Q) x (fun l o => rdB (sub l o) (rdLoop opS sub 160)) := by
  intro S l o post h ho hq
  have hq : ∀ S2, XF S S2 → CO tp n S2 (rdB (sub l o) (rdLoop opS sub 160)) → post S2 := hq
  unfold w_X1_readSumB
  refine hx S l o _ h ho (fun S1 f1 c1 => ?_)
  generalize hr : sub l o = r at c1 hq
  match r, hr, c1, hq with
  | Sum.inl q, hr, c1, hq =>
    have c1 : CF S1 q := c1
    refine ⟨1, ?_⟩
    rw [w_X1_readSumB_7]
    unfold w_X1_readSumB_60
    have fin := hq S1 f1 c1
    rw [c1.1]
    exact ⟨fun _ => fin, fun _ => ⟨fun y => absurd y (by decide), fun _ => ⟨fun _ => fin, fun y => absurd y (by decide)⟩⟩⟩
  | Sum.inr (l1, o1), hr, c1, hq =>
    have c1 : CR tp n S1 l1 o1 := c1
    have y := (hp _ _ _ _ hr).1.sz
    exact ⟨161, x_lpSum h160 hp hx 160 0 S1 l1 o1 rfl c1 (by omega) (fun S2 f2 c2 => hq S2 (f1.tr f2) c2)⟩
end
