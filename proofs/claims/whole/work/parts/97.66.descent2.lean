/-! PURE, 51: the class's descent, the whole -/
section
variable {S T S' T' : Mem} {a1 a2 a3 a4 a5 : Int32}
theorem m1_t (t : Int32) : (0 ≤ -1 - t ∧ -1 - t ≤ 5) = (-6 ≤ t ∧ t ≤ -1) := by
  have h1 := Int32.toInt_lt t
  have h2 := Int32.le_toInt t
  have e : (-1 - t).toInt = -1 - t.toInt := by
    rw [Int32.toInt_sub, Im1]
    simp only [Int.bmod, (show ((2 ^ 32 : Nat) : Int) = 4294967296 from rfl)]
    omega
  have e6 : (-6 : Int32).toInt = -6 := by decide
  rw [i_le, i_le, i_le, i_le, e, I0, I5, e6, Im1]
  exact propext (by omega)
section
variable {tp : Nat → Int32} {n : Nat}
theorem x_one (h160 : n ≤ 160) {Q1 Q2 : Int32 → Mem → (Mem → Prop) → Prop} {one or : rdP} {k : Nat} {nest : Bool} (hk : k ≤ 5) (hn : nest = true → k < 5) (hn0 : nest = false → k = 5) (h1 : nest = true → rdPG one ∧ XP tp n Q1 (nI (k + 1)) one) (h2 : nest = true → rdPG or ∧ XP tp n Q2 (nI (k + 1)) or) : XP tp n (w_X1_readOneB Q1 Q2) (nI k) (rdOneB nest one or) := by
  intro S l o post h ho hq
  unfold w_X1_readOneB w_X1_readOneB_127
  unfold rdOneB at hq
  obtain ⟨k3, k4, k5, k6⟩ := h.hd
  rw [k3, x_isName, bI_congr (q := -6 ≤ rdH l ∧ rdH l ≤ -1) (by rw [m1_t])]
  try dsimp only
  rw [k3]
  by_cases c1 : rdH l = 2
  · have n0 : ¬ rdH l = 0 := by rw [c1]; decide
    have hlt := len_tl2 n0
    refine ⟨fun z => absurd c1 z, fun _ => ?_⟩
    rw [if_pos c1] at hq
    rw [k6 c1]
    exact h.ap (by omega) (fun S2 f2 c2 => c2.adv h160 n0 (fun S3 f3 c3 => hq S3 (f2.tr f3) c3))
  · refine ⟨fun _ => ?_, fun z => absurd z c1⟩
    rw [if_neg c1] at hq
    by_cases c2 : -6 ≤ rdH l ∧ rdH l ≤ -1
    · rw [bI_t c2]
      have c2' : rdN (rdH l) = true := decide_eq_true c2
      have n0 : ¬ rdH l = 0 := by
        intro e
        rw [e] at c2
        exact absurd c2 (by decide)
      have hlt := len_tl2 n0
      rw [if_pos c2'] at hq
      refine ⟨fun z => absurd z (by decide), fun _ => ?_⟩
      exact h.ap (by omega) (fun S2 f2 c2 => c2.adv h160 n0 (fun S3 f3 c3 => hq S3 (f2.tr f3) c3))
    · rw [bI_f c2]
      have c2' : ¬ rdN (rdH l) = true := fun z => c2 (of_decide_eq_true z)
      rw [if_neg c2'] at hq
      refine ⟨fun _ => ?_, fun z => absurd rfl z⟩
      have f123 : (∀ S2, XF S S2 → CF S2 (rdQ l) → post S2) → w_X1_readOneB_123 Q1 Q2 post S := by
        intro g
        unfold w_X1_readOneB_123 w_X1_readOneB_127
        exact h.fail h160 (by omega) g
      have f91 : ¬ (rdH l = -13 ∧ nest = true) → w_X1_readOneB_91 Q1 Q2 post (nI k) S := by
        intro c3
        rw [if_neg c3] at hq
        unfold w_X1_readOneB_91 w_X1_readOneB_127
        rw [k3]
        by_cases c4 : rdH l = 3
        · refine ⟨fun z => absurd c4 z, fun _ => ?_⟩
          have n0 : ¬ rdH l = 0 := by rw [c4]; decide
          have hlt := len_tl2 n0
          cases nest with
          | false =>
            have := hn0 rfl
            rw [if_neg (fun y : rdH l = 3 ∧ false = true => absurd y.2 (by decide))] at hq
            refine ⟨fun _ => f123 hq, fun z => absurd (nI_le (a := 5) (by omega) (by omega)) z⟩
          | true =>
            have := hn rfl
            obtain ⟨g1, g2⟩ := h2 rfl
            rw [if_pos (show rdH l = 3 ∧ true = true from ⟨c4, rfl⟩)] at hq
            refine ⟨fun z => absurd z (nI_ge (b := 5) this (by decide)), fun _ => ?_⟩
            rw [nI_1]
            refine h.adv h160 n0 (fun S1 f1 d1 => g2 S1 _ _ _ d1 (by omega) (fun S2 f2 d2 => ?_))
            generalize hr : or l.tail o = r at d2 hq
            match r, hr, d2, hq with
            | Sum.inl q, hr, d2, hq =>
              have d2 : CF S2 q := d2
              exact d2.acc (by decide) (fun S3 f3 d3 => hq S3 ((f1.tr f2).tr f3) d3)
            | Sum.inr (l1, o1), hr, d2, hq =>
              have d2 : CR tp n S2 l1 o1 := d2
              have y := (g1 _ _ _ _ hr).1.sz
              exact d2.acc h160 (by omega) (by decide) (fun S3 f3 d3 => hq S3 ((f1.tr f2).tr f3) d3)
        · refine ⟨fun _ => f123 ?_, fun z => absurd z c4⟩
          rw [if_neg (fun y : rdH l = 3 ∧ nest = true => c4 y.1)] at hq
          exact hq
      by_cases c3 : rdH l = -13
      · refine ⟨fun z => absurd c3 z, fun _ => ?_⟩
        have n0 : ¬ rdH l = 0 := by rw [c3]; decide
        have hlt := len_tl2 n0
        cases nest with
        | false =>
          have := hn0 rfl
          refine ⟨fun _ => f91 (fun y => absurd y.2 (by decide)), fun z => absurd (nI_le (a := 5) (by omega) (by omega)) z⟩
        | true =>
          have := hn rfl
          obtain ⟨g1, g2⟩ := h1 rfl
          rw [if_pos (show rdH l = -13 ∧ true = true from ⟨c3, rfl⟩)] at hq
          refine ⟨fun z => absurd z (nI_ge (b := 5) this (by decide)), fun _ => ?_⟩
          rw [nI_1]
          refine h.adv h160 n0 (fun S1 f1 d1 => g2 S1 _ _ _ d1 (by omega) (fun S2 f2 d2 => ?_))
          generalize hr : one l.tail o = r at d2 hq
          match r, hr, d2, hq with
          | Sum.inl q, hr, d2, hq =>
            have d2 : CF S2 q := d2
            exact d2.ap (fun S3 f3 d3 => hq S3 ((f1.tr f2).tr f3) d3)
          | Sum.inr (l1, o1), hr, d2, hq =>
            have d2 : CR tp n S2 l1 o1 := d2
            have y := (g1 _ _ _ _ hr).1.sz
            exact d2.ap (by omega) (fun S3 f3 d3 => hq S3 ((f1.tr f2).tr f3) d3)
      · exact ⟨fun _ => f91 (fun y => c3 y.1), fun z => absurd z c3⟩
theorem x_not (h160 : n ≤ 160) {Q1 Q2 : Int32 → Mem → (Mem → Prop) → Prop} {nt sum : rdP} {k : Nat} {nest : Bool} (hk : k ≤ 5) (hn : nest = true → k < 5) (hn0 : nest = false → k = 5) (h1 : nest = true → rdPG nt ∧ XP tp n Q1 (nI (k + 1)) nt) (hp : rdPG sum) (h2 : XP tp n Q2 (nI k) sum) : XP tp n (w_X1_readNotB Q1 Q2) (nI k) (rdNotB nest nt sum) := by
  intro S l o post h ho hq
  unfold w_X1_readNotB w_X1_readNotB_85
  unfold rdNotB at hq
  obtain ⟨k3, k4, k5, k6⟩ := h.hd
  rw [k3]
  by_cases c1 : rdH l = -9
  · refine ⟨fun z => absurd c1 z, fun _ => ?_⟩
    have n0 : ¬ rdH l = 0 := by rw [c1]; decide
    have hlt := len_tl2 n0
    rw [if_pos c1] at hq
    cases nest with
    | false =>
      have := hn0 rfl
      rw [if_neg (by decide)] at hq
      exact ⟨fun z => absurd z (nI_nlt (b := 5) (by omega) (by omega)), fun _ => h.fail h160 (by omega) hq⟩
    | true =>
      have := hn rfl
      obtain ⟨g1, g2⟩ := h1 rfl
      rw [if_pos rfl] at hq
      refine ⟨fun _ => ?_, fun z => absurd (nI_lt (b := 5) this (by decide)) z⟩
      rw [nI_1]
      refine h.adv h160 n0 (fun S1 f1 d1 => g2 S1 _ _ _ d1 (by omega) (fun S2 f2 d2 => ?_))
      generalize hr : nt l.tail o = r at d2 hq
      match r, hr, d2, hq with
      | Sum.inl q, hr, d2, hq =>
        have d2 : CF S2 q := d2
        exact d2.ap (fun S3 f3 d3 => hq S3 ((f1.tr f2).tr f3) d3)
      | Sum.inr (l1, o1), hr, d2, hq =>
        have d2 : CR tp n S2 l1 o1 := d2
        have y := (g1 _ _ _ _ hr).1.sz
        exact d2.ap (by omega) (fun S3 f3 d3 => hq S3 ((f1.tr f2).tr f3) d3)
  · refine ⟨fun _ => ?_, fun z => absurd z c1⟩
    rw [if_neg c1] at hq
    refine h2 S l o _ h ho (fun S1 f1 d1 => ?_)
    generalize hr : sum l o = r at d1 hq
    match r, hr, d1, hq with
    | Sum.inl q, hr, d1, hq =>
      have d1 : CF S1 q := d1
      have fin := hq S1 f1 d1
      rw [d1.1]
      exact ⟨fun y => absurd y (by decide), fun _ => ⟨fun _ => fin, fun y => absurd y (by decide)⟩⟩
    | Sum.inr (l1, o1), hr, d1, hq =>
      have d1 : CR tp n S1 l1 o1 := d1
      have y := (hp _ _ _ _ hr).1.sz
      have hq : ∀ S2, XF S S2 → CO tp n S2 (if opC (rdH l1) = true then rdB (sum l1.tail o1) (fun l3 o3 => Sum.inr (l3, o3 ++ [rdH l1])) else Sum.inr (l1, o1)) → post S2 := hq
      rw [d1.hd.1]
      have go : (rdH l1 = -10 ∨ rdH l1 = -11) → w_X1_readNotB_63 Q1 Q2 post (nI k) S1 := by
        intro z
        have n1 : ¬ rdH l1 = 0 := by
          rcases z with e | e <;> rw [e] <;> decide
        have hlt := len_tl2 n1
        rw [if_pos (show opC (rdH l1) = true from decide_eq_true z)] at hq
        unfold w_X1_readNotB_63 w_X1_readNotB_85
        intro z1 e1
        rw [d1.hd.1] at e1
        rw [e1]
        refine d1.adv h160 n1 (fun S2 f2 d2 => h2 S2 _ _ _ d2 (by omega) (fun S3 f3 d3 => ?_))
        generalize hr2 : sum l1.tail o1 = r2 at d3 hq
        match r2, hr2, d3, hq with
        | Sum.inl q, hr2, d3, hq =>
          have d3 : CF S3 q := d3
          exact d3.ap (fun S4 f4 d4 => hq S4 (((f1.tr f2).tr f3).tr f4) d4)
        | Sum.inr (l3, o3), hr2, d3, hq =>
          have d3 : CR tp n S3 l3 o3 := d3
          have y2 := (hp _ _ _ _ hr2).1.sz
          exact d3.ap (by omega) (fun S4 f4 d4 => hq S4 (((f1.tr f2).tr f3).tr f4) d4)
      refine ⟨fun z => go (Or.inl z), fun z => ⟨fun z2 => ?_, fun z2 => go (Or.inr z2)⟩⟩
      rw [if_neg (fun y : opC (rdH l1) = true => (of_decide_eq_true y : rdH l1 = -10 ∨ rdH l1 = -11).elim z z2)] at hq
      exact hq S1 f1 d1
theorem x_rec (h160 : n ≤ 160) : ∀ (d : Nat), d ≤ 5 → (∀ m, 6 * d + 1 ≤ m → XP tp n (wRec m 5) (nI (5 - d)) (rdL d).1) ∧ (∀ m, 6 * d + 4 ≤ m → XP tp n (wRec m 2) (nI (5 - d)) (rdL d).2.1) ∧ (∀ m, 6 * d + 6 ≤ m → XP tp n (wRec m 0) (nI (5 - d)) (rdL d).2.2) := by
  have mk : ∀ (nest : Bool) (d : Nat) (p : rdP × rdP × rdP), d ≤ 5 → (nest = true → 0 < d) → (nest = false → d = 0) → (nest = true → rdPG p.1 ∧ rdPG p.2.1 ∧ rdPG p.2.2) → (nest = true → (∀ m, 6 * d + 1 ≤ m + 6 → XP tp n (wRec m 5) (nI (5 - d + 1)) p.1) ∧ (∀ m, 6 * d + 4 ≤ m + 6 → XP tp n (wRec m 2) (nI (5 - d + 1)) p.2.1) ∧ (∀ m, 6 * d + 6 ≤ m + 6 → XP tp n (wRec m 0) (nI (5 - d + 1)) p.2.2)) → (∀ m, 6 * d + 1 ≤ m → XP tp n (wRec m 5) (nI (5 - d)) (rdMk nest p).1) ∧ (∀ m, 6 * d + 4 ≤ m → XP tp n (wRec m 2) (nI (5 - d)) (rdMk nest p).2.1) ∧ (∀ m, 6 * d + 6 ≤ m → XP tp n (wRec m 0) (nI (5 - d)) (rdMk nest p).2.2) := by
    intro nest d p hd hn hn0 hg hx
    have g1 : rdPG (rdOneB nest p.1 p.2.2) := pg_one (fun z => (hg z).1) (fun z => (hg z).2.2)
    have g2 : rdPG (rdNotB nest p.2.1 (rdSumB (rdOneB nest p.1 p.2.2))) := pg_not (fun z => (hg z).2.1) (pg_sum g1)
    have k1 : ∀ m, 6 * d + 1 ≤ m → XP tp n (wRec m 5) (nI (5 - d)) (rdMk nest p).1 := by
      intro m hm
      match m, hm with
      | 0, hm => exact absurd hm (by omega)
      | m + 1, hm =>
        have a := x_one (tp := tp) (n := n) (Q1 := wRec m 5) (Q2 := wRec m 0) (one := p.1) (or := p.2.2) (k := 5 - d) (nest := nest) h160 (by omega) (fun z => by have := hn z; omega) (fun z => by have := hn0 z; omega) (fun z => ⟨(hg z).1, (hx z).1 m (by have := hn z; omega)⟩) (fun z => ⟨(hg z).2.2, (hx z).2.2 m (by have := hn z; omega)⟩)
        exact a
    have k2 : ∀ m, 6 * d + 2 ≤ m → XP tp n (wRec m 4) (nI (5 - d)) (rdTermB (rdMk nest p).1) := by
      intro m hm
      match m, hm with
      | 0, hm => exact absurd hm (by omega)
      | m + 1, hm => exact x_Term h160 g1 (k1 m (by omega))
    have k3 : ∀ m, 6 * d + 3 ≤ m → XP tp n (wRec m 3) (nI (5 - d)) (rdSumB (rdMk nest p).1) := by
      intro m hm
      match m, hm with
      | 0, hm => exact absurd hm (by omega)
      | m + 1, hm => exact x_Sum h160 (pg_term g1) (k2 m (by omega))
    have k4 : ∀ m, 6 * d + 4 ≤ m → XP tp n (wRec m 2) (nI (5 - d)) (rdMk nest p).2.1 := by
      intro m hm
      match m, hm with
      | 0, hm => exact absurd hm (by omega)
      | m + 1, hm =>
        have a := x_not (tp := tp) (n := n) (Q1 := wRec m 2) (Q2 := wRec m 3) (nt := p.2.1) (sum := rdSumB (rdOneB nest p.1 p.2.2)) (k := 5 - d) (nest := nest) h160 (by omega) (fun z => by have := hn z; omega) (fun z => by have := hn0 z; omega) (fun z => ⟨(hg z).2.1, (hx z).2.1 m (by have := hn z; omega)⟩) (pg_sum g1) (k3 m (by omega))
        exact a
    have k5 : ∀ m, 6 * d + 5 ≤ m → XP tp n (wRec m 1) (nI (5 - d)) (rdAndB (rdMk nest p).2.1) := by
      intro m hm
      match m, hm with
      | 0, hm => exact absurd hm (by omega)
      | m + 1, hm => exact x_And h160 g2 (k4 m (by omega))
    refine ⟨k1, k4, ?_⟩
    intro m hm
    match m, hm with
    | 0, hm => exact absurd hm (by omega)
    | m + 1, hm => exact x_Or h160 (pg_and g2) (k5 m (by omega))
  intro d
  induction d with
  | zero => exact fun hd => mk false 0 _ hd (fun z => absurd z (by decide)) (fun _ => rfl) (fun z => absurd z (by decide)) (fun z => absurd z (by decide))
  | succ d ih =>
    intro hd
    obtain ⟨i1, i2, i3⟩ := ih (by omega)
    have e : 5 - (d + 1) + 1 = 5 - d := by omega
    refine mk true (d + 1) _ hd (fun _ => Nat.succ_pos _) (fun z => absurd z (by decide)) (fun _ => pg_L d) (fun _ => ⟨fun m hm => ?_, fun m hm => ?_, fun m hm => ?_⟩)
    · rw [e]; exact i1 m (by omega)
    · rw [e]; exact i2 m (by omega)
    · rw [e]; exact i3 m (by omega)
end
end
