/-! PURE, 47: the two readers are one -/
section
def E1 (one : rdP) (d : Nat) : Prop := ∀ (l : List rdT) (mn : Bool) (w o : rdO), l.length ≤ 161 → rkOpn w + d = 5 → (mn = true → ¬ rdH l = -9) → rkRun l true mn w o = rdB (one l o) (fun l2 o2 => rA l2 (lgo 7 w o2).1 (lgo 7 w o2).2)
def En (nt : rdP) (d : Nat) : Prop := ∀ (l : List rdT) (w o : rdO), l.length ≤ 161 → rkOpn w + d = 5 → rkTop w ≤ 3 → rkRun l true true w o = rdB (nt l o) (fun l2 o2 => rK l2 w o2)
def Eo (or : rdP) (d : Nat) : Prop := ∀ (l : List rdT) (w o : rdO), l.length ≤ 161 → rkOpn w + d = 5 → rkTop w = 0 → rkRun l true true w o = rdB (or l o) (fun l2 o2 => rK l2 w o2)
def NHo (or : rdP) : Prop := ∀ (l : List rdT) (o : rdO) (l2 : List rdT) (o2 : rdO), l.length ≤ 161 → or l o = Sum.inr (l2, o2) → opA (rdH l2) = false ∧ opR (rdH l2) = false
theorem opn_n {x : Int32} {w : rdO} (h : ¬ (x = -9 ∨ x = -15 ∨ x = -16)) : rkOpn (x :: w) = rkOpn w := by
  rw [rkOpn, if_neg h, Nat.zero_add]
theorem opn_y {x : Int32} {w : rdO} (h : x = -9 ∨ x = -15 ∨ x = -16) : rkOpn (x :: w) = 1 + rkOpn w := by
  rw [rkOpn, if_pos h]
theorem cmp_skip {x : Int32} {w : rdO} (h : opC x = false) (h3 : ¬ rk x ≤ 3) : rkCmp (x :: w) = rkCmp w := by
  rw [rkCmp, if_neg (by rw [h]; decide), if_neg h3]
theorem cmp_hit {x : Int32} {w : rdO} (h : opC x = true) : rkCmp (x :: w) = true := by
  rw [rkCmp, if_pos h]
theorem rk_C {x : Int32} (h : opC x = true) : rk x = 4 := by
  rcases opC_of h with e | e <;> rw [e] <;> decide
theorem cmp_top {w : rdO} (h : rkTop w ≤ 3) : rkCmp w = false := by
  match w, h with
  | [], _ => rfl
  | x :: w, h =>
    have h : rk x ≤ 3 := h
    have hc : ¬ opC x = true := fun z => by
      have := rk_C z
      omega
    rw [rkCmp, if_neg hc, if_pos h]
theorem e_tloop {one : rdP} {d : Nat} (hp : rdPG one) (h : E1 one d) : ∀ (f : Nat) (l : List rdT) (w o : rdO), l.length ≤ 161 → rkOpn w + d = 5 → rkTop w < 6 → rA l w o = rdB (rdLoop opT one f l o) (fun l2 o2 => rA l2 w o2) := by
  intro f
  induction f with
  | zero => intro l w o _ _ _; rfl
  | succ f ih =>
    intro l w o hl hw ht
    rw [rdLoop]
    by_cases c : opT (rdH l) = true
    · have e : rdH l = -14 := of_decide_eq_true c
      have hl2 := len_tl' l
      rw [if_pos c, rdB_as, rA_op (opT_op _ c) (by rw [e]; exact ht), e, show decide ((-14 : Int32) = -7 ∨ (-14 : Int32) = -8) = false by decide, h l.tail false (-14 :: w) o (by omega) (by rw [opn_n (by decide)]; exact hw) (fun z => absurd z (by decide))]
      refine rdB_cg (fun l1 o1 e1 => ?_)
      have y := (hp _ _ _ _ e1).2
      rw [lgo_top (show rkTop (-14 :: w) < 7 by show rk (-14) < 7; decide)]
      show rA l1 (-14 :: w) o1 = _
      rw [flush (by decide) (by decide) (fun z => by rcases op_of z with q | q | q | q | q <;> rw [q] <;> decide) (fun _ => ⟨by decide, cmp_skip (by decide) (by decide)⟩)]
      exact ih l1 w _ (by omega) hw ht
    · rw [if_neg c]; rfl
theorem e_term {one : rdP} {d : Nat} (hp : rdPG one) (h : E1 one d) (l : List rdT) (mn : Bool) (w o : rdO) (hl : l.length ≤ 161) (hw : rkOpn w + d = 5) (ht : rkTop w < 6) (hm : mn = true → ¬ rdH l = -9) : rkRun l true mn w o = rdB (rdTermB one l o) (fun l2 o2 => rA l2 w o2) := by
  rw [h l mn w o hl hw hm]
  unfold rdTermB
  rw [rdB_as]
  refine rdB_cg (fun l1 o1 e1 => ?_)
  have y := (hp _ _ _ _ e1).2
  rw [lgo_top (by omega)]
  exact e_tloop hp h 160 l1 w o1 (by omega) hw ht
theorem nh_term {one : rdP} (hp : rdPG one) : ∀ (l : List rdT) (o : rdO) (l2 : List rdT) (o2 : rdO), l.length ≤ 161 → rdTermB one l o = Sum.inr (l2, o2) → opT (rdH l2) = false := by
  intro l o l2 o2 hl h
  unfold rdTermB at h
  obtain ⟨l1, o1, h1, h2⟩ := rdB_inr h
  have y := (hp _ _ _ _ h1).2
  exact lp_hd hp (by decide) 160 _ _ _ _ (by omega) h2
theorem nh_sum {one : rdP} (hp : rdPG one) : ∀ (l : List rdT) (o : rdO) (l2 : List rdT) (o2 : rdO), l.length ≤ 161 → rdSumB one l o = Sum.inr (l2, o2) → opT (rdH l2) = false ∧ opS (rdH l2) = false := by
  intro l o l2 o2 hl h
  unfold rdSumB at h
  obtain ⟨l1, o1, h1, h2⟩ := rdB_inr h
  have y := (pg_term hp _ _ _ _ h1).2
  exact ⟨lp_keep (Q := fun t => opT t = false) (pg_term hp) (nh_term hp) 160 _ _ _ _ (by omega) (nh_term hp _ _ _ _ hl h1) h2, lp_hd (pg_term hp) (by decide) 160 _ _ _ _ (by omega) h2⟩
theorem e_sloop {one : rdP} {d : Nat} (hp : rdPG one) (h : E1 one d) : ∀ (f : Nat) (l : List rdT) (w o : rdO), l.length ≤ 161 → rkOpn w + d = 5 → rkTop w < 5 → rA l w o = rdB (rdLoop opS (rdTermB one) f l o) (fun l2 o2 => rA l2 w o2) := by
  intro f
  induction f with
  | zero => intro l w o _ _ _; rfl
  | succ f ih =>
    intro l w o hl hw ht
    rw [rdLoop]
    by_cases c : opS (rdH l) = true
    · have e : rk (rdH l) = 5 ∧ decide (rdH l = -7 ∨ rdH l = -8) = false ∧ ¬ (rdH l = -9 ∨ rdH l = -15 ∨ rdH l = -16) ∧ opC (rdH l) = false ∧ ¬ rdH l = -16 := by
        rcases of_decide_eq_true c with e | e <;> rw [e] <;> decide
      obtain ⟨e1, e2, e3, e4, e5⟩ := e
      have hl2 := len_tl' l
      rw [if_pos c, rdB_as, rA_op (opS_op _ c) (by rw [e1]; exact ht), e2, e_term hp h l.tail false (rdH l :: w) o (by omega) (by rw [opn_n e3]; exact hw) (by show rk (rdH l) < 6; rw [e1]; decide) (fun z => absurd z (by decide))]
      refine rdB_cg (fun l1 o1 q1 => ?_)
      have y := (pg_term hp _ _ _ _ q1).2
      have nt := nh_term hp _ _ _ _ (by omega) q1
      rw [flush (by omega) e5 (fun z => by
        rw [e1]
        rcases op_of z with q | q | q | q | q
        · rw [q]; decide
        · rw [q]; decide
        · rw [q]; decide
        · rw [q]; decide
        · rw [q] at nt; exact absurd nt (by decide)) (fun _ => ⟨by omega, cmp_skip e4 (by omega)⟩)]
      exact ih l1 w _ (by omega) hw ht
    · rw [if_neg c]; rfl
theorem e_sum {one : rdP} {d : Nat} (hp : rdPG one) (h : E1 one d) (l : List rdT) (mn : Bool) (w o : rdO) (hl : l.length ≤ 161) (hw : rkOpn w + d = 5) (ht : rkTop w < 5) (hm : mn = true → ¬ rdH l = -9) : rkRun l true mn w o = rdB (rdSumB one l o) (fun l2 o2 => rA l2 w o2) := by
  rw [e_term hp h l mn w o hl hw (by omega) hm]
  unfold rdSumB
  rw [rdB_as]
  refine rdB_cg (fun l1 o1 e1 => ?_)
  have y := (pg_term hp _ _ _ _ e1).2
  exact e_sloop hp h 160 l1 w o1 (by omega) hw ht
theorem op5_f {t : Int32} (h1 : opC t = false) (h2 : opT t = false) (h3 : opS t = false) : op5 t = false := by
  have h1 := of_decide_eq_false h1
  have h2 := of_decide_eq_false h2
  have h3 := of_decide_eq_false h3
  refine decide_eq_false ?_
  rintro (z | z | z | z | z)
  · exact h1 (Or.inl z)
  · exact h1 (Or.inr z)
  · exact h3 (Or.inl z)
  · exact h3 (Or.inr z)
  · exact h2 z
theorem C_op5 {t : Int32} (h : opC t = true) : op5 t = true := by
  rcases opC_of h with e | e <;> rw [e] <;> decide
theorem e_not {nest : Bool} {nt one : rdP} {d : Nat} (hn : nest = true → ∃ d2, d = d2 + 1 ∧ En nt d2) (h0 : nest = false → d = 0) (hp : rdPG one) (h : E1 one d) : En (rdNotB nest nt (rdSumB one)) d := by
  intro l w o hl hw ht
  show rkRun l true true w o = rdB (if rdH l = -9 then (if nest = true then rdB (nt l.tail o) (fun l2 o2 => Sum.inr (l2, o2 ++ [-9])) else Sum.inl (rdQ l)) else rdB (rdSumB one l o) (fun l2 o2 => if opC (rdH l2) = true then rdB (rdSumB one l2.tail o2) (fun l3 o3 => Sum.inr (l3, o3 ++ [rdH l2])) else Sum.inr (l2, o2))) (fun l2 o2 => rK l2 w o2)
  by_cases c1 : rdH l = -9
  · rw [if_pos c1]
    match l, c1, hl with
    | [], c1, _ => exact absurd c1 (by decide)
    | y :: r, c1, hl =>
      have c1 : y.1 = -9 := c1
      have hl : r.length + 1 ≤ 161 := hl
      show rkB (rkRun r) y.1 y.2.1 y.2.2 true w o = _
      unfold rkB
      rw [c1, if_neg (by decide), if_neg (by decide), if_pos ⟨rfl, rfl⟩]
      cases nest with
      | true =>
        obtain ⟨d2, ed, hE⟩ := hn rfl
        rw [if_neg (by omega), if_pos rfl, rdB_as, hE r (-9 :: w) o (by omega) (by rw [opn_y (Or.inl rfl)]; omega) (by show rk (-9) ≤ 3; decide)]
        exact rdB_cg (fun l1 o1 e1 => flushK (Or.inr (Or.inr rfl)) (fun z => absurd z (by decide)))
      | false =>
        have := h0 rfl
        rw [if_pos (by omega), if_neg (by decide)]
        rfl
  · rw [if_neg c1, e_sum hp h l true w o hl hw (by omega) (fun _ => c1), rdB_as]
    refine rdB_cg (fun l1 o1 e1 => ?_)
    obtain ⟨n1, n2⟩ := nh_sum hp _ _ _ _ hl e1
    have hlen := (pg_sum hp _ _ _ _ e1).2
    by_cases c2 : opC (rdH l1) = true
    · have hl2 := len_tl' l1
      have e3 : ¬ (rdH l1 = -9 ∨ rdH l1 = -15 ∨ rdH l1 = -16) ∧ ¬ rdH l1 = -16 := by
        rcases opC_of c2 with e | e <;> rw [e] <;> decide
      have e4 := rk_C c2
      rw [if_pos c2, rA_cmp c2 (by omega) (cmp_top ht), e_sum hp h l1.tail false (rdH l1 :: w) o1 (by omega) (by rw [opn_n e3.1]; exact hw) (by show rk (rdH l1) < 5; omega) (fun z => absurd z (by decide)), rdB_as]
      refine rdB_cg (fun l2 o2 e2 => ?_)
      show rA l2 (rdH l1 :: w) o2 = rK l2 w (o2 ++ [rdH l1])
      obtain ⟨m1, m2⟩ := nh_sum hp _ _ _ _ (by omega) e2
      by_cases c3 : opC (rdH l2) = true
      · rw [rA_cmp2 c3 (cmp_hit c2), rK_y (C_op5 c3)]
      · have c5 := op5_f (Bool.eq_false_iff.mpr c3) m1 m2
        rw [rK_n c5]
        refine flush (by omega) e3.2 (fun z => ?_) (fun z => absurd z c3)
        rw [e4]
        rcases (op5_C c5).2 z with q | q <;> rw [q] <;> decide
    · rw [if_neg c2]
      show rA l1 w o1 = rK l1 w o1
      rw [rK_n (op5_f (Bool.eq_false_iff.mpr c2) n1 n2)]
theorem e_aloop {nt : rdP} {d : Nat} (hp : rdPG nt) (h : En nt d) : ∀ (f : Nat) (l : List rdT) (w o : rdO), l.length ≤ 161 → rkOpn w + d = 5 → rkTop w ≤ 1 → rK l w o = rdB (rdLoop opA nt f l o) (fun l2 o2 => rK l2 w o2) := by
  intro f
  induction f with
  | zero => intro l w o _ _ _; rfl
  | succ f ih =>
    intro l w o hl hw ht
    rw [rdLoop]
    by_cases c : opA (rdH l) = true
    · have e : rdH l = -8 := of_decide_eq_true c
      have hl2 := len_tl' l
      have r2 : rk (-8) = 2 := by decide
      rw [if_pos c, rdB_as, rK_n (by rw [e]; decide), rA_op (opA_op _ c) (by rw [e, r2]; omega), e, show decide ((-8 : Int32) = -7 ∨ (-8 : Int32) = -8) = true by decide, h l.tail (-8 :: w) o (by omega) (by rw [opn_n (by decide)]; exact hw) (by show rk (-8) ≤ 3; decide)]
      refine rdB_cg (fun l1 o1 e1 => ?_)
      have y := (hp _ _ _ _ e1).2
      rw [flushK (Or.inr (Or.inl rfl)) (fun z => absurd z (by decide))]
      exact ih l1 w _ (by omega) hw ht
    · rw [if_neg c]; rfl
theorem e_and {nt : rdP} {d : Nat} (hp : rdPG nt) (h : En nt d) (l : List rdT) (w o : rdO) (hl : l.length ≤ 161) (hw : rkOpn w + d = 5) (ht : rkTop w ≤ 1) : rkRun l true true w o = rdB (rdAndB nt l o) (fun l2 o2 => rK l2 w o2) := by
  rw [h l w o hl hw (by omega)]
  unfold rdAndB
  rw [rdB_as]
  refine rdB_cg (fun l1 o1 e1 => ?_)
  have y := (hp _ _ _ _ e1).2
  exact e_aloop hp h 160 l1 w o1 (by omega) hw ht
theorem nh_and {nt : rdP} (hp : rdPG nt) : ∀ (l : List rdT) (o : rdO) (l2 : List rdT) (o2 : rdO), l.length ≤ 161 → rdAndB nt l o = Sum.inr (l2, o2) → opA (rdH l2) = false := by
  intro l o l2 o2 hl h
  unfold rdAndB at h
  obtain ⟨l1, o1, h1, h2⟩ := rdB_inr h
  have y := (hp _ _ _ _ h1).2
  exact lp_hd hp (by decide) 160 _ _ _ _ (by omega) h2
theorem nh_or {nt : rdP} (hp : rdPG nt) : NHo (rdOrB nt) := by
  intro l o l2 o2 hl h
  unfold rdOrB at h
  obtain ⟨l1, o1, h1, h2⟩ := rdB_inr h
  have y := (pg_and hp _ _ _ _ h1).2
  exact ⟨lp_keep (Q := fun t => opA t = false) (pg_and hp) (nh_and hp) 160 _ _ _ _ (by omega) (nh_and hp _ _ _ _ hl h1) h2, lp_hd (pg_and hp) (by decide) 160 _ _ _ _ (by omega) h2⟩
theorem e_rloop {nt : rdP} {d : Nat} (hp : rdPG nt) (h : En nt d) : ∀ (f : Nat) (l : List rdT) (w o : rdO), l.length ≤ 161 → rkOpn w + d = 5 → rkTop w = 0 → rK l w o = rdB (rdLoop opR (rdAndB nt) f l o) (fun l2 o2 => rK l2 w o2) := by
  intro f
  induction f with
  | zero => intro l w o _ _ _; rfl
  | succ f ih =>
    intro l w o hl hw ht
    rw [rdLoop]
    by_cases c : opR (rdH l) = true
    · have e : rdH l = -7 := of_decide_eq_true c
      have hl2 := len_tl' l
      have r1 : rk (-7) = 1 := by decide
      rw [if_pos c, rdB_as, rK_n (by rw [e]; decide), rA_op (opR_op _ c) (by rw [e, r1]; omega), e, show decide ((-7 : Int32) = -7 ∨ (-7 : Int32) = -8) = true by decide, e_and hp h l.tail (-7 :: w) o (by omega) (by rw [opn_n (by decide)]; exact hw) (by show rk (-7) ≤ 1; decide)]
      refine rdB_cg (fun l1 o1 e1 => ?_)
      have y := (pg_and hp _ _ _ _ e1).2
      have na := nh_and hp _ _ _ _ (by omega) e1
      rw [flushK (Or.inl rfl) (fun _ z => by rw [z] at na; exact absurd na (by decide))]
      exact ih l1 w _ (by omega) hw ht
    · rw [if_neg c]; rfl
theorem e_or {nt : rdP} {d : Nat} (hp : rdPG nt) (h : En nt d) : Eo (rdOrB nt) d := by
  intro l w o hl hw ht
  rw [e_and hp h l w o hl hw (by omega)]
  unfold rdOrB
  rw [rdB_as]
  refine rdB_cg (fun l1 o1 e1 => ?_)
  have y := (pg_and hp _ _ _ _ e1).2
  exact e_rloop hp h 160 l1 w o1 (by omega) hw ht
theorem e_one {nest : Bool} {one or : rdP} {d : Nat} (h1 : nest = true → ∃ d2, d = d2 + 1 ∧ E1 one d2 ∧ Eo or d2) (hnh : nest = true → NHo or) (h0 : nest = false → d = 0) : E1 (rdOneB nest one or) d := by
  intro l mn w o hl hw hm
  match l, hl, hm with
  | [], _, _ =>
    show Sum.inl 0 = rdB (if (0 : Int32) = 2 then _ else if rdN 0 = true then _ else if (0 : Int32) = -13 ∧ nest = true then _ else if (0 : Int32) = 3 ∧ nest = true then _ else Sum.inl 0) _
    rw [if_neg (by decide), if_neg (by decide), if_neg (fun z => absurd z.1 (by decide)), if_neg (fun z => absurd z.1 (by decide))]
    rfl
  | y :: r, hl, hm =>
    have hm : mn = true → ¬ y.1 = -9 := hm
    have hl : r.length + 1 ≤ 161 := hl
    show rkB (rkRun r) y.1 y.2.1 y.2.2 mn w o = rdB (if y.1 = 2 then Sum.inr (r, o ++ [y.2.1]) else if rdN y.1 = true then Sum.inr (r, o ++ [y.1]) else if y.1 = -13 ∧ nest = true then rdB (one r o) (fun l2 o2 => Sum.inr (l2, o2 ++ [-15])) else if y.1 = 3 ∧ nest = true then rdB (or r o) (rdAcc 4) else Sum.inl y.2.2) (fun l2 o2 => rA l2 (lgo 7 w o2).1 (lgo 7 w o2).2)
    unfold rkB
    by_cases c1 : y.1 = 2
    · rw [if_pos c1, if_pos c1]
      exact run_mn _ _ _ _
    · rw [if_neg c1, if_neg c1]
      by_cases c2 : rdN y.1 = true
      · rw [if_pos c2, if_pos c2]
        exact run_mn _ _ _ _
      · rw [if_neg c2, if_neg c2, if_neg (fun z => hm z.2 z.1)]
        cases nest with
        | false =>
          have hd0 := h0 rfl
          have e5 : rkOpn w = 5 := by omega
          have nf : ∀ t : Int32, ¬ (y.1 = t ∧ false = true) := fun t z => absurd z.2 (by decide)
          rw [if_neg (nf (-13)), if_neg (nf 3)]
          simp only [if_pos e5, ite_self]
          rfl
        | true =>
          obtain ⟨d2, ed, k1, k2⟩ := h1 rfl
          have e5 : ¬ rkOpn w = 5 := by omega
          simp only [if_neg e5, and_true]
          by_cases c4 : y.1 = -13
          · have c5 : ¬ y.1 = 3 := by rw [c4]; decide
            simp only [if_neg c5, if_pos c4]
            rw [k1 r false (-15 :: w) o (by omega) (by rw [opn_y (Or.inr (Or.inl rfl))]; omega) (fun z => absurd z (by decide)), rdB_as]
            refine rdB_cg (fun l1 o1 e1 => ?_)
            show rA l1 (lgo 7 (-15 :: w) o1).1 (lgo 7 (-15 :: w) o1).2 = rA l1 (lgo 7 w (o1 ++ [-15])).1 (lgo 7 w (o1 ++ [-15])).2
            rw [lgo_in (by decide)]
          · simp only [if_neg c4]
            by_cases c5 : y.1 = 3
            · simp only [if_pos c5]
              rw [k2 r (-16 :: w) o (by omega) (by rw [opn_y (Or.inr (Or.inr rfl))]; omega) (by show rk (-16) = 0; decide), rdB_as]
              refine rdB_cg (fun l1 o1 e1 => ?_)
              obtain ⟨n1, n2⟩ := hnh rfl _ _ _ _ (by omega) e1
              show rK l1 (-16 :: w) o1 = rdB (if rdH l1 = 4 then Sum.inr (l1.tail, o1) else Sum.inl (rdQ l1)) _
              by_cases c6 : rdH l1 = 4
              · rw [if_pos c6, rK_n (by rw [c6]; decide), rA_cl c6]
                rfl
              · rw [if_neg c6]
                cases c7 : op5 (rdH l1) with
                | true => rw [rK_y c7]; rfl
                | false =>
                  obtain ⟨g1, g2⟩ := op5_C c7
                  rw [rK_n c7, rA_no (Bool.eq_false_iff.mpr (fun z => by
                    rcases g2 z with q | q
                    · rw [q] at n2; exact absurd n2 (by decide)
                    · rw [q] at n1; exact absurd n1 (by decide))) g1 (fun z => absurd z c6) (fun _ => by rw [rkBr, decide_eq_true rfl, Bool.true_or])]
                  rfl
            · simp only [if_neg c5]
              rfl
theorem e_L : ∀ d, E1 (rdL d).1 d ∧ En (rdL d).2.1 d ∧ Eo (rdL d).2.2 d ∧ NHo (rdL d).2.2 := by
  have mk : ∀ (nest : Bool) (d : Nat) (p : rdP × rdP × rdP), (nest = true → rdPG p.1 ∧ rdPG p.2.1 ∧ rdPG p.2.2) → (nest = true → ∃ d2, d = d2 + 1 ∧ E1 p.1 d2 ∧ En p.2.1 d2 ∧ Eo p.2.2 d2 ∧ NHo p.2.2) → (nest = false → d = 0) → E1 (rdMk nest p).1 d ∧ En (rdMk nest p).2.1 d ∧ Eo (rdMk nest p).2.2 d ∧ NHo (rdMk nest p).2.2 := by
    intro nest d p hg h h0
    have k1 : rdPG (rdOneB nest p.1 p.2.2) := pg_one (fun z => (hg z).1) (fun z => (hg z).2.2)
    have k2 : rdPG (rdNotB nest p.2.1 (rdSumB (rdOneB nest p.1 p.2.2))) := pg_not (fun z => (hg z).2.1) (pg_sum k1)
    have q1 : E1 (rdOneB nest p.1 p.2.2) d := e_one (fun z => by
      obtain ⟨d2, a, b, -, c, -⟩ := h z
      exact ⟨d2, a, b, c⟩) (fun z => by
      obtain ⟨d2, -, -, -, -, e⟩ := h z
      exact e) h0
    have q2 : En (rdNotB nest p.2.1 (rdSumB (rdOneB nest p.1 p.2.2))) d := e_not (fun z => by
      obtain ⟨d2, a, -, b, -⟩ := h z
      exact ⟨d2, a, b⟩) h0 k1 q1
    exact ⟨q1, q2, e_or k2 q2, nh_or k2⟩
  intro d
  induction d with
  | zero => exact mk false 0 _ (fun z => absurd z (by decide)) (fun z => absurd z (by decide)) (fun _ => rfl)
  | succ d ih => exact mk true (d + 1) _ (fun _ => pg_L d) (fun _ => ⟨d, rfl, ih.1, ih.2.1, ih.2.2.1, ih.2.2.2⟩) (fun z => absurd z (by decide))
/-- a part of a text -/
def rdE : rdP := fun l o => rdB ((rdL 5).2.2 l o) (rdAcc 5)
theorem rd_eq {l : List rdT} {o : rdO} (hl : l.length ≤ 161) : rkRun l true true [] o = rdE l o := by
  rw [(e_L 5).2.2.1 l [] o hl rfl rfl]
  unfold rdE
  refine rdB_cg (fun l1 o1 e1 => ?_)
  obtain ⟨n1, n2⟩ := (e_L 5).2.2.2 _ _ _ _ hl e1
  unfold rdAcc
  by_cases c6 : rdH l1 = 5
  · rw [if_pos c6, rK_n (by rw [c6]; decide), rA_sc c6]
  · rw [if_neg c6]
    cases c7 : op5 (rdH l1) with
    | true => rw [rK_y c7]
    | false =>
      obtain ⟨g1, g2⟩ := op5_C c7
      rw [rK_n c7, rA_no (Bool.eq_false_iff.mpr (fun z => by
        rcases g2 z with q | q
        · rw [q] at n2; exact absurd n2 (by decide)
        · rw [q] at n1; exact absurd n1 (by decide))) g1 (fun _ => rfl) (fun z => absurd z c6)]
theorem pg_E : rdPG rdE := by
  intro l o l2 o2 h
  unfold rdE at h
  obtain ⟨l1, o1, h1, h2⟩ := rdB_inr h
  obtain ⟨y1, y2⟩ := (pg_L 5).2.2 _ _ _ _ h1
  unfold rdAcc at h2
  by_cases c : rdH l1 = 5
  · rw [if_pos c] at h2
    cases h2
    obtain ⟨cc, e, hl, hg⟩ := y1
    have := len_tl' l1
    exact ⟨⟨cc, e, by omega, fun g => ⟨(hg g).1.tl, (hg g).2⟩⟩, by omega⟩
  · rw [if_neg c] at h2
    cases h2
end
