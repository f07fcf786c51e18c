/-! PURE, 56: the model's reading by ranks -/
section
variable {S T S' T' : Mem} {a1 a2 a3 a4 a5 : Int32}
def bb (b : Bool) : Int32 := if b = true then 1 else 0
def FN (k : Nat) (T T2 : Mem) : Prop := (∀ c, c ≠ 0 → c ≠ 9 → c ≠ 11 → T2 c = T c) ∧ (∀ j, j < 22 ∨ 27 < j → T2 0 j = T 0 j) ∧ ∀ i, i < 160 * k → T2 9 i = T 9 i
def FM (k : Nat) (T T2 : Mem) : Prop := (∀ c, c ≠ 0 → c ≠ 9 → c ≠ 11 → T2 c = T c) ∧ (∀ j, j < 16 ∨ 27 < j → T2 0 j = T 0 j) ∧ ∀ i, i < 160 * k → T2 9 i = T 9 i
section
variable {k : Nat} {T2 : Mem}
theorem FN.rf : FN k T T := ⟨fun _ _ _ _ => rfl, fun _ _ => rfl, fun _ _ => rfl⟩
theorem FN.tr (h : FN k T T') (h2 : FN k T' T2) : FN k T T2 := ⟨fun c c1 c2 c3 => (h2.1 c c1 c2 c3).trans (h.1 c c1 c2 c3), fun j j1 => (h2.2.1 j j1).trans (h.2.1 j j1), fun i hi => (h2.2.2 i hi).trans (h.2.2 i hi)⟩
theorem FM.rf : FM k T T := ⟨fun _ _ _ _ => rfl, fun _ _ => rfl, fun _ _ => rfl⟩
theorem FM.tr (h : FM k T T') (h2 : FM k T' T2) : FM k T T2 := ⟨fun c c1 c2 c3 => (h2.1 c c1 c2 c3).trans (h.1 c c1 c2 c3), fun j j1 => (h2.2.1 j j1).trans (h.2.1 j j1), fun i hi => (h2.2.2 i hi).trans (h.2.2 i hi)⟩
theorem FLt.fn (h : FLt k T T') : FN k T T' := ⟨h.1, fun j hj => h.2.1 j (by omega) (by omega), h.2.2⟩
theorem FN.fm (h : FN k T T') : FM k T T' := ⟨h.1, fun j hj => h.2.1 j (by omega), h.2.2⟩
theorem FA.fm (h : FA T T') : FM k T T' := ⟨fun c c1 _ _ => h.1 c c1, fun j hj => h.2 j (by omega), fun i _ => by rw [h.1 9 (by decide)]⟩
theorem FN.up {j : Nat} {v : Int32} (h : FN k T T') (hj : 21 < j ∧ j < 28) : FN k T (mset T' 0 (upd (T' 0) j v)) := by
  refine ⟨fun c c1 c2 c3 => ?_, fun i hi => ?_, fun i hi => ?_⟩
  · rw [ms_n c1]; exact h.1 c c1 c2 c3
  · rw [ms_s, up_n (by omega)]; exact h.2.1 i hi
  · rw [ms_n (by decide)]; exact h.2.2 i hi
theorem MK.fn {t v : Int32} (h : MK T t v) (f : FN k T T') : MK T' t v := by
  unfold MK
  rw [f.2.1 16 (by omega), f.2.1 18 (by omega)]
  exact h
end
section
variable {k : Nat} {w o : rdO} {t v : Int32} {mn : Bool}
theorem MW.up {j : Nat} {y : Int32} (h : MW T w) (hj : j ≠ 24) : MW (mset T 0 (upd (T 0) j y)) w := ⟨by rw [ms_s, up_n (Ne.symm hj)]; exact h.1, h.2.1.cg (fun i _ => by rw [ms_n (by decide)]), h.2.2⟩
theorem MO.up {j : Nat} {y : Int32} (h : MO k T o) (hj : j ≠ 22) : MO k (mset T 0 (upd (T 0) j y)) o := ⟨by rw [ms_s, up_n (Ne.symm hj)]; exact h.1, fun i hi => by rw [ms_n (by decide)]; exact h.2 i hi⟩
theorem nm_d : ∀ i : Fin 23, (-6 ≤ nI i.val - 14 ∧ nI i.val - 14 ≤ (-1 : Int32)) → mtK (nI i.val - 14) = 2 ∧ mtV (nI i.val - 14) 0 = trS (nI i.val - 14) := by decide +kernel
theorem ot_d : ∀ i : Fin 23, ¬ nI i.val - 14 = (2 : Int32) → ¬ (-6 ≤ nI i.val - 14 ∧ nI i.val - 14 ≤ (-1 : Int32)) → ¬ mtK (nI i.val - 14) = 1 ∧ ¬ mtK (nI i.val - 14) = 2 := by decide +kernel
theorem m_begins {post : Int32 → Mem → Prop} (hk : k < 6) (h14 : T 0 14 = nI k) (hm : MK T t v) (hr : RG t) (hv : t = 2 → 0 ≤ v) (hw : MW T w) (ho : MO k T o) (hl : o.length + w.length < 160) (h25 : T 0 25 = 0) (h26 : T 0 26 = 1) (h27 : T 0 27 = bb mn) (h0 : (∀ K q, rkB K t v q mn w o = Sum.inl q) → ∀ T2, FN k T T2 → post 0 T2) (h1 : ∀ b mn2 w2 o2, (∀ K q, rkB K t v q mn w o = K b mn2 w2 o2) → o2.length + w2.length ≤ o.length + w.length + 1 → ∀ T2, FN k T T2 → T2 0 25 = 0 → MW T2 w2 → MO k T2 o2 → T2 0 26 = bb b → T2 0 27 = bb mn2 → post 1 T2) : w_X8_begins T post := by
  obtain ⟨i, ei⟩ := id hr
  have go38 : ∀ (y s : Int32), y = trS s → (∀ K q, rkB K t v q mn w o = K false mn (lgo 7 w (o ++ [s])).1 (lgo 7 w (o ++ [s])).2) → w_X8_begins_38 post y T := by
    intro y s ey hK
    unfold w_X8_begins_38
    rw [ey]
    refine m_step hk h14 ho (by omega) (fun T2 f2 e11 e24 ho2 => ?_)
    have hw2 : MW T2 w := ⟨by rw [e24]; exact hw.1, hw.2.1.cg (fun i _ => by rw [e11]), hw.2.2⟩
    have h142 : T2 0 14 = nI k := by rw [f2.2.1 14 (by decide) (by decide)]; exact h14
    refine m_letGo (r := 7) (by decide) hk h142 hw2 ho2 (by rw [List.length_append, List.length_singleton]; omega) (fun T3 f3 hw3 ho3 S3 e3 => ?_)
    have fa := (f2.tr f3).fn
    rw [e3]
    refine h1 false mn _ _ hK ?_ _ (fa.up (by decide)) ?_ (hw3.up (by decide)) (ho3.up (by decide)) ?_ ?_
    · rw [lgo_len, List.length_append, List.length_singleton]; omega
    · rw [ms_s, up_n (by decide), f3.2.1 25 (by decide) (by decide), f2.2.1 25 (by decide) (by decide)]; exact h25
    · rw [ms_s, up_s]; rfl
    · rw [ms_s, up_n (by decide), f3.2.1 27 (by decide) (by decide), f2.2.1 27 (by decide) (by decide)]; exact h27
  have go134 : ∀ (x1 s : Int32) (mn2 : Bool), VS s → (∀ K q, rkB K t v q mn w o = K true mn2 (s :: w) o) → ((¬ x1 = 0 ∧ mn2 = true) ∨ (x1 = 0 ∧ mn2 = decide (t = 3))) → w_X8_begins_134 post x1 (trS s) T := by
    intro x1 s mn2 hs hK hx
    unfold w_X8_begins_134
    refine m_await (k := k) hs hw (by omega) (fun T2 f2 e9 e22 hw2 => ?_)
    have ho2 : MO k T2 o := ⟨by rw [e22]; exact ho.1, by rw [e9]; exact ho.2⟩
    have fin : ∀ y : Int32, y = bb mn2 → w_X8_begins_156 post y T2 := by
      intro y ey
      unfold w_X8_begins_156
      refine ⟨?_, fun S1 e1 => ?_⟩
      · rw [ey]
        cases mn2
        · exact Or.inl rfl
        · exact Or.inr rfl
      · rw [e1]
        refine h1 true mn2 (s :: w) o hK (by rw [List.length_cons]; omega) _ (f2.fn.up (by decide)) ?_ (hw2.up (by decide)) (ho2.up (by decide)) ?_ ?_
        · rw [ms_s, up_n (by decide), f2.2.1 25 (by decide) (by decide)]; exact h25
        · rw [ms_s, up_n (by decide), f2.2.1 26 (by decide) (by decide)]; exact h26
        · rw [ms_s, up_s]; exact ey
    unfold w_X8_begins_151
    rcases hx with ⟨x0, em⟩ | ⟨x0, em⟩
    · exact ⟨fun _ => fin 1 (by rw [em]; rfl), fun z => absurd z x0⟩
    · refine ⟨fun z => absurd x0 z, fun _ => m_isSign sd_40 (hm.fn f2.fn) hr ?_⟩
      by_cases c : t = 3
      · rw [bI_t c]
        exact ⟨fun z => absurd z (by decide), fun _ => fin 1 (by rw [em, decide_eq_true c]; rfl)⟩
      · rw [bI_f c]
        exact ⟨fun _ => fin 0 (by rw [em, decide_eq_false c]; rfl), fun z => absurd rfl z⟩
  unfold w_X8_begins w_X8_begins_16
  rw [hm.1]
  by_cases c2 : t = 2
  · have e1 : mtK t = 1 := by rw [c2]; rfl
    have h18 : T 0 18 = v := by
      have := (hm.2.resolve_left (by rw [c2]; decide)).resolve_left (by rw [c2]; decide)
      rw [this, mtV, if_pos c2]
    have et : -1 - v = trS v := by
      have hv2 := hv c2
      unfold trS
      rw [if_neg]
      intro z
      rw [i_le] at z hv2
      rw [I0] at hv2
      rw [show (-7 : Int32).toInt = -7 by decide] at z
      omega
    rw [e1, h18]
    refine ⟨fun _ => ⟨fun z => absurd rfl z, fun _ => go38 _ v et (fun K q => ?_)⟩, fun z => absurd rfl z⟩
    unfold rkB
    rw [if_pos c2]
  · by_cases cn : -6 ≤ t ∧ t ≤ -1
    · have hd := nm_d i
      rw [← ei] at hd
      obtain ⟨d1, d2⟩ := hd cn
      have h18 : T 0 18 = trS t := by
        have h3 : ¬ t = 0 ∧ ¬ t = 1 := by
          refine ⟨fun e => ?_, fun e => ?_⟩ <;> rw [e] at cn <;> exact absurd cn (by decide)
        have := (hm.2.resolve_left h3.1).resolve_left h3.2
        rw [this, mtV_v v c2, d2]
      rw [d1, h18]
      have hK : ∀ K q, rkB K t v q mn w o = K false mn (lgo 7 w (o ++ [t])).1 (lgo 7 w (o ++ [t])).2 := fun K q => by
        unfold rkB
        rw [if_neg c2, if_pos (show rdN t = true from decide_eq_true cn)]
      exact ⟨fun z => absurd z (by decide), fun _ => ⟨fun z => absurd rfl z, fun _ => ⟨fun _ => go38 _ t rfl hK, fun z => absurd z (by decide)⟩⟩⟩
    · have hd := ot_d i
      rw [← ei] at hd
      obtain ⟨d1, d2⟩ := hd c2 cn
      have cn2 : ¬ rdN t = true := fun z => cn (of_decide_eq_true z)
      refine ⟨fun z => absurd z d1, fun _ => ⟨fun _ => m_isKey kd_11 hm hr ?_, fun z => absurd z d2⟩⟩
      have no : (∀ K q, rkB K t v q mn w o = Sum.inl q) → w_X8_begins_106 post T := by
        intro h
        unfold w_X8_begins_106
        exact h0 h T FN.rf
      have op : ∀ x1 : Int32, (rkOpn w = 5 → (∀ K q, rkB K t v q mn w o = Sum.inl q)) → (¬ rkOpn w = 5 → ((x1 = 0 → w_X8_isSign (40 : Int32) T (fun r2 S2 => ((r2 = 0 → w_X8_begins_134 post x1 (18 : Int32) S2) ∧ (¬ r2 = 0 → w_X8_begins_134 post x1 (19 : Int32) S2)))) ∧ (¬ x1 = 0 → w_X8_begins_134 post x1 (12 : Int32) T))) → w_X8_begins_98 post x1 T := by
        intro x1 y1 y2
        unfold w_X8_begins_98
        have hle := opn_le w
        refine m_opened hw (by omega) ⟨fun z => y2 (fun e => z (by rw [e]; rfl)), fun z => no (y1 ?_)⟩
        exact (nI_eq (b := 5) (by omega) (by decide)).mp z
      have zero : (¬ (t = -9 ∧ mn = true)) → w_X8_begins_75 post 0 T := by
        intro c9
        unfold w_X8_begins_75
        refine ⟨fun z => absurd rfl z, fun _ => m_isSign sd_40 hm hr ?_⟩
        by_cases c3 : t = 3
        · rw [bI_t c3]
          refine ⟨fun _ => op 0 (fun e K q => ?_) (fun e => ⟨fun _ => m_isSign sd_40 hm hr ?_, fun z => absurd rfl z⟩), fun z => absurd z (by decide)⟩
          · unfold rkB
            rw [if_neg c2, if_neg cn2, if_neg c9, if_pos c3, if_pos e]
          · rw [bI_t c3]
            refine ⟨fun z => absurd z (by decide), fun _ => ?_⟩
            have g := go134 0 (-16) true ⟨by decide, by decide⟩ (fun K q => by
              unfold rkB
              rw [if_neg c2, if_neg cn2, if_neg c9, if_pos c3, if_neg e]) (Or.inr ⟨rfl, (decide_eq_true c3).symm⟩)
            exact g
        · rw [bI_f c3]
          refine ⟨fun z => absurd rfl z, fun _ => m_isSign sd_45 hm hr ?_⟩
          by_cases c4 : t = -13
          · rw [bI_t c4]
            refine ⟨fun z => absurd z (by decide), fun _ => op 0 (fun e K q => ?_) (fun e => ⟨fun _ => m_isSign sd_40 hm hr ?_, fun z => absurd rfl z⟩)⟩
            · unfold rkB
              rw [if_neg c2, if_neg cn2, if_neg c9, if_neg c3, if_pos c4, if_pos e]
            · rw [bI_f c3]
              refine ⟨fun _ => ?_, fun z => absurd rfl z⟩
              have g := go134 0 (-15) false ⟨by decide, by decide⟩ (fun K q => by
                unfold rkB
                rw [if_neg c2, if_neg cn2, if_neg c9, if_neg c3, if_pos c4, if_neg e]) (Or.inr ⟨rfl, (decide_eq_false c3).symm⟩)
              exact g
          · rw [bI_f c4]
            refine ⟨fun _ => no (fun K q => ?_), fun z => absurd rfl z⟩
            unfold rkB
            rw [if_neg c2, if_neg cn2, if_neg c9, if_neg c3, if_neg c4]
      unfold w_X8_begins_74
      by_cases c9 : t = -9
      · rw [bI_t c9]
        refine ⟨fun z => absurd z (by decide), fun _ => ?_⟩
        try dsimp only
        rw [h27]
        cases mn with
        | false => exact ⟨fun _ => zero (fun y => absurd y.2 (by decide)), fun z => absurd rfl z⟩
        | true =>
          refine ⟨fun z => absurd z (by decide), fun _ => ?_⟩
          unfold w_X8_begins_75
          refine ⟨fun _ => op 1 (fun e K q => ?_) (fun e => ⟨fun z => absurd z (by decide), fun _ => ?_⟩), fun z => absurd z (by decide)⟩
          · unfold rkB
            rw [if_neg c2, if_neg cn2, if_pos ⟨c9, rfl⟩, if_pos e]
          · have g := go134 1 (-9) true ⟨by decide, by decide⟩ (fun K q => by
              unfold rkB
              rw [if_neg c2, if_neg cn2, if_pos ⟨c9, rfl⟩, if_neg e]) (Or.inl ⟨by decide, rfl⟩)
            exact g
      · rw [bI_f c9]
        exact ⟨fun _ => zero (fun y => c9 y.1), fun z => absurd rfl z⟩
theorem m_goOn {post : Mem → Prop} (hk : k < 6) (h14 : T 0 14 = nI k) (ht : isOp t = true ∨ opC t = true) (hw : MW T w) (ho : MO k T o) (hl : o.length + w.length ≤ 160) (h25 : T 0 25 = 0) (hq : ∀ T2, FN k T T2 → T2 0 25 = 0 → MW T2 (t :: (lgo (rk t) w o).1) → MO k T2 (lgo (rk t) w o).2 → T2 0 26 = bb true → T2 0 27 = bb (decide (t = -7 ∨ t = -8)) → post T2) : w_X8_goOn (trS t) T post := by
  unfold w_X8_goOn
  have hv := vs_op ht
  have hrk : rk t < 8 := by
    rcases vs_c hv with e | e | e | e | e | e | e | e | e | e <;> rw [e] <;> decide
  refine m_rank hv (m_letGo hrk hk h14 hw ho hl (fun T2 f2 hw2 ho2 => ?_))
  have hlen := lgo_len (rk t) w o
  refine m_await (k := k) hv hw2 (by omega) (fun T3 f3 e9 e22 hw3 S4 e4 => ?_)
  have ho3 : MO k T3 (lgo (rk t) w o).2 := ⟨by rw [e22]; exact ho2.1, by rw [e9]; exact ho2.2⟩
  have fa := (f2.tr f3).fn
  have fin : ∀ y : Int32, y = bb (decide (t = -7 ∨ t = -8)) → w_X8_goOn_30 post y S4 := by
    intro y ey
    unfold w_X8_goOn_30
    refine ⟨?_, fun S1 e1 => ?_⟩
    · rw [ey]
      cases decide (t = -7 ∨ t = -8)
      · exact Or.inl rfl
      · exact Or.inr rfl
    · have f4 : FN k T S4 := by rw [e4]; exact fa.up (by decide)
      have hw4 : MW S4 (t :: (lgo (rk t) w o).1) := by rw [e4]; exact hw3.up (by decide)
      have ho4 : MO k S4 (lgo (rk t) w o).2 := by rw [e4]; exact ho3.up (by decide)
      rw [e1]
      refine hq _ (f4.up (by decide)) ?_ (hw4.up (by decide)) (ho4.up (by decide)) ?_ ?_
      · rw [ms_s, up_n (by decide), e4, ms_s, up_n (by decide), f3.2.1 25 (by decide) (by decide), f2.2.1 25 (by decide) (by decide)]; exact h25
      · rw [ms_s, up_n (by decide), e4, ms_s, up_s]; rfl
      · rw [ms_s, up_s]; exact ey
  have ed : (t = -7 ∨ t = -8) → ¬ (12 : Int32) ≤ trS t := fun h => by
    rcases h with e | e <;> rw [e] <;> decide
  have ed2 : ¬ (t = -7 ∨ t = -8) → (12 : Int32) ≤ trS t := fun h => by
    rcases vs_c hv with e | e | e | e | e | e | e | e | e | e
    · exact absurd (Or.inl e) h
    · exact absurd (Or.inr e) h
    all_goals rw [e]; decide
  by_cases c : t = -7 ∨ t = -8
  · rw [decide_eq_true c] at fin
    exact ⟨fun z => absurd z (ed c), fun _ => fin 1 rfl⟩
  · rw [decide_eq_false c] at fin
    exact ⟨fun _ => fin 0 rfl, fun z => absurd (ed2 c) z⟩
end
end
