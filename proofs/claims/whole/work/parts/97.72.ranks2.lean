/-! PURE, 57: the model's reading by ranks, what follows -/
section
variable {S T S' T' : Mem} {a1 a2 a3 a4 a5 : Int32}
theorem lgo_br : ∀ (w o : rdO), rkBr w = true → ∃ y w2, (lgo 1 w o).1 = y :: w2 := by
  intro w
  induction w with
  | nil => intro o h; exact absurd h (by decide)
  | cons x w ih =>
    intro o h
    rw [lgo]
    by_cases c : 1 ≤ rk x
    · rw [if_pos c]
      have hx : ¬ x = -16 := fun e => by
        rw [e] at c
        exact absurd c (by decide)
      rw [rkBr, decide_eq_false hx, Bool.false_or] at h
      exact ih _ h
    · rw [if_neg c]
      exact ⟨x, w, rfl⟩
section
variable {k : Nat} {w o : rdO} {t v : Int32} {mn : Bool}
theorem m_follows {post : Int32 → Mem → Prop} (hk : k < 6) (h14 : T 0 14 = nI k) (hm : MK T t v) (hr : RG t) (hw : MW T w) (ho : MO k T o) (hl : o.length + w.length ≤ 160) (h25 : T 0 25 = 0) (h26 : T 0 26 = 0) (h27 : T 0 27 = bb mn) (h0 : (∀ K q r, rkA K t q r mn w o = Sum.inl q) → ∀ T2, FN k T T2 → post 0 T2) (h1 : ∀ b mn2 w2 o2, (∀ K q r, rkA K t q r mn w o = K b mn2 w2 o2) → o2.length + w2.length ≤ o.length + w.length + 1 → ∀ T2, FN k T T2 → T2 0 25 = 0 → MW T2 w2 → MO k T2 o2 → T2 0 26 = bb b → T2 0 27 = bb mn2 → post 1 T2) (h2 : ∀ o2, (∀ K q r, rkA K t q r mn w o = Sum.inr (r, o2)) → o2.length ≤ o.length + w.length → ∀ T2, FN k T T2 → T2 0 25 = 1 → MO k T2 o2 → post 1 T2) : w_X8_follows T post := by
  have go : ∀ p : Int32, p = trS t → (isOp t = true ∨ opC t = true) → (∀ K q r, rkA K t q r mn w o = rkGo K t w o) → w_X8_goOn p T (fun S1 => post 1 S1) := by
    intro p ep ht hK
    rw [ep]
    refine m_goOn hk h14 ht hw ho hl h25 (fun T2 f2 g25 hw2 ho2 g26 g27 => h1 true _ _ _ (fun K q r => hK K q r) ?_ T2 f2 g25 hw2 ho2 g26 g27)
    have := lgo_len (rk t) w o
    rw [List.length_cons]
    omega
  have goO : ∀ p : Int32, p = trS t → isOp t = true → w_X8_goOn p T (fun S1 => post 1 S1) := by
    intro p ep ht
    refine go p ep (Or.inl ht) (fun K q r => ?_)
    unfold rkA
    rw [if_pos ht]
  have b18 : (t = -7 ∨ t = -8) → w_X8_follows_18 post T := by
    intro c
    unfold w_X8_follows_18 w_X8_follows_35
    refine m_isKey kd_9 hm hr ?_
    by_cases c7 : t = -7
    · rw [bI_t c7]
      exact ⟨fun z => absurd z (by decide), fun _ => goO 10 (by rw [c7]; decide) (by rw [c7]; decide)⟩
    · have c8 := c.resolve_left c7
      rw [bI_f c7]
      exact ⟨fun _ => goO 11 (by rw [c8]; decide) (by rw [c8]; decide), fun z => absurd rfl z⟩
  have b67 : (t = -12 ∨ t = -13 ∨ t = -14) → w_X8_follows_67 post T := by
    intro c
    unfold w_X8_follows_67 w_X8_follows_98
    refine m_isSign sd_43 hm hr ?_
    by_cases c7 : t = -12
    · rw [bI_t c7]
      exact ⟨fun z => absurd z (by decide), fun _ => goO 15 (by rw [c7]; decide) (by rw [c7]; decide)⟩
    · have c8 := c.resolve_left c7
      rw [bI_f c7]
      refine ⟨fun _ => m_isSign sd_45 hm hr ?_, fun z => absurd rfl z⟩
      by_cases c9 : t = -13
      · rw [bI_t c9]
        exact ⟨fun z => absurd z (by decide), fun _ => goO 16 (by rw [c9]; decide) (by rw [c9]; decide)⟩
      · have c10 := c8.resolve_left c9
        rw [bI_f c9]
        exact ⟨fun _ => goO 17 (by rw [c10]; decide) (by rw [c10]; decide), fun z => absurd rfl z⟩
  have b121 : opC t = true → w_X8_follows_121 post T := by
    intro c
    have hno : ¬ isOp t = true := by
      rcases opC_of c with e | e <;> rw [e] <;> decide
    unfold w_X8_follows_121
    refine m_hasCmp hw (by omega) ?_
    by_cases cc : rkCmp w = true
    · rw [bI_t cc]
      refine ⟨fun _ => ?_, fun z => absurd z (by decide)⟩
      unfold w_X8_follows_133 w_X8_follows_158
      refine ⟨fun _ => ⟨Or.inl rfl, h0 (fun K q r => ?_) T FN.rf⟩, fun z => absurd rfl z⟩
      unfold rkA
      rw [if_neg hno, if_pos c, if_pos cc]
    · rw [bI_f cc]
      refine ⟨fun z => absurd rfl z, fun _ => ?_⟩
      unfold w_X8_follows_133
      have hK : ∀ K q r, rkA K t q r mn w o = rkGo K t w o := fun K q r => by
        unfold rkA
        rw [if_neg hno, if_pos c, if_neg cc]
      have fin : ∀ p : Int32, p = trS t → w_X8_follows_155 post 1 p T := by
        intro p ep
        unfold w_X8_follows_155 w_X8_follows_158
        rw [ep]
        refine m_goOn hk h14 (Or.inr c) hw ho hl h25 (fun T2 f2 g25 hw2 ho2 g26 g27 => ⟨Or.inr rfl, h1 true _ _ _ (fun K q r => hK K q r) ?_ T2 f2 g25 hw2 ho2 g26 g27⟩)
        have := lgo_len (rk t) w o
        rw [List.length_cons]
        omega
      refine ⟨fun z => absurd z (by decide), fun _ => m_isSign sd_60 hm hr ?_⟩
      by_cases c10 : t = -10
      · rw [bI_t c10]
        exact ⟨fun z => absurd z (by decide), fun _ => fin 13 (by rw [c10]; decide)⟩
      · have c11 := (opC_of c).resolve_left c10
        rw [bI_f c10]
        exact ⟨fun _ => fin 14 (by rw [c11]; decide), fun z => absurd rfl z⟩
  have b220 : (∀ K q r, rkA K t q r mn w o = Sum.inl q) → w_X8_follows_220 post T := by
    intro hK
    unfold w_X8_follows_220 w_X8_follows_221
    refine ⟨Or.inl rfl, fun S1 e1 => ?_⟩
    have f1 : FN k T S1 := by rw [e1]; exact FN.rf.up (by decide)
    have g25 : S1 0 25 = 0 := by rw [e1, ms_s, up_s]
    rw [g25]
    unfold w_X8_follows_236
    rw [g25]
    exact ⟨fun _ => ⟨Or.inl rfl, h0 hK S1 f1⟩, fun z => absurd rfl z⟩
  have b199 : ¬ isOp t = true → ¬ opC t = true → ¬ (t = 4 ∧ rkBr w = true) → w_X8_follows_199 post T := by
    intro c1 c2 c3
    unfold w_X8_follows_199
    refine m_isSign sd_59 hm hr ?_
    by_cases c5 : t = 5
    · rw [bI_t c5]
      refine ⟨fun z => absurd z (by decide), fun _ => m_isBr hw (by omega) ?_⟩
      by_cases cb : rkBr w = true
      · rw [bI_t cb]
        refine ⟨fun _ => b220 (fun K q r => ?_), fun z => absurd z (by decide)⟩
        unfold rkA
        rw [if_neg c1, if_neg c2, if_neg c3, if_neg]
        rintro ⟨-, z⟩
        rw [cb] at z
        exact absurd z (by decide)
      · rw [bI_f cb]
        refine ⟨fun z => absurd rfl z, fun _ => ?_⟩
        have cb := Bool.eq_false_iff.mpr cb
        have hK : ∀ K q r, rkA K t q r mn w o = Sum.inr (r, (lgo 1 w o).2) := fun K q r => by
          unfold rkA
          rw [if_neg c1, if_neg c2, if_neg c3, if_pos ⟨c5, cb⟩]
        unfold w_X8_follows_221
        refine ⟨Or.inr rfl, fun S1 e1 => ?_⟩
        have f1 : FN k T S1 := by rw [e1]; exact FN.rf.up (by decide)
        have g25 : S1 0 25 = 1 := by rw [e1, ms_s, up_s]
        have hw1 : MW S1 w := by rw [e1]; exact hw.up (by decide)
        have ho1 : MO k S1 o := by rw [e1]; exact ho.up (by decide)
        rw [g25]
        refine ⟨fun z => absurd z (by decide), fun _ => ?_⟩
        refine m_letGo (r := 1) (by decide) hk (by rw [f1.2.1 14 (by decide)]; exact h14) hw1 ho1 hl (fun T2 f2 hw2 ho2 => ?_)
        have k25 : T2 0 25 = 1 := by rw [f2.2.1 25 (by decide) (by decide)]; exact g25
        unfold w_X8_follows_236
        rw [k25]
        have := lgo_len 1 w o
        exact ⟨Or.inr rfl, h2 _ hK (by omega) T2 (f1.tr f2.fn) k25 ho2⟩
    · rw [bI_f c5]
      refine ⟨fun _ => b220 (fun K q r => ?_), fun z => absurd rfl z⟩
      unfold rkA
      rw [if_neg c1, if_neg c2, if_neg c3, if_neg (fun z => c5 z.1)]
  unfold w_X8_follows
  refine m_isKey kd_9 hm hr ?_
  by_cases d7 : t = -7
  · rw [bI_t d7]
    exact ⟨fun _ => b18 (Or.inl d7), fun z => absurd z (by decide)⟩
  · rw [bI_f d7]
    refine ⟨fun z => absurd rfl z, fun _ => m_isKey kd_10 hm hr ?_⟩
    by_cases d8 : t = -8
    · rw [bI_t d8]
      exact ⟨fun z => absurd z (by decide), fun _ => b18 (Or.inr d8)⟩
    · rw [bI_f d8]
      refine ⟨fun _ => m_isSign sd_43 hm hr ?_, fun z => absurd rfl z⟩
      by_cases d12 : t = -12
      · rw [bI_t d12]
        exact ⟨fun _ => b67 (Or.inl d12), fun z => absurd z (by decide)⟩
      · rw [bI_f d12]
        refine ⟨fun z => absurd rfl z, fun _ => m_isSign sd_45 hm hr ?_⟩
        by_cases d13 : t = -13
        · rw [bI_t d13]
          exact ⟨fun _ => b67 (Or.inr (Or.inl d13)), fun z => absurd z (by decide)⟩
        · rw [bI_f d13]
          refine ⟨fun z => absurd rfl z, fun _ => m_isSign sd_42 hm hr ?_⟩
          by_cases d14 : t = -14
          · rw [bI_t d14]
            exact ⟨fun z => absurd z (by decide), fun _ => b67 (Or.inr (Or.inr d14))⟩
          · rw [bI_f d14]
            refine ⟨fun _ => m_isSign sd_60 hm hr ?_, fun z => absurd rfl z⟩
            have c1 : ¬ isOp t = true := fun z => by
              rcases op_of z with e | e | e | e | e
              · exact d7 e
              · exact d8 e
              · exact d12 e
              · exact d13 e
              · exact d14 e
            by_cases d10 : t = -10
            · rw [bI_t d10]
              exact ⟨fun _ => b121 (decide_eq_true (Or.inl d10)), fun z => absurd z (by decide)⟩
            · rw [bI_f d10]
              refine ⟨fun z => absurd rfl z, fun _ => m_isSign sd_61 hm hr ?_⟩
              by_cases d11 : t = -11
              · rw [bI_t d11]
                exact ⟨fun z => absurd z (by decide), fun _ => b121 (decide_eq_true (Or.inr d11))⟩
              · rw [bI_f d11]
                refine ⟨fun _ => m_isSign sd_41 hm hr ?_, fun z => absurd rfl z⟩
                have c2 : ¬ opC t = true := fun z => (opC_of z).elim d10 d11
                by_cases d4 : t = 4
                · rw [bI_t d4]
                  refine ⟨fun z => absurd z (by decide), fun _ => m_isBr hw (by omega) ?_⟩
                  by_cases cb : rkBr w = true
                  · rw [bI_t cb]
                    refine ⟨fun z => absurd z (by decide), fun _ => ?_⟩
                    have hK : ∀ K q r, rkA K t q r mn w o = K false mn (lgo 7 (lgo 1 w o).1.tail (lgo 1 w o).2).1 (lgo 7 (lgo 1 w o).1.tail (lgo 1 w o).2).2 := fun K q r => by
                      unfold rkA
                      rw [if_neg c1, if_neg c2, if_pos ⟨d4, cb⟩]
                    refine m_letGo (r := 1) (by decide) hk h14 hw ho hl (fun T2 f2 hw2 ho2 S3 e3 => ?_)
                    have hlen := lgo_len 1 w o
                    obtain ⟨y, w2, ew⟩ := lgo_br w o cb
                    rw [ew] at hw2 hlen hK
                    obtain ⟨k24, ⟨kx, ks⟩, kv⟩ := hw2
                    have hw3 : MW S3 w2 := ⟨by rw [e3, ms_s, up_s, k24, List.length_cons, nI_pred], ks.cg (fun i _ => by rw [e3, ms_n (by decide)]), fun x hx => kv x (List.mem_cons_of_mem _ hx)⟩
                    have ho3 : MO k S3 (lgo 1 w o).2 := by rw [e3]; exact ho2.up (by decide)
                    have f3 : FN k T S3 := by rw [e3]; exact f2.fn.up (by decide)
                    rw [List.length_cons] at hlen
                    refine m_letGo (r := 7) (by decide) hk (by rw [f3.2.1 14 (by decide)]; exact h14) hw3 ho3 (by omega) (fun T4 f4 hw4 ho4 => ?_)
                    have hlen2 := lgo_len 7 w2 (lgo 1 w o).2
                    refine h1 false mn _ _ hK (by show (lgo 7 w2 (lgo 1 w o).2).2.length + (lgo 7 w2 (lgo 1 w o).2).1.length ≤ _; omega) T4 (f3.tr f4.fn) ?_ hw4 ho4 ?_ ?_
                    · rw [f4.2.1 25 (by decide) (by decide), e3, ms_s, up_n (by decide), f2.2.1 25 (by decide) (by decide)]; exact h25
                    · rw [f4.2.1 26 (by decide) (by decide), e3, ms_s, up_n (by decide), f2.2.1 26 (by decide) (by decide)]; exact h26
                    · rw [f4.2.1 27 (by decide) (by decide), e3, ms_s, up_n (by decide), f2.2.1 27 (by decide) (by decide)]; exact h27
                  · rw [bI_f cb]
                    exact ⟨fun _ => b199 c1 c2 (fun z => cb z.2), fun z => absurd rfl z⟩
                · rw [bI_f d4]
                  exact ⟨fun _ => b199 c1 c2 (fun z => d4 z.1), fun z => absurd rfl z⟩
end
end
