/-! PURE, 61: text, the whole -/
section
variable {S T S' T' : Mem} {a1 a2 a3 a4 a5 : Int32}
theorem x_like2 {post : Mem → Prop} {c : Nat} (hc : 20 < c) (hq : ∀ S3 : Mem, (∀ d, d ≠ c → d ≠ c + 1 → d ≠ c + 2 → S3 d = S d) → (∀ i, i < 160 → S3 (c + 1) i = S 18 i) → (∀ i, i < 3 → S3 (c + 2) i = S 19 i) → S3 c 2 = S 17 2 → post S3) : w_X2_becomeLike c 17 S post := by
  unfold w_X2_becomeLike
  refine ⟨⟨by decide, by decide, by decide, by decide, by decide⟩, fun S1 e1 => ⟨⟨by decide, by decide, by decide, by decide, by decide⟩, fun S2 e2 S3 e3 => ?_⟩⟩
  have n0 : (0 : Int32).toNatClampNeg = 0 := by decide
  have n160 : (160 : Int32).toNatClampNeg = 160 := by decide
  have n3 : (3 : Int32).toNatClampNeg = 3 := by decide
  rw [n0, n160] at e1
  rw [n0, n3] at e2
  refine hq S3 (fun d d0 d1 d2 => ?_) (fun i hi => ?_) (fun i hi => ?_) ?_
  · rw [e3, ms_n d0, e2, ms_n d2, e1, ms_n d1]
  · rw [e3, ms_n (by omega), e2, ms_n (by omega), e1, ms_s, pk_cpy_in (Nat.zero_le _) (by omega)]
    rw [Nat.zero_add, Nat.sub_zero]
  · rw [e3, ms_n (by omega), e2, ms_s, pk_cpy_in (Nat.zero_le _) (by omega), Nat.zero_add, Nat.sub_zero, e1, ms_n (by omega)]
  · rw [e3, ms_s, up_s, e2, ms_n (by omega), e1, ms_n (by omega)]
theorem gd_a {a b : List Int32} {i : Nat} (h : i < a.length) : (a ++ b).getD i 0 = a.getD i 0 := by
  rw [List.getD_eq_getElem?_getD, List.getD_eq_getElem?_getD, List.getElem?_append_left h]
theorem gd_b {a b : List Int32} {i : Nat} : (a ++ b).getD (a.length + i) 0 = b.getD i 0 := by
  rw [List.getD_eq_getElem?_getD, List.getD_eq_getElem?_getD, List.getElem?_append_right (Nat.le_add_right _ _), Nat.add_sub_cancel_left]
theorem gd_m {a : List Int32} {i : Nat} (h : i < a.length) : a.getD i 0 ∈ a := by
  rw [List.getD_eq_getElem?_getD, List.getElem?_eq_getElem h]
  exact List.getElem_mem h
/-- a text that was read is a rule for both -/
theorem rule_new {k : Nat} {l : List rdT} {o : rdO} {es : List Nat} (hx : rdX 3 0 l [] [] = Sum.inr (o, es)) (hg : rdG l) (hl : l.length ≤ 161) (hc : ∀ i, i < o.length → S (22 + 3 * k) i = o.getD i 0) (he : ∀ i, i < 3 → S (23 + 3 * k) i = nI (es.getD i 0)) (h9 : ∀ i, i < o.length → T 9 (160 * k + i) = trS (o.getD i 0)) (h10 : ∀ i, i < 4 → T 10 (4 * k + i) = nI ((0 :: es).getD i 0)) : RuleOk S T k := by
  obtain ⟨c0, c1, c2, eo, ee, hn, hb, d0, d1, d2⟩ := rdX_ok hx hg hl
  have ol : o.length = c0.length + (c1.length + c2.length) := by rw [eo, List.length_append, List.length_append]
  have b0 := he 0 (by decide)
  have b1 := he 1 (by decide)
  have b2 := he 2 (by decide)
  have t0 := h10 0 (by decide)
  have t1 := h10 1 (by decide)
  have t2 := h10 2 (by decide)
  have t3 := h10 3 (by decide)
  rw [ee] at b0 b1 b2 t0 t1 t2 t3
  refine ⟨c0.length, c0.length + c1.length, c0.length + (c1.length + c2.length), by omega, by omega, hn, b0, b1, b2, t0, t1, t2, t3, fun i hi => ?_, fun i hi => ?_, ?_, ?_, ?_⟩
  · rw [h9 i (by omega), hc i (by omega)]
  · rw [hc i (by omega)]
    exact hb _ (gd_m (by omega))
  · rw [seg_is (w := c0) (by omega) (fun i hi => by rw [Nat.zero_add, hc i (by omega), eo, gd_a hi])]
    exact d0
  · rw [seg_is (w := c1) (by omega) (fun i hi => by rw [hc _ (by omega), eo, gd_b, gd_a hi])]
    exact d1
  · rw [seg_is (w := c2) (by omega) (fun i hi => by rw [hc _ (by omega), eo, Nat.add_assoc, gd_b, gd_b])]
    exact d2
theorem h_text (h : RX S T) : w_X7_text S (fun r1 S1 => w_X8_text T (fun r2 T1 => r1 = r2 ∧ RX S1 T1)) := by
  have hsame := h.same SX.rf (sm_thr T 0)
  obtain ⟨c, hc31, hc6, ec⟩ := nI_ofb h.2.2.2.2.1.2.1 (by decide)
  have hc1 : 1 ≤ c := by
    have := h.2.2.2.2.1.2.1.1
    rw [ec, nI_toInt hc31] at this
    omega
  have hc6 : c ≤ 6 := by omega
  have et : T 0 14 = nI c := by rw [← h.2.2.2.2.1.1]; exact ec
  obtain ⟨n, hn31, hn160, en⟩ := nI_ofb h.2.2.2.1.2.1 (by decide)
  have hn160 : n ≤ 160 := by omega
  have en2 : T 0 13 = nI n := by rw [← h.2.2.2.1.1]; exact en
  have heq : ∀ i, i < n → T 8 i = S 16 i := fun i hi => by
    refine ((h.2.2.2.1.2.2.1 i ?_).1).symm
    rw [en, nI_toInt hn31]
    omega
  have hrw := h.2.2.2.1.2.2.2
  have htk : tks (T 8) n = tks (S 16) n := lxL_cg heq _ _ (Nat.zero_le _)
  have hgl : rdG (tks (S 16) n) := lxL_G _ _ (Nat.zero_le _)
  have hll : (tks (S 16) n).length ≤ 161 := by
    have := lxL_len (tp := S 16) (n := n) (n + 1) 0
    unfold tks
    omega
  have rules := h.2.2.2.2.1.2.2
  have hrul : ∀ j, j < c → RuleOk S T j := fun j hj => rules j (by rw [ec, nI_toInt hc31]; omega)
  unfold w_X7_text
  rw [ec]
  refine ⟨fun z => ?_, fun z => ?_⟩
  · have hc5 : c < 6 := (nI_ltI (b := 6) hc31 (by decide)).mp z
    have n6 : ¬ nI c = 6 := fun y => by
      have := (nI_eq (b := 6) hc31 (by decide)).mp y
      omega
    refine x_readTape hn160 en (fun q S2 hx hq160 fr s15 => ?_) (fun o es S2 hx fr s15 hcc hes => ?_)
    · have nn : ∀ q : Nat, q ≤ 200 → ¬ nI q = (-1 : Int32) ∧ ¬ nI q < 0 := fun q hq => by
        refine ⟨fun y => ?_, nI_pos (by omega)⟩
        have := nI_toInt (n := q) (by omega)
        rw [y, Im1] at this
        omega
      have done : ¬ nI q = (-1 : Int32) ∧ ¬ nI q < 0 → w_X8_text T (fun r2 T1 => -100 - nI q = r2 ∧ RX S2 T1) := by
        intro hnq
        unfold w_X8_text
        intro T1 t1
        subst t1
        refine ⟨fun _ => ?_, fun y => absurd (et.symm.trans y) n6⟩
        refine m_readText (k := c) (n := n) (tp := T 8) hc5 hn160 rfl en2 et hrw (fun q2 T2 a1 a2 S3 e3 => ?_) (fun o2 es2 T2 a1 => ?_)
        · rw [htk, hx] at a1
          have eq : q = q2 := Sum.inl.inj a1
          subst eq
          refine ⟨fun y => absurd y hnq.2, fun _ => ⟨rfl, ?_⟩⟩
          rw [e3]
          have g0 : ∀ j, j ≠ 13 → (j < 16 ∨ 27 < j) → (mset T2 0 (upd (T2 0) 13 0)) 0 j = (mset T 0 (upd (T 0) 8 0)) 0 j := fun j j1 j2 => by
            rw [ms_s, up_n j1]
            exact a2.2.1 j j2
          refine hsame.txt (c := c) (d := c) ⟨hc1, hc6⟩ (Nat.le_refl _) ec (by rw [fr 0 (by decide) (by decide) (by decide) (by decide)]; exact ec) (by rw [g0 14 (by decide) (by decide)]; exact et) (fun j hj => ?_) (fun i i0 i1 i2 i3 i4 _ => fr i i1 i2 i3 i4) (by rw [fr 0 (by decide) (by decide) (by decide) (by decide)]) s15 (fun i i0 i1 i2 i3 => by rw [ms_n i0]; exact a2.1 i i0 i1 i2 i3) (fun j j1 _ j3 => g0 j j1 j3) (by rw [ms_s, up_s])
          exact (hrul j hj).fr2 (fr _ (by omega) (by omega) (by omega) (by omega)) (fr _ (by omega) (by omega) (by omega) (by omega)) (fun i hi => by rw [ms_n (by decide)]; exact a2.2.2.1 _ (by omega)) (fun i hi => by rw [ms_n (by decide)]; exact a2.2.2.2 _ (by omega))
        · rw [htk, hx] at a1
          exact absurd a1 (by simp)
      have hqb : q ≤ 200 := by omega
      exact ⟨fun y => absurd y (nn q hqb).1, fun _ => done (nn q hqb)⟩
    · have e0 : S2 0 5 = nI c := by rw [fr 0 (by decide) (by decide) (by decide) (by decide)]; exact ec
      try dsimp only
      rw [e0, nI_clamp hc31]
      refine ⟨fun _ => ⟨nI_in hc5 (by decide), x_like2 (by omega) (fun S3 sf sc se s2 S4 e4 => ?_)⟩, fun y => absurd rfl y⟩
      obtain ⟨k0, k1, k2, eo, ee, hno, -⟩ := rdX_ok hx hgl hll
      have ol : o.length ≤ 160 := by rw [eo, List.length_append, List.length_append]; exact hno
      have el : es.length = 3 := by rw [ee]; rfl
      have s30 : S3 0 = S2 0 := sf 0 (by omega) (by omega) (by omega)
      have s40 : S4 0 5 = nI (c + 1) := by rw [e4, ms_s, up_s, s30, e0, nI_1]
      have f4 : ∀ d, d ≠ 0 → S4 d = S3 d := fun d hd => by rw [e4, ms_n hd]
      unfold w_X8_text
      intro T1 t1
      subst t1
      refine ⟨fun _ => ?_, fun y => absurd (et.symm.trans y) n6⟩
      refine m_readText (k := c) (n := n) (tp := T 8) hc5 hn160 rfl en2 et hrw (fun q2 T2 a1 => ?_) (fun o2 es2 T2 a1 a2 a3 a4 T3 t3 => ?_)
      · rw [htk, hx] at a1
        exact absurd a1 (by simp)
      · rw [htk, hx] at a1
        have eq : (o, es) = (o2, es2) := Sum.inr.inj a1
        have eq1 : o = o2 := congrArg (fun x => x.1) eq
        have eq2 : es = es2 := congrArg (fun x => x.2) eq
        subst eq1
        subst eq2
        refine ⟨fun _ T4 t4 => ?_, fun y => absurd (by decide) y⟩
        have g14 : T3 0 14 = nI c := by
          rw [t3, ms_s, up_n (by decide), a2.2.1 14 (by decide)]
          exact et
        have k14 : T4 0 14 = nI (c + 1) := by rw [t4, ms_s, up_s, g14, nI_1]
        have g0 : ∀ j, j ≠ 13 → j ≠ 14 → (j < 16 ∨ 27 < j) → T4 0 j = (mset T 0 (upd (T 0) 8 0)) 0 j := fun j j1 j2 j3 => by
          rw [t4, ms_s, up_n j2, t3, ms_s, up_n j1]
          exact a2.2.1 j j3
        have gc : ∀ i, i ≠ 0 → T4 i = T2 i := fun i i0 => by rw [t4, ms_n i0, t3, ms_n i0]
        have k13 : T4 0 13 = 0 := by rw [t4, ms_s, up_n (by decide), t3, ms_s, up_s]
        clear t4 t3
        refine ⟨by rw [s40, k14], ?_⟩
        have sfr : ∀ i, i ≠ 0 → i ≠ 15 → i ≠ 17 → i ≠ 18 → i ≠ 19 → (i < 21 + 3 * c ∨ 23 + 3 * c < i) → S4 i = S i := fun i i0 i1 i2 i3 i4 i5 => by
          rw [f4 i i0, sf i (by omega) (by omega) (by omega)]
          exact fr i i1 i2 i3 i4
        refine hsame.txt (c := c) (d := c + 1) ⟨by omega, by omega⟩ (by omega) ec s40 k14 (fun j hj => ?_) (fun i i0 i1 i2 i3 i4 i5 => sfr i i0 i1 i2 i3 i4 (by omega)) ?_ ?_ (fun i i0 i1 i2 i3 => by rw [gc i i0]; exact a2.1 i i0 i1 i2 i3) g0 k13
        · by_cases cj : j = c
          · subst cj
            refine rule_new hx hgl hll (fun i hi => ?_) (fun i hi => ?_) (fun i hi => ?_) (fun i hi => ?_)
            · rw [f4 _ (by omega), show 22 + 3 * j = 20 + 1 + 3 * j + 1 by omega, sc i (by omega)]
              exact hcc.2 i hi
            · rw [f4 _ (by omega), show 23 + 3 * j = 20 + 1 + 3 * j + 2 by omega, se i hi]
              exact hes i (by omega)
            · rw [gc 9 (by decide)]; exact a3.2 i hi
            · rw [gc 10 (by decide)]; exact a4 i hi
          · exact (hrul j (by omega)).fr2 (sfr _ (by omega) (by omega) (by omega) (by omega) (by omega) (by omega)) (sfr _ (by omega) (by omega) (by omega) (by omega) (by omega) (by omega)) (fun i hi => by rw [gc 9 (by decide)]; exact a2.2.2.1 _ (by omega)) (fun i hi => by rw [gc 10 (by decide)]; exact a2.2.2.2 _ (by omega))
        · rw [e4, ms_s, up_n (by decide), s30, fr 0 (by decide) (by decide) (by decide) (by decide)]
        · rw [f4 15 (by decide), sf 15 (by omega) (by omega) (by omega)]; exact s15
  · have e6 : c = 6 := by
      refine Classical.byContradiction (fun y => z ?_)
      exact nI_lt (b := 6) (by omega) (by decide)
    unfold w_X8_text
    intro T1 t1
    subst t1
    have k14 : (mset T 0 (upd (T 0) 8 0)) 0 14 = 6 := by
      show T 0 14 = 6
      rw [et, e6]; rfl
    rw [k14]
    exact ⟨fun y => absurd rfl y, fun _ => ⟨rfl, hsame⟩⟩
end
