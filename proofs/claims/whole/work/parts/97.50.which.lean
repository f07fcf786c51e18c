/-! PURE, 35: which, drawn -/
section
variable {S T S' T' : Mem} {a1 a2 a3 a4 a5 : Int32}
def wiF (f : Nat → Int32) : Nat → Nat → Int64 → Int64
  | 0, _, v => v
  | n + 1, c, v => wiF f n (c + 1) (if f c = -1 then v ||| jlshl 1 (nI c) else v)
def fwc (S : Mem) (b q sz : Nat) (c : Nat) : Int32 := foF (S (45 + 2 * q)) (knF S (nI c)) b sz 0
theorem foF_or {it : Nat → Int32} {k : Nat → Int32} {b : Nat} : ∀ (n x : Nat), x + n < 2 ^ 31 → foF it k b n x = -1 ∨ ∃ j, j < 2 ^ 31 ∧ foF it k b n x = nI j := by
  intro n
  induction n with
  | zero => intro x _; exact Or.inl rfl
  | succ n ih =>
    intro x hx
    rw [foF]
    by_cases c : it x = k ((b + x) % 8)
    · rw [if_pos c]; exact ih _ (by omega)
    · rw [if_neg c]; exact Or.inr ⟨x, by omega, rfl⟩
theorem foF_cg {it it' : Nat → Int32} {k k' : Nat → Int32} {b : Nat} (hi : ∀ j, it j = it' j) (hk : ∀ j, k j = k' j) : ∀ (n x : Nat), foF it k b n x = foF it' k' b n x := by
  intro n
  induction n with
  | zero => intro x; rfl
  | succ n ih =>
    intro x
    rw [foF, foF, hi, hk, ih]
theorem fwc_sx (h : SX S S') (hk : rlN S < 6) {b q sz c : Nat} : fwc S' b q sz c = fwc S b q sz c := by
  unfold fwc
  rw [h.2.2.2.2.2.2.2 (45 + 2 * q) (by omega)]
  exact foF_cg (fun _ => rfl) (fun j => knF_sx h hk _ _) _ _
theorem x_whLoop {post : Int64 → Mem → Prop} {b q sz : Nat} (h : RX S T) (hb : b < 8) (eb : S 1 4 = nI b) (hq4 : q < 4) (hsz : sz ≤ 40) (es : S (44 + 2 * q) 1 = nI sz) : ∀ (n c : Nat) (v : Int64) (S1 : Mem), c + n = 64 → SX S S1 → (∀ S2, SX S S2 → post (wiF (fwc S b q sz) n c v) S2) → w_X7_which_28 post (n + 1) (nI q) v (nI c) S1 := by
  intro n
  induction n with
  | zero =>
    intro c v S1 hc hs hq
    rw [w_X7_which_28]
    have e : c = 64 := by omega
    subst e
    exact ⟨fun _ => hq S1 hs, fun z => absurd (by decide) z⟩
  | succ n ih =>
    intro c v S1 hc hs hq
    obtain ⟨k6, -⟩ := rl_of h
    rw [w_X7_which_28, nI_clamp (by omega)]
    refine ⟨fun z => absurd z (nI_ge (b := 64) (by omega) (by decide)), fun _ => ⟨four_nI hq4, ?_⟩⟩
    unfold w_X7_firstOtherwise
    have es1 : S1 (44 + 2 * q) 1 = nI sz := by rw [hs.2.2.2.2.2.2.2 (44 + 2 * q) (by omega)]; exact es
    have eb1 : S1 1 4 = nI b := by rw [hs.2.1]; exact eb
    refine ⟨sz + 1, x_fo (h.same hs SM.rf) hb eb1 hsz es1 sz 0 S1 (by omega) SX.rf (fun S2 s2 => ?_)⟩
    have ef : foF (S1 (45 + 2 * q)) (knF S1 (nI c)) b sz 0 = fwc S b q sz c := fwc_sx hs k6
    rw [ef]
    rw [wiF] at hq
    unfold w_X7_which_58
    refine ⟨fun z z1 e1 => ?_, fun z z2 e2 z1 e1 => ?_⟩
    · rw [if_neg z] at hq
      rw [e1, nI_1]
      exact ih _ _ _ (by omega) (hs.tr s2) hq
    · rw [if_pos z] at hq
      rw [e1, e2, nI_1]
      exact ih _ _ _ (by omega) (hs.tr s2) hq
theorem m_whLoop {post : Int64 → Mem → Prop} {b q sz : Nat} (h : RX S T) (hb : b < 8) (eb : T 0 6 = nI b) (hq4 : q < 4) (hsz : sz ≤ 40) (es : T 18 q = nI sz) (ei : ∀ j, j < sz → T 19 (40 * q + j) = S (45 + 2 * q) j) : ∀ (n c : Nat) (v : Int64) (T1 : Mem), c + n = 64 → SM T T1 → (∀ T2, SM T T2 → post (wiF (fwc S b q sz) n c v) T2) → w_X8_which_35 post (n + 1) (nI q) v (nI c) T1 := by
  intro n
  induction n with
  | zero =>
    intro c v T1 hc hs hq
    rw [w_X8_which_35]
    have e : c = 64 := by omega
    subst e
    exact ⟨fun _ => hq T1 hs, fun z => absurd (by decide) z⟩
  | succ n ih =>
    intro c v T1 hc hs hq
    obtain ⟨h0, -, -, -, -, -, -, -, -, -, h18, h19⟩ := id hs
    rw [w_X8_which_35]
    refine ⟨fun z => absurd z (nI_ge (b := 64) (by omega) (by decide)), fun _ => ?_⟩
    unfold w_X8_firstOtherwise
    refine ⟨sz + 1, m_fo (it := S (45 + 2 * q)) (h.same SX.rf hs) hb (by rw [h0.2.2.1]; exact eb) hq4 hsz (by rw [h18]; exact es) (fun j hj => by rw [h19]; exact ei j hj) sz 0 T1 (by omega) SM.rf (fun T2 t2 => ?_)⟩
    have ef : foF (S (45 + 2 * q)) (knF S (nI c)) b sz 0 = fwc S b q sz c := rfl
    rw [ef]
    rw [wiF] at hq
    unfold w_X8_which_62
    have hc2 : 0 ≤ fwc S b q sz c ↔ ¬ fwc S b q sz c = -1 := by
      rcases foF_or (it := S (45 + 2 * q)) (k := knF S (nI c)) (b := b) sz 0 (by omega) with z | ⟨j, hj, z⟩
      · rw [ef] at z
        rw [z]
        decide
      · rw [ef] at z
        rw [z]
        refine ⟨fun _ y => ?_, fun _ => nI_pos' hj⟩
        have := nI_toInt hj
        rw [y, Im1] at this
        omega
    refine ⟨fun z z1 e1 => ?_, fun z z1 e1 => ?_⟩
    · rw [if_neg (hc2.mp z)] at hq
      rw [e1, nI_1]
      exact ih _ _ _ (by omega) (hs.tr t2) hq
    · rw [if_pos (Classical.byContradiction (fun y => z (hc2.mpr y)))] at hq
      rw [e1, nI_1]
      exact ih _ _ _ (by omega) (hs.tr t2) hq
theorem h_which (h : RX S T) : w_X7_which a1 S (fun r1 S1 => w_X8_which a1 T (fun r2 T1 => r1 = r2 ∧ RX S1 T1)) := by
  have hsame := h.same SX.rf (sm_thr T 0)
  obtain ⟨b, hb, e1, e2, e3⟩ := place_of h
  unfold w_X7_which w_X7_which_19 w_X8_which w_X8_which_26
  simp only [x_isSheet, x_isMissing, L_0, L_3, m_in, bI_0, forall_eq, Nat.reduceAdd]
  by_cases c1 : 0 ≤ a1 ∧ a1 ≤ 3
  · obtain ⟨q, hq, eq, ec⟩ := leg_nI c1
    have hin : vp_in a1 4 := rg_in (b := 3) (by decide) c1
    obtain ⟨sz, s1, s2, s3, s4, s5, s6⟩ := sheet_of hsame hq
    simp only [c1, hin, ec, s5, s6, not_true_eq_false, not_false_eq_true, true_and, and_true, false_implies, true_implies, and_self]
    by_cases c2 : 0 ≤ S (44 + 2 * q) 0
    · simp only [c2, not_true_eq_false, not_false_eq_true, true_and, and_true, false_implies, true_implies, and_self]
      rw [eq]
      refine ⟨65, x_whLoop h hb e1 hq s1 s2 64 0 _ S (by decide) SX.rf (fun S2 t2 => ⟨65, ?_⟩)⟩
      have := m_whLoop (post := fun r2 T1 => wiF (fwc S b q sz) 64 0 (Int32.toInt64 0) = r2 ∧ RX S2 T1) hsame hb e2 hq s1 s3 s4 64 0 (Int32.toInt64 0) _ (by decide) SM.rf (fun T2 t3 => ⟨rfl, hsame.same t2 t3⟩)
      exact this
    · simp only [c2, not_true_eq_false, not_false_eq_true, true_and, and_true, false_implies, true_implies, and_self]
      exact hsame
  · simp only [c1, not_true_eq_false, not_false_eq_true, true_and, and_true, false_implies, true_implies, and_self]
    exact hsame
theorem ushr_nI (x : Int32) : ∃ m : Nat, m < 2 ^ 22 ∧ jushr x 10 = nI m := by
  have e := pk_ushr x 10 10 (by decide)
  have hx : x.toBitVec.toNat < 2 ^ 32 := x.toBitVec.isLt
  refine ⟨x.toBitVec.toNat / 2 ^ 10, by omega, ?_⟩
  have e2 : (nI (x.toBitVec.toNat / 2 ^ 10)).toBitVec.toNat = x.toBitVec.toNat / 2 ^ 10 := pk_tn (by omega)
  unfold jushr
  exact Int32.toBitVec_inj.mp (BitVec.eq_of_toNat_eq (e.trans e2.symm))
theorem rem_ushr (x : Int32) : ∃ m : Nat, m < 8 ∧ jrem (jushr x 10) 8 = nI m := by
  obtain ⟨m, hm, e⟩ := ushr_nI x
  rw [e, rem8 (by omega)]
  exact ⟨m % 8, Nat.mod_lt _ (by decide), rfl⟩
def dwA (z : Int32) : Int32 := jrem (jushr (z * 1103515245 + 12345) 8) 64
def dwB (z : Int32) : Int32 := jrem (jushr ((z * 1103515245 + 12345) * 1103515245 + 12345) 10) 8
def dwF (S : Mem) (z : Int32) : Int32 := rckF S (dwA z) (dwB z).toNatClampNeg
theorem x_drawn {post : Int32 → Mem → Prop} {z : Int32} (h : RX S T) (hq : ∀ S2, SX S S2 → post (dwF S z) S2) : w_X7_drawn z S post := by
  obtain ⟨m, hm, e⟩ := rem_ushr ((z * 1103515245 + 12345) * 1103515245 + 12345)
  have eb : (dwB z).toNatClampNeg = m := by
    unfold dwB
    rw [e, nI_clamp (by omega)]
  unfold w_X7_drawn
  rw [x_draw, x_draw, e]
  refine x_measure h hm (fun S3 hm3 => ?_)
  rw [hm3.2.2.2.1]
  have q := hq S3 hm3.sx
  unfold dwF at q
  rw [eb] at q
  exact q
theorem m_rockBy {post : Int32 → Mem → Prop} {z : Int32} (h : RX S T) (hq : ∀ T2, SM T T2 → post (dwF S z) T2) : w_X8_rockBy z T post := by
  obtain ⟨m, hm, e⟩ := rem_ushr ((z * 1103515245 + 12345) * 1103515245 + 12345)
  have eb : (dwB z).toNatClampNeg = m := by
    unfold dwB
    rw [e, nI_clamp (by omega)]
  unfold w_X8_rockBy
  intro z1 e1 z2 e2 z3 e3
  subst e1 e2 e3
  rw [e]
  refine m_find h hm (fun T3 m3 => ?_)
  try dsimp only
  rw [m3.2.2.2.1]
  have q := hq T3 m3.sm
  unfold dwF at q
  rw [eb] at q
  exact q
theorem h_drawn (h : RX S T) : w_X7_drawn a1 S (fun r1 S1 => w_X8_drawn a1 T (fun r2 T1 => r1 = r2 ∧ RX S1 T1)) := by
  have hsame := h.same SX.rf (sm_thr T 0)
  refine x_drawn h (fun S2 s2 => ?_)
  unfold w_X8_drawn
  intro T1 t1
  subst t1
  exact m_rockBy hsame (fun T2 t2 => ⟨rfl, hsame.same s2 t2⟩)
end
