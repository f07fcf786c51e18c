/-! PURE, 53: the model's tokens -/
section
variable {S T S' T' : Mem} {a1 a2 a3 a4 a5 : Int32}
def mtK (t : Int32) : Int32 := if t = 0 then 0 else if t = 1 then 5 else if t = 2 then 1 else if -6 ≤ t ∧ t ≤ -1 then 2 else if t = 6 ∨ t = 7 ∨ t = 8 ∨ t = -7 ∨ t = -8 ∨ t = -9 then 4 else 3
def mtV (t v : Int32) : Int32 := if t = 2 then v else if -6 ≤ t ∧ t ≤ -1 then -1 - t else if t = 6 ∨ t = 7 ∨ t = 8 then t else if t = -7 ∨ t = -8 ∨ t = -9 then 2 - t else if t = 3 then 40 else if t = 4 then 41 else if t = 5 then 59 else if t = -12 then 43 else if t = -13 then 45 else if t = -14 then 42 else if t = -10 then 60 else 61
def FA (T T2 : Mem) : Prop := (∀ c, c ≠ 0 → T2 c = T c) ∧ ∀ j, j < 16 ∨ 19 < j → T2 0 j = T 0 j
theorem FA.rf : FA T T := ⟨fun _ _ => rfl, fun _ _ => rfl⟩
theorem FA.tr {T2 : Mem} (h : FA T T') (h2 : FA T' T2) : FA T T2 := ⟨fun c hc => (h2.1 c hc).trans (h.1 c hc), fun j hj => (h2.2 j hj).trans (h.2 j hj)⟩
theorem FA.up {j : Nat} {v : Int32} (h : FA T T') (hj : 15 < j ∧ j < 20) : FA T (mset T' 0 (upd (T' 0) j v)) := by
  refine ⟨fun c hc => ?_, fun i hi => ?_⟩
  · rw [ms_n hc]; exact h.1 c hc
  · rw [ms_s, up_n (by omega)]; exact h.2 i hi
theorem L_97 : (97 : Int64) = (97 : Int32).toInt64 := by decide
theorem L_122 : (122 : Int64) = (122 : Int32).toInt64 := by decide
theorem L_48 : (48 : Int64) = (48 : Int32).toInt64 := by decide
theorem L_57 : (57 : Int64) = (57 : Int32).toInt64 := by decide
theorem lxN_s {tp : Nat → Int32} : ∀ (k p : Nat) (a : Int32), lxN tp (k + 1) p a = lxN tp k p a * 10 + tp (p + k) - 48 := by
  intro k
  induction k with
  | zero => intro p a; rfl
  | succ k ih =>
    intro p a
    rw [lxN, ih, lxN, show p + 1 + k = p + (k + 1) by omega]
theorem lxN_b {tp : Nat → Int32} {q : Nat} : ∀ k : Nat, k ≤ 4 → (∀ i, q ≤ i → i < q + k → 48 ≤ tp i ∧ tp i ≤ 57) → ∃ m : Nat, m < 10 ^ k ∧ lxN tp k q 0 = nI m := by
  intro k
  induction k with
  | zero => intro _ _; exact ⟨0, by decide, rfl⟩
  | succ k ih =>
    intro hk hd
    obtain ⟨m, hm, em⟩ := ih (by omega) (fun i h1 h2 => hd i h1 (by omega))
    have hb := hd (q + k) (by omega) (by omega)
    obtain ⟨j, hj, hj2, ej⟩ := nI_ofb (bnd_of (a := 48) (b := 57) (by decide) (by decide) hb) (by decide)
    have h48 : 48 ≤ j := by
      have h1 := hb.1
      rw [ej] at h1
      exact (nI_leI (a := 48) (by decide) hj).mp h1
    refine ⟨m * 10 + (j - 48), ?_, ?_⟩
    · rw [Nat.pow_succ]
      omega
    · rw [lxN_s, em, ej, show nI m * (10 : Int32) = nI (m * 10) from pk_mul m 10, nI_add, show nI (m * 10 + j) - (48 : Int32) = nI (m * 10 + j - 48) from pk_sub (b := 48) (by omega), show m * 10 + j - 48 = m * 10 + (j - 48) by omega]
section
variable {n q : Nat} {post : Mem → Prop}
theorem m_num92 {e : Nat} (h19 : T' 0 19 = nI e) (h17 : T' 0 17 = nI q) (hqe : q ≤ e) (he : e ≤ 160) (hq : post (mset T' 0 (upd (T' 0) 16 (if 4 < e - q then 5 else 1)))) : w_X8_readNumber_92 post T' := by
  unfold w_X8_readNumber_92 w_X8_readNumber_111
  rw [h19, h17, pk_sub hqe]
  by_cases c : 4 < e - q
  · rw [if_pos c] at hq
    refine ⟨fun z => absurd z (nI_ge (a := 4) c (by omega)), fun _ S1 e1 => ?_⟩
    rw [e1]; exact hq
  · rw [if_neg c] at hq
    refine ⟨fun _ S1 e1 => ?_, fun z => absurd (nI_le (b := 4) (by omega) (by decide)) z⟩
    rw [e1]; exact hq
theorem m_numLoop (hn : T 0 13 = nI n) (h160 : n ≤ 160) : ∀ (f p : Nat) (T1 : Mem), p + f = n → q ≤ p → FA T T1 → T1 0 19 = nI p → T1 0 17 = nI q → (p - q ≤ 4 → T1 0 18 = lxN (T 8) (p - q) q 0) → (∀ i, q ≤ i → i < p → 48 ≤ T 8 i ∧ T 8 i ≤ 57) → (∀ T2, FA T T2 → T2 0 19 = nI (lxR (T 8) 48 57 f p) → T2 0 17 = nI q → (lxR (T 8) 48 57 f p - q ≤ 4 → T2 0 18 = lxN (T 8) (lxR (T 8) 48 57 f p - q) q 0) → w_X8_readNumber_92 post T2) → w_X8_readNumber_5 post (f + 1) T1 := by
  intro f
  induction f with
  | zero =>
    intro p T1 hp hqp ha h19 h17 h18 hd hq
    rw [w_X8_readNumber_5, h19, ha.2 13 (by decide), hn]
    have e : p = n := by omega
    refine ⟨fun _ => hq T1 ha h19 h17 h18, fun z => absurd (nI_le (by omega) (by omega)) z⟩
  | succ f ih =>
    intro p T1 hp hqp ha h19 h17 h18 hd hq
    rw [w_X8_readNumber_5, h19, ha.2 13 (by decide), hn, nI_clamp (by omega), L_48, L_57, m_in, ha.1 8 (by decide)]
    try dsimp only
    rw [lxR] at hq
    refine ⟨fun z => absurd z (nI_ge (by omega) (by omega)), fun _ => ⟨nI_in (by omega) (by decide), ?_⟩⟩
    by_cases c : 48 ≤ T 8 p ∧ T 8 p ≤ 57
    · rw [if_pos c] at hq
      rw [bI_t c]
      refine ⟨fun z => absurd z (by decide), fun _ => ?_⟩
      have go : ∀ y : Int32, (p + 1 - q ≤ 4 → y = lxN (T 8) (p + 1 - q) q 0) → w_X8_readNumber_76 (w_X8_readNumber_5 post (f + 1)) post y T1 := by
        intro y hy
        unfold w_X8_readNumber_76
        intro S1 e1 S2 e2
        have a1 : FA T S1 := by rw [e1]; exact ha.up (by decide)
        have a2 : FA T S2 := by rw [e2]; exact a1.up (by decide)
        refine ih (p + 1) S2 (by omega) (by omega) a2 ?_ ?_ (fun z => ?_) (fun i h1 h2 => ?_) hq
        · rw [e2, ms_s, up_s, e1, ms_s, up_n (by decide), h19, nI_1]
        · rw [e2, ms_s, up_n (by decide), e1, ms_s, up_n (by decide)]; exact h17
        · rw [e2, ms_s, up_n (by decide), e1, ms_s, up_s]; exact hy z
        · by_cases ci : i = p
          · rw [ci]; exact c
          · exact hd i h1 (by omega)
      rw [h19, nI_clamp (n := p) (by omega)]
      refine ⟨fun z => ⟨nI_in (by omega) (by decide), go _ (fun y => ?_)⟩, fun z => go _ (fun y => ?_)⟩
      · rw [h18 (by omega), show p + 1 - q = (p - q) + 1 by omega, lxN_s, show q + (p - q) = p by omega, Int32.mul_comm]
      · exfalso
        obtain ⟨m, hm, em⟩ := lxN_b (tp := T 8) (q := q) (p - q) (by omega) (fun i h1 h2 => hd i h1 (by omega))
        rw [h18 (by omega), em] at z
        have h10 : 10 ^ (p - q) ≤ 10 ^ 3 := Nat.pow_le_pow_right (by decide) (by omega)
        exact z (nI_le (b := 9999) (by omega) (by decide))
    · rw [if_neg c] at hq
      rw [bI_f c]
      exact ⟨fun _ => hq T1 ha h19 h17 h18, fun z => absurd rfl z⟩
/-- words -/
def mW (j : Nat) : List Int32 := strByt.getD (if j < 6 then j + 7 else j - 5) []
def waN : List Nat := [0, 4, 8, 12, 13, 14, 18, 23, 28, 34, 36, 39, 42]
theorem wa_1 : ∀ j, j < 13 → waL.getD j 0 = nI (waN.getD j 0) := by decide +kernel
theorem wa_2 : ∀ j, j < 12 → waN.getD (j + 1) 0 = waN.getD j 0 + (mW j).length ∧ waN.getD j 0 + (mW j).length ≤ 42 ∧ (mW j).length ≤ 6 := by decide +kernel
theorem wa_3 : ∀ j, j < 12 → ∀ i, i < (mW j).length → ltL.getD (waN.getD j 0 + i) 0 = (mW j).getD i 0 := by decide +kernel
theorem m_wdLoop {post : Int32 → Mem → Prop} {j q e : Nat} (hw : RW T) (hj : j < 12) (he : e ≤ 160) : ∀ (f i : Nat) (x5 : Int32), i + f = (mW j).length → (x5 = 0 → ¬ seg (T 8) q e = mW j) → (¬ x5 = 0 → x5 = 1 ∧ e - q = (mW j).length ∧ q ≤ e ∧ ∀ k, k < i → T 8 (q + k) = (mW j).getD k 0) → post (bI (seg (T 8) q e = mW j)) T → w_X8_isWord_35 post (f + 1) (nI j) (nI q) (nI (mW j).length) x5 (nI i) T := by
  intro f
  obtain ⟨w1, w2, w3⟩ := wa_2 j hj
  induction f with
  | zero =>
    intro i x5 hi h0 h1 hq
    rw [w_X8_isWord_35]
    unfold w_X8_isWord_86
    have e : i = (mW j).length := by omega
    rw [← e]
    refine ⟨fun _ => ?_, fun z => absurd (nI_le (Nat.le_refl _) (by omega)) z⟩
    by_cases c : x5 = 0
    · rw [bI_f (h0 c)] at hq
      rw [c]
      exact ⟨Or.inl rfl, hq⟩
    · obtain ⟨g1, g2, g3, g4⟩ := h1 c
      rw [bI_t (seg_is g2 (fun k hk => g4 k (by omega)))] at hq
      rw [g1]
      exact ⟨Or.inr rfl, hq⟩
  | succ f ih =>
    intro i x5 hi h0 h1 hq
    rw [w_X8_isWord_35]
    unfold w_X8_isWord_86
    refine ⟨fun z => absurd z (nI_ge (b := (mW j).length) (by omega) (by omega)), fun _ => ⟨fun c => ?_, fun c => ?_⟩⟩
    · rw [bI_f (h0 c)] at hq
      rw [c]
      exact ⟨Or.inl rfl, hq⟩
    · obtain ⟨g1, g2, g3, g4⟩ := h1 c
      have e7 : T 7 (nI j).toNatClampNeg = nI (waN.getD j 0) := by
        rw [nI_clamp (by omega), hw.2 j (by omega), wa_1 j (by omega)]
      rw [e7, nI_add, nI_add, nI_clamp (n := q + i) (by omega), nI_clamp (n := waN.getD j 0 + i) (by omega), hw.1 _ (by omega), wa_3 j hj i (by omega)]
      refine ⟨nI_in (by omega) (by decide), nI_in (by omega) (by decide), nI_in (by omega) (by decide), fun z => ?_, fun z => ?_⟩
      · unfold w_X8_isWord_78
        intro z1 e1
        rw [e1, nI_1]
        exact ih _ _ (by omega) (fun _ => seg_ne (by omega) z) (fun y => absurd rfl y) hq
      · unfold w_X8_isWord_78
        intro z1 e1
        rw [e1, nI_1]
        refine ih _ _ (by omega) (fun y => absurd y (by decide)) (fun _ => ⟨rfl, g2, g3, fun k hk => ?_⟩) hq
        by_cases ck : k = i
        · rw [ck]; exact z
        · exact g4 k (by omega)
theorem m_isWord {post : Int32 → Mem → Prop} {j q e : Nat} (hw : RW T) (hj : j < 12) (he : e ≤ 160) (hqe : q ≤ e) (hq : post (bI (seg (T 8) q e = mW j)) T) : w_X8_isWord (nI j) (nI q) (nI e) T post := by
  unfold w_X8_isWord w_X8_isWord_30
  obtain ⟨w1, w2, w3⟩ := wa_2 j hj
  rw [nI_1, nI_clamp (n := j) (by omega), nI_clamp (n := j + 1) (by omega), hw.2 j (by omega), hw.2 (j + 1) (by omega), wa_1 j (by omega), wa_1 (j + 1) (by omega), w1, pk_sub hqe, pk_sub (by omega), show waN.getD j 0 + (mW j).length - waN.getD j 0 = (mW j).length by omega]
  refine ⟨nI_in (by omega) (by decide), nI_in (by omega) (by decide), fun z1 e1 => ?_⟩
  rw [e1]
  have h0 : nI 0 = 0 := rfl
  refine ⟨fun z => ⟨(mW j).length + 1, ?_⟩, fun z => ⟨(mW j).length + 1, ?_⟩⟩
  · have g := m_wdLoop (post := post) (q := q) (e := e) hw hj he (mW j).length 0 0 (by omega) (fun _ y => z (by rw [← y, seg_len])) (fun y => absurd rfl y) hq
    exact g
  · have z := (nI_eq (by omega) (by omega)).mp z
    have g := m_wdLoop (post := post) (q := q) (e := e) hw hj he (mW j).length 0 1 (by omega) (fun y => absurd y (by decide)) (fun _ => ⟨rfl, z, hqe, fun k hk => absurd hk (by omega)⟩) hq
    exact g
end
end
