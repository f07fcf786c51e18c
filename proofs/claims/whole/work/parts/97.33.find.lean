/-! PURE, 23: the model's find -/
section
variable {S T S' T' : Mem} {a1 a2 a3 a4 a5 : Int32}
theorem add_t {x y : Int32} (hx : bnd x (-100000) 100000) (hy : bnd y (-100000) 100000) : (x + y).toInt = x.toInt + y.toInt := by
  obtain ⟨h1, h2⟩ := hx
  obtain ⟨h3, h4⟩ := hy
  rw [Int32.toInt_add]
  simp only [Int.bmod, (show ((2 ^ 32 : Nat) : Int) = 4294967296 from rfl)]
  omega
theorem sub_t {x y : Int32} (hx : bnd x (-100000) 100000) (hy : bnd y (-100000) 100000) : (x - y).toInt = x.toInt - y.toInt := by
  obtain ⟨h1, h2⟩ := hx
  obtain ⟨h3, h4⟩ := hy
  rw [Int32.toInt_sub]
  simp only [Int.bmod, (show ((2 ^ 32 : Nat) : Int) = 4294967296 from rfl)]
  omega
theorem bnd.w {x : Int32} {a b c d : Int} (h : bnd x a b) (h1 : c ≤ a) (h2 : b ≤ d) : bnd x c d := by
  obtain ⟨q1, q2⟩ := h
  exact ⟨by omega, by omega⟩
theorem jmax_t (x y : Int32) : (jmax x y).toInt = max x.toInt y.toInt := by
  unfold jmax
  by_cases h : x < y
  · rw [if_pos h]; rw [i_lt] at h; omega
  · rw [if_neg h]; rw [i_lt] at h; omega
theorem jmin_t (x y : Int32) : (jmin x y).toInt = min x.toInt y.toInt := by
  unfold jmin
  by_cases h : y < x
  · rw [if_pos h]; rw [i_lt] at h; omega
  · rw [if_neg h]; rw [i_lt] at h; omega
theorem jmax_as (x y z : Int32) : jmax (jmax x y) z = jmax x (jmax y z) := by
  apply Int32.toInt_inj.mp
  rw [jmax_t, jmax_t, jmax_t, jmax_t]
  omega
theorem jmin_as (x y z : Int32) : jmin (jmin x y) z = jmin x (jmin y z) := by
  apply Int32.toInt_inj.mp
  rw [jmin_t, jmin_t, jmin_t, jmin_t]
  omega
theorem jmax_if (m c : Int32) : (if c ≤ m then m else c) = jmax m c := by
  apply Int32.toInt_inj.mp
  rw [jmax_t]
  by_cases h : c ≤ m
  · rw [if_pos h]; rw [i_le] at h; omega
  · rw [if_neg h]; rw [i_le] at h; omega
theorem jmin_if (m c : Int32) : (if m ≤ c then m else c) = jmin m c := by
  apply Int32.toInt_inj.mp
  rw [jmin_t]
  by_cases h : m ≤ c
  · rw [if_pos h]; rw [i_le] at h; omega
  · rw [if_neg h]; rw [i_le] at h; omega
theorem half_b {x : Int32} (h : bnd x (-4) 200) : bnd (x / 2) (-4) 200 := by
  obtain ⟨h1, h2⟩ := h
  by_cases h0 : 0 ≤ x.toInt
  · obtain ⟨j, hj, hj2, e⟩ := nI_ofb (x := x) (a := 0) (b := 200) ⟨h0, h2⟩ (by decide)
    have e2 : (2 : Int32) = nI 2 := rfl
    rw [e, e2, pk_div hj (by decide) (by decide)]
    unfold bnd
    rw [nI_toInt (by omega)]
    omega
  · have hc : x = -1 ∨ x = -2 ∨ x = -3 ∨ x = -4 := by
      rw [i_eq, i_eq, i_eq, i_eq, Im1, show (-2 : Int32).toInt = -2 by decide, show (-3 : Int32).toInt = -3 by decide, show (-4 : Int32).toInt = -4 by decide]
      omega
    unfold bnd
    rcases hc with e | e | e | e <;> rw [e] <;> decide
theorem pT_b {k L n w : Int32} (hL : bnd L 0 99) (hn : bnd n 0 9) (hw : bnd w 0 9) : bnd (pT k L n w) 0 200 := by
  have fin : ∀ x : Int32, bnd x (-1000) 200 → bnd (jmax 0 x) 0 200 := by
    intro x hx
    obtain ⟨h1, h2⟩ := hx
    unfold bnd
    rw [jmax_t, I0]
    omega
  unfold pT
  refine fin _ ?_
  obtain ⟨l, hl, hl2, el⟩ := nI_ofb hL (by decide)
  obtain ⟨m, hm, hm2, em⟩ := nI_ofb hn (by decide)
  obtain ⟨v, hv, hv2, ev⟩ := nI_ofb hw (by decide)
  have e2 : (2 : Int32) = nI 2 := rfl
  have e3 : (3 : Int32) = nI 3 := rfl
  have hf : bnd (L + n - w / 2) (-4) 200 := by
    unfold bnd
    rw [el, em, ev, e2, nI_add, pk_div hv (by decide) (by decide), pk_sub_toInt (by omega) (by omega)]
    omega
  have hs : bnd (L + 3 * n) 0 150 := by
    unfold bnd
    rw [el, em, e3, pk_mul, nI_add, nI_toInt (by omega)]
    omega
  by_cases c1 : k = 1
  · rw [if_pos c1]; exact hf.w (by decide) (by decide)
  rw [if_neg c1]
  by_cases c2 : k = 2
  · rw [if_pos c2]; exact hs.w (by decide) (by decide)
  rw [if_neg c2]
  by_cases c3 : k = 3
  · rw [if_pos c3]; exact (half_b hf).w (by decide) (by decide)
  rw [if_neg c3]
  by_cases c4 : k = 4
  · rw [if_pos c4]
    unfold bnd
    rw [add_t (hs.w (by decide) (by decide)) (by unfold bnd; decide), I2]
    obtain ⟨q1, q2⟩ := hs
    omega
  rw [if_neg c4]
  by_cases c5 : k = 5
  · rw [if_pos c5]
    unfold bnd
    have m1 : v * m ≤ 9 * 9 := Nat.mul_le_mul (by omega) (by omega)
    rw [el, em, ev, pk_mul, pk_sub_toInt (by omega) (by omega)]
    omega
  rw [if_neg c5]
  exact hL.w (by decide) (by decide)
theorem pG_b {k n s : Int32} (hn : bnd n 0 9) (hs : bnd s 0 5000) : bnd (pG k n s) 0 10 := by
  obtain ⟨v, hv, hv2, ev⟩ := nI_ofb hs (by decide)
  have e2 : (2 : Int32) = nI 2 := rfl
  have hh : bnd (s / 2) 0 5000 := by
    unfold bnd
    rw [ev, e2, pk_div hv (by decide) (by decide), nI_toInt (by omega)]
    omega
  have hm : bnd (jmin (s / 2) n) 0 9 := by
    unfold bnd
    rw [jmin_t]
    obtain ⟨q1, q2⟩ := hh
    obtain ⟨q3, q4⟩ := hn
    omega
  unfold pG
  by_cases c1 : k = 1
  · rw [if_pos c1]; exact hm.w (by decide) (by decide)
  rw [if_neg c1]
  by_cases c3 : k = 3
  · rw [if_pos c3]
    unfold bnd
    rw [add_t (hm.w (by decide) (by decide)) (by unfold bnd; decide), I1]
    obtain ⟨q1, q2⟩ := hm
    omega
  rw [if_neg c3]
  by_cases c5 : k = 5
  · rw [if_pos c5]
    unfold bnd
    rw [jmin_t]
    obtain ⟨q1, q2⟩ := hs
    obtain ⟨q3, q4⟩ := hn
    omega
  rw [if_neg c5]
  unfold bnd
  decide
theorem hgtF_b (h : RX S T) (a : Int32) (b : Nat) {i : Nat} (hi : i < 4) : bnd (hgtF S a b i) 0 300 := by
  obtain ⟨h1, h2, h3, -⟩ := h
  obtain ⟨-, q1, q2, q3⟩ := h2 i hi
  obtain ⟨j, hj, ej⟩ := pC_b (S 1 3) a ((b + 2 * i) % 8)
  have hp := pT_b (k := S (4 + i) 0) q2 q3 h3.2.2.2.1.2
  have hc := h1.2 j hj
  unfold hgtF cellF
  rw [ej, nI_clamp (by omega)]
  unfold bnd
  rw [add_t (hc.w (by decide) (by decide)) (hp.w (by decide) (by decide))]
  obtain ⟨z1, z2⟩ := hp
  obtain ⟨z3, z4⟩ := hc
  omega
theorem gap_t (h : RX S T) (a : Int32) (b : Nat) : (gapF S a b).toInt = (hgtF S a b 0).toInt + (hgtF S a b 2).toInt - (hgtF S a b 1).toInt - (hgtF S a b 3).toInt ∧ (hgtF S a b 0 + hgtF S a b 2 - hgtF S a b 1).toInt = (hgtF S a b 0).toInt + (hgtF S a b 2).toInt - (hgtF S a b 1).toInt ∧ bnd (gapF S a b) (-600) 600 := by
  have b0 := hgtF_b h a b (i := 0) (by decide)
  have b1 := hgtF_b h a b (i := 1) (by decide)
  have b2 := hgtF_b h a b (i := 2) (by decide)
  have b3 := hgtF_b h a b (i := 3) (by decide)
  have c1 := add_t (b0.w (by decide) (by decide)) (b2.w (by decide) (by decide))
  obtain ⟨z0, z1⟩ := b0
  obtain ⟨z2, z3⟩ := b1
  obtain ⟨z4, z5⟩ := b2
  obtain ⟨z6, z7⟩ := b3
  have c2 := sub_t (x := hgtF S a b 0 + hgtF S a b 2) (y := hgtF S a b 1) ⟨by omega, by omega⟩ ⟨by omega, by omega⟩
  have c3 := sub_t (x := hgtF S a b 0 + hgtF S a b 2 - hgtF S a b 1) (y := hgtF S a b 3) ⟨by omega, by omega⟩ ⟨by omega, by omega⟩
  refine ⟨?_, by omega, ?_⟩
  · unfold gapF
    omega
  · unfold gapF bnd
    omega
theorem siz_b (h : RX S T) (a : Int32) (b : Nat) : bnd (sizF S a b) 0 600 := by
  obtain ⟨-, -, q1, q2⟩ := gap_t h a b
  unfold sizF jabs
  by_cases c : 0 ≤ gapF S a b
  · rw [if_pos c]
    rw [i_le, I0] at c
    exact ⟨c, q2⟩
  · rw [if_neg c]
    rw [i_le, I0] at c
    have e := sub_t (x := 0) (y := gapF S a b) (by unfold bnd; decide) ⟨by omega, by omega⟩
    rw [I0] at e
    exact ⟨by omega, by omega⟩
theorem giv_b (h : RX S T) (a : Int32) (b : Nat) : bnd (givF S a b) 0 20 := by
  have hs := siz_b h a b
  have hk : lfN S a b < 2 := by unfold lfN; by_cases z : 0 ≤ gapF S a b <;> simp [z]
  obtain ⟨-, h2, -⟩ := h
  unfold givF
  by_cases c : gapF S a b = 0
  · rw [if_pos c]; unfold bnd; decide
  · rw [if_neg c]
    have p1 := pG_b (k := S (4 + lfN S a b) 0) (h2 (lfN S a b) (by omega)).2.2.2 (hs.w (by decide) (by decide))
    have p2 := pG_b (k := S (4 + (lfN S a b + 2)) 0) (h2 (lfN S a b + 2) (by omega)).2.2.2 (hs.w (by decide) (by decide))
    unfold bnd
    rw [add_t (p1.w (by decide) (by decide)) (p2.w (by decide) (by decide))]
    obtain ⟨z1, z2⟩ := p1
    obtain ⟨z3, z4⟩ := p2
    omega
theorem m_heights {post : Mem → Prop} {a : Int32} {b : Nat} {T0 : Mem} (h : RX S T0) (hb : b < 8) : ∀ (n k : Nat) (T : Mem), k + n = 4 → (∀ d, d ≠ 14 → T d = T0 d) → (∀ j, j < k → T 14 j = hgtF S a b j) → (∀ T' m, (∀ d, d ≠ 14 → T' d = T0 d) → (∀ j, j < 4 → T' 14 j = hgtF S a b j) → w_X8_find_2 post (m + 1) a (nI b) (nI 4) T') → w_X8_find_2 post (n + 1) a (nI b) (nI k) T := by
  intro n
  induction n with
  | zero =>
    intro k T hk h0 hj ht
    have e : k = 4 := by omega
    subst e
    exact ht T 0 h0 hj
  | succ n ih =>
    intro k T hk h0 hj ht
    rw [w_X8_find_2]
    refine ⟨fun z => absurd z (nI_ge (b := 4) (by omega) (by decide)), fun _ => ?_⟩
    obtain ⟨⟨g1, g2, g3⟩, -⟩ := h.2.1 k (by omega)
    have er : T 0 5 = S 1 3 := by rw [h0 0 (by decide)]; exact h.2.2.1.2.1.1.symm
    have ew : T 0 7 = S 1 5 := by rw [h0 0 (by decide)]; exact h.2.2.1.2.2.2.1.1.symm
    refine m_cell hb (by omega) ?_
    rw [er, ew]
    obtain ⟨j, hj64, ej⟩ := pC_b (S 1 3) a ((b + 2 * k) % 8)
    rw [ej, nI_clamp (n := j) (by omega), nI_clamp (n := k) (by omega)]
    refine ⟨nI_in hj64 (by decide), m_tall (k := S (4 + k) 0) (L := S (4 + k) 1) (n := S (4 + k) 2) (by omega) (by rw [h0 2 (by decide)]; exact g1.symm) (by rw [h0 3 (by decide)]; exact g2.symm) (by rw [h0 4 (by decide)]; exact g3.symm) ⟨four_nI (by omega), fun S13 e13 z14 e14 => ?_⟩⟩
    rw [e14, e13, nI_1]
    refine ih (k + 1) _ (by omega) (fun d hd => (ms_n hd).trans (h0 d hd)) (fun i hi => ?_) ht
    rw [ms_s]
    by_cases e : i = k
    · rw [e, up_s]
      unfold hgtF cellF
      rw [h0 1 (by decide), ← h.1.1, ej, nI_clamp (by omega)]
    · rw [up_n e]; exact hj i (by omega)
theorem m_leanLoop {post : Mem → Prop} {y z z4 z6 : Int32} {bf : Nat} (hbf : bf < 2) (e35 : T 0 35 = nI bf) (e36 : T 0 36 = nI (1 - bf)) (h4 : T 14 (bf + 2) = z4) (h6 : T 14 (1 - bf) = z6) (h : post (mset T 0 (upd (T 0) 34 (jmax (jmax z z4) (jmax z6 y) - jmin (jmin z z4) (jmin z6 y))))) : w_X8_findLean_71 post 4 y z z (nI 0) T := by
  have ek2 : nI bf + (2 : Int32) = nI (bf + 2) := nI_add bf 2
  have st : ∀ (K : Int32 → Int32 → Int32 → Int32 → Mem → Prop) (x3 x4 x5 c : Int32), K y (jmax x3 c) (jmin x4 c) (x5 + 1) T → w_X8_findLean_115 K post y x3 x4 x5 c T := by
    intro K x3 x4 x5 c hk
    unfold w_X8_findLean_115 w_X8_findLean_129 w_X8_findLean_144
    rw [← jmax_if, ← jmin_if] at hk
    refine ⟨fun c1 => ⟨fun c2 z1 e1 => ?_, fun c2 z1 e1 => ?_⟩, fun c1 => ⟨fun c2 z1 e1 => ?_, fun c2 z1 e1 => ?_⟩⟩ <;> rw [e1]
    · rw [if_pos c1, if_pos c2] at hk; exact hk
    · rw [if_pos c1, if_neg c2] at hk; exact hk
    · rw [if_neg c1, if_pos c2] at hk; exact hk
    · rw [if_neg c1, if_neg c2] at hk; exact hk
  rw [w_X8_findLean_71]
  refine ⟨fun z => absurd z (by decide), fun _ => ⟨fun z => absurd rfl z, fun _ => ?_⟩⟩
  rw [e35, ek2, nI_clamp (by omega), h4]
  refine ⟨four_nI (by omega), st _ _ _ _ _ ?_⟩
  rw [nI_1, w_X8_findLean_71]
  refine ⟨fun z => absurd z (by decide), fun _ => ⟨fun _ => ⟨fun z => absurd rfl z, fun _ => ?_⟩, fun z => absurd z (by decide)⟩⟩
  rw [e36, nI_clamp (by omega), h6]
  refine ⟨four_nI (by omega), st _ _ _ _ _ ?_⟩
  rw [nI_1, w_X8_findLean_71]
  refine ⟨fun z => absurd z (by decide), fun _ => ⟨fun _ => ⟨fun _ => st _ _ _ _ _ ?_, fun z => absurd z (by decide)⟩, fun z => absurd z (by decide)⟩⟩
  rw [nI_1, w_X8_findLean_71]
  refine ⟨fun _ S1 e1 => ?_, fun z => absurd (by decide) z⟩
  rw [e1, jmax_as, jmin_as]
  exact h
end
