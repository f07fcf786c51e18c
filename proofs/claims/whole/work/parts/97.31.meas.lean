/-! PURE, 21: parts of a rule; the class's measure -/
section
variable {S T S' T' : Mem} {a1 a2 a3 a4 a5 : Int32}
def vR (S : Mem) (k p : Nat) (nm : Nat → Int32) : Int32 := evF nm (seg (S (22 + 3 * k)) (if p = 0 then 0 else (S (23 + 3 * k) (p - 1)).toNatClampNeg) (S (23 + 3 * k) p).toNatClampNeg) 0 (fun _ => 0)
theorem RuleOk.part {k p : Nat} (h : RuleOk S T k) (hp : p < 3) : ∃ a e : Nat, a ≤ e ∧ e ≤ 160 ∧ S (23 + 3 * k) p = nI e ∧ (p ≠ 0 → S (23 + 3 * k) (p - 1) = nI a) ∧ (p = 0 → a = 0) ∧ T 10 (4 * k + p) = nI a ∧ T 10 (4 * k + p + 1) = nI e ∧ dep (seg (S (22 + 3 * k)) a e) 0 = some 1 ∧ (∀ i, i < e → T 9 (160 * k + i) = trS (S (22 + 3 * k) i)) ∧ (∀ i, i < e → bnd (S (22 + 3 * k) i) (-15) 9999) := by
  obtain ⟨e0, e1, e2, h01, h12, h2, s0, s1, s2, t0, t1, t2, t3, hc, hb, d0, d1, d2⟩ := h
  have hc3 : p = 0 ∨ p = 1 ∨ p = 2 := by omega
  rcases hc3 with e | e | e <;> subst e
  · exact ⟨0, e0, by omega, by omega, s0, fun z => absurd rfl z, fun _ => rfl, t0, t1, d0, fun i hi => hc i (by omega), fun i hi => hb i (by omega)⟩
  · exact ⟨e0, e1, by omega, by omega, s1, fun _ => s0, fun z => absurd z (by decide), t1, t2, d1, fun i hi => hc i (by omega), fun i hi => hb i (by omega)⟩
  · exact ⟨e1, e2, by omega, by omega, s2, fun _ => s1, fun z => absurd z (by decide), t2, t3, d2, fun i hi => hc i (by omega), fun i hi => hb i (by omega)⟩
theorem seg_mem {f : Nat → Int32} {P : Int32 → Prop} : ∀ (k a e : Nat), a + k = e → (∀ i, i < e → P (f i)) → ∀ s, s ∈ seg f a e → P s := by
  intro k
  induction k with
  | zero =>
    intro a e h hp s hs
    have : a = e := by omega
    subst this
    rw [seg_nil] at hs
    exact absurd hs (by simp)
  | succ k ih =>
    intro a e h hp s hs
    rw [seg_cons _ (by omega)] at hs
    rcases List.mem_cons.mp hs with q | q
    · rw [q]; exact hp a (by omega)
    · exact ih (a + 1) e (by omega) hp s q
theorem RuleOk.v {k p : Nat} (h : RuleOk S T k) (hp : p < 3) {nm nm' : Nat → Int32} (hn : ∀ j, j < 6 → nm j = nm' j) {f : Nat → Int32} {a e : Nat} (he : S (23 + 3 * k) p = nI e) (ha : p ≠ 0 → S (23 + 3 * k) (p - 1) = nI a) (ha0 : p = 0 → a = 0) (hae : a ≤ e) (h160 : e ≤ 160) : evF nm (seg (S (22 + 3 * k)) a e) 0 f = vR S k p nm' := by
  obtain ⟨a', e', q1, q2, q3, q4, q5, q6, q7, q8, q9, q10⟩ := h.part hp
  have ee : e = e' := by
    have := he.symm.trans q3
    exact (nI_eq (by omega) (by omega)).mp this
  subst ee
  have ea : a = a' := by
    by_cases p0 : p = 0
    · rw [ha0 p0, q5 p0]
    · have := (ha p0).symm.trans (q4 p0)
      exact (nI_eq (by omega) (by omega)).mp this
  subst ea
  have e1 : (S (23 + 3 * k) p).toNatClampNeg = e := by rw [he, nI_clamp (by omega)]
  have e2 : (if p = 0 then 0 else (S (23 + 3 * k) (p - 1)).toNatClampNeg) = a := by
    by_cases p0 : p = 0
    · rw [if_pos p0, ha0 p0]
    · rw [if_neg p0, ha p0, nI_clamp (by omega)]
  unfold vR
  rw [e1, e2]
  exact evF_cg hn _ 0 0 f _ (fun j hj => absurd hj (by omega)) (seg_mem (e - a) a e (by omega) (fun i hi => q10 i hi)) q8
theorem x_value {post : Int32 → Mem → Prop} {k p : Nat} (h : RuleOk S T k) (hk : k < 6) (hp : p < 3) (hq : ∀ S', (∀ d, d ≠ 42 → S' d = S d) → post (vR S k p (S 41)) S') : w_X2_value (20 + 1 + 3 * k) (nI p) 41 42 S post := by
  obtain ⟨a, e, q1, q2, q3, q4, q5, q6, q7, q8, q9, q10⟩ := h.part hp
  unfold w_X2_value w_X2_value_30
  have c1 : 20 + 1 + 3 * k + 1 = 22 + 3 * k := by omega
  have c2 : 20 + 1 + 3 * k + 2 = 23 + 3 * k := by omega
  have hp2 : 0 ≤ nI p ∧ nI p ≤ 2 := by
    have hc3 : p = 0 ∨ p = 1 ∨ p = 2 := by omega
    rcases hc3 with e | e | e <;> subst e <;> decide
  rw [x_within]
  simp only [bI_0]
  have run : w_X2_value_32 post (20 + 1 + 3 * k) 41 42 (e - a + 1) (nI p) (nI 0) (nI a) S := by
    refine x_run hp2 (by omega) (by omega) (by omega) q2 (e - a) a 0 0 S (by omega) (by omega) ?_ ?_ ?_ (fun S' s1 => ?_)
    · rw [c2, nI_clamp (by omega)]; exact q3
    · rw [c1]; exact fun i _ hi => q10 i hi
    · rw [c1]; exact q8
    · rw [c1, h.v hp (fun _ _ => rfl) q3 q4 q5 q1 q2]
      exact hq S' s1
  refine ⟨fun _ => ⟨fun z => ?_, fun z => ?_⟩, fun z => absurd hp2 z⟩
  · have p0 : p ≠ 0 := fun e => z (by rw [e]; rfl)
    have hin : vp_in (nI p - (1 : Int32)) 3 := by rw [nI_sub1 (by omega)]; exact nI_in (by omega) (by decide)
    refine ⟨hin, e - a + 1, ?_⟩
    rw [nI_sub1 (by omega), nI_clamp (by omega), c2, q4 p0]
    exact run
  · have p0 : p = 0 := by
      have := (nI_eq (a := p) (b := 0) (by omega) (by decide)).mp z
      exact this
    have a0 := q5 p0
    subst a0
    exact ⟨e - 0 + 1, run⟩
theorem m_says {post : Int32 → Mem → Prop} {k p : Nat} (h : RuleOk S T k) (hk : k < 6) (hp : p < 3) (hr : T 0 15 = nI k) (hq : ∀ T', (∀ d, d ≠ 13 → T' d = T d) → post (vR S k p (T 12)) T') : w_X8_says (nI p) T post := by
  obtain ⟨a, e, q1, q2, q3, q4, q5, q6, q7, q8, q9, q10⟩ := h.part hp
  have ei : (4 : Int32) * T 0 15 + nI p = nI (4 * k + p) := by rw [hr, e4, pk_mul, nI_add]
  unfold w_X8_says
  rw [ei, nI_clamp (by omega), q6]
  refine ⟨nI_in (by omega) (by decide), fun z1 e1 => ⟨e - a + 1, ?_⟩⟩
  rw [e1]
  refine m_run (code := S (22 + 3 * k)) hk hp q2 (e - a) a 0 0 T (by omega) (by omega) hr q7 q9 (fun i _ hi => q10 i hi) q8 (fun T' t1 => ?_)
  rw [h.v hp (fun _ _ => rfl) q3 q4 q5 q1 q2]
  exact hq T' t1
theorem x_name {post : Mem → Prop} {p v : Int32} {j : Nat} (hj : j < 6) (e : -1 - p = nI j) (h : post (mset S 41 (upd (S 41) j v))) : w_X4_name p v S post := by
  unfold w_X4_name w_X4_name_21
  rw [x_nameIndex, x_within, e]
  simp only [bI_0]
  have hb : 0 ≤ nI j ∧ nI j ≤ 5 := by
    have hc : j = 0 ∨ j = 1 ∨ j = 2 ∨ j = 3 ∨ j = 4 ∨ j = 5 := by omega
    rcases hc with e | e | e | e | e | e <;> subst e <;> decide
  refine ⟨fun z => absurd hb z, fun _ => ⟨nI_in hj (by decide), fun S3 e3 => ?_⟩⟩
  rw [e3, nI_clamp (by omega)]
  exact h
def cellF (S : Mem) (a : Int32) (b i : Nat) : Int32 := pC (S 1 3) a ((b + 2 * i) % 8)
def hgtF (S : Mem) (a : Int32) (b i : Nat) : Int32 := S 2 (cellF S a b i).toNatClampNeg + pT (S (4 + i) 0) (S (4 + i) 1) (S (4 + i) 2) (S 1 5)
def gapF (S : Mem) (a : Int32) (b : Nat) : Int32 := ((hgtF S a b 0 + hgtF S a b 2) - hgtF S a b 1) - hgtF S a b 3
def sizF (S : Mem) (a : Int32) (b : Nat) : Int32 := jabs (gapF S a b)
def bfN (S : Mem) (a : Int32) (b : Nat) : Nat := if 0 ≤ gapF S a b then 0 else 1
def lfN (S : Mem) (a : Int32) (b : Nat) : Nat := if 0 ≤ gapF S a b then 1 else 0
def givF (S : Mem) (a : Int32) (b : Nat) : Int32 := if gapF S a b = 0 then 0 else pG (S (4 + lfN S a b) 0) (S (4 + lfN S a b) 2) (sizF S a b) + pG (S (4 + (lfN S a b + 2)) 0) (S (4 + (lfN S a b + 2)) 2) (sizF S a b)
def nmF (S : Mem) (a : Int32) (b : Nat) (x y : Int32) (j : Nat) : Int32 := if j = 0 then x else if j = 1 then y else if j = 2 then nI b else if j = 3 then a / 8 else if j = 4 then jrem a 8 else givF S a b
def rlN (S : Mem) : Nat := (S 1 6).toNatClampNeg
def slkF (S : Mem) (a : Int32) (b : Nat) : Int32 := hl (vR S (rlN S) 0 (nmF S a b (sizF S a b) 0)) 0 9
def rckF (S : Mem) (a : Int32) (b : Nat) : Int32 := if slkF S a b < sizF S a b then jmax 0 (sizF S a b - givF S a b) else 0
def leaF (S : Mem) (a : Int32) (b : Nat) : Int32 := jmax (jmax (hgtF S a b (bfN S a b)) (hgtF S a b (bfN S a b + 2))) (jmax (hgtF S a b (1 - bfN S a b)) (hgtF S a b (bfN S a b) + hgtF S a b (bfN S a b + 2) - hgtF S a b (1 - bfN S a b))) - jmin (jmin (hgtF S a b (bfN S a b)) (hgtF S a b (bfN S a b + 2))) (jmin (hgtF S a b (1 - bfN S a b)) (hgtF S a b (bfN S a b) + hgtF S a b (bfN S a b + 2) - hgtF S a b (1 - bfN S a b)))
theorem x_heights {post : Mem → Prop} {c2 : Nat} {a : Int32} {b : Nat} {S0 : Mem} (hb : b < 8) : ∀ (n k : Nat) (S : Mem), k + n = 4 → (∀ d, d ≠ 40 → S d = S0 d) → (∀ j, j < k → S 40 j = hgtF S0 a b j) → (∀ S' m, (∀ d, d ≠ 40 → S' d = S0 d) → (∀ j, j < 4 → S' 40 j = hgtF S0 a b j) → w_X4_measure_3 post 1 c2 (m + 1) a (nI b) (nI 4) S') → w_X4_measure_3 post 1 c2 (n + 1) a (nI b) (nI k) S := by
  intro n
  induction n with
  | zero =>
    intro k S hk h0 hj ht
    have e : k = 4 := by omega
    subst e
    exact ht S 0 h0 hj
  | succ n ih =>
    intro k S hk h0 hj ht
    rw [w_X4_measure_3]
    refine ⟨fun z => absurd z (nI_ge (b := 4) (by omega) (by decide)), fun _ => ?_⟩
    unfold w_X5_heightOf
    refine x_cell hb (by omega) ?_
    obtain ⟨j, hj64, ej⟩ := pC_b (S 1 3) a ((b + 2 * k) % 8)
    rw [ej, nI_clamp (n := j) (by omega), nI_clamp (n := k) (by omega)]
    refine ⟨nI_in hj64 (by decide), four_nI (by omega), ?_⟩
    rw [show 1 + 2 + 1 + k = 4 + k by omega]
    refine x_tall ⟨four_nI (by omega), fun S13 e13 z14 e14 => ?_⟩
    rw [e14, e13, nI_1]
    refine ih (k + 1) _ (by omega) (fun d hd => (ms_n hd).trans (h0 d hd)) (fun i hi => ?_) ht
    rw [ms_s]
    by_cases e : i = k
    · rw [e, up_s]
      unfold hgtF cellF
      rw [← h0 1 (by decide), ← h0 2 (by decide), ← h0 (4 + k) (by omega), ej, nI_clamp (by omega)]
    · rw [up_n e]; exact hj i (by omega)
end
