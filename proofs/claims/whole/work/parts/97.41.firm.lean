/-! PURE, 26: firm, fewest -/
section
variable {S T S' T' : Mem} {a1 a2 a3 a4 a5 : Int32}
theorem hgtF_sx (h : SX S S') {a : Int32} {b i : Nat} (hi : i < 4) : hgtF S' a b i = hgtF S a b i := by
  unfold hgtF cellF
  rw [h.2.1, h.2.2.1, h.2.2.2.1 (4 + i) (by omega) (by omega)]
theorem gapF_sx (h : SX S S') (a : Int32) (b : Nat) : gapF S' a b = gapF S a b := by
  unfold gapF
  rw [hgtF_sx h (by decide), hgtF_sx h (by decide), hgtF_sx h (by decide), hgtF_sx h (by decide)]
theorem sizF_sx (h : SX S S') (a : Int32) (b : Nat) : sizF S' a b = sizF S a b := by
  unfold sizF
  rw [gapF_sx h]
theorem leaF_sx (h : SX S S') (a : Int32) (b : Nat) : leaF S' a b = leaF S a b := by
  have e : bfN S' a b = bfN S a b := by
    unfold bfN
    rw [gapF_sx h]
  have hk : bfN S a b < 2 := by unfold bfN; by_cases z : 0 ≤ gapF S a b <;> simp [z]
  unfold leaF
  rw [e, hgtF_sx h (by omega), hgtF_sx h (by omega), hgtF_sx h (by omega)]
theorem givF_sx (h : SX S S') (a : Int32) (b : Nat) : givF S' a b = givF S a b := by
  have e : lfN S' a b = lfN S a b := by
    unfold lfN
    rw [gapF_sx h]
  have hk : lfN S a b < 2 := by unfold lfN; by_cases z : 0 ≤ gapF S a b <;> simp [z]
  unfold givF
  rw [e, gapF_sx h, sizF_sx h, h.2.2.2.1 (4 + lfN S a b) (by omega) (by omega), h.2.2.2.1 (4 + (lfN S a b + 2)) (by omega) (by omega)]
theorem nmF_sx (h : SX S S') (a x y : Int32) (b : Nat) : nmF S' a b x y = nmF S a b x y := by
  funext j
  unfold nmF
  rw [givF_sx h]
theorem rlN_sx (h : SX S S') : rlN S' = rlN S := by
  unfold rlN
  rw [h.2.1]
theorem vR_sx (h : SX S S') {k p : Nat} (hk : k < 6) (nm : Nat → Int32) : vR S' k p nm = vR S k p nm := by
  have q := h.2.2.2.2.2.2.1
  unfold vR
  rw [q (22 + 3 * k) (by omega) (by omega), q (23 + 3 * k) (by omega) (by omega)]
theorem rckF_sx (h : SX S S') (hk : rlN S < 6) (a : Int32) (b : Nat) : rckF S' a b = rckF S a b := by
  unfold rckF slkF
  rw [rlN_sx h, vR_sx h hk, nmF_sx h, sizF_sx h, givF_sx h]
theorem wrtF_sx (h : SX S S') (hk : rlN S < 6) (a : Int32) (b : Nat) : wrtF S' a b = wrtF S a b := by
  unfold wrtF
  rw [rlN_sx h, vR_sx h hk, nmF_sx h, rckF_sx h hk, leaF_sx h]
theorem splF_sx (h : SX S S') (hk : rlN S < 6) (a : Int32) (b : Nat) : splF S' a b = splF S a b := by
  unfold splF
  rw [rlN_sx h, vR_sx h hk, nmF_sx h, rckF_sx h hk, leaF_sx h]
theorem x_isFirm {post : Int32 → Mem → Prop} {a : Int32} {b : Nat} (hm : MX S S' a b) (hq : post (bI (rckF S a b = 0)) S') : w_X4_isFirm S' post := by
  unfold w_X4_isFirm w_X4_isFirm_12
  rw [hm.2.2.2.1]
  exact ⟨fun c => ⟨Or.inl rfl, by rw [bI_f c] at hq; exact hq⟩, fun c => ⟨Or.inr rfl, by rw [bI_t c] at hq; exact hq⟩⟩
theorem bI_or {p : Prop} [Decidable p] : bI p = 0 ∨ bI p = 1 := by
  by_cases h : p
  · exact Or.inr (bI_t h)
  · exact Or.inl (bI_f h)
theorem x_isFirmAt {post : Int32 → Mem → Prop} {a : Int32} {b : Nat} (h : RX S T) (hb : b < 8) (hq : ∀ S', SX S S' → post (bI (rckF S a b = 0)) S') : w_X7_isFirmAt a (nI b) S post := by
  unfold w_X7_isFirmAt
  exact x_measure h hb (fun S1 hm => x_isFirm hm ⟨bI_or, hq S1 hm.sx⟩)
theorem jrem8 {t : Nat} (ht : t < 8) : jrem (nI t) (8 : Int32) = nI t := by
  have e8 : (8 : Int32) = nI 8 := rfl
  rw [e8, jrem_nI (by omega) (by decide) (by decide), Nat.mod_eq_of_lt ht]
theorem m_isFirmAt {post : Int32 → Mem → Prop} {a : Int32} {b : Nat} (h : RX S T) (hb : b < 8) (hq : ∀ T', SM T T' → post (bI (rckF S a b = 0)) T') : w_X8_isFirmAt a (nI b) T post := by
  unfold w_X8_isFirmAt w_X8_isFirmAt_21
  rw [jrem8 hb]
  refine m_find h hb (fun T1 hm => ?_)
  have q := hq T1 hm.sm
  rw [hm.2.2.2.1]
  exact ⟨fun c => ⟨Or.inl rfl, by rw [bI_f c] at q; exact q⟩, fun c => ⟨Or.inr rfl, by rw [bI_t c] at q; exact q⟩⟩
def fmF (q : Nat → Bool) : Nat → Nat → Int32 → Int32
  | 0, _, c => c
  | n + 1, t, c => fmF q n (t + 1) (if q t then c ||| ((1 : Int32) <<< (nI t &&& 31)) else c)
def frB (S : Mem) (a : Int32) (t : Nat) : Bool := decide (rckF S a t = 0)
theorem frB_t {a : Int32} {t : Nat} (h : rckF S a t = 0) : frB S a t = true := decide_eq_true h
theorem frB_f {a : Int32} {t : Nat} (h : ¬ rckF S a t = 0) : frB S a t = false := decide_eq_false h
theorem x_firmLoop {post : Int32 → Mem → Prop} (h : RX S T) : ∀ (n t : Nat) (c : Int32) (S1 : Mem), t + n = 8 → SX S S1 → (∀ S2, SX S S2 → post (fmF (frB S (S 1 2)) n t c) S2) → w_X7_firm_4 post (n + 1) c (nI t) S1 := by
  intro n
  induction n with
  | zero =>
    intro t c S1 ht hs hq
    rw [w_X7_firm_4]
    have e : t = 8 := by omega
    subst e
    exact ⟨fun _ => hq S1 hs, fun z => absurd (by decide) z⟩
  | succ n ih =>
    intro t c S1 ht hs hq
    obtain ⟨k6, -⟩ := rl_of h
    rw [w_X7_firm_4]
    refine ⟨fun z => absurd z (nI_ge (b := 8) (by omega) (by decide)), fun _ => ?_⟩
    refine x_isFirmAt (h.same hs SM.rf) (by omega) (fun S2 s2 => ?_)
    rw [show S1 1 2 = S 1 2 by rw [hs.2.1], rckF_sx hs k6]
    unfold w_X7_firm_31
    rw [fmF] at hq
    have s3 := hs.tr s2
    by_cases c1 : rckF S (S 1 2) t = 0
    · rw [bI_t c1]
      refine ⟨fun z => absurd z (by decide), fun _ z2 e2 z1 e1 => ?_⟩
      rw [e1, e2, nI_1]
      refine ih _ _ _ (by omega) s3 (fun S4 s4 => ?_)
      have := hq S4 s4
      rw [frB_t c1, if_pos rfl] at this
      exact this
    · rw [bI_f c1]
      refine ⟨fun _ z1 e1 => ?_, fun z => absurd rfl z⟩
      rw [e1, nI_1]
      refine ih _ _ _ (by omega) s3 (fun S4 s4 => ?_)
      have := hq S4 s4
      rw [frB_f c1, if_neg (by decide)] at this
      exact this
theorem m_firmLoop {post : Int32 → Mem → Prop} {a : Int32} (h : RX S T) : ∀ (n t : Nat) (c : Int32) (T1 : Mem), t + n = 8 → SM T T1 → (∀ T2, SM T T2 → post (fmF (frB S a) n t c) T2) → w_X8_firmAt_4 post (n + 1) a c (nI t) T1 := by
  intro n
  induction n with
  | zero =>
    intro t c S1 ht hs hq
    rw [w_X8_firmAt_4]
    have e : t = 8 := by omega
    subst e
    exact ⟨fun _ => hq S1 hs, fun z => absurd (by decide) z⟩
  | succ n ih =>
    intro t c S1 ht hs hq
    rw [w_X8_firmAt_4]
    refine ⟨fun z => absurd z (nI_ge (b := 8) (by omega) (by decide)), fun _ => ?_⟩
    refine m_isFirmAt (h.same SX.rf hs) (by omega) (fun S2 s2 => ?_)
    unfold w_X8_firmAt_28
    rw [fmF] at hq
    have s3 := hs.tr s2
    by_cases c1 : rckF S a t = 0
    · rw [bI_t c1]
      refine ⟨fun z => absurd z (by decide), fun _ z1 e1 => ?_⟩
      rw [e1, nI_1]
      refine ih _ _ _ (by omega) s3 (fun S4 s4 => ?_)
      have := hq S4 s4
      rw [frB_t c1, if_pos rfl] at this
      exact this
    · rw [bI_f c1]
      refine ⟨fun _ z1 e1 => ?_, fun z => absurd rfl z⟩
      rw [e1, nI_1]
      refine ih _ _ _ (by omega) s3 (fun S4 s4 => ?_)
      have := hq S4 s4
      rw [frB_f c1, if_neg (by decide)] at this
      exact this
theorem h_firm (h : RX S T) : w_X7_firm S (fun r1 S1 => w_X8_firm T (fun r2 T1 => r1 = r2 ∧ RX S1 T1)) := by
  have hsame := h.same SX.rf (sm_thr T 0)
  obtain ⟨b, hb, e1, e2, e3⟩ := place_of h
  unfold w_X7_firm
  refine ⟨9, x_firmLoop h 8 0 _ S (by decide) SX.rf (fun S2 s2 => ?_)⟩
  unfold w_X8_firm w_X8_firmAt
  intro T1 t1
  subst t1
  have f4 : (mset T 0 (upd (T 0) 8 0)) 0 4 = S 1 2 := e3
  rw [f4]
  exact ⟨9, m_firmLoop hsame 8 0 _ _ (by decide) SM.rf (fun T2 t2 => ⟨rfl, hsame.same s2 t2⟩)⟩
theorem bit_t : ∀ p0 p1 p2 p3 p4 p5 p6 p7 : Bool, ∀ t : Fin 8, (decide (((fmF (fun j => if j = 0 then p0 else if j = 1 then p1 else if j = 2 then p2 else if j = 3 then p3 else if j = 4 then p4 else if j = 5 then p5 else if j = 6 then p6 else p7) 8 0 0 >>> (nI t.val &&& 31)) &&& (1 : Int32)) = 1)) = (if t.val = 0 then p0 else if t.val = 1 then p1 else if t.val = 2 then p2 else if t.val = 3 then p3 else if t.val = 4 then p4 else if t.val = 5 then p5 else if t.val = 6 then p6 else p7) := by decide +kernel
theorem fmF_cg {q q' : Nat → Bool} : ∀ (n t : Nat) (c : Int32), t + n ≤ 8 → (∀ j, j < 8 → q j = q' j) → fmF q n t c = fmF q' n t c := by
  intro n
  induction n with
  | zero => intro t c _ _; rfl
  | succ n ih =>
    intro t c ht hq
    rw [fmF, fmF, hq t (by omega)]
    exact ih _ _ (by omega) hq
theorem bit_of (q : Nat → Bool) {t : Nat} (ht : t < 8) : (((fmF q 8 0 0 >>> (nI t &&& 31)) &&& (1 : Int32)) = 1) = (q t = true) := by
  have b := bit_t (q 0) (q 1) (q 2) (q 3) (q 4) (q 5) (q 6) (q 7) ⟨t, ht⟩
  have hp : ∀ j, j < 8 → q j = (fun j => if j = 0 then q 0 else if j = 1 then q 1 else if j = 2 then q 2 else if j = 3 then q 3 else if j = 4 then q 4 else if j = 5 then q 5 else if j = 6 then q 6 else q 7) j := by
    intro j hj
    have hc : j = 0 ∨ j = 1 ∨ j = 2 ∨ j = 3 ∨ j = 4 ∨ j = 5 ∨ j = 6 ∨ j = 7 := by omega
    rcases hc with e | e | e | e | e | e | e | e <;> subst e <;> rfl
  rw [← fmF_cg 8 0 0 (by decide) hp] at b
  have hq := hp t ht
  have b2 : decide (((fmF q 8 0 0 >>> (nI t &&& 31)) &&& (1 : Int32)) = 1) = q t := b.trans hq.symm
  rw [← b2]
  exact propext (decide_eq_true_iff).symm
end
