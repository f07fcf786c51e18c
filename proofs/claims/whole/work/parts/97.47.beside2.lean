/-! PURE, 32: beside -/
section
variable {S T S' T' : Mem} {a1 a2 a3 a4 a5 : Int32}
def mo8 (q : Nat → Bool) : Nat → Bool := fun i => q (i % 8)
theorem m_bdIn {post : Int32 → Mem → Prop} {p : Int32} {c : Nat} {q : Nat → Bool} {T : Mem} (hc : c < 64) : ∀ (n t : Nat) (r : Option Nat), t + n = 8 → bdF (mo8 q) n (8 * c + t) = r → r ≠ none → post (bdR p r) T → w_X8_beside_101 post (n + 1) p (nI c) (fmF q 8 0 0) (nI t) T := by
  intro n
  induction n with
  | zero => intro t r ht hr hn; exact absurd hr.symm hn
  | succ n ih =>
    intro t r ht hr hn hq
    rw [w_X8_beside_101]
    unfold w_X8_beside_127
    rw [bdF, show mo8 q (8 * c + t) = q t by unfold mo8; rw [show (8 * c + t) % 8 = t by omega]] at hr
    have b := bit_of q (t := t) (by omega)
    refine ⟨fun z => ?_, fun z z2 e2 => ?_⟩
    · have hb : q t = true := by rw [← b]; exact (and1 _).mp z
      rw [if_pos hb] at hr
      rw [← hr, bdR_some, show (8 * c + t) / 8 = c by omega, show (8 * c + t) % 8 = t by omega] at hq
      refine ⟨fun y => ?_, fun y => ?_⟩
      · rw [if_neg y] at hq; exact hq
      · rw [if_pos y] at hq; exact hq
    · have hb : ¬ q t = true := by
        rw [← b]
        intro y
        exact (and1 _).mpr y z
      rw [if_neg hb] at hr
      rw [e2, nI_1]
      exact ih (t + 1) r (by omega) (by rw [show 8 * c + (t + 1) = 8 * c + t + 1 by omega]; exact hr) hn hq
theorem bdF_cg {q q' : Nat → Bool} : ∀ (n i : Nat), (∀ j, j < n → q (i + j) = q' (i + j)) → bdF q n i = bdF q' n i := by
  intro n
  induction n with
  | zero => intro i _; rfl
  | succ n ih =>
    intro i hq
    have h0 := hq 0 (by omega)
    rw [Nat.add_zero] at h0
    rw [bdF, bdF, h0, ih (i + 1) (fun j hj => by rw [show i + 1 + j = i + (j + 1) by omega]; exact hq _ (by omega))]
theorem bdF_all (q : Nat → Bool) : ∀ (n i : Nat), bdF q n i = none → ∀ j, j < n → q (i + j) = false := by
  intro n
  induction n with
  | zero => intro i _ j hj; exact absurd hj (by omega)
  | succ n ihn =>
    intro i hb j hj
    rw [bdF] at hb
    by_cases cq : q i = true
    · rw [if_pos cq] at hb; exact absurd hb (by simp)
    · rw [if_neg cq] at hb
      by_cases j0 : j = 0
      · rw [j0, Nat.add_zero]; exact Bool.eq_false_iff.mpr cq
      · have := ihn (i + 1) hb (j - 1) (by omega)
        rw [show i + 1 + (j - 1) = i + j by omega] at this
        exact this
theorem bd_cell {q : Nat → Bool} {ap : Bool} {f : Nat → Bool} {c : Nat} (ha : ap = true) (hq : ∀ j, j < 8 → q (8 * c + j) = (ap && f j)) : bdF q 8 (8 * c) = bdF (mo8 f) 8 (8 * c) ∧ (¬ fmF f 8 0 0 = 0 → bdF q 8 (8 * c) ≠ none) := by
  have e : ∀ j, j < 8 → q (8 * c + j) = mo8 f (8 * c + j) := by
    intro j hj
    rw [hq j hj, ha, Bool.true_and]
    unfold mo8
    rw [show (8 * c + j) % 8 = j by omega]
  refine ⟨bdF_cg 8 (8 * c) e, fun z hn => z ((bits0 f).mpr (fun t ht => ?_))⟩
  have := bdF_all q 8 (8 * c) hn t ht
  rw [hq t ht, ha, Bool.true_and] at this
  exact this
theorem m_bdLoop {post : Int32 → Mem → Prop} {p : Int32} (h : RX S T) : ∀ (n c : Nat) (T1 : Mem), c + n = 64 → SM T T1 → (∀ T2, SM T T2 → post (bdR p (bdF (bdQ S) (8 * n) (8 * c))) T2) → w_X8_beside_20 post (n + 1) p (nI c) T1 := by
  intro n
  induction n with
  | zero =>
    intro c T1 hc hs hq
    rw [w_X8_beside_20]
    have e : c = 64 := by omega
    subst e
    exact ⟨fun _ => hq T1 hs, fun z => absurd (by decide) z⟩
  | succ n ih =>
    intro c T1 hc hs hq
    rw [w_X8_beside_20]
    rw [show 8 * (n + 1) = 8 + 8 * n by omega, bdF_add, show 8 * c + 8 = 8 * (c + 1) by omega] at hq
    obtain ⟨pl, hp, hp2, epl⟩ := nI_ofb h.2.2.1.1.2 (by decide)
    have e04 : T1 0 4 = S 1 2 := hs.1.1.trans h.2.2.1.1.1.symm
    have e05 : T1 0 5 = S 1 3 := hs.1.2.1.trans h.2.2.1.2.1.1.symm
    have nxt : ∀ T2, SM T T2 → bdF (bdQ S) 8 (8 * c) = none → ∀ z1 : Int32, z1 = nI c + 1 → w_X8_beside_20 post (n + 1) p z1 T2 := by
      intro T2 t2 hn z1 e1
      rw [e1, nI_1]
      rw [hn] at hq
      exact ih (c + 1) T2 (by omega) t2 hq
    have qc : ∀ j, j < 8 → bdQ S (8 * c + j) = (apB S (nI c) && frB S (nI c) j) := by
      intro j hj
      unfold bdQ
      rw [show (8 * c + j) / 8 = c by omega, show (8 * c + j) % 8 = j by omega]
    have goN : apB S (nI c) = false → w_X8_beside_77 (w_X8_beside_20 post (n + 1)) post p (nI c) 0 T1 := by
      intro hf
      unfold w_X8_beside_77 w_X8_beside_91
      refine ⟨fun _ => ⟨fun _ z1 e1 => nxt T1 hs (bdF_none 8 _ (fun j hj => by rw [qc j hj, hf, Bool.false_and])) z1 e1, fun z => absurd rfl z⟩, fun z => absurd rfl z⟩
    have goY : apB S (nI c) = true → w_X8_beside_72 (w_X8_beside_20 post (n + 1)) post p (nI c) T1 := by
      intro hf
      unfold w_X8_beside_72 w_X8_beside_77 w_X8_firmAt
      obtain ⟨eb, hn0⟩ := bd_cell (q := bdQ S) (f := frB S (nI c)) (c := c) hf qc
      refine ⟨fun z => absurd z (by decide), fun _ => ⟨9, m_firmLoop (h.same SX.rf hs) 8 0 _ T1 (by decide) SM.rf (fun T2 t2 => ?_)⟩⟩
      have t3 := hs.tr t2
      unfold w_X8_beside_91
      refine ⟨fun z z1 e1 => nxt T2 t3 (bdF_none 8 _ (fun j hj => ?_)) z1 e1, fun z => ⟨9, ?_⟩⟩
      · rw [qc j hj, (bits0 _).mp z j hj, Bool.and_false]
      · have hn := hn0 z
        refine m_bdIn (q := frB S (nI c)) (by omega) 8 0 (bdF (bdQ S) 8 (8 * c)) (by decide) (by rw [Nat.add_zero]; exact eb.symm) hn ?_
        have q := hq T2 t3
        cases hr : bdF (bdQ S) 8 (8 * c) with
        | none => exact absurd hr hn
        | some r =>
          rw [hr] at q
          exact q
    have hd8 : ∀ x : Nat, x < 64 → nI x / (8 : Int32) = nI (x / 8) := fun x hx => div8 (by omega)
    have hr8 : ∀ x : Nat, x < 64 → jrem (nI x) (8 : Int32) = nI (x % 8) := fun x hx => rem8 (by omega)
    refine ⟨fun z => absurd z (nI_ge (b := 64) (by omega) (by decide)), fun _ => ?_⟩
    rw [e04, epl, hd8 c (by omega), hd8 pl (by omega)]
    refine m_apart (by omega) (by omega) ?_
    have ap1 : apB S (nI c) = (decide ((2 : Int32) * S 1 3 < jabs (nI (c / 8) - nI (pl / 8))) || decide (¬ jabs (nI (c % 8) - nI (pl % 8)) ≤ (2 : Int32) * S 1 3)) := by
      unfold apB
      rw [epl, hd8 c (by omega), hd8 pl (by omega), hr8 c (by omega), hr8 pl (by omega)]
    rw [e05]
    refine ⟨fun z => goY (by rw [ap1, decide_eq_true z, Bool.true_or]), fun z => ?_⟩
    rw [e04, epl, hr8 c (by omega), hr8 pl (by omega)]
    refine m_apart (by omega) (by omega) ?_
    rw [e05]
    refine ⟨fun z2 => goN (by rw [ap1, decide_eq_false z, decide_eq_false (fun y => y z2)]; rfl), fun z2 => goY (by rw [ap1, decide_eq_true z2, Bool.or_true])⟩
theorem h_beside (h : RX S T) : w_X7_beside a1 S (fun r1 S1 => w_X8_beside a1 T (fun r2 T1 => r1 = r2 ∧ RX S1 T1)) := by
  have hsame := h.same SX.rf (sm_thr T 0)
  unfold w_X7_beside w_X8_beside
  simp only [x_within, L_0, L_1, m_in, bI_0, forall_eq]
  by_cases c1 : 0 ≤ a1 ∧ a1 ≤ 1
  · simp only [c1, not_true_eq_false, not_false_eq_true, true_and, and_true, false_implies, true_implies, and_self]
    exact ⟨513, x_bdLoop h 512 0 S (by decide) SX.rf (fun S2 s2 => ⟨65, m_bdLoop hsame 64 0 _ (by decide) SM.rf (fun T2 t2 => ⟨rfl, hsame.same s2 t2⟩)⟩)⟩
  · simp only [c1, not_true_eq_false, not_false_eq_true, true_and, and_true, false_implies, true_implies, and_self]
    exact hsame
end
