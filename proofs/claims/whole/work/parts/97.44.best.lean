/-! PURE, 29: best, turn, wedge, saw -/
section
variable {S T S' T' : Mem} {a1 a2 a3 a4 a5 : Int32}
theorem x_worthAt {post : Int32 → Mem → Prop} {a : Int32} {b : Nat} (h : RX S T) (hb : b < 8) (hq : ∀ S2, SX S S2 → post (wrtF S a b) S2) : w_X7_worthAt a (nI b) S post := by
  obtain ⟨k6, -⟩ := rl_of h
  unfold w_X7_worthAt
  exact x_measure h hb (fun S1 hm => x_inForce h hm ⟨kd7 k6, x_worth h hm hq⟩)
def bsF (w : Nat → Int32) : Nat → Nat → Int32 → Int32 → Int32 × Int32
  | 0, _, p, v => (p, v)
  | n + 1, i, p, v => if w i ≤ v then bsF w n (i + 1) p v else bsF w n (i + 1) (nI i) (w i)
def bwF (S : Mem) (i : Nat) : Int32 := wrtF S (nI (i / 8)) (i % 8)
def bsR (x : Int32) (r : Int32 × Int32) : Int32 := if x = 0 then r.1 / 8 else if x = 2 then r.2 else jrem r.1 8
theorem div8 {i : Nat} (h : i < 2 ^ 31) : nI i / (8 : Int32) = nI (i / 8) := pk_div (d := 8) h (by decide) (by decide)
theorem rem8 {i : Nat} (h : i < 2 ^ 31) : jrem (nI i) (8 : Int32) = nI (i % 8) := jrem_nI (d := 8) h (by decide) (by decide)
theorem x_bestLoop {post : Int32 → Mem → Prop} {x : Int32} (h : RX S T) : ∀ (n i : Nat) (p v : Int32) (S1 : Mem), i + n = 512 → SX S S1 → (∀ S2, SX S S2 → post (bsR x (bsF (bwF S) n i p v)) S2) → w_X7_best_24 post (n + 1) x p v (nI i) S1 := by
  intro n
  induction n with
  | zero =>
    intro i p v S1 hi hs hq
    rw [w_X7_best_24]
    have e : i = 512 := by omega
    subst e
    unfold w_X7_best_88
    have q := hq S1 hs
    unfold bsR bsF at q
    refine ⟨fun _ => ⟨fun c => ⟨fun c2 => ?_, fun c2 => ?_⟩, fun c => ?_⟩, fun z => absurd (by decide) z⟩
    · rw [if_neg c2, if_neg c] at q; exact q
    · rw [if_pos c2] at q; exact q
    · rw [if_neg (by rw [c]; decide), if_pos c] at q; exact q
  | succ n ih =>
    intro i p v S1 hi hs hq
    obtain ⟨k6, -⟩ := rl_of h
    rw [w_X7_best_24, div8 (by omega), rem8 (by omega)]
    rw [bsF] at hq
    refine ⟨fun z => absurd z (nI_ge (b := 512) (by omega) (by decide)), fun _ => x_worthAt (h.same hs SM.rf) (Nat.mod_lt _ (by decide)) (fun S2 s2 => ?_)⟩
    rw [wrtF_sx hs k6]
    unfold w_X7_best_60
    have s3 := hs.tr s2
    refine ⟨fun c z1 e1 => ?_, fun c z1 e1 => ?_⟩
    · rw [if_pos (show bwF S i ≤ v from c)] at hq
      rw [e1, nI_1]
      exact ih _ _ _ _ (by omega) s3 hq
    · rw [if_neg (show ¬ bwF S i ≤ v from c)] at hq
      rw [e1, nI_1]
      exact ih _ _ _ _ (by omega) s3 hq
theorem m_bestLoop {post : Int32 → Mem → Prop} {x : Int32} (hx : x = 0 ∨ x = 1 ∨ x = 2) (h : RX S T) : ∀ (n i : Nat) (p v : Int32) (T1 : Mem), i + n = 512 → SM T T1 → (∀ T2, SM T T2 → post (bsR x (bsF (bwF S) n i p v)) T2) → w_X8_best_29 post (n + 1) x p v (nI i) T1 := by
  intro n
  induction n with
  | zero =>
    intro i p v T1 hi hs hq
    rw [w_X8_best_29]
    have e : i = 512 := by omega
    subst e
    unfold w_X8_best_114
    have q := hq T1 hs
    unfold bsR bsF at q
    refine ⟨fun _ => ⟨fun c => ⟨fun c2 => ?_, fun c2 => ?_⟩, fun c => ?_⟩, fun z => absurd (by decide) z⟩
    · rw [if_neg c, if_pos ((hx.resolve_left c).resolve_left c2)] at q; exact q
    · rw [if_neg c, if_neg (by rw [c2]; decide)] at q; exact q
    · rw [if_pos c] at q; exact q
  | succ n ih =>
    intro i p v T1 hi hs hq
    rw [w_X8_best_29, div8 (by omega), rem8 (by omega)]
    rw [bsF] at hq
    have hr := h.same SX.rf hs
    refine ⟨fun z => absurd z (nI_ge (b := 512) (by omega) (by decide)), fun _ => m_find hr (Nat.mod_lt _ (by decide)) (fun T2 t2 => m_found (k := 4) hr t2 (fun T3 t3 => ?_))⟩
    have ew : stF S (nI (i / 8)) (i % 8) 4 = bwF S i := by
      unfold stF
      rw [if_neg (by decide), if_neg (by decide), if_neg (by decide), if_neg (by decide), if_pos rfl]
      rfl
    rw [ew]
    unfold w_X8_best_70 w_X8_best_83
    have s3 := hs.tr t3
    refine ⟨fun c => ?_, fun c => ?_⟩
    · rw [if_pos c] at hq
      refine ⟨fun _ z1 e1 => ?_, fun c2 => absurd c c2⟩
      rw [e1, nI_1]
      exact ih _ _ _ _ (by omega) s3 hq
    · rw [if_neg c] at hq
      refine ⟨fun c2 => absurd c2 c, fun _ z1 e1 => ?_⟩
      rw [e1, nI_1]
      exact ih _ _ _ _ (by omega) s3 hq
theorem wrt_lo {a : Int32} {b : Nat} : ¬ wrtF S a b ≤ -1000 := by
  have := hl_lo (x := vR S (rlN S) 1 (nmF S a b (rckF S a b) (leaF S a b))) (lo := -999) (hi := 999) (by decide)
  unfold wrtF
  intro z
  rw [i_le] at this z
  rw [show (-999 : Int32).toInt = -999 by decide] at this
  rw [show (-1000 : Int32).toInt = -1000 by decide] at z
  omega
theorem h_best (h : RX S T) : w_X7_best a1 S (fun r1 S1 => w_X8_best a1 T (fun r2 T1 => r1 = r2 ∧ RX S1 T1)) := by
  have hsame := h.same SX.rf (sm_thr T 0)
  unfold w_X7_best w_X8_best
  simp only [x_within, L_0, L_2, m_in, bI_0, forall_eq]
  by_cases c1 : 0 ≤ a1 ∧ a1 ≤ 2
  · have hx : a1 = 0 ∨ a1 = 1 ∨ a1 = 2 := by
      obtain ⟨q1, q2⟩ := c1
      rw [i_le] at q1 q2
      rw [I0] at q1
      rw [I2] at q2
      rw [i_eq, i_eq, i_eq, I0, I1, I2]
      omega
    simp only [c1, not_true_eq_false, not_false_eq_true, true_and, and_true, false_implies, true_implies, and_self]
    refine x_worthAt (b := 0) h (by decide) (fun S2 s2 => ⟨512, x_bestLoop h 511 1 0 _ S2 (by decide) s2 (fun S3 s3 => ⟨513, m_bestLoop hx hsame 512 0 _ _ _ (by decide) SM.rf (fun T2 t2 => ⟨?_, hsame.same s3 t2⟩)⟩)⟩)
    have e5 : bsF (bwF S) (511 + 1) 0 0 (-1000) = bsF (bwF S) 511 (0 + 1) (nI 0) (bwF S 0) := by
      rw [bsF, if_neg (show ¬ bwF S 0 ≤ -1000 from wrt_lo)]
    exact (congrArg (bsR a1) e5).symm
  · simp only [c1, not_true_eq_false, not_false_eq_true, true_and, and_true, false_implies, true_implies, and_self]
    exact hsame
theorem x_rockHere {post : Int32 → Mem → Prop} {b : Nat} (h : RX S T) (hb : b < 8) (eb : S 1 4 = nI b) (hq : ∀ S2, MX S S2 (S 1 2) b → post (rckF S (S 1 2) b) S2) : w_X7_rockHere S post := by
  unfold w_X7_rockHere
  rw [eb]
  refine x_measure h hb (fun S1 hm => ?_)
  rw [hm.2.2.2.1]
  exact hq S1 hm
theorem RX.turn (h : RX S T) {b : Nat} (hb : b < 8) : RX (mset S 1 (upd (S 1) 4 (nI b))) (mset T 0 (upd (T 0) 6 (nI b))) := by
  obtain ⟨g4, g5, g6, g7, g15⟩ := h.2.2.1
  refine h.tab ⟨g4, g5, ⟨rfl, ?_⟩, g7, g15⟩ rfl rfl rfl
  show bnd (nI b) 0 7
  unfold bnd
  rw [nI_toInt (by omega)]
  omega
theorem t_d : ∀ t : Fin 8, ∀ x : Fin 15, jrem (((nI t.val) + (nI x.val - 7)) + (8 : Int32)) (8 : Int32) = nI ((t.val + x.val + 1) % 8) ∧ ((0 ≤ ((nI t.val) + (nI x.val - 7)) ^^^ (8 : Int32)) → jrem ((nI t.val) + (nI x.val - 7)) 8 = nI ((t.val + x.val + 1) % 8)) ∧ (¬ (0 ≤ ((nI t.val) + (nI x.val - 7)) ^^^ (8 : Int32)) → (jrem ((nI t.val) + (nI x.val - 7)) 8 = 0 → jrem ((nI t.val) + (nI x.val - 7)) 8 = nI ((t.val + x.val + 1) % 8)) ∧ (¬ jrem ((nI t.val) + (nI x.val - 7)) 8 = 0 → jrem ((nI t.val) + (nI x.val - 7)) 8 + 8 = nI ((t.val + x.val + 1) % 8))) := by decide +kernel
theorem h_turn (h : RX S T) : w_X7_turn a1 S (fun r1 S1 => w_X8_turn a1 T (fun r2 T1 => r1 = r2 ∧ RX S1 T1)) := by
  have hsame := h.same SX.rf (sm_thr T 0)
  obtain ⟨b, hb, e1, e2, e3⟩ := place_of h
  unfold w_X7_turn w_X8_turn
  simp only [L_m7]
  simp only [x_within, L_7, m_in, bI_0, forall_eq]
  by_cases c1 : -7 ≤ a1 ∧ a1 ≤ 7
  · simp only [c1, not_true_eq_false, not_false_eq_true, true_and, and_true, false_implies, true_implies, and_self]
    obtain ⟨x, hx, ex⟩ : ∃ x : Nat, x < 15 ∧ a1 = nI x - 7 := by
      obtain ⟨q1, q2⟩ := c1
      rw [i_le] at q1 q2
      rw [show (-7 : Int32).toInt = -7 by decide] at q1
      rw [I7] at q2
      refine ⟨(a1.toInt + 7).toNat, by omega, ?_⟩
      apply Int32.toInt_inj.mp
      rw [show nI (a1.toInt + 7).toNat - (7 : Int32) = nI (a1.toInt + 7).toNat - nI 7 from rfl, pk_sub_toInt (by omega) (by omega)]
      omega
    obtain ⟨d0, d1, d2⟩ := t_d ⟨b, hb⟩ ⟨x, hx⟩
    have hr := hsame.turn (b := (b + x + 1) % 8) (Nat.mod_lt _ (by decide))
    have go : w_X7_rockHere (mset S 1 (upd (S 1) 4 (nI ((b + x + 1) % 8)))) (fun r1 S1 => w_X8_findNow (mset (mset T 0 (upd (T 0) 8 0)) 0 (upd ((mset T 0 (upd (T 0) 8 0)) 0) 6 (nI ((b + x + 1) % 8)))) (fun S4 => r1 = S4 0 33 ∧ RX S1 S4)) := by
      refine x_rockHere hr (Nat.mod_lt _ (by decide)) rfl (fun S2 s2 => ?_)
      unfold w_X8_findNow
      have f4 : (mset (mset T 0 (upd (T 0) 8 0)) 0 (upd ((mset T 0 (upd (T 0) 8 0)) 0) 6 (nI ((b + x + 1) % 8)))) 0 4 = S 1 2 := e3
      have f6 : (mset (mset T 0 (upd (T 0) 8 0)) 0 (upd ((mset T 0 (upd (T 0) 8 0)) 0) 6 (nI ((b + x + 1) % 8)))) 0 6 = nI ((b + x + 1) % 8) := rfl
      rw [f4, f6]
      refine m_find hr (Nat.mod_lt _ (by decide)) (fun T2 t2 => ⟨?_, hr.same s2.sx t2.sm⟩)
      rw [t2.2.2.2.1]
      rfl
    have f6 : (mset T 0 (upd (T 0) 8 0)) 0 6 = nI b := e2
    rw [e1, ex, f6]
    rw [show jrem (nI b + (nI x - 7) + 8) 8 = nI ((b + x + 1) % 8) from d0]
    unfold w_X7_round w_J9_floorMod_7cf53 w_J9_floorMod_7cf53_18
    refine ⟨by decide, fun z ez => ⟨fun c => ?_, fun c => ⟨fun c2 => ?_, fun c2 => ?_⟩⟩⟩
    · rw [ez, show jrem (nI b + (nI x - 7)) 8 = nI ((b + x + 1) % 8) from d1 c]
      exact go
    · rw [ez, show jrem (nI b + (nI x - 7)) 8 = nI ((b + x + 1) % 8) from (d2 c).1 (by rw [← c2, ez])]
      exact go
    · rw [ez, show jrem (nI b + (nI x - 7)) 8 + 8 = nI ((b + x + 1) % 8) from (d2 c).2 (by intro z; apply c2; rw [ez]; exact z)]
      exact go
  · simp only [c1, not_true_eq_false, not_false_eq_true, true_and, and_true, false_implies, true_implies, and_self]
    exact hsame
end
