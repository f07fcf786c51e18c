/-! PURE, 31: blame, beside -/
section
variable {S T S' T' : Mem} {a1 a2 a3 a4 a5 : Int32}
theorem h_blame (h : RX S T) : w_X7_blame a1 S (fun r1 S1 => w_X8_blame a1 T (fun r2 T1 => r1 = r2 ∧ RX S1 T1)) := by
  have hsame := h.same SX.rf (sm_thr T 0)
  obtain ⟨b, hb, e1, e2, e3⟩ := place_of h
  have g4 : (mset T 0 (upd (T 0) 8 0)) 0 4 = S 1 2 := e3
  have g6 : (mset T 0 (upd (T 0) 8 0)) 0 6 = nI b := e2
  unfold w_X7_blame w_X7_gapAt w_X8_blame
  simp only [x_within, L_0, L_1, m_in, bI_0, forall_eq]
  by_cases c1 : 0 ≤ a1 ∧ a1 ≤ 1
  · simp only [c1, not_true_eq_false, not_false_eq_true, true_and, and_true, false_implies, true_implies, and_self]
    rw [e1]
    refine x_measure h hb (fun S1 hm => ?_)
    try dsimp only
    have f4 : S1 1 4 = nI b := by rw [hm.1 1 (Or.inl (by decide))]; exact e1
    have f2 : S1 1 2 = S 1 2 := by rw [hm.1 1 (Or.inl (by decide))]
    have e22 : (2 : Int32) = nI 2 := rfl
    have e8 : (8 : Int32) = nI 8 := rfl
    rw [f4, hm.2.1, show nI b + (2 : Int32) = nI (b + 2) from nI_add b 2]
    refine x_floorMod (by omega) ?_
    try dsimp only
    rw [f2]
    refine x_measure (h.same hm.sx SM.rf) (Nat.mod_lt _ (by decide)) (fun S3 hm3 => ?_)
    try dsimp only
    rw [hm3.2.1, gapF_sx hm.sx]
    have s3 := hm.sx.tr hm3.sx
    have go : ∀ (y : Int32), y = (gapF S (S 1 2) b + gapF S (S 1 2) ((b + 2) % 8)) / 2 → ∀ (r : Int32), r = (if a1 = 0 then y else gapF S (S 1 2) b - y) → w_X8_find ((mset T 0 (upd (T 0) 8 0)) 0 4) (jrem (((mset T 0 (upd (T 0) 8 0)) 0 6) + (2 : Int32)) (8 : Int32)) (mset T 0 (upd (T 0) 8 0)) (fun S3' => w_X8_findNow S3' (fun S5 => (¬ a1 = 0 → w_X8_blame_67 (fun r2 T1 => r = r2 ∧ RX S3 T1) ((S5 0 31) - ((S5 0 31) + S3' 0 31) / (2 : Int32)) S5) ∧ (a1 = 0 → w_X8_blame_67 (fun r2 T1 => r = r2 ∧ RX S3 T1) (((S5 0 31) + S3' 0 31) / (2 : Int32)) S5))) := by
      intro y ey r er
      rw [g4, g6, show nI b + (2 : Int32) = nI (b + 2) from nI_add b 2, e8, jrem_nI (by omega) (by decide) (by decide)]
      refine m_find hsame (Nat.mod_lt _ (by decide)) (fun T2 m2 => ?_)
      have u4 : T2 0 4 = S 1 2 := m2.sm.1.1.trans g4
      have u6 : T2 0 6 = nI b := m2.sm.1.2.2.1.trans g6
      unfold w_X8_findNow w_X8_blame_67
      rw [u4, u6]
      refine m_find (hsame.same SX.rf m2.sm) hb (fun T3 m3 => ?_)
      try dsimp only
      rw [m3.2.2.1, m2.2.2.1]
      have hr := (hsame.same SX.rf m2.sm).same s3 m3.sm
      rw [er, ey]
      refine ⟨fun c => ⟨?_, hr⟩, fun c => ⟨?_, hr⟩⟩
      · rw [if_neg c]
      · rw [if_pos c]
    unfold w_X7_blame_56
    refine ⟨fun c => ?_, fun c => ?_⟩
    · exact go _ rfl _ (by rw [if_neg c])
    · exact go _ rfl _ (by rw [if_pos c])
  · simp only [c1, not_true_eq_false, not_false_eq_true, true_and, and_true, false_implies, true_implies, and_self]
    exact hsame
def apB (S : Mem) (c : Int32) : Bool := decide ((2 : Int32) * S 1 3 < jabs (c / 8 - S 1 2 / 8)) || decide (¬ jabs (jrem c 8 - jrem (S 1 2) 8) ≤ (2 : Int32) * S 1 3)
theorem x_isApart {post : Int32 → Mem → Prop} {c : Int32} (h : post (bI (apB S c = true)) S) : w_X7_isApart c S post := by
  unfold w_X7_isApart w_X7_isApart_54 w_X7_isApart_59
  intro z1 e1
  subst e1
  unfold apB at h
  refine ⟨fun c1 => ⟨Or.inr rfl, ?_⟩, fun c1 => ⟨fun c2 => ⟨Or.inl rfl, ?_⟩, fun c2 => ⟨Or.inr rfl, ?_⟩⟩⟩
  · rw [decide_eq_true c1, Bool.true_or] at h; exact h
  · rw [decide_eq_false c1, decide_eq_false (fun z => z c2)] at h; exact h
  · rw [decide_eq_false c1, decide_eq_true c2] at h; exact h
theorem m_apart {post : Int32 → Mem → Prop} {x y : Nat} (hx : x < 64) (hy : y < 64) (h : post (jabs (nI x - nI y)) T) : w_X8_apart (nI x) (nI y) T post := by
  unfold w_X8_apart w_X8_apart_14
  have e := pk_sub_toInt (a := x) (b := y) (by omega) (by omega)
  have e2 := pk_sub_toInt (a := y) (b := x) (by omega) (by omega)
  unfold jabs at h
  refine ⟨fun c => ?_, fun c => ?_⟩
  · rw [i_le, nI_toInt (by omega), nI_toInt (by omega)] at c
    rw [if_pos (by rw [i_le, I0]; omega)] at h
    exact h
  · rw [i_le, nI_toInt (by omega), nI_toInt (by omega)] at c
    rw [if_neg (by rw [i_le, I0]; omega)] at h
    have ez : (0 : Int32) - (nI x - nI y) = nI y - nI x := by
      apply Int32.toInt_inj.mp
      rw [sub_t (by unfold bnd; decide) ⟨by omega, by omega⟩, I0, e, e2]
      omega
    rw [ez] at h
    exact h
def bdF (q : Nat → Bool) : Nat → Nat → Option Nat
  | 0, _ => none
  | n + 1, i => if q i then some i else bdF q n (i + 1)
def bdR (p : Int32) (r : Option Nat) : Int32 := match r with
  | none => -1
  | some i => if p = 0 then nI (i / 8) else nI (i % 8)
theorem bdR_some {p : Int32} {i : Nat} : bdR p (some i) = if p = 0 then nI (i / 8) else nI (i % 8) := rfl
def bdQ (S : Mem) (i : Nat) : Bool := apB S (nI (i / 8)) && frB S (nI (i / 8)) (i % 8)
theorem x_bdLoop {post : Int32 → Mem → Prop} {p : Int32} (h : RX S T) : ∀ (n i : Nat) (S1 : Mem), i + n = 512 → SX S S1 → (∀ S2, SX S S2 → post (bdR p (bdF (bdQ S) n i)) S2) → w_X7_beside_14 post (n + 1) p (nI i) S1 := by
  intro n
  induction n with
  | zero =>
    intro i S1 hi hs hq
    rw [w_X7_beside_14]
    have e : i = 512 := by omega
    subst e
    exact ⟨fun _ => hq S1 hs, fun z => absurd (by decide) z⟩
  | succ n ih =>
    intro i S1 hi hs hq
    obtain ⟨k6, -⟩ := rl_of h
    rw [w_X7_beside_14, div8 (by omega), rem8 (by omega)]
    rw [bdF] at hq
    refine ⟨fun z => absurd z (nI_ge (b := 512) (by omega) (by decide)), fun _ z1 e1 z2 e2 => ?_⟩
    subst e1 e2
    have ea : apB S1 (nI (i / 8)) = apB S (nI (i / 8)) := by
      unfold apB
      rw [hs.2.1]
    have nxt : ∀ S2, SX S S2 → bdQ S i = false → w_X7_beside_61 (w_X7_beside_14 post (n + 1)) post p (nI i) S2 := by
      intro S2 s2 hf
      unfold w_X7_beside_61
      intro z e
      rw [e, nI_1]
      rw [hf, if_neg (by decide)] at hq
      exact ih _ _ (by omega) s2 hq
    refine x_isApart ?_
    by_cases c1 : apB S (nI (i / 8)) = true
    · rw [bI_t (by rw [ea]; exact c1)]
      refine ⟨fun z => absurd z (by decide), fun _ => x_isFirmAt (h.same hs SM.rf) (Nat.mod_lt _ (by decide)) (fun S2 s2 => ?_)⟩
      rw [rckF_sx hs k6]
      have s3 := hs.tr s2
      by_cases c2 : rckF S (nI (i / 8)) (i % 8) = 0
      · rw [bI_t c2]
        have hb : bdQ S i = true := by
          unfold bdQ
          rw [c1, frB_t c2]
          rfl
        have q := hq S2 s3
        rw [hb, if_pos rfl, bdR_some] at q
        unfold w_X7_beside_60
        refine ⟨fun z => absurd z (by decide), fun _ => ⟨fun z => ?_, fun z => ?_⟩⟩
        · rw [if_neg z] at q; exact q
        · rw [if_pos z] at q; exact q
      · rw [bI_f c2]
        refine ⟨fun _ => nxt S2 s3 ?_, fun z => absurd rfl z⟩
        unfold bdQ
        rw [frB_f c2, Bool.and_false]
    · rw [bI_f (by rw [ea]; exact c1)]
      refine ⟨fun _ => nxt S1 hs ?_, fun z => absurd rfl z⟩
      unfold bdQ
      rw [Bool.eq_false_iff.mpr c1, Bool.false_and]
theorem bdF_add (q : Nat → Bool) : ∀ (a b i : Nat), bdF q (a + b) i = match bdF q a i with
  | some r => some r
  | none => bdF q b (i + a) := by
  intro a
  induction a with
  | zero =>
    intro b i
    rw [Nat.zero_add, bdF]
    rfl
  | succ a ih =>
    intro b i
    rw [show a + 1 + b = (a + b) + 1 by omega, bdF, bdF]
    by_cases c : q i = true
    · rw [if_pos c, if_pos c]
    · rw [if_neg c, if_neg c, ih, show i + 1 + a = i + (a + 1) by omega]
theorem bdF_none {q : Nat → Bool} : ∀ (n i : Nat), (∀ j, j < n → q (i + j) = false) → bdF q n i = none := by
  intro n
  induction n with
  | zero => intro i _; rfl
  | succ n ih =>
    intro i hq
    rw [bdF, if_neg]
    · exact ih _ (fun j hj => by rw [show i + 1 + j = i + (j + 1) by omega]; exact hq _ (by omega))
    · have := hq 0 (by omega)
      rw [Nat.add_zero] at this
      rw [this]; decide
theorem and1 (x : Int32) : (¬ (x &&& 1) = 0) ↔ (x &&& 1) = 1 := by
  have e := pk_and x (m := 1) 1 (by decide)
  rw [e]
  have hl : x.toBitVec.toNat % 2 ^ 1 < 2 := Nat.mod_lt _ (by decide)
  generalize x.toBitVec.toNat % 2 ^ 1 = k at hl
  have hc : k = 0 ∨ k = 1 := by omega
  rcases hc with e | e <;> subst e <;> decide
theorem bits0 (q : Nat → Bool) : fmF q 8 0 0 = 0 ↔ ∀ t, t < 8 → q t = false := by
  constructor
  · intro e t ht
    have b := bit_of q ht
    rw [e] at b
    cases hq : q t with
    | false => rfl
    | true =>
      rw [hq] at b
      have z : (((0 : Int32) >>> (nI t &&& 31)) &&& (1 : Int32)) = 1 := by rw [b]
      have hd : ∀ t : Fin 8, ¬ (((0 : Int32) >>> (nI t.val &&& 31)) &&& (1 : Int32)) = 1 := by decide +kernel
      exact absurd z (hd ⟨t, ht⟩)
  · intro hq
    rw [fmF_cg (q' := fun _ => false) 8 0 0 (by decide) hq]
    decide +kernel
end
