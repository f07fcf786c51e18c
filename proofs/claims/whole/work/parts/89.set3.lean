/-! PURE, 8: set of a leg; wave -/
section
variable {S T S' T' : Mem} {a1 a2 a3 a4 a5 : Int32}
theorem h_set (h : RX S T) : w_X7_set a1 a2 a3 S (fun r1 S1 => w_X8_set a1 a2 a3 T (fun r2 T1 => r1 = r2 ∧ RX S1 T1)) := by
  have hsame := h.same SX.rf (sm_thr T 0)
  by_cases hx : 0 ≤ a1 ∧ a1 ≤ 5
  · rcases six (bnd_of (by decide) (by decide) hx) with e | e | e | e | e | e
    · subst e
      unfold w_X7_set w_X7_set_40 w_X7_setOfLeg w_X7_setOfLeg_20 w_X7_setOfLeg_26 w_X7_setOfLeg_57 w_X7_setOfLeg_78
      simp only [x_within, x_isLeg, bI_0, forall_eq, q_0_1, not_true_eq_false, not_false_eq_true, true_and, and_true, false_implies, true_implies, and_self, Nat.reduceAdd]
      refine ⟨fun c1 => ?_, fun c1 => ⟨fun c2 => ?_, fun c2 => ?_⟩⟩
      · exact m_set rfl (by decide) (fun _ => ⟨rfl, hsame⟩) (fun _ z => absurd z (by rintro (z | z); exact absurd z (by decide); exact c1 z))
      · have d1 := Classical.not_not.mp c1
        have d2 := Classical.not_not.mp c2
        have hlt : a2.toNatClampNeg < 4 := rg_lt (b := 3) (by decide) d1
        refine ⟨rg_in (b := 3) (by decide) d1, ?_⟩
        refine m_set rfl (by decide) (fun z => ?_) (fun _ _ => m_becLeg d1 (fun _ T2 hm => ⟨(h.2.1 _ hlt).1.2.1, ?_⟩) (fun z => absurd z (by decide)) (Or.inl rfl))
        · rcases z with z | z
          · exact absurd d2 z
          · exact absurd d1 z.2
        · exact (hsame.leg1 hlt (bnd_of (by decide) (by decide) d2)).same SX.rf hm
      · exact m_set rfl (by decide) (fun _ => ⟨rfl, hsame⟩) (fun z _ => absurd z c2)
    · subst e
      unfold w_X7_set w_X7_set_40 w_X7_setOfLeg w_X7_setOfLeg_20 w_X7_setOfLeg_26 w_X7_setOfLeg_57 w_X7_setOfLeg_78
      simp only [x_within, x_isLeg, bI_0, forall_eq, q_1_0, not_true_eq_false, not_false_eq_true, true_and, and_true, false_implies, true_implies, and_self, Nat.reduceAdd]
      refine ⟨fun c1 => ?_, fun c1 => ⟨fun c2 => ?_, fun c2 => ?_⟩⟩
      · exact m_set rfl (by decide) (fun _ => ⟨rfl, hsame⟩) (fun _ z => absurd z (by rintro (z | z); exact absurd z (by decide); exact c1 z))
      · have d1 := Classical.not_not.mp c1
        have d2 := Classical.not_not.mp c2
        have hlt : a2.toNatClampNeg < 4 := rg_lt (b := 3) (by decide) d1
        refine ⟨rg_in (b := 3) (by decide) d1, ?_⟩
        refine m_set rfl (by decide) (fun z => ?_) (fun _ _ => m_becLeg d1 (fun z => absurd z (by decide)) (fun _ T2 hm => ⟨(h.2.1 _ hlt).1.2.2, ?_⟩) (Or.inr rfl))
        · rcases z with z | z
          · exact absurd d2 z
          · exact absurd d1 z.2
        · exact (hsame.leg2 hlt (bnd_of (by decide) (by decide) d2)).same SX.rf hm
      · exact m_set rfl (by decide) (fun _ => ⟨rfl, hsame⟩) (fun z _ => absurd z c2)
    · subst e
      exact h_setTab h (most := 0) (Or.inl ⟨rfl, rfl, rfl, rfl⟩)
    · subst e
      exact h_setTab h (most := 0) (Or.inr (Or.inl ⟨rfl, rfl, rfl, rfl⟩))
    · subst e
      exact h_setTab h (most := 0) (Or.inr (Or.inr (Or.inl ⟨rfl, rfl, rfl, rfl⟩)))
    · subst e
      exact h_setTab h (most := 0) (Or.inr (Or.inr (Or.inr ⟨rfl, rfl, rfl, rfl⟩)))
  · have n : ∀ k : Int32, 0 ≤ k → k ≤ 5 → ¬ a1 = k := fun k k0 k5 e => hx (by rw [e]; exact ⟨k0, k5⟩)
    unfold w_X7_set
    refine ⟨fun z => absurd z (n _ (by decide) (by decide)), fun _ => ⟨fun z => absurd z (n _ (by decide) (by decide)), fun _ => ⟨fun z => absurd z (n _ (by decide) (by decide)), fun _ => ⟨fun z => absurd z (n _ (by decide) (by decide)), fun _ => ⟨fun z => absurd z (n _ (by decide) (by decide)), fun _ => ⟨fun z => absurd z (n _ (by decide) (by decide)), fun _ => ?_⟩⟩⟩⟩⟩⟩
    exact m_setbad hx ⟨rfl, hsame⟩
/-- the wave's height at a cell -/
def wvH (a b c i : Int32) : Int32 := jrem ((((i / (8 : Int32)) * a) + ((jrem i (8 : Int32)) * b)) + (((i / (8 : Int32)) * (jrem i (8 : Int32))) * c)) (100 : Int32)
def wvF (a b c : Int32) : Nat → Int32 → Int32 → (Nat → Int32) → Int32 × (Nat → Int32)
  | 0, t, _, f => (t, f)
  | n + 1, t, i, f => wvF a b c n (t + wvH a b c i) (i + 1) (upd f i.toNatClampNeg (wvH a b c i))
theorem mm {S : Mem} {c : Nat} {f g : Nat → Int32} : mset (mset S c f) c g = mset S c g := by
  funext x
  by_cases h : x = c
  · rw [h, ms_s, ms_s]
  · rw [ms_n h, ms_n h, ms_n h]
theorem mrefl {S : Mem} {c : Nat} : mset S c (S c) = S := by
  funext x
  by_cases h : x = c
  · rw [h, ms_s]
  · rw [ms_n h]
theorem wv_x {a b c : Int32} {post : Int32 → Mem → Prop} : ∀ (n : Nat) (i t : Int32) (S : Mem), 0 ≤ i.toInt → i.toInt + n = 64 → post (wvF a b c n t i (S 2)).1 (mset S 2 (wvF a b c n t i (S 2)).2) → w_X7_wave_39 post (n + 1) a b c t i S := by
  intro n
  induction n with
  | zero =>
    intro i t S h0 h1 hp
    rw [w_X7_wave_39]
    refine ⟨fun _ => ?_, fun z => absurd ?_ z⟩
    · have : mset S 2 (S 2) = S := mrefl
      have hp : post t (mset S 2 (S 2)) := hp
      rw [this] at hp
      exact hp
    · rw [i_le, I64]; omega
  | succ n ih =>
    intro i t S h0 h1 hp
    rw [w_X7_wave_39]
    refine ⟨fun z => absurd z ?_, fun _ z1 e1 z2 e2 => ⟨in_of h0 (by omega), fun S3 e3 => ⟨in_of h0 (by omega), fun z4 e4 z5 e5 => ?_⟩⟩⟩
    · rw [i_le, I64]; omega
    · subst e1 e2 e3 e4 e5
      have a1 := add1 h0 (by omega) rfl
      refine ih _ _ _ (by omega) (by omega) ?_
      rw [ms_s, up_s, mm]
      exact hp
theorem wv_m {a b c : Int32} {post : Int32 → Mem → Prop} : ∀ (n : Nat) (i t : Int32) (S : Mem), 0 ≤ i.toInt → i.toInt + n = 64 → post (wvF a b c n t i (S 1)).1 (mset S 1 (wvF a b c n t i (S 1)).2) → w_X8_wave_50 post (n + 1) a b c t i S := by
  intro n
  induction n with
  | zero =>
    intro i t S h0 h1 hp
    rw [w_X8_wave_50]
    refine ⟨fun _ => ?_, fun z => absurd ?_ z⟩
    · have : mset S 1 (S 1) = S := mrefl
      have hp : post t (mset S 1 (S 1)) := hp
      rw [this] at hp
      exact hp
    · rw [i_le, I64]; omega
  | succ n ih =>
    intro i t S h0 h1 hp
    rw [w_X8_wave_50]
    refine ⟨fun z => absurd z ?_, fun _ => ⟨in_of h0 (by omega), fun S3 e3 => ⟨in_of h0 (by omega), fun z4 e4 z5 e5 => ?_⟩⟩⟩
    · rw [i_le, I64]; omega
    · subst e3 e4 e5
      have a1 := add1 h0 (by omega) rfl
      refine ih _ _ _ (by omega) (by omega) ?_
      rw [ms_s, up_s, mm]
      exact hp
end
