/-! PURE, 9: wave -/
section
variable {S T S' T' : Mem} {a1 a2 a3 a4 a5 : Int32}
theorem nI_ofb {x : Int32} {a b : Int} (h : bnd x a b) (ha : 0 ≤ a) : ∃ j : Nat, j < 2 ^ 31 ∧ (j : Int) ≤ b ∧ x = nI j := by
  obtain ⟨h0, h1⟩ := h
  obtain ⟨j, hj, e⟩ := nI_of (x := x) (by rw [i_lt, I0]; omega)
  refine ⟨j, hj, ?_, e⟩
  rw [e, nI_toInt hj] at h1
  exact h1
theorem jrem_nI {a d : Nat} (ha : a < 2 ^ 31) (h0 : 0 < d) (hd : d < 2 ^ 31) : jrem (nI a) (nI d) = nI (a % d) := pk_rem ha h0 hd
theorem wvH_b {a b c i : Int32} (ha : bnd a 0 99) (hb : bnd b 0 99) (hc : bnd c 0 99) (hi : bnd i 0 63) : bnd (wvH a b c i) 0 99 := by
  obtain ⟨A, hA, hA2, eA⟩ := nI_ofb ha (by decide)
  obtain ⟨B, hB, hB2, eB⟩ := nI_ofb hb (by decide)
  obtain ⟨C, hC, hC2, eC⟩ := nI_ofb hc (by decide)
  obtain ⟨k, hk, hk2, ek⟩ := nI_ofb hi (by decide)
  subst eA eB eC ek
  unfold wvH
  have e8 : (8 : Int32) = nI 8 := rfl
  have e100 : (100 : Int32) = nI 100 := rfl
  have m1 : k / 8 * A ≤ 7 * 99 := Nat.mul_le_mul (by omega) (by omega)
  have m2 : k % 8 * B ≤ 7 * 99 := Nat.mul_le_mul (by omega) (by omega)
  have m3 : k / 8 * (k % 8) * C ≤ 7 * 7 * 99 := Nat.mul_le_mul (Nat.mul_le_mul (by omega) (by omega)) (by omega)
  rw [e8, e100, jrem_nI hk (by decide) (by decide), pk_div hk (by decide) (by decide), pk_mul, pk_mul, pk_mul, pk_mul, nI_add, nI_add, jrem_nI (by omega) (by decide) (by decide)]
  have hm : (k / 8 * A + k % 8 * B + k / 8 * (k % 8) * C) % 100 < 100 := Nat.mod_lt _ (by decide)
  unfold bnd
  rw [nI_toInt (by omega)]
  omega
theorem wvF_b {a b c : Int32} (ha : bnd a 0 99) (hb : bnd b 0 99) (hc : bnd c 0 99) : ∀ (n : Nat) (t i : Int32) (f : Nat → Int32), 0 ≤ i.toInt → i.toInt + n = 64 → (∀ j, j < 64 → bnd (f j) 0 99) → ∀ j, j < 64 → bnd ((wvF a b c n t i f).2 j) 0 99 := by
  intro n
  induction n with
  | zero => intro t i f h0 h1 hf; exact hf
  | succ n ih =>
    intro t i f h0 h1 hf
    have a1 := add1 h0 (by omega) rfl
    refine ih _ _ _ (by omega) (by omega) (fun j hj => ?_)
    by_cases e : j = i.toNatClampNeg
    · rw [e, up_s]
      exact wvH_b ha hb hc ⟨h0, by omega⟩
    · rw [up_n e]; exact hf j hj
theorem RX.heights (h : RX S T) {f : Nat → Int32} (hf : ∀ j, j < 64 → bnd (f j) 0 99) : RX (mset S 2 f) (mset T 1 f) := by
  obtain ⟨h1, h2, h3, h4, h5, h6, h7⟩ := h
  exact ⟨⟨by rw [ms_s, ms_s], fun i hi => by rw [ms_s]; exact hf i hi⟩, h2.fr (fun i hi => ms_n (by omega)) rfl rfl rfl, h3.fr (fun _ _ _ => rfl) rfl rfl rfl rfl rfl rfl, h4.fr rfl rfl rfl rfl, h5.fr rfl (fun c _ _ => ms_n (by omega)) rfl rfl rfl, h6.fr rfl rfl rfl rfl (fun i hi => ms_n (by omega)) rfl rfl, h7.fr (fun c hc => ms_n (by omega)) rfl rfl rfl⟩
theorem h_wave (h : RX S T) : w_X7_wave a1 a2 a3 S (fun r1 S1 => w_X8_wave a1 a2 a3 T (fun r2 T1 => r1 = r2 ∧ RX S1 T1)) := by
  have hsame := h.same SX.rf (sm_thr T 0)
  unfold w_X7_wave w_X7_wave_30 w_X8_wave w_X8_wave_41
  simp only [x_within, L_0, L_99, m_in, bI_0, forall_eq, Nat.reduceAdd]
  by_cases c1 : 0 ≤ a1 ∧ a1 ≤ 99
  · by_cases c2 : 0 ≤ a2 ∧ a2 ≤ 99
    · by_cases c3 : 0 ≤ a3 ∧ a3 ≤ 99
      · simp only [c1, c2, c3, not_true_eq_false, not_false_eq_true, true_and, and_true, false_implies, true_implies, and_self]
        refine ⟨65, wv_x 64 _ _ _ (by decide) (by decide) ⟨65, wv_m 64 _ _ _ (by decide) (by decide) ?_⟩⟩
        have e : (mset T 0 (upd (T 0) 8 0)) 1 = S 2 := h.1.1.symm
        rw [e]
        exact ⟨rfl, hsame.heights (wvF_b (bnd_of (by decide) (by decide) c1) (bnd_of (by decide) (by decide) c2) (bnd_of (by decide) (by decide) c3) 64 _ _ _ (by decide) (by decide) h.1.2)⟩
      · simp only [c1, c2, c3, not_true_eq_false, not_false_eq_true, true_and, and_true, false_implies, true_implies, and_self]
        exact hsame
    · simp only [c1, c2, not_true_eq_false, not_false_eq_true, true_and, and_true, false_implies, true_implies, and_self]
      exact hsame
  · simp only [c1, not_true_eq_false, not_false_eq_true, true_and, and_true, false_implies, true_implies, and_self]
    exact hsame
end
