/-! PURE, 28: feels -/
section
variable {S T S' T' : Mem} {a1 a2 a3 a4 a5 : Int32}
theorem MX.tr {S2 : Mem} {a a' : Int32} {b b' : Nat} (h : MX S S' a b) (k6 : rlN S < 6) (h2 : MX S' S2 a' b') : MX S S2 a' b' := by
  have hs := h.sx
  obtain ⟨c1, c2, c3, c4, c5, c6⟩ := h2
  refine ⟨fun d hd => (c1 d hd).trans (h.1 d hd), by rw [c2, gapF_sx hs], by rw [c3, sizF_sx hs], by rw [c4, rckF_sx hs k6], by rw [c5, leaF_sx hs], fun j j1 j2 => ?_⟩
  rw [c6 j j1 j2, nmF_sx hs]
def knF (S : Mem) (a : Int32) (t : Nat) : Int32 := if rckF S a t = 0 then 0 else if gapF S a t ≤ 0 then 2 else 1
theorem hl_lo {x lo hi : Int32} (h : lo ≤ hi) : lo ≤ hl x lo hi := by
  unfold hl
  by_cases h1 : lo ≤ x
  · rw [if_pos h1]
    by_cases h2 : x ≤ hi
    · rw [if_pos h2]; exact h1
    · rw [if_neg h2]; exact h
  · rw [if_neg h1]; rw [i_le]; omega
theorem gap_ne {a : Int32} {t : Nat} (h : ¬ rckF S a t = 0) : ¬ gapF S a t = 0 := by
  intro e
  apply h
  have hs : sizF S a t = 0 := by
    unfold sizF jabs
    rw [e]
    rfl
  unfold rckF
  rw [hs, if_neg]
  have := hl_lo (x := vR S (rlN S) 0 (nmF S a t (sizF S a t) 0)) (lo := 0) (hi := 9) (by decide)
  unfold slkF
  rw [i_le] at this
  rw [i_lt]
  omega
theorem kn_bear {a : Int32} {t s : Nat} (ht : ¬ rckF S a t = 0) (hs : ¬ rckF S a s = 0) : (nI (if 0 ≤ gapF S a t then 0 else 1) = nI (if 0 ≤ gapF S a s then 0 else 1)) ↔ knF S a t = knF S a s := by
  have g1 := gap_ne ht
  have g2 := gap_ne hs
  unfold knF
  rw [if_neg ht, if_neg hs]
  have le : ∀ x : Int32, ¬ x = 0 → (0 ≤ x ↔ ¬ x ≤ 0) := fun x hx => by
    rw [i_eq, I0] at hx
    rw [i_le, i_le, I0]
    omega
  have l1 := le _ g1
  have l2 := le _ g2
  by_cases c1 : 0 ≤ gapF S a t <;> by_cases c2 : 0 ≤ gapF S a s
  · rw [if_pos c1, if_pos c2, if_neg (l1.mp c1), if_neg (l2.mp c2)]; exact ⟨fun _ => rfl, fun _ => rfl⟩
  · have d2 : gapF S a s ≤ 0 := Classical.byContradiction (fun z => c2 (l2.mpr z))
    rw [if_pos c1, if_neg c2, if_neg (l1.mp c1), if_pos d2]; decide
  · have d1 : gapF S a t ≤ 0 := Classical.byContradiction (fun z => c1 (l1.mpr z))
    rw [if_neg c1, if_pos c2, if_pos d1, if_neg (l2.mp c2)]; decide
  · have d1 : gapF S a t ≤ 0 := Classical.byContradiction (fun z => c1 (l1.mpr z))
    have d2 : gapF S a s ≤ 0 := Classical.byContradiction (fun z => c2 (l2.mpr z))
    rw [if_neg c1, if_neg c2, if_pos d1, if_pos d2]; exact ⟨fun _ => rfl, fun _ => rfl⟩
def fuF (k : Nat → Int32) (b : Nat) : Nat → Nat → Nat
  | 0, c => c
  | n + 1, c => if k ((b + c) % 8) = 0 then c else if ¬ k ((b + c) % 8) = k b then c else fuF k b n (c + 1)
def fuR (k : Nat → Int32) (b : Nat) (p : Int32) (c : Nat) : Int32 := if p = 0 then nI c else bI (k ((b + c) % 8) = 0)
theorem kn0 {a : Int32} {t : Nat} : (knF S a t = 0) = (rckF S a t = 0) := by
  unfold knF
  by_cases c : rckF S a t = 0
  · rw [if_pos c]; exact propext ⟨fun _ => c, fun _ => rfl⟩
  · rw [if_neg c]
    refine propext ⟨fun z => ?_, fun z => absurd z c⟩
    by_cases c2 : gapF S a t ≤ 0
    · rw [if_pos c2] at z; exact absurd z (by decide)
    · rw [if_neg c2] at z; exact absurd z (by decide)
theorem x_feelEnd {post : Int32 → Mem → Prop} {p : Int32} {b c : Nat} {S1 : Mem} (hm : MX S S1 (S 1 2) ((b + c) % 8)) (hq : ∀ S2, SX S S2 → post (fuR (knF S (S 1 2)) b p c) S2) : w_X7_feels_96 post p (nI c) S1 := by
  unfold w_X7_feels_96 w_X7_feels_117
  unfold fuR at hq
  refine ⟨fun z => x_isFirm hm ?_, fun z => ?_⟩
  · have q := hq S1 hm.sx
    rw [if_neg z] at q
    by_cases c1 : rckF S (S 1 2) ((b + c) % 8) = 0
    · rw [bI_t c1]
      rw [bI_t (by rw [kn0]; exact c1)] at q
      exact ⟨fun z => absurd z (by decide), fun _ => q⟩
    · rw [bI_f c1]
      rw [bI_f (by rw [kn0]; exact c1)] at q
      exact ⟨fun _ => q, fun z => absurd rfl z⟩
  · have q := hq S1 hm.sx
    rw [if_pos z] at q
    exact q
theorem x_feelLoop {post : Int32 → Mem → Prop} {p : Int32} {b : Nat} (h : RX S T) (hb : b < 8) (eb : S 1 4 = nI b) : ∀ (n c : Nat) (S1 : Mem), c + n = 8 → (c = 0 ∨ ¬ rckF S (S 1 2) b = 0) → MX S S1 (S 1 2) ((b + c) % 8) → (∀ S2, SX S S2 → post (fuR (knF S (S 1 2)) b p (fuF (knF S (S 1 2)) b n c)) S2) → w_X7_feels_40 post (n + 1) p (nI c) (nI (if 0 ≤ gapF S (S 1 2) b then 0 else 1)) S1 := by
  intro n
  induction n with
  | zero =>
    intro c S1 hc h0 hm hq
    rw [w_X7_feels_40]
    have e : c = 8 := by omega
    subst e
    exact ⟨fun _ => x_feelEnd hm hq, fun z => absurd (by decide) z⟩
  | succ n ih =>
    intro c S1 hc h0 hm hq
    obtain ⟨k6, -⟩ := rl_of h
    rw [w_X7_feels_40]
    rw [fuF] at hq
    refine ⟨fun z => absurd z (nI_ge (b := 8) (by omega) (by decide)), fun _ => x_isFirm hm ?_⟩
    by_cases c1 : rckF S (S 1 2) ((b + c) % 8) = 0
    · rw [bI_t c1]
      rw [if_pos (by rw [kn0]; exact c1)] at hq
      exact ⟨fun _ => x_feelEnd hm hq, fun z => absurd z (by decide)⟩
    · rw [bI_f c1]
      rw [if_neg (by rw [kn0]; exact c1)] at hq
      refine ⟨fun z => absurd rfl z, fun _ => x_firstB hm.2.1 ?_⟩
      have hb0 : ¬ rckF S (S 1 2) b = 0 := by
        rcases h0 with z | z
        · subst z
          rw [Nat.add_zero, Nat.mod_eq_of_lt hb] at c1
          exact c1
        · exact z
      have kb := kn_bear c1 hb0
      refine ⟨fun z => ?_, fun z => ?_⟩
      · rw [if_pos (fun y => z (kb.mpr y))] at hq
        exact x_feelEnd hm hq
      · rw [if_neg (fun y => y (kb.mp z))] at hq
        intro z3 e3
        rw [nI_1] at e3
        rw [e3]
        have f4 : S1 1 4 = nI b := by rw [hm.1 1 (Or.inl (by decide))]; exact eb
        have f2 : S1 1 2 = S 1 2 := by rw [hm.1 1 (Or.inl (by decide))]
        rw [f4, f2, nI_add]
        refine x_floorMod (by omega) (x_measure (h.same hm.sx SM.rf) (Nat.mod_lt _ (by decide)) (fun S5 m5 => ?_))
        exact ih (c + 1) S5 (by omega) (Or.inr hb0) (hm.tr k6 m5) hq
theorem m_knock {post : Int32 → Mem → Prop} {a : Int32} {t : Nat} (h : RX S T) (ht : t < 1000) (hq : ∀ T2, SM T T2 → post (knF S a (t % 8)) T2) : w_X8_knock a (nI t) T post := by
  unfold w_X8_knock w_X8_knock_32
  have e8 : (8 : Int32) = nI 8 := rfl
  rw [e8, jrem_nI (by omega) (by decide) (by decide)]
  refine m_find h (Nat.mod_lt _ (by decide)) (fun T2 hm => ?_)
  have q := hq T2 hm.sm
  rw [hm.2.2.2.1, hm.2.2.1]
  unfold knF at q
  refine ⟨fun c => ⟨fun c2 => ?_, fun c2 => ?_⟩, fun c => ?_⟩
  · rw [if_neg c, if_pos c2] at q; exact q
  · rw [if_neg c, if_neg c2] at q; exact q
  · rw [if_pos c] at q; exact q
theorem m_feelEnd {post : Int32 → Mem → Prop} {p : Int32} {b c : Nat} {k : Nat → Int32} {T1 : Mem} (hq : post (fuR k b p c) T1) : w_X8_feels_75 post p (nI c) (k ((b + c) % 8)) T1 := by
  unfold w_X8_feels_75 w_X8_feels_93
  unfold fuR at hq
  refine ⟨fun z => ⟨fun z2 => ?_, fun z2 => ?_⟩, fun z => ?_⟩
  · rw [if_neg z, bI_f z2] at hq; exact hq
  · rw [if_neg z, bI_t z2] at hq; exact hq
  · rw [if_pos z] at hq; exact hq
theorem m_feelLoop {post : Int32 → Mem → Prop} {p : Int32} {b : Nat} (h : RX S T) (hb : b < 8) (e4 : T 0 4 = S 1 2) (e6 : T 0 6 = nI b) : ∀ (n c : Nat) (T1 : Mem), c + n = 8 → SM T T1 → (∀ T2, SM T T2 → post (fuR (knF S (S 1 2)) b p (fuF (knF S (S 1 2)) b n c)) T2) → w_X8_feels_36 post (n + 1) p (knF S (S 1 2) b) (nI c) (knF S (S 1 2) ((b + c) % 8)) T1 := by
  intro n
  induction n with
  | zero =>
    intro c T1 hc hs hq
    rw [w_X8_feels_36]
    have e : c = 8 := by omega
    subst e
    have q := m_feelEnd (k := knF S (S 1 2)) (hq T1 hs)
    exact ⟨fun _ => q, fun _ => ⟨fun _ => q, fun _ => ⟨fun _ => q, fun z => absurd (by decide) z⟩⟩⟩
  | succ n ih =>
    intro c T1 hc hs hq
    rw [w_X8_feels_36]
    rw [fuF] at hq
    refine ⟨fun z => ?_, fun z => ⟨fun z2 => ?_, fun z2 => ⟨fun z3 => absurd z3 (nI_ge (b := 8) (by omega) (by decide)), fun _ z1 e1 => ?_⟩⟩⟩
    · rw [if_pos z] at hq
      exact m_feelEnd (hq T1 hs)
    · rw [if_neg z, if_pos z2] at hq
      exact m_feelEnd (hq T1 hs)
    · rw [if_neg z, if_neg (fun y => y z2)] at hq
      rw [nI_1] at e1
      rw [e1, hs.1.1, e4, hs.1.2.2.1, e6, nI_add]
      refine m_knock (h.same SX.rf hs) (by omega) (fun T2 t2 => ?_)
      exact ih (c + 1) T2 (by omega) (hs.tr t2) hq
theorem h_feels (h : RX S T) : w_X7_feels a1 S (fun r1 S1 => w_X8_feels a1 T (fun r2 T1 => r1 = r2 ∧ RX S1 T1)) := by
  have hsame := h.same SX.rf (sm_thr T 0)
  obtain ⟨b, hb, e1, e2, e3⟩ := place_of h
  unfold w_X7_feels w_X8_feels
  simp only [x_within, L_0, L_1, m_in, bI_0, forall_eq]
  by_cases c1 : 0 ≤ a1 ∧ a1 ≤ 1
  · simp only [c1, not_true_eq_false, not_false_eq_true, true_and, and_true, false_implies, true_implies, and_self]
    rw [e1]
    have e0 : (b + 0) % 8 = b := by omega
    refine x_measure h hb (fun S1 hm => x_firstB hm.2.1 ⟨9, x_feelLoop h hb e1 8 0 S1 (by decide) (Or.inl rfl) (by rw [e0]; exact hm) (fun S2 s2 => ?_)⟩)
    have f4 : (mset T 0 (upd (T 0) 8 0)) 0 4 = S 1 2 := e3
    have f6 : (mset T 0 (upd (T 0) 8 0)) 0 6 = nI b := e2
    rw [f4, f6]
    refine m_knock hsame (by omega) (fun T2 t2 => ⟨9, ?_⟩)
    rw [Nat.mod_eq_of_lt hb]
    have := m_feelLoop (post := fun r2 T1 => fuR (knF S (S 1 2)) b a1 (fuF (knF S (S 1 2)) b 8 0) = r2 ∧ RX S2 T1) (p := a1) hsame hb f4 f6 8 0 T2 (by decide) t2 (fun T3 t3 => ⟨rfl, hsame.same s2 t3⟩)
    rw [e0] at this
    exact this
  · simp only [c1, not_true_eq_false, not_false_eq_true, true_and, and_true, false_implies, true_implies, and_self]
    exact hsame
end
