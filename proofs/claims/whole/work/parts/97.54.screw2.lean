/-! PURE, 39: screwed: the class there and back -/
section
variable {S T S' T' : Mem} {a1 a2 a3 a4 a5 : Int32}
/-- the first k legs screwed -/
def scP (S : Mem) (c : Nat) (s : Int32) (k : Nat) : Mem := fun d j => if 4 ≤ d ∧ d < 4 + k ∧ j = 2 then S d 2 + s * dgI c (d - 4) else S d j
theorem scP_n {c k d : Nat} {s : Int32} (h : d < 4 ∨ 4 + k ≤ d) : scP S c s k d = S d := by
  funext j
  unfold scP
  rw [if_neg (by omega)]
theorem scP_2 {c k i : Nat} {s : Int32} (h : i < k) : scP S c s k (4 + i) 2 = S (4 + i) 2 + s * dgI c i := by
  unfold scP
  rw [if_pos ⟨by omega, by omega, rfl⟩, show 4 + i - 4 = i by omega]
theorem scP_j {c k d j : Nat} {s : Int32} (h : j ≠ 2) : scP S c s k d j = S d j := by
  unfold scP
  rw [if_neg (fun z => h z.2.2)]
theorem x_screwLoop {post : Mem → Prop} {c : Nat} {s : Int32} (hc : c < 10000) (hq : post (scP S c s 4)) : ∀ (n k : Nat), k + n = 4 → w_X7_screwAll_2 post (n + 1) (nI c) s (nI k) (scP S c s k) := by
  intro n
  induction n with
  | zero =>
    intro k hk
    rw [w_X7_screwAll_2]
    have e : k = 4 := by omega
    subst e
    exact ⟨fun _ => hq, fun z => absurd (by decide) z⟩
  | succ n ih =>
    intro k hk
    rw [w_X7_screwAll_2]
    refine ⟨fun z => absurd z (nI_ge (b := 4) (by omega) (by decide)), fun _ => ⟨four_nI (by omega), x_screwStep hc (by omega) (fun S2 e2 z3 e3 => ?_)⟩⟩
    rw [nI_clamp (by omega), show 3 + 1 + k = 4 + k by omega, scP_n (Or.inr (Nat.le_refl _))] at e2
    have e : S2 = scP S c s (k + 1) := by
      rw [e2]
      funext d
      by_cases hd : d = 4 + k
      · subst hd
        rw [ms_s]
        funext j
        by_cases hj : j = 2
        · subst hj
          rw [up_s, scP_2 (by omega)]
        · rw [up_n hj, scP_j hj]
      · rw [ms_n hd]
        funext j
        unfold scP
        by_cases hh : 4 ≤ d ∧ d < 4 + k ∧ j = 2
        · rw [if_pos hh, if_pos ⟨hh.1, by omega, hh.2.2⟩]
        · rw [if_neg hh, if_neg (fun z => hh ⟨z.1, by omega, z.2.2⟩)]
    rw [e3, e, nI_1]
    exact ih (k + 1) (by omega)
theorem scP_0 {c : Nat} {s : Int32} : scP S c s 0 = S := by
  funext d
  exact scP_n (by omega)
theorem x_screwAll {post : Mem → Prop} {c : Nat} {s : Int32} (hc : c < 10000) (hq : post (scP S c s 4)) : w_X7_screwAll (nI c) s S post := by
  unfold w_X7_screwAll
  have := x_screwLoop (S := S) hc hq 4 0 (by decide)
  rw [scP_0] at this
  exact ⟨5, this⟩
theorem dd : ∀ k : Fin 7, (1 : Int32) * (nI k.val - 3) + (-1) * (nI k.val - 3) = 0 ∧ (1 : Int32) * (nI k.val - 3) = nI k.val - 3 := by decide +kernel
theorem dg_1 (c i : Nat) : (1 : Int32) * dgI c i + (-1) * dgI c i = 0 ∧ (1 : Int32) * dgI c i = dgI c i := dd ⟨dgN c i % 7, Nat.mod_lt _ (by decide)⟩
theorem sc_back {c : Nat} {S1 : Mem} (h : SX (scP S c 1 4) S1) : SX S (scP S1 c (-1) 4) := by
  obtain ⟨q0, q1, q2, q3, q4, q5, q6, q7⟩ := h
  refine ⟨?_, ?_, ?_, fun d d1 d2 => ?_, ?_, ?_, fun d d1 d2 => ?_, fun d d1 => ?_⟩
  · rw [scP_n (by omega), q0, scP_n (by omega)]
  · rw [scP_n (by omega), q1, scP_n (by omega)]
  · rw [scP_n (by omega), q2, scP_n (by omega)]
  · by_cases h8 : 4 + 4 ≤ d
    · rw [scP_n (Or.inr h8), q3 d d1 d2, scP_n (Or.inr h8)]
    · obtain ⟨i, hi⟩ : ∃ i, d = 4 + i := ⟨d - 4, by omega⟩
      subst hi
      funext j
      by_cases hj : j = 2
      · subst hj
        rw [scP_2 (by omega), q3 _ d1 d2, scP_2 (by omega), Int32.add_assoc, (dg_1 c i).1, Int32.add_zero]
      · rw [scP_j hj, q3 _ d1 d2, scP_j hj]
  · rw [scP_n (by omega), q4, scP_n (by omega)]
  · rw [scP_n (by omega), q5, scP_n (by omega)]
  · rw [scP_n (by omega), q6 d d1 d2, scP_n (by omega)]
  · rw [scP_n (by omega), q7 d d1, scP_n (by omega)]
theorem suF_ok {c : Nat} : ∀ (n i s : Nat), suF S c n i s ≤ 4 → ∀ j, i ≤ j → j < i + n → okB S c j = true := by
  intro n
  induction n with
  | zero => intro i s _ j h1 h2; exact absurd h1 (by omega)
  | succ n ih =>
    intro i s h j h1 h2
    rw [suF] at h
    by_cases ho : okB S c i = true
    · rw [if_pos ho] at h
      by_cases e : j = i
      · rw [e]; exact ho
      · exact ih _ _ h j (by omega) (by omega)
    · rw [if_neg ho] at h
      have := suF_le (S := S) (c := c) n (i + 1) (s + 9)
      omega
theorem RX.screw (h : RX S T) {c : Nat} (hok : ∀ j, j < 4 → okB S c j = true) (ht : ∀ d, d ≠ 4 → d ≠ 15 → T' d = T d) (h4 : ∀ i, i < 4 → T' 4 i = T 4 i + dgI c i) : RX (scP S c 1 4) T' := by
  obtain ⟨h1, h2, h3, h4', h5, h6, h7⟩ := h
  have sn : ∀ d, d < 4 ∨ 8 ≤ d → scP S c 1 4 d = S d := fun d hd => scP_n hd
  have s0 := sn 0 (by omega)
  have s1 := sn 1 (by omega)
  have t0 := ht 0 (by decide) (by decide)
  refine ⟨h1.fr (sn 2 (by omega)) (ht 1 (by decide) (by decide)), fun i hi => ?_, h3.fr (fun j _ _ => by rw [s1]) (by rw [s0]) (by rw [t0]) (by rw [t0]) (by rw [t0]) (by rw [t0]) (by rw [t0]), h4'.fr (by rw [sn 15 (by omega)]) (sn 16 (by omega)) (by rw [t0]) (tp3_of (ht 8 (by decide) (by decide)) (ht 6 (by decide) (by decide)) (ht 7 (by decide) (by decide))), h5.fr (by rw [s0]) (fun d d1 d2 => sn d (by omega)) (by rw [t0]) (ht 9 (by decide) (by decide)) (ht 10 (by decide) (by decide)), h6.fr (by rw [s0]) (by rw [s0]) (sn 8 (by omega)) (sn 9 (by omega)) (fun i hi => sn _ (by omega)) (by rw [t0]) (ht 16 (by decide) (by decide)), h7.fr (fun d hd => sn d (by omega)) (ht 17 (by decide) (by decide)) (ht 18 (by decide) (by decide)) (ht 19 (by decide) (by decide))⟩
  obtain ⟨⟨g1, g2, g3⟩, g4, g5, g6⟩ := h2 i hi
  rw [scP_j (by decide), scP_j (by decide), scP_2 hi, (dg_1 c i).2, ht 2 (by decide) (by decide), ht 3 (by decide) (by decide), h4 i hi]
  refine ⟨⟨g1, g2, by rw [g3]⟩, g4, g5, ?_⟩
  have ho := hok i hi
  unfold okB at ho
  by_cases z : dgI c i = 0
  · rw [z, Int32.add_zero]; exact g6
  · rw [decide_eq_false z, Bool.false_or, Bool.and_eq_true] at ho
    exact bnd_of (by decide) (by decide) (of_decide_eq_true ho.2)
theorem x_isFirmScrewed {post : Int32 → Mem → Prop} {c b : Nat} (h : RX S T) (hc : c < 10000) (hb : b < 8) (eb : S 1 4 = nI b) (hok : ∀ j, j < 4 → okB S c j = true) (hq : ∀ S2, SX S S2 → post (bI (rckF (scP S c 1 4) (S 1 2) b = 0)) S2) : w_X7_isFirmScrewed (nI c) S post := by
  have hr : RX (scP S c 1 4) (mset T 4 (fun i => T 4 i + dgI c i)) := h.screw hok (fun d d1 _ => ms_n d1) (fun i _ => by rw [ms_s])
  unfold w_X7_isFirmScrewed
  refine x_screwAll hc ?_
  have e1 : scP S c 1 4 1 = S 1 := scP_n (by omega)
  rw [e1, eb]
  refine x_measure hr hb (fun S2 m2 => x_screwAll hc ?_)
  have sb := sc_back m2.sx
  have q := hq _ sb
  unfold w_X4_isFirm w_X4_isFirm_12
  have e39 : scP S2 c (-1) 4 39 5 = rckF (scP S c 1 4) (S 1 2) b := by
    rw [scP_n (by omega)]
    exact m2.2.2.2.1
  rw [e39]
  exact ⟨fun z => ⟨Or.inl rfl, Or.inl rfl, by rw [bI_f z] at q; exact q⟩, fun z => ⟨Or.inr rfl, Or.inr rfl, by rw [bI_t z] at q; exact q⟩⟩
end
