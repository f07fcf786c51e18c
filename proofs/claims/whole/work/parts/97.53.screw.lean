/-! PURE, 38: screwed: digits and sums -/
section
variable {S T S' T' : Mem} {a1 a2 a3 a4 a5 : Int32}
def dgN : Nat → Nat → Nat
  | c, 0 => c
  | c, i + 1 => dgN (c / 7) i
def dgI (c i : Nat) : Int32 := nI (dgN c i % 7) - 3
theorem dgN_le : ∀ (i c : Nat), dgN c i ≤ c := by
  intro i
  induction i with
  | zero => intro c; exact Nat.le_refl _
  | succ i ih =>
    intro c
    rw [dgN]
    have := ih (c / 7)
    omega
theorem dgN_s : ∀ (i c : Nat), dgN c (i + 1) = dgN c i / 7 := by
  intro i
  induction i with
  | zero => intro c; rfl
  | succ i ih =>
    intro c
    rw [dgN, ih]
    rfl
theorem div7 {i : Nat} (h : i < 2 ^ 31) : nI i / (7 : Int32) = nI (i / 7) := pk_div (d := 7) h (by decide) (by decide)
theorem rem7 {i : Nat} (h : i < 2 ^ 31) : jrem (nI i) (7 : Int32) = nI (i % 7) := jrem_nI (d := 7) h (by decide) (by decide)
theorem x_stepLoop {post : Int32 → Mem → Prop} {i : Nat} (hi : i < 5) : ∀ (n k x : Nat), k + n = i → x < 10000 → post (nI (dgN x n % 7) - 3) S → w_X7_screwStep_4 post (n + 1) (nI i) (nI x) (nI k) S := by
  intro n
  induction n with
  | zero =>
    intro k x hk hx hq
    rw [w_X7_screwStep_4]
    have e : k = i := by omega
    rw [e, rem7 (by omega)]
    exact ⟨fun _ => hq, fun z => absurd (nI_le (Nat.le_refl _) (by omega)) z⟩
  | succ n ih =>
    intro k x hk hx hq
    rw [w_X7_screwStep_4]
    refine ⟨fun z => absurd z (nI_ge (by omega) (by omega)), fun _ z1 e1 z2 e2 => ?_⟩
    rw [e1, e2, nI_1, div7 (by omega)]
    exact ih _ _ (by omega) (by omega) hq
theorem x_screwStep {post : Int32 → Mem → Prop} {c i : Nat} (hc : c < 10000) (hi : i < 5) (h : post (dgI c i) S) : w_X7_screwStep (nI c) (nI i) S post := by
  unfold w_X7_screwStep
  exact ⟨i + 1, x_stepLoop hi i 0 c (by omega) hc h⟩
def okB (S : Mem) (c i : Nat) : Bool := decide (dgI c i = 0) || (decide (S (4 + i) 0 = 2 ∨ S (4 + i) 0 = 4) && decide (0 ≤ S (4 + i) 2 + dgI c i ∧ S (4 + i) 2 + dgI c i ≤ 9))
def abN (c i : Nat) : Nat := (jabs (dgI c i)).toNatClampNeg
theorem ab_d : ∀ k : Fin 7, jabs (nI k.val - 3) = nI (jabs (nI k.val - 3)).toNatClampNeg ∧ (jabs (nI k.val - 3)).toNatClampNeg ≤ 3 ∧ jabs (nI k.val - 3) = (if 0 ≤ nI k.val - (3 : Int32) then nI k.val - 3 else -(nI k.val - 3)) := by decide +kernel
theorem ab_of (c i : Nat) : jabs (dgI c i) = nI (abN c i) ∧ abN c i ≤ 3 ∧ jabs (dgI c i) = (if 0 ≤ dgI c i then dgI c i else -(dgI c i)) := ab_d ⟨dgN c i % 7, Nat.mod_lt _ (by decide)⟩
def suF (S : Mem) (c : Nat) : Nat → Nat → Nat → Nat
  | 0, _, s => s
  | n + 1, i, s => suF S c n (i + 1) (if okB S c i = true then s + abN c i else s + 9)
theorem suF_le {c : Nat} : ∀ (n i s : Nat), s ≤ suF S c n i s := by
  intro n
  induction n with
  | zero => intro i s; exact Nat.le_refl _
  | succ n ih =>
    intro i s
    rw [suF]
    by_cases h : okB S c i = true
    · rw [if_pos h]; have := ih (i + 1) (s + abN c i); omega
    · rw [if_neg h]; have := ih (i + 1) (s + 9); omega
def sgC (s : Nat) : Int32 := if s ≤ 4 then nI s else -1
def sgM (s : Nat) : Int32 := if s ≤ 4 then nI s else 9
theorem x_canScrew {post : Int32 → Mem → Prop} {c : Nat} {d : Int32} (hk : bnd (S c 0) 0 5) (h1 : (S c 0 = 2 ∨ S c 0 = 4) → (0 ≤ S c 2 + d ∧ S c 2 + d ≤ 9) → post 1 S) (h0 : ¬ ((S c 0 = 2 ∨ S c 0 = 4) ∧ (0 ≤ S c 2 + d ∧ S c 2 + d ≤ 9)) → post 0 S) : w_X0_canScrew c d S post := by
  unfold w_X0_canScrew w_X0_canScrew_27 w_X0_canScrew_28
  have hp : isOneP (S c 0) 2 ↔ (S c 0 = 2 ∨ S c 0 = 4) := by
    unfold isOneP
    constructor
    · rintro (z | z | ⟨-, z⟩ | ⟨z, -⟩)
      · exact absurd z (by decide)
      · exact Or.inl z
      · exact absurd z (by decide)
      · exact Or.inr z
    · rintro (z | z)
      · exact Or.inr (Or.inl z)
      · exact Or.inr (Or.inr (Or.inr ⟨z, rfl⟩))
  refine x_isOne hk (by decide) (fun z => ⟨fun y => absurd y (by decide), fun _ => ?_⟩) (fun z => ⟨fun _ => ⟨Or.inl rfl, h0 (fun y => z (hp.mpr y.1))⟩, fun y => absurd rfl y⟩)
  rw [x_within]
  simp only [bI_0]
  exact ⟨fun y => ⟨Or.inl trivial, h0 (fun w => y w.2)⟩, fun y => ⟨Or.inr trivial, h1 (hp.mp z) (Classical.not_not.mp y)⟩⟩
theorem x_sumLoop {post : Int32 → Mem → Prop} {c : Nat} (h : RLeg S T) (hc : c < 10000) : ∀ (n i s : Nat), i + n = 4 → s ≤ 3 * i → post (sgC (suF S c n i s)) S → w_X7_screwSum_4 post (n + 1) (nI c) (nI s) (nI i) S := by
  intro n
  induction n with
  | zero =>
    intro i s hi hs hq
    rw [w_X7_screwSum_4]
    have e : i = 4 := by omega
    subst e
    unfold w_X7_screwSum_64
    unfold sgC suF at hq
    refine ⟨fun _ => ⟨fun z => ?_, fun z => ?_⟩, fun z => absurd (by decide) z⟩
    · rw [if_neg] at hq
      · exact hq
      · intro y
        exact absurd z (nI_nlt (a := 4) (b := s) y (by decide))
    · rw [if_pos] at hq
      · exact hq
      · exact Classical.byContradiction (fun y => z (nI_lt (a := 4) (b := s) (by omega) (by omega)))
  | succ n ih =>
    intro i s hi hs hq
    rw [w_X7_screwSum_4]
    obtain ⟨b1, b2, b3⟩ := ab_of c i
    refine ⟨fun z => absurd z (nI_ge (b := 4) (by omega) (by decide)), fun _ => x_screwStep hc (by omega) ?_⟩
    rw [suF] at hq
    have go : okB S c i = true → w_X7_screwSum_40 (w_X7_screwSum_4 post (n + 1)) post (nI c) (nI s) (nI i) (dgI c i) S := by
      intro ho
      unfold w_X7_screwSum_40
      intro z1 e1 z2 e2
      rw [e1, e2, nI_1, b1, nI_add]
      rw [if_pos ho] at hq
      exact ih _ _ (by omega) (by omega) hq
    refine ⟨fun z => go ?_, fun z => ⟨four_nI (by omega), ?_⟩⟩
    · unfold okB
      rw [decide_eq_true z, Bool.true_or]
    · rw [nI_clamp (by omega), show 3 + 1 + i = 4 + i by omega]
      refine x_canScrew (h i (by omega)).2.1 (fun y1 y2 => ⟨fun _ => go ?_, fun y => absurd y (by decide)⟩) (fun y => ⟨fun y2 => absurd rfl y2, fun _ => ?_⟩)
      · unfold okB
        rw [decide_eq_true y1, decide_eq_true y2, Bool.and_self, Bool.or_true]
      · have ho : okB S c i = false := by
          unfold okB
          rw [decide_eq_false z, Bool.false_or]
          by_cases q1 : S (4 + i) 0 = 2 ∨ S (4 + i) 0 = 4
          · rw [decide_eq_false (fun q2 => y ⟨q1, q2⟩), Bool.and_false]
          · rw [decide_eq_false q1, Bool.false_and]
        rw [ho, if_neg (by decide)] at hq
        have hl := suF_le (S := S) (c := c) n (i + 1) (s + 9)
        unfold sgC at hq
        rw [if_neg (by omega)] at hq
        exact hq
end
