/-! PURE, 15: image, back -/
section
variable {S T S' T' : Mem} {a1 a2 a3 a4 a5 : Int32}
theorem m_carrySet {Q : Mem → Prop} {f k : Nat} {w : Int32} (hk : k < 77) (e : T 0 40 = nI k) (ew : T 0 41 = w) (hf : f ≠ 40 ∧ f ≠ 41) (hp : ∀ T', (∀ c, c ≠ 0 → c ≠ 16 → T' c = T c) → (∀ j, j ≠ 40 → j ≠ f → T' 0 j = T 0 j) → T' 0 40 = nI (k + 1) → T' 0 41 = w → T' 0 f = (if w = 0 then T 16 k else T 0 f) → T' 16 k = (if w = 0 then T 16 k else T 0 f) → (∀ j, j ≠ k → T' 16 j = T 16 j) → Q T') : w_X8_carry (T 0 f) T (fun r S => ∀ S1 : Mem, S1 = mset S 0 (upd (S 0) f r) → Q S1) := by
  refine m_carry hk e (fun T1 c1 c2 c3 c4 c5 S1 e1 => ?_)
  rw [ew] at c4 e1
  subst e1
  refine hp _ (fun c d0 d1 => ?_) (fun j h1 h2 => ?_) ?_ ?_ ?_ ?_ (fun j hj => ?_)
  · rw [ms_n d0, c1 c d0 d1]
  · rw [ms_s, up_n h2, c2 j h1]
  · rw [ms_s, up_n (Ne.symm hf.1), c3]
  · rw [ms_s, up_n (Ne.symm hf.2), c2 41 (by decide), ew]
  · rw [ms_s, up_s]
  · rw [ms_n (by decide), c4]
  · rw [ms_n (by decide), c5 j hj]
def carV (w : Int32) (T : Mem) (k f : Nat) : Int32 := if w = 0 then T 16 k else T 0 f
theorem m_carryAll {post : Mem → Prop} {w : Int32} (ew : T 0 41 = w) (hp : ∀ T', (∀ c, c ≠ 0 → c ≠ 1 → c ≠ 3 → c ≠ 4 → c ≠ 16 → T' c = T c) → (∀ j, j ≠ 4 → j ≠ 5 → j ≠ 6 → j ≠ 7 → j ≠ 15 → j ≠ 40 → T' 0 j = T 0 j) → (T' 0 4 = carV w T 0 4 ∧ T' 16 0 = carV w T 0 4) → (T' 0 5 = carV w T 1 5 ∧ T' 16 1 = carV w T 1 5) → (T' 0 6 = carV w T 2 6 ∧ T' 16 2 = carV w T 2 6) → (T' 0 7 = carV w T 3 7 ∧ T' 16 3 = carV w T 3 7) → (T' 0 15 = carV w T 4 15 ∧ T' 16 4 = carV w T 4 15) → (∀ j, j < 64 → T' 1 j = (if w = 0 then T 16 (13 + j) else T 1 j) ∧ T' 16 (13 + j) = (if w = 0 then T 16 (13 + j) else T 1 j)) → (∀ j, 64 ≤ j → T' 1 j = T 1 j) → (∀ i, i < 4 → (T' 3 i = (if w = 0 then T 16 (5 + 2 * i) else T 3 i) ∧ T' 16 (5 + 2 * i) = (if w = 0 then T 16 (5 + 2 * i) else T 3 i)) ∧ (T' 4 i = (if w = 0 then T 16 (6 + 2 * i) else T 4 i) ∧ T' 16 (6 + 2 * i) = (if w = 0 then T 16 (6 + 2 * i) else T 4 i))) → post T') : w_X8_carryAll T post := by
  unfold w_X8_carryAll
  intro S1 e1
  subst e1
  refine m_carrySet (k := 0) (w := w) (by decide) rfl ew (by decide) (fun T1 a1 a2 a3 a4 a5 a6 a7 => ?_)
  refine m_carrySet (k := 1) (w := w) (by decide) a3 a4 (by decide) (fun T2 b1 b2 b3 b4 b5 b6 b7 => ?_)
  refine m_carrySet (k := 2) (w := w) (by decide) b3 b4 (by decide) (fun T3 c1 c2 c3 c4 c5 c6 c7 => ?_)
  refine m_carrySet (k := 3) (w := w) (by decide) c3 c4 (by decide) (fun T4 d1 d2 d3 d4 d5 d6 d7 => ?_)
  refine m_carrySet (k := 4) (w := w) (by decide) d3 d4 (by decide) (fun T5 f1 f2 f3 f4 f5 f6 f7 => ⟨5, ?_⟩)
  have x16 : ∀ j, 4 < j → T5 16 j = T 16 j := fun j hj => by
    rw [f7 j (by omega), d7 j (by omega), c7 j (by omega), b7 j (by omega), a7 j (by omega), ms_n (by decide)]
  have xc : ∀ c, c ≠ 0 → c ≠ 16 → T5 c = T c := fun c h0 h1 => by
    rw [f1 c h0 h1, d1 c h0 h1, c1 c h0 h1, b1 c h0 h1, a1 c h0 h1, ms_n h0]
  refine m_carry67 (w := w) 4 0 T5 (by decide) f3 f4 (fun T' t1 t2 t3 t4 t5 t6 t7 => hp T' (fun c h0 h1 h3 h4 h16 => ?_) (fun j h4 h5 h6 h7 h15 h40 => ?_) ?_ ?_ ?_ ?_ ?_ (fun j hj => ?_) (fun j hj => ?_) (fun i hi => ?_))
  · rw [t1 c h0 h1 h3 h4 h16, xc c h0 h16]
  · rw [t2 j h40, f2 j h40 h15, d2 j h40 h7, c2 j h40 h6, b2 j h40 h5, a2 j h40 h4, ms_s, up_n h40]
  · have y : (mset T 0 (upd (T 0) 40 0)) 0 4 = T 0 4 := rfl
    rw [t2 4 (by decide), t7 0 (by decide), f2 4 (by decide) (by decide), d2 4 (by decide) (by decide), c2 4 (by decide) (by decide), b2 4 (by decide) (by decide), a5, f7 0 (by decide), d7 0 (by decide), c7 0 (by decide), b7 0 (by decide), a6, y]
    exact ⟨rfl, rfl⟩
  · have y : T1 0 5 = T 0 5 := a2 5 (by decide) (by decide)
    have z : T1 16 1 = T 16 1 := a7 1 (by decide)
    rw [t2 5 (by decide), t7 1 (by decide), f2 5 (by decide) (by decide), d2 5 (by decide) (by decide), c2 5 (by decide) (by decide), b5, f7 1 (by decide), d7 1 (by decide), c7 1 (by decide), b6, y, z]
    exact ⟨rfl, rfl⟩
  · have y : T2 0 6 = T 0 6 := (b2 6 (by decide) (by decide)).trans (a2 6 (by decide) (by decide))
    have z : T2 16 2 = T 16 2 := (b7 2 (by decide)).trans (a7 2 (by decide))
    rw [t2 6 (by decide), t7 2 (by decide), f2 6 (by decide) (by decide), d2 6 (by decide) (by decide), c5, f7 2 (by decide), d7 2 (by decide), c6, y, z]
    exact ⟨rfl, rfl⟩
  · have y : T3 0 7 = T 0 7 := (c2 7 (by decide) (by decide)).trans ((b2 7 (by decide) (by decide)).trans (a2 7 (by decide) (by decide)))
    have z : T3 16 3 = T 16 3 := (c7 3 (by decide)).trans ((b7 3 (by decide)).trans (a7 3 (by decide)))
    rw [t2 7 (by decide), t7 3 (by decide), f2 7 (by decide) (by decide), d5, f7 3 (by decide), d6, y, z]
    exact ⟨rfl, rfl⟩
  · have y : T4 0 15 = T 0 15 := (d2 15 (by decide) (by decide)).trans ((c2 15 (by decide) (by decide)).trans ((b2 15 (by decide) (by decide)).trans (a2 15 (by decide) (by decide))))
    have z : T4 16 4 = T 16 4 := (d7 4 (by decide)).trans ((c7 4 (by decide)).trans ((b7 4 (by decide)).trans (a7 4 (by decide))))
    rw [t2 15 (by decide), t7 4 (by decide), f5, f6, y, z]
    exact ⟨rfl, rfl⟩
  · have r := t3 j hj
    rw [x16 _ (by omega), xc 1 (by decide) (by decide)] at r
    exact r
  · rw [t4 j hj, xc 1 (by decide) (by decide)]
  · have r := t5 i (by omega) hi
    rw [x16 _ (by omega), x16 _ (by omega), xc 3 (by decide) (by decide), xc 4 (by decide) (by decide)] at r
    exact r
/-- the class's table becomes like another -/
theorem x_like17 {post : Mem → Prop} {c d : Nat} (hcd : c + 6 < d ∨ d + 6 < c) : ∀ (n k : Nat) (S : Mem), k + n = 4 → (∀ S', (∀ a, a ≠ c → a < c + 3 ∨ c + 6 < a → S' a = S a) → (∀ j, 2 ≤ j → j ≤ 6 → S' c j = S d j) → (∀ i, k ≤ i → i < 4 → S' (c + 3 + i) 0 = S (c + 3 + i) 0 ∧ S' (c + 3 + i) 1 = S (d + 3 + i) 1 ∧ S' (c + 3 + i) 2 = S (d + 3 + i) 2) → (∀ i, i < k → S' (c + 3 + i) = S (c + 3 + i)) → post S') → w_X5_becomeLike_17 post c d (n + 1) (nI k) S := by
  intro n
  induction n with
  | zero =>
    intro k S hk hp
    rw [w_X5_becomeLike_17]
    have ek : k = 4 := by omega
    subst ek
    refine ⟨fun _ S1 e1 S2 e2 S3 e3 S4 e4 S5 e5 => ?_, fun z => absurd (by decide) z⟩
    subst e1 e2 e3 e4 e5
    have hd : d ≠ c := by omega
    refine hp _ (fun a ha _ => ?_) (fun j h1 h2 => ?_) (fun i h1 h2 => absurd h1 (by omega)) (fun i hi => ?_)
    · rw [ms_n ha, ms_n ha, ms_n ha, ms_n ha, ms_n ha]
    · rw [mm, mm, mm, mm, ms_s]
      simp only [ms_s, ms_n hd]
      have hj : j = 2 ∨ j = 3 ∨ j = 4 ∨ j = 5 ∨ j = 6 := by omega
      rcases hj with e | e | e | e | e <;> subst e <;> rfl
    · have ha : c + 3 + i ≠ c := by omega
      rw [ms_n ha, ms_n ha, ms_n ha, ms_n ha, ms_n ha]
  | succ n ih =>
    intro k S hk hp
    rw [w_X5_becomeLike_17, nI_clamp (by omega)]
    have hin : vp_in (nI k) 4 := nI_in (by omega) (by decide)
    refine ⟨fun z => absurd z (nI_ge (b := 4) (by omega) (by decide)), fun _ => ⟨hin, hin, fun S1 e1 => ⟨hin, hin, fun S2 e2 z3 e3 => ?_⟩⟩⟩
    have ne : d + 3 + k ≠ c + 3 + k := by omega
    rw [e3, nI_1, e2, e1, ms_s, mm]
    rw [show c + 2 + 1 + k = c + 3 + k by omega, show d + 2 + 1 + k = d + 3 + k by omega, ms_n ne]
    refine ih _ _ (by omega) (fun S' s1 s2 s3 s4 => hp S' (fun a h1 h2 => ?_) (fun j h1 h2 => ?_) (fun i h1 h2 => ?_) (fun i hi => ?_))
    · rw [s1 a h1 h2, ms_n (by omega)]
    · rw [s2 j h1 h2, ms_n (by omega)]
    · by_cases ei : i = k
      · subst ei
        rw [s4 i (by omega), ms_s]
        exact ⟨rfl, rfl, rfl⟩
      · have r := s3 i (by omega) h2
        rw [ms_n (show c + 3 + i ≠ c + 3 + k by omega), ms_n (show d + 3 + i ≠ c + 3 + k by omega)] at r
        exact r
    · rw [s4 i (by omega), ms_n (by omega)]
theorem x_like {post : Mem → Prop} {c d : Nat} (hcd : c + 6 < d ∨ d + 6 < c) (hp : ∀ S', (∀ a, a < c ∨ a = c + 2 ∨ c + 6 < a → S' a = S a) → (∀ j, 2 ≤ j → j ≤ 6 → S' c j = S d j) → (∀ i, i < 4 → S' (c + 3 + i) 0 = S (c + 3 + i) 0 ∧ S' (c + 3 + i) 1 = S (d + 3 + i) 1 ∧ S' (c + 3 + i) 2 = S (d + 3 + i) 2) → (∀ j, j < 64 → S' (c + 1) j = S (d + 1) j) → (∀ j, 64 ≤ j → S' (c + 1) j = S (c + 1) j) → post S') : w_X5_becomeLike c d S post := by
  unfold w_X5_becomeLike
  refine ⟨⟨by decide, by decide, by decide, by decide, by decide⟩, fun S1 e1 => ⟨5, x_like17 hcd 4 0 S1 (by decide) (fun S' s1 s2 s3 s4 => hp S' (fun a ha => ?_) (fun j h1 h2 => ?_) (fun i hi => ?_) (fun j hj => ?_) (fun j hj => ?_))⟩⟩ <;> subst e1
  · rw [s1 a (by omega) (by omega), ms_n (by omega)]
  · rw [s2 j h1 h2, ms_n (by omega)]
  · have r := s3 i (by omega) hi
    rw [ms_n (by omega), ms_n (by omega)] at r
    exact r
  · rw [s1 (c + 1) (by omega) (by omega), ms_s]
    exact (pk_cpy_in (by exact Nat.zero_le j) (by rw [K0, K64]; omega)).trans (by rw [K0]; congr 1; omega)
  · rw [s1 (c + 1) (by omega) (by omega), ms_s]
    exact pk_cpy_out (Or.inr (by rw [K0, K64]; omega))
end
