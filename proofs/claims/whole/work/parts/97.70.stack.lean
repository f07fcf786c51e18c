/-! PURE, 55: what waits -/
section
variable {S T S' T' : Mem} {a1 a2 a3 a4 a5 : Int32}
def VS (x : Int32) : Prop := -16 ≤ x ∧ x ≤ -7
theorem vs_c {x : Int32} (h : VS x) : x = -7 ∨ x = -8 ∨ x = -9 ∨ x = -10 ∨ x = -11 ∨ x = -12 ∨ x = -13 ∨ x = -14 ∨ x = -15 ∨ x = -16 := by
  obtain ⟨h1, h2⟩ := h
  rw [i_le] at h1 h2
  rw [i_eq, i_eq, i_eq, i_eq, i_eq, i_eq, i_eq, i_eq, i_eq, i_eq]
  rw [show (-16 : Int32).toInt = -16 by decide] at h1
  rw [show (-7 : Int32).toInt = -7 by decide] at h2
  rw [show (-7 : Int32).toInt = -7 by decide, show (-8 : Int32).toInt = -8 by decide, show (-9 : Int32).toInt = -9 by decide, show (-10 : Int32).toInt = -10 by decide, show (-11 : Int32).toInt = -11 by decide, show (-12 : Int32).toInt = -12 by decide, show (-13 : Int32).toInt = -13 by decide, show (-14 : Int32).toInt = -14 by decide, show (-15 : Int32).toInt = -15 by decide, show (-16 : Int32).toInt = -16 by decide]
  omega
theorem vs_tr {x : Int32} (h : VS x) : (trS x = 10 ↔ x = -7) ∧ (trS x = 11 ↔ x = -8) ∧ (trS x = 12 ↔ x = -9) ∧ (trS x = 13 ↔ x = -10) ∧ (trS x = 14 ↔ x = -11) ∧ (trS x = 18 ↔ x = -15) ∧ (trS x = 19 ↔ x = -16) := by
  rcases vs_c h with e | e | e | e | e | e | e | e | e | e <;> rw [e] <;> decide
theorem vs_op {t : Int32} (h : isOp t = true ∨ opC t = true) : VS t := by
  rcases h with h | h
  · rcases op_of h with e | e | e | e | e <;> rw [e] <;> exact ⟨by decide, by decide⟩
  · rcases opC_of h with e | e <;> rw [e] <;> exact ⟨by decide, by decide⟩
theorem m_rank {post : Int32 → Mem → Prop} {x : Int32} (h : VS x) (hq : post (nI (rk x)) T) : w_X8_rank (trS x) T post := by
  unfold w_X8_rank w_X8_rank_73
  rcases vs_c h with e | e | e | e | e | e | e | e | e | e
  · rw [e, show nI (rk (-7)) = 1 by decide] at hq
    rw [e, show trS (-7) = 10 by decide]
    exact ⟨fun z => absurd (by decide) z, fun _ => hq⟩
  · rw [e, show nI (rk (-8)) = 2 by decide] at hq
    rw [e, show trS (-8) = 11 by decide]
    exact ⟨fun _ => ⟨fun z => absurd (by decide) z, fun _ => hq⟩, fun z => absurd z (by decide)⟩
  · rw [e, show nI (rk (-9)) = 3 by decide] at hq
    rw [e, show trS (-9) = 12 by decide]
    exact ⟨fun _ => ⟨fun _ => ⟨fun z => absurd (by decide) z, fun _ => hq⟩, fun z => absurd z (by decide)⟩, fun z => absurd z (by decide)⟩
  · rw [e, show nI (rk (-10)) = 4 by decide] at hq
    rw [e, show trS (-10) = 13 by decide]
    exact ⟨fun _ => ⟨fun _ => ⟨fun _ => ⟨fun z => absurd z (by decide), fun _ => hq⟩, fun z => absurd z (by decide)⟩, fun z => absurd z (by decide)⟩, fun z => absurd z (by decide)⟩
  · rw [e, show nI (rk (-11)) = 4 by decide] at hq
    rw [e, show trS (-11) = 14 by decide]
    exact ⟨fun _ => ⟨fun _ => ⟨fun _ => ⟨fun z => absurd z (by decide), fun _ => hq⟩, fun z => absurd z (by decide)⟩, fun z => absurd z (by decide)⟩, fun z => absurd z (by decide)⟩
  · rw [e, show nI (rk (-12)) = 5 by decide] at hq
    rw [e, show trS (-12) = 15 by decide]
    exact ⟨fun _ => ⟨fun _ => ⟨fun _ => ⟨fun _ => ⟨fun z => absurd z (by decide), fun _ => hq⟩, fun z => absurd (by decide) z⟩, fun z => absurd z (by decide)⟩, fun z => absurd z (by decide)⟩, fun z => absurd z (by decide)⟩
  · rw [e, show nI (rk (-13)) = 5 by decide] at hq
    rw [e, show trS (-13) = 16 by decide]
    exact ⟨fun _ => ⟨fun _ => ⟨fun _ => ⟨fun _ => ⟨fun z => absurd z (by decide), fun _ => hq⟩, fun z => absurd (by decide) z⟩, fun z => absurd z (by decide)⟩, fun z => absurd z (by decide)⟩, fun z => absurd z (by decide)⟩
  · rw [e, show nI (rk (-14)) = 6 by decide] at hq
    rw [e, show trS (-14) = 17 by decide]
    exact ⟨fun _ => ⟨fun _ => ⟨fun _ => ⟨fun _ => ⟨fun _ => ⟨fun z => absurd (by decide) z, fun _ => hq⟩, fun z => absurd (by decide) z⟩, fun z => absurd (by decide) z⟩, fun z => absurd z (by decide)⟩, fun z => absurd z (by decide)⟩, fun z => absurd z (by decide)⟩
  · rw [e, show nI (rk (-15)) = 7 by decide] at hq
    rw [e, show trS (-15) = 18 by decide]
    exact ⟨fun _ => ⟨fun _ => ⟨fun _ => ⟨fun _ => ⟨fun _ => ⟨fun _ => ⟨fun z => absurd (by decide) z, fun _ => hq⟩, fun z => absurd z (by decide)⟩, fun z => absurd (by decide) z⟩, fun z => absurd (by decide) z⟩, fun z => absurd z (by decide)⟩, fun z => absurd z (by decide)⟩, fun z => absurd z (by decide)⟩
  · rw [e, show nI (rk (-16)) = 0 by decide] at hq
    rw [e, show trS (-16) = 19 by decide]
    exact ⟨fun _ => ⟨fun _ => ⟨fun _ => ⟨fun _ => ⟨fun _ => ⟨fun _ => ⟨fun _ => hq, fun z => absurd z (by decide)⟩, fun z => absurd z (by decide)⟩, fun z => absurd (by decide) z⟩, fun z => absurd (by decide) z⟩, fun z => absurd z (by decide)⟩, fun z => absurd z (by decide)⟩, fun z => absurd z (by decide)⟩
def SK (T : Mem) : rdO → Prop
  | [] => True
  | x :: w => T 11 w.length = trS x ∧ SK T w
theorem SK.cg : ∀ {w : rdO}, SK T w → (∀ i, i < w.length → T' 11 i = T 11 i) → SK T' w := by
  intro w
  induction w with
  | nil => intro _ _; trivial
  | cons x w ih =>
    intro h hi
    refine ⟨?_, ih h.2 (fun i h2 => hi i (Nat.lt_succ_of_lt h2))⟩
    rw [hi w.length (Nat.lt_succ_self _)]
    exact h.1
theorem SK.app {v : rdO} : ∀ {u : rdO}, SK T (u ++ v) → SK T v := by
  intro u
  induction u with
  | nil => intro h; exact h
  | cons x u ih => intro h; exact ih h.2
def MW (T : Mem) (w : rdO) : Prop := T 0 24 = nI w.length ∧ SK T w ∧ ∀ x ∈ w, VS x
def MO (k : Nat) (T : Mem) (o : rdO) : Prop := T 0 22 = nI o.length ∧ ∀ i, i < o.length → T 9 (160 * k + i) = trS (o.getD i 0)
/-- what letting go leaves alone -/
def FLt (k : Nat) (T T2 : Mem) : Prop := (∀ c, c ≠ 0 → c ≠ 9 → c ≠ 11 → T2 c = T c) ∧ (∀ j, j ≠ 22 → j ≠ 24 → T2 0 j = T 0 j) ∧ ∀ i, i < 160 * k → T2 9 i = T 9 i
theorem FLt.rf {k : Nat} : FLt k T T := ⟨fun _ _ _ _ => rfl, fun _ _ _ => rfl, fun _ _ => rfl⟩
theorem FLt.tr {k : Nat} {T2 : Mem} (h : FLt k T T') (h2 : FLt k T' T2) : FLt k T T2 := ⟨fun c c1 c2 c3 => (h2.1 c c1 c2 c3).trans (h.1 c c1 c2 c3), fun j j1 j2 => (h2.2.1 j j1 j2).trans (h.2.1 j j1 j2), fun i hi => (h2.2.2 i hi).trans (h.2.2 i hi)⟩
section
variable {k : Nat} {w o : rdO} {post : Mem → Prop}
theorem m_step {s : Int32} (hk : k < 6) (h14 : T 0 14 = nI k) (ho : MO k T o) (hl : o.length < 160) (hq : ∀ T2, FLt k T T2 → T2 11 = T 11 → T2 0 24 = T 0 24 → MO k T2 (o ++ [s]) → post T2) : w_X8_step (trS s) T post := by
  unfold w_X8_step
  obtain ⟨h22, h9⟩ := ho
  have e : (160 : Int32) * nI k + nI o.length = nI (160 * k + o.length) := by
    rw [show (160 : Int32) * nI k = nI (160 * k) from pk_mul 160 k, nI_add]
  rw [h14, h22, e, nI_clamp (by omega)]
  refine ⟨nI_in (by omega) (by decide), fun S1 e1 S2 e2 => ?_⟩
  have g : ∀ c, c ≠ 0 → c ≠ 9 → S2 c = T c := fun c c1 c2 => by
    rw [e2, ms_n c1, e1, ms_n c2]
  have g9 : S2 9 = upd (T 9) (160 * k + o.length) (trS s) := by
    rw [e2, ms_n (by decide), e1, ms_s]
  have g0 : S2 0 = upd (T 0) 22 (T 0 22 + 1) := by
    rw [e2, ms_s, e1, ms_n (by decide)]
  refine hq S2 ⟨fun c c1 c2 _ => g c c1 c2, fun j j1 _ => by rw [g0, up_n j1], fun i hi => by rw [g9, up_n (by omega)]⟩ (g 11 (by decide) (by decide)) (by rw [g0, up_n (by decide)]) ⟨?_, fun i hi => ?_⟩
  · rw [g0, up_s, h22, nI_1, List.length_append, List.length_singleton]
  · rw [List.length_append, List.length_singleton] at hi
    rw [g9]
    by_cases c : i = o.length
    · rw [c, up_s, gd_r]
    · rw [up_n (by omega), gd_l (by omega)]
      exact h9 i (by omega)
theorem m_letLoop {r : Nat} (hr : r < 8) (hk : k < 6) : ∀ (w o : rdO) (T : Mem), T 0 14 = nI k → MW T w → MO k T o → o.length + w.length ≤ 160 → (∀ T2, FLt k T T2 → MW T2 (lgo r w o).1 → MO k T2 (lgo r w o).2 → post T2) → w_X8_letGo_0 post (w.length + 1) (nI r) T := by
  intro w
  induction w with
  | nil =>
    intro o T h14 hw ho hl hq
    rw [w_X8_letGo_0, hw.1]
    unfold w_X8_letGo_51
    exact ⟨fun _ => hq T FLt.rf hw ho, fun z => absurd (by decide) z⟩
  | cons x w ih =>
    intro o T h14 hw ho hl hq
    obtain ⟨h24, ⟨hx, hs⟩, hv⟩ := hw
    rw [List.length_cons] at h24 hl
    have hvx := hv x (List.mem_cons_self ..)
    rw [w_X8_letGo_0, h24, nI_pred, nI_clamp (by omega), hx]
    unfold w_X8_letGo_51
    have hrk : rk x < 8 := by
      rcases vs_c hvx with e | e | e | e | e | e | e | e | e | e <;> rw [e] <;> decide
    rw [lgo] at hq
    refine ⟨fun z => absurd z (nI_nle (by omega) (by omega)), fun _ => ⟨nI_in (by omega) (by decide), m_rank hvx ⟨fun z => ?_, fun z S2 e2 => ?_⟩⟩⟩
    · have z := (nI_ltI (by omega) (by omega)).mp z
      rw [if_neg (by omega)] at hq
      exact hq T FLt.rf ⟨h24, ⟨hx, hs⟩, hv⟩ ho
    · have z : r ≤ rk x := Nat.not_lt.mp (fun y => z ((nI_ltI (by omega) (by omega)).mpr y))
      rw [if_pos z] at hq
      have g : ∀ c, c ≠ 0 → S2 c = T c := fun c c1 => by rw [e2, ms_n c1]
      have g24 : S2 0 24 = nI w.length := by rw [e2, ms_s, up_s, h24, nI_pred]
      have g0 : ∀ j, j ≠ 24 → S2 0 j = T 0 j := fun j hj => by rw [e2, ms_s, up_n hj]
      have ho2 : MO k S2 o := ⟨by rw [g0 22 (by decide)]; exact ho.1, by rw [g 9 (by decide)]; exact ho.2⟩
      have f1 : FLt k T S2 := ⟨fun c c1 _ _ => g c c1, fun j _ j2 => g0 j j2, fun i _ => by rw [g 9 (by decide)]⟩
      rw [g24, nI_clamp (by omega), g 11 (by decide), hx]
      refine ⟨nI_in (by omega) (by decide), m_step hk (by rw [g0 14 (by decide)]; exact h14) ho2 (by omega) (fun S3 f3 e11 e24 ho3 => ?_)⟩
      refine ih (o ++ [x]) S3 ?_ ⟨by rw [e24]; exact g24, hs.cg (fun i _ => by rw [e11, g 11 (by decide)]), fun y hy => hv y (List.mem_cons_of_mem _ hy)⟩ ho3 (by rw [List.length_append, List.length_singleton]; omega) (fun T4 f4 a b => hq T4 ((f1.tr f3).tr f4) a b)
      rw [f3.2.1 14 (by decide) (by decide), g0 14 (by decide)]
      exact h14
theorem m_letGo {r : Nat} (hr : r < 8) (hk : k < 6) (h14 : T 0 14 = nI k) (hw : MW T w) (ho : MO k T o) (hl : o.length + w.length ≤ 160) (hq : ∀ T2, FLt k T T2 → MW T2 (lgo r w o).1 → MO k T2 (lgo r w o).2 → post T2) : w_X8_letGo (nI r) T post := ⟨_, m_letLoop hr hk w o T h14 hw ho hl hq⟩
theorem lgo_len (r : Nat) : ∀ (w o : rdO), (lgo r w o).2.length + (lgo r w o).1.length = o.length + w.length := by
  intro w
  induction w with
  | nil => intro o; rfl
  | cons x w ih =>
    intro o
    rw [lgo]
    by_cases c : r ≤ rk x
    · rw [if_pos c, ih, List.length_append, List.length_singleton, List.length_cons]
      omega
    · rw [if_neg c]
theorem m_await {x : Int32} (hx : VS x) (hw : MW T w) (hl : w.length < 170) (hq : ∀ T2, FLt k T T2 → T2 9 = T 9 → T2 0 22 = T 0 22 → MW T2 (x :: w) → post T2) : w_X8_await (trS x) T post := by
  unfold w_X8_await
  obtain ⟨h24, hs, hv⟩ := hw
  rw [h24, nI_clamp (by omega)]
  refine ⟨nI_in (by omega) (by decide), fun S1 e1 S2 e2 => ?_⟩
  have g : ∀ c, c ≠ 0 → c ≠ 11 → S2 c = T c := fun c c1 c2 => by
    rw [e2, ms_n c1, e1, ms_n c2]
  have g11 : S2 11 = upd (T 11) w.length (trS x) := by
    rw [e2, ms_n (by decide), e1, ms_s]
  have g0 : S2 0 = upd (T 0) 24 (T 0 24 + 1) := by
    rw [e2, ms_s, e1, ms_n (by decide)]
  refine hq S2 ⟨fun c c1 _ c3 => g c c1 c3, fun j _ j2 => by rw [g0, up_n j2], fun i _ => by rw [g 9 (by decide) (by decide)]⟩ (g 9 (by decide) (by decide)) (by rw [g0, up_n (by decide)]) ⟨?_, ⟨?_, hs.cg (fun i hi => ?_)⟩, fun y hy => ?_⟩
  · rw [g0, up_s, h24, nI_1, List.length_cons]
  · rw [g11, up_s]
  · rw [g11, up_n (by omega)]
  · rcases List.mem_cons.mp hy with e | e
    · rw [e]; exact hx
    · exact hv y e
end
theorem snoc (u : rdO) : u = [] ∨ ∃ (u2 : rdO) (x : Int32), u = u2 ++ [x] := by
  induction u with
  | nil => exact Or.inl rfl
  | cons y u ih =>
    rcases ih with e | ⟨u2, x, e⟩
    · exact Or.inr ⟨[], y, by rw [e]; rfl⟩
    · exact Or.inr ⟨y :: u2, x, by rw [e]; rfl⟩
section
variable {w : rdO} {post : Int32 → Mem → Prop}
theorem opn_le : ∀ v : rdO, rkOpn v ≤ v.length := by
  intro v
  induction v with
  | nil => exact Nat.le_refl _
  | cons x v ih =>
    rw [rkOpn, List.length_cons]
    by_cases c : x = -9 ∨ x = -15 ∨ x = -16
    · rw [if_pos c]; omega
    · rw [if_neg c]; omega
theorem m_opnLoop (hw : MW T w) (hl : w.length ≤ 160) (hq : post (nI (rkOpn w)) T) : ∀ (f : Nat) (u v : rdO), u.length = f → w = u ++ v → w_X8_opened_4 post (f + 1) (nI (rkOpn v)) (nI v.length) T := by
  obtain ⟨h24, hs, hv⟩ := hw
  intro f
  induction f with
  | zero =>
    intro u v hu e
    rw [List.length_eq_zero_iff.mp hu, List.nil_append] at e
    subst e
    rw [w_X8_opened_4, h24]
    exact ⟨fun _ => hq, fun z => absurd (nI_le (Nat.le_refl _) (by omega)) z⟩
  | succ f ih =>
    intro u v hu e
    rcases snoc u with e2 | ⟨u2, x, e2⟩
    · rw [e2] at hu; exact absurd hu.symm (Nat.succ_ne_zero f)
    · rw [e2, List.append_assoc] at e
      have e : w = u2 ++ (x :: v) := e
      have hlen : w.length = u2.length + (v.length + 1) := by rw [e, List.length_append, List.length_cons]
      have hu2 : u2.length = f := by
        rw [e2, List.length_append, List.length_singleton] at hu
        omega
      have hx : T 11 v.length = trS x := (SK.app (u := u2) (v := x :: v) (by rw [← e]; exact hs)).1
      have hvx : VS x := hv x (by rw [e]; exact List.mem_append_right _ (List.mem_cons_self ..))
      obtain ⟨-, -, t12, -, -, t18, t19⟩ := vs_tr hvx
      have step := ih u2 (x :: v) hu2 e
      rw [w_X8_opened_4, h24, nI_clamp (by omega), hx]
      unfold w_X8_opened_46 w_X8_opened_51
      have y1 : (x = -9 ∨ x = -15 ∨ x = -16) → ∀ z1 : Int32, z1 = nI (rkOpn v) + 1 → ∀ z2 : Int32, z2 = nI v.length + 1 → w_X8_opened_4 post (f + 1) z1 z2 T := by
        intro c z1 e1 z2 e3
        rw [e1, e3, nI_1, nI_1]
        rw [rkOpn, if_pos c, Nat.add_comm 1 (rkOpn v)] at step
        exact step
      have y0 : ¬ (x = -9 ∨ x = -15 ∨ x = -16) → ∀ z1 : Int32, z1 = nI (rkOpn v) + 0 → ∀ z2 : Int32, z2 = nI v.length + 1 → w_X8_opened_4 post (f + 1) z1 z2 T := by
        intro c z1 e1 z2 e3
        rw [e1, e3, nI_1, Int32.add_zero]
        rw [rkOpn, if_neg c, Nat.zero_add] at step
        exact step
      refine ⟨fun z => absurd z (nI_ge (by omega) (by omega)), fun _ => ⟨nI_in (by omega) (by decide), fun z => y1 (Or.inl (t12.mp z)), fun z => ⟨nI_in (by omega) (by decide), fun z2 => y1 (Or.inr (Or.inl (t18.mp z2))), fun z2 => ⟨nI_in (by omega) (by decide), fun z3 => y0 (fun c => ?_), fun z3 => y1 (Or.inr (Or.inr (t19.mp z3)))⟩⟩⟩⟩
      rcases c with c | c | c
      · exact z (t12.mpr c)
      · exact z2 (t18.mpr c)
      · exact z3 (t19.mpr c)
theorem m_opened (hw : MW T w) (hl : w.length ≤ 160) (hq : post (nI (rkOpn w)) T) : w_X8_opened T post := ⟨_, m_opnLoop hw hl hq w.length w [] rfl (List.append_nil w).symm⟩
theorem m_brLoop (hw : MW T w) (hl : w.length ≤ 160) (hq : post (bI (rkBr w = true)) T) : ∀ (f : Nat) (u v : rdO), u.length = f → w = u ++ v → w_X8_isBracketed_4 post (f + 1) (bI (rkBr v = true)) (nI v.length) T := by
  obtain ⟨h24, hs, hv⟩ := hw
  intro f
  induction f with
  | zero =>
    intro u v hu e
    rw [List.length_eq_zero_iff.mp hu, List.nil_append] at e
    subst e
    rw [w_X8_isBracketed_4, h24]
    refine ⟨fun _ => ⟨?_, hq⟩, fun z => absurd (nI_le (Nat.le_refl _) (by omega)) z⟩
    rw [bI_01]
    trivial
  | succ f ih =>
    intro u v hu e
    rcases snoc u with e2 | ⟨u2, x, e2⟩
    · rw [e2] at hu; exact absurd hu.symm (Nat.succ_ne_zero f)
    · rw [e2, List.append_assoc] at e
      have e : w = u2 ++ (x :: v) := e
      have hlen : w.length = u2.length + (v.length + 1) := by rw [e, List.length_append, List.length_cons]
      have hu2 : u2.length = f := by
        rw [e2, List.length_append, List.length_singleton] at hu
        omega
      have hx : T 11 v.length = trS x := (SK.app (u := u2) (v := x :: v) (by rw [← e]; exact hs)).1
      have hvx : VS x := hv x (by rw [e]; exact List.mem_append_right _ (List.mem_cons_self ..))
      obtain ⟨-, -, -, -, -, -, t19⟩ := vs_tr hvx
      have step := ih u2 (x :: v) hu2 e
      rw [w_X8_isBracketed_4, h24, nI_clamp (by omega), hx]
      unfold w_X8_isBracketed_27 w_X8_isBracketed_32
      have y1 : rkBr (x :: v) = true → ∀ z1 : Int32, z1 = nI v.length + 1 → w_X8_isBracketed_4 post (f + 1) 1 z1 T := by
        intro c z1 e1
        rw [e1, nI_1]
        rw [bI_t c] at step
        exact step
      refine ⟨fun z => absurd z (nI_ge (by omega) (by omega)), fun _ => ⟨fun z => y1 ?_, fun z => ⟨nI_in (by omega) (by decide), fun z2 => ?_, fun z2 => y1 ?_⟩⟩⟩
      · rw [bI_0] at z
        rw [rkBr, Classical.not_not.mp z, Bool.or_true]
      · intro z1 e1
        have z := bI_0' z
        have z : rkBr v = false := Bool.eq_false_iff.mpr z
        have c : rkBr (x :: v) = false := by
          rw [rkBr, z, Bool.or_false]
          exact decide_eq_false (fun y => z2 (t19.mpr y))
        rw [bI_f (by rw [c]; decide)] at step
        rw [e1, nI_1]
        exact step
      · rw [rkBr, decide_eq_true (t19.mp z2), Bool.true_or]
theorem m_isBr (hw : MW T w) (hl : w.length ≤ 160) (hq : post (bI (rkBr w = true)) T) : w_X8_isBracketed T post := by
  have g := m_brLoop hw hl hq w.length w [] rfl (List.append_nil w).symm
  exact ⟨_, g⟩
theorem m1_add (a : Int32) : a + (-1) = a - 1 := by
  rw [Int32.sub_eq_add_neg]
theorem m_cmp1 : ∀ (w : rdO) (x2 : Int32), SK T w → w.length ≤ 160 → post 1 T → w_X8_hasCompared_11 post (w.length + 1) 1 x2 (nI w.length - 1) T := by
  intro w
  induction w with
  | nil =>
    intro x2 hs hl hq
    rw [w_X8_hasCompared_11]
    unfold w_X8_hasCompared_91
    exact ⟨fun _ => ⟨Or.inr rfl, hq⟩, fun z => absurd (by decide) z⟩
  | cons x w ih =>
    intro x2 hs hl hq
    rw [List.length_cons] at hl ⊢
    rw [w_X8_hasCompared_11, nI_pred]
    unfold w_X8_hasCompared_91 w_X8_hasCompared_45
    refine ⟨fun z => absurd z (nI_pos (by omega)), fun _ => ⟨fun _ => ⟨Or.inr rfl, hq⟩, fun _ => ⟨nI_in (by omega) (by decide), fun z1 e1 => ⟨fun _ => ?_, fun z => absurd z (by decide)⟩⟩⟩⟩
    unfold w_X8_hasCompared_50 w_X8_hasCompared_83 w_X8_hasCompared_84
    have go : ∀ y : Int32, ∀ z3 : Int32, z3 = nI w.length + (-1) → w_X8_hasCompared_11 post (w.length + 1) 1 y z3 T := by
      intro y z3 e3
      rw [e3, m1_add]
      exact ih y hs.2 (by omega) hq
    exact ⟨fun _ => go 0, fun _ => ⟨fun _ => go 0, fun _ => ⟨fun _ => go 0, fun _ => ⟨fun _ => go 0, fun _ => go 1⟩⟩⟩⟩
theorem m_cmp0 : ∀ (w : rdO), SK T w → (∀ x ∈ w, VS x) → w.length ≤ 160 → post (bI (rkCmp w = true)) T → w_X8_hasCompared_11 post (w.length + 1) 0 1 (nI w.length - 1) T := by
  intro w
  induction w with
  | nil =>
    intro hs hv hl hq
    rw [w_X8_hasCompared_11]
    unfold w_X8_hasCompared_91
    rw [bI_f (by decide)] at hq
    exact ⟨fun _ => ⟨Or.inl rfl, hq⟩, fun z => absurd (by decide) z⟩
  | cons x w ih =>
    intro hs hv hl hq
    have hvx := hv x (List.mem_cons_self ..)
    obtain ⟨t10, t11, t12, t13, t14, -, t19⟩ := vs_tr hvx
    rw [List.length_cons] at hl ⊢
    rw [w_X8_hasCompared_11, nI_pred, nI_clamp (by omega), hs.1]
    unfold w_X8_hasCompared_91 w_X8_hasCompared_45
    refine ⟨fun z => absurd z (nI_pos (by omega)), fun _ => ⟨fun z => absurd z (by decide), fun _ => ⟨nI_in (by omega) (by decide), fun z1 e1 => ⟨fun z => absurd rfl z, fun _ => ?_⟩⟩⟩⟩
    rw [e1]
    have hit : opC x = true → w_X8_hasCompared_50 (w_X8_hasCompared_11 post (w.length + 1)) post (nI w.length) (trS x) 1 T := by
      intro c
      rw [bI_t (cmp_hit c)] at hq
      unfold w_X8_hasCompared_50 w_X8_hasCompared_83 w_X8_hasCompared_84
      have go : ∀ y : Int32, ∀ z3 : Int32, z3 = nI w.length + (-1) → w_X8_hasCompared_11 post (w.length + 1) 1 y z3 T := by
        intro y z3 e3
        rw [e3, m1_add]
        exact m_cmp1 w y hs.2 (by omega) hq
      exact ⟨fun _ => go 0, fun _ => ⟨fun _ => go 0, fun _ => ⟨fun _ => go 0, fun _ => ⟨fun _ => go 0, fun _ => go 1⟩⟩⟩⟩
    refine ⟨fun z => hit (decide_eq_true (Or.inl (t13.mp z))), fun z => ⟨fun z2 => ?_, fun z2 => hit (decide_eq_true (Or.inr (t14.mp z2)))⟩⟩
    have nc : ¬ opC x = true := fun y => (opC_of y).elim (fun e => z (t13.mpr e)) (fun e => z2 (t14.mpr e))
    rw [rkCmp, if_neg nc] at hq
    have stop : rk x ≤ 3 → ∀ z3 : Int32, z3 = nI w.length + (-1) → w_X8_hasCompared_11 post (w.length + 1) 0 0 z3 T := by
      intro c z3 e3
      rw [if_pos c, bI_f (by decide)] at hq
      rw [w_X8_hasCompared_11]
      unfold w_X8_hasCompared_91
      exact ⟨fun _ => ⟨Or.inl rfl, hq⟩, fun _ => ⟨fun _ => ⟨Or.inl rfl, hq⟩, fun y => absurd rfl y⟩⟩
    unfold w_X8_hasCompared_50 w_X8_hasCompared_83 w_X8_hasCompared_84
    refine ⟨fun y => stop (by rw [t19.mp y]; decide), fun y1 => ⟨fun y => stop (by rw [t10.mp y]; decide), fun y2 => ⟨fun y => stop (by rw [t11.mp y]; decide), fun y3 => ⟨fun y => stop (by rw [t12.mp y]; decide), fun y4 z3 e3 => ?_⟩⟩⟩⟩
    have hr : ¬ rk x ≤ 3 := by
      intro c
      rcases vs_c hvx with e | e | e | e | e | e | e | e | e | e
      · exact y2 (t10.mpr e)
      · exact y3 (t11.mpr e)
      · exact y4 (t12.mpr e)
      · exact nc (by rw [e]; decide)
      · exact nc (by rw [e]; decide)
      · rw [e] at c; exact absurd c (by decide)
      · rw [e] at c; exact absurd c (by decide)
      · rw [e] at c; exact absurd c (by decide)
      · rw [e] at c; exact absurd c (by decide)
      · exact y1 (t19.mpr e)
    rw [if_neg hr] at hq
    rw [e3, m1_add]
    exact ih hs.2 (fun y hy => hv y (List.mem_cons_of_mem _ hy)) (by omega) hq
theorem m_hasCmp (hw : MW T w) (hl : w.length ≤ 160) (hq : post (bI (rkCmp w = true)) T) : w_X8_hasCompared T post := by
  unfold w_X8_hasCompared
  intro z1 e1
  rw [e1, hw.1]
  exact ⟨_, m_cmp0 w hw.2.1 hw.2.2 hl hq⟩
/-- tokens in their range -/
def RG (t : Int32) : Prop := ∃ i : Fin 23, t = nI i.val - 14
theorem mtK_n {t : Int32} (h : mtK t = 4 ∨ mtK t = 3) (hr : RG t) : ¬ t = 0 ∧ ¬ t = 1 ∧ ¬ t = 2 := by
  refine ⟨fun e => ?_, fun e => ?_, fun e => ?_⟩ <;> rw [e] at h <;> exact absurd h (by decide)
theorem m_isKey {t v c tc : Int32} (hd : ∀ i : Fin 23, (mtK (nI i.val - 14) = 4 ∧ mtV (nI i.val - 14) 0 = c) ↔ nI i.val - 14 = tc) (h : MK T t v) (hr : RG t) (hq : post (bI (t = tc)) T) : w_X8_isKey c T post := by
  unfold w_X8_isKey w_X8_isKey_20 w_X8_isKey_21
  obtain ⟨i, ei⟩ := id hr
  have hd := hd i
  rw [← ei] at hd
  rw [h.1]
  by_cases c4 : mtK t = 4
  · obtain ⟨n0, n1, n2⟩ := mtK_n (Or.inl c4) hr
    have hv := (h.2.resolve_left n0).resolve_left n1
    rw [hv, mtV_v v n2]
    refine ⟨fun z => absurd c4 z, fun _ => ⟨fun z => ⟨Or.inl rfl, ?_⟩, fun z => ⟨Or.inr rfl, ?_⟩⟩⟩
    · rw [bI_f (fun y => z (hd.mpr y).2)] at hq; exact hq
    · rw [bI_t (hd.mp ⟨c4, z⟩)] at hq; exact hq
  · refine ⟨fun _ => ⟨Or.inl rfl, ?_⟩, fun z => absurd z c4⟩
    rw [bI_f (fun y => c4 (hd.mpr y).1)] at hq; exact hq
theorem m_isSign {t v c tc : Int32} (hd : ∀ i : Fin 23, (mtK (nI i.val - 14) = 3 ∧ mtV (nI i.val - 14) 0 = c) ↔ nI i.val - 14 = tc) (h : MK T t v) (hr : RG t) (hq : post (bI (t = tc)) T) : w_X8_isSign c T post := by
  unfold w_X8_isSign w_X8_isSign_20 w_X8_isSign_21
  obtain ⟨i, ei⟩ := id hr
  have hd := hd i
  rw [← ei] at hd
  rw [h.1]
  by_cases c4 : mtK t = 3
  · obtain ⟨n0, n1, n2⟩ := mtK_n (Or.inr c4) hr
    have hv := (h.2.resolve_left n0).resolve_left n1
    rw [hv, mtV_v v n2]
    refine ⟨fun z => absurd c4 z, fun _ => ⟨fun z => ⟨Or.inl rfl, ?_⟩, fun z => ⟨Or.inr rfl, ?_⟩⟩⟩
    · rw [bI_f (fun y => z (hd.mpr y).2)] at hq; exact hq
    · rw [bI_t (hd.mp ⟨c4, z⟩)] at hq; exact hq
  · refine ⟨fun _ => ⟨Or.inl rfl, ?_⟩, fun z => absurd z c4⟩
    rw [bI_f (fun y => c4 (hd.mpr y).1)] at hq; exact hq
theorem kd_6 : ∀ i : Fin 23, (mtK (nI i.val - 14) = 4 ∧ mtV (nI i.val - 14) 0 = 6) ↔ nI i.val - 14 = 6 := by decide +kernel
theorem kd_7 : ∀ i : Fin 23, (mtK (nI i.val - 14) = 4 ∧ mtV (nI i.val - 14) 0 = 7) ↔ nI i.val - 14 = 7 := by decide +kernel
theorem kd_8 : ∀ i : Fin 23, (mtK (nI i.val - 14) = 4 ∧ mtV (nI i.val - 14) 0 = 8) ↔ nI i.val - 14 = 8 := by decide +kernel
theorem kd_9 : ∀ i : Fin 23, (mtK (nI i.val - 14) = 4 ∧ mtV (nI i.val - 14) 0 = 9) ↔ nI i.val - 14 = -7 := by decide +kernel
theorem kd_10 : ∀ i : Fin 23, (mtK (nI i.val - 14) = 4 ∧ mtV (nI i.val - 14) 0 = 10) ↔ nI i.val - 14 = -8 := by decide +kernel
theorem kd_11 : ∀ i : Fin 23, (mtK (nI i.val - 14) = 4 ∧ mtV (nI i.val - 14) 0 = 11) ↔ nI i.val - 14 = -9 := by decide +kernel
theorem sd_40 : ∀ i : Fin 23, (mtK (nI i.val - 14) = 3 ∧ mtV (nI i.val - 14) 0 = 40) ↔ nI i.val - 14 = 3 := by decide +kernel
theorem sd_41 : ∀ i : Fin 23, (mtK (nI i.val - 14) = 3 ∧ mtV (nI i.val - 14) 0 = 41) ↔ nI i.val - 14 = 4 := by decide +kernel
theorem sd_59 : ∀ i : Fin 23, (mtK (nI i.val - 14) = 3 ∧ mtV (nI i.val - 14) 0 = 59) ↔ nI i.val - 14 = 5 := by decide +kernel
theorem sd_43 : ∀ i : Fin 23, (mtK (nI i.val - 14) = 3 ∧ mtV (nI i.val - 14) 0 = 43) ↔ nI i.val - 14 = -12 := by decide +kernel
theorem sd_45 : ∀ i : Fin 23, (mtK (nI i.val - 14) = 3 ∧ mtV (nI i.val - 14) 0 = 45) ↔ nI i.val - 14 = -13 := by decide +kernel
theorem sd_42 : ∀ i : Fin 23, (mtK (nI i.val - 14) = 3 ∧ mtV (nI i.val - 14) 0 = 42) ↔ nI i.val - 14 = -14 := by decide +kernel
theorem sd_60 : ∀ i : Fin 23, (mtK (nI i.val - 14) = 3 ∧ mtV (nI i.val - 14) 0 = 60) ↔ nI i.val - 14 = -10 := by decide +kernel
theorem sd_61 : ∀ i : Fin 23, (mtK (nI i.val - 14) = 3 ∧ mtV (nI i.val - 14) 0 = 61) ↔ nI i.val - 14 = -11 := by decide +kernel
theorem lxT_r {tp : Nat → Int32} {n p : Nat} : RG (lxT tp n p) := by
  have hL : ∀ L : List Int32, (∀ x ∈ L, ∃ i : Fin 23, x = nI i.val - 14) → ∀ x, x ∈ L → RG x := fun L h x hx => h x hx
  have g0 : RG 0 := hL [0] (by decide +kernel) 0 (by decide)
  have g1 : RG 1 := hL [1] (by decide +kernel) 1 (by decide)
  have g2 : RG 2 := hL [2] (by decide +kernel) 2 (by decide)
  unfold lxT lxTq
  by_cases c : n ≤ lxQ tp n p
  · rw [if_pos c]; exact g0
  · rw [if_neg c]
    by_cases c1 : 97 ≤ tp (lxQ tp n p) ∧ tp (lxQ tp n p) ≤ 122
    · rw [if_pos c1]
      exact hL _ (by decide +kernel) _ (lxW_c _)
    · rw [if_neg c1]
      by_cases c2 : 48 ≤ tp (lxQ tp n p) ∧ tp (lxQ tp n p) ≤ 57
      · rw [if_pos c2]
        by_cases c3 : 4 < lxEq tp n (lxQ tp n p) - lxQ tp n p
        · rw [if_pos c3]; exact g1
        · rw [if_neg c3]; exact g2
      · rw [if_neg c2]
        exact hL _ (by decide +kernel) _ (lxG_c _)
end
end
