/-! PURE, 46: what the descent gives -/
section
def rdG (l : List rdT) : Prop := ∀ x ∈ l, x.1 = 2 → bnd x.2.1 0 9999
theorem rdG.tl {l : List rdT} (h : rdG l) : rdG l.tail := fun x hx => h x (List.mem_of_mem_tail hx)
theorem rdG.hd {l : List rdT} (h : rdG l) (e : rdH l = 2) : bnd (rdV l) 0 9999 := by
  match l, h, e with
  | [], _, e => exact absurd e (by decide)
  | x :: r, h, e => exact h x (List.mem_cons_self ..) e
theorem len_tl {l : List rdT} (h : ¬ rdH l = 0) : l.tail.length + 1 = l.length := by
  match l, h with
  | [], h => exact absurd rfl h
  | x :: r, _ => rfl
theorem len_tl' (l : List rdT) : l.tail.length ≤ l.length := by
  rw [List.length_tail]; omega
/-- from k values to one more than none -/
def rdY (k : Nat) (l l2 : List rdT) (o o2 : rdO) : Prop := ∃ c : List Int32, o2 = o ++ c ∧ c.length + l2.length ≤ l.length ∧ (rdG l → rdG l2 ∧ (∀ s ∈ c, bnd s (-15) 9999) ∧ ∀ (n : Nat) (r : List Int32), dep (c ++ r) (n + k) = dep r (n + 1))
def rdPG (p : rdP) : Prop := ∀ l o l2 o2, p l o = Sum.inr (l2, o2) → rdY 0 l l2 o o2 ∧ l2.length < l.length
theorem dep_val {s : Int32} {l : List Int32} {n : Nat} (h : 0 ≤ s ∨ -6 ≤ s ∧ s ≤ -1) : dep (s :: l) n = dep l (n + 1) := by
  rw [dep, if_pos h]
theorem dep_un {t : Int32} {l : List Int32} {n : Nat} (h : t = -9 ∨ t = -15) : dep (t :: l) (n + 1) = dep l (n + 1) := by
  have h1 : ¬ (0 ≤ t ∨ -6 ≤ t ∧ t ≤ -1) := by
    rcases h with e | e <;> rw [e] <;> decide
  rw [dep, if_neg h1, if_pos h, if_pos (by omega)]
theorem dep_bin {t : Int32} {l : List Int32} {n : Nat} (h : isOp t = true ∨ opC t = true) : dep (t :: l) (n + 2) = dep l (n + 1) := by
  have h1 : ¬ (0 ≤ t ∨ -6 ≤ t ∧ t ≤ -1) ∧ ¬ (t = -9 ∨ t = -15) ∧ -15 ≤ t := by
    rcases h with h | h
    · rcases op_of h with e | e | e | e | e <;> rw [e] <;> decide
    · rcases opC_of h with e | e <;> rw [e] <;> decide
  rw [dep, if_neg h1.1, if_neg h1.2.1, if_pos h1.2.2, if_pos (by omega)]
  rfl
theorem bnd_op {t : Int32} (h : isOp t = true ∨ opC t = true) : bnd t (-15) 9999 ∧ ¬ t = 0 := by
  rcases h with h | h
  · rcases op_of h with e | e | e | e | e <;> rw [e] <;> exact ⟨⟨by decide, by decide⟩, by decide⟩
  · rcases opC_of h with e | e <;> rw [e] <;> exact ⟨⟨by decide, by decide⟩, by decide⟩
theorem rdY.nil {l : List rdT} {o : rdO} : rdY 1 l l o o := ⟨[], (List.append_nil o).symm, by simp, fun h => ⟨h, fun s hs => absurd hs (by simp), fun _ _ => rfl⟩⟩
theorem rdY.tr {k : Nat} {l l1 l2 : List rdT} {o o1 o2 : rdO} (h : rdY k l l1 o o1) (h2 : rdY 1 l1 l2 o1 o2) : rdY k l l2 o o2 := by
  obtain ⟨c, e, hl, hg⟩ := h
  obtain ⟨c2, e2, hl2, hg2⟩ := h2
  refine ⟨c ++ c2, by rw [e2, e, List.append_assoc], by rw [List.length_append]; omega, fun h => ?_⟩
  obtain ⟨g1, g2, hd⟩ := hg h
  obtain ⟨g3, g4, hd2⟩ := hg2 g1
  refine ⟨g3, fun s hs => ?_, fun n r => by rw [List.append_assoc, hd, hd2]⟩
  rcases List.mem_append.mp hs with z | z
  · exact g2 s z
  · exact g4 s z
theorem rdY.op {k : Nat} {l l1 : List rdT} {o o1 : rdO} {t : Int32} (h : rdY 0 l.tail l1 o o1) (hl : ¬ rdH l = 0) (ht : ∀ (n : Nat) (r : List Int32), dep (t :: r) (n + k + 1) = dep r (n + 1)) (hb : bnd t (-15) 9999) : rdY k l l1 o (o1 ++ [t]) := by
  obtain ⟨c, e, hl2, hg⟩ := h
  have hlen := len_tl hl
  refine ⟨c ++ [t], by rw [e, List.append_assoc], by rw [List.length_append, List.length_singleton]; omega, fun h => ?_⟩
  obtain ⟨g1, g2, hd⟩ := hg h.tl
  refine ⟨g1, fun s hs => ?_, fun n r => ?_⟩
  · rcases List.mem_append.mp hs with z | z
    · exact g2 s z
    · rw [List.mem_singleton.mp z]; exact hb
  · rw [List.append_assoc, ← ht n r]
    exact hd (n + k) (t :: r)
theorem rdY.acc {l l1 : List rdT} {o o1 : rdO} (h : rdY 0 l.tail l1 o o1) : rdY 0 l l1.tail o o1 := by
  obtain ⟨c, e, hl2, hg⟩ := h
  have h1 := len_tl' l
  have h2 := len_tl' l1
  exact ⟨c, e, by omega, fun h => ⟨(hg h.tl).1.tl, (hg h.tl).2⟩⟩
theorem rdY.val {l : List rdT} {o : rdO} {s : Int32} (hl : ¬ rdH l = 0) (hs : rdG l → bnd s (-15) 9999) (hd : rdG l → (0 ≤ s ∨ -6 ≤ s ∧ s ≤ -1)) : rdY 0 l l.tail o (o ++ [s]) := by
  have hlen := len_tl hl
  refine ⟨[s], rfl, by rw [List.length_singleton]; omega, fun h => ⟨h.tl, fun x hx => ?_, fun n r => dep_val (hd h)⟩⟩
  rw [List.mem_singleton.mp hx]
  exact hs h
/-- a loop -/
theorem lp_Y {op : Int32 → Bool} {sub : rdP} (hs : rdPG sub) (ho : ∀ t, op t = true → isOp t = true) : ∀ (f : Nat) (l : List rdT) (o : rdO) (l2 : List rdT) (o2 : rdO), rdLoop op sub f l o = Sum.inr (l2, o2) → rdY 1 l l2 o o2 := by
  intro f
  induction f with
  | zero =>
    intro l o l2 o2 h
    rw [rdLoop] at h
    cases h
    exact rdY.nil
  | succ f ih =>
    intro l o l2 o2 h
    rw [rdLoop] at h
    by_cases c : op (rdH l) = true
    · rw [if_pos c] at h
      obtain ⟨l1, o1, h1, h2⟩ := rdB_inr h
      have hb := bnd_op (Or.inl (ho _ c))
      exact ((hs _ _ _ _ h1).1.op hb.2 (fun n r => dep_bin (Or.inl (ho _ c))) hb.1).tr (ih _ _ _ _ h2)
    · rw [if_neg c] at h
      cases h
      exact rdY.nil
theorem rdY.len {l l2 : List rdT} {o o2 : rdO} {k : Nat} (h : rdY k l l2 o o2) : l2.length ≤ l.length := by
  obtain ⟨c, -, h, -⟩ := h
  omega
theorem lp_PG {op : Int32 → Bool} {sub : rdP} (hs : rdPG sub) (ho : ∀ t, op t = true → isOp t = true) (f : Nat) : rdPG (fun l o => rdB (sub l o) (rdLoop op sub f)) := by
  intro l o l2 o2 h
  obtain ⟨l1, o1, h1, h2⟩ := rdB_inr h
  obtain ⟨y1, y2⟩ := hs _ _ _ _ h1
  have y3 := lp_Y hs ho _ _ _ _ _ h2
  have := y3.len
  exact ⟨y1.tr y3, by omega⟩
theorem lp_hd {op : Int32 → Bool} {sub : rdP} (hs : rdPG sub) (h0 : op 0 = false) : ∀ (f : Nat) (l : List rdT) (o : rdO) (l2 : List rdT) (o2 : rdO), l.length ≤ f → rdLoop op sub f l o = Sum.inr (l2, o2) → op (rdH l2) = false := by
  intro f
  induction f with
  | zero =>
    intro l o l2 o2 hl h
    rw [rdLoop] at h
    cases h
    have e : l = [] := List.length_eq_zero_iff.mp (by omega)
    rw [e]
    exact h0
  | succ f ih =>
    intro l o l2 o2 hl h
    rw [rdLoop] at h
    by_cases c : op (rdH l) = true
    · rw [if_pos c] at h
      obtain ⟨l1, o1, h1, h2⟩ := rdB_inr h
      have y := (hs _ _ _ _ h1).2
      have := len_tl' l
      exact ih _ _ _ _ (by omega) h2
    · rw [if_neg c] at h
      cases h
      exact Bool.eq_false_iff.mpr c
theorem lp_keep {op : Int32 → Bool} {sub : rdP} {Q : Int32 → Prop} (hp : rdPG sub) (hs : ∀ l o l2 o2, l.length ≤ 161 → sub l o = Sum.inr (l2, o2) → Q (rdH l2)) : ∀ (f : Nat) (l : List rdT) (o : rdO) (l2 : List rdT) (o2 : rdO), l.length ≤ 161 → Q (rdH l) → rdLoop op sub f l o = Sum.inr (l2, o2) → Q (rdH l2) := by
  intro f
  induction f with
  | zero =>
    intro l o l2 o2 _ hq h
    rw [rdLoop] at h
    cases h
    exact hq
  | succ f ih =>
    intro l o l2 o2 hl hq h
    rw [rdLoop] at h
    by_cases c : op (rdH l) = true
    · rw [if_pos c] at h
      obtain ⟨l1, o1, h1, h2⟩ := rdB_inr h
      have y := (hp _ _ _ _ h1).2
      have := len_tl' l
      exact ih _ _ _ _ (by omega) (hs _ _ _ _ (by omega) h1) h2
    · rw [if_neg c] at h
      cases h
      exact hq
theorem opT_op : ∀ t, opT t = true → isOp t = true := fun t h => by
  rw [of_decide_eq_true h]; rfl
theorem opS_op : ∀ t, opS t = true → isOp t = true := fun t h => by
  rcases of_decide_eq_true h with e | e <;> rw [e] <;> rfl
theorem opA_op : ∀ t, opA t = true → isOp t = true := fun t h => by
  rw [of_decide_eq_true h]; rfl
theorem opR_op : ∀ t, opR t = true → isOp t = true := fun t h => by
  rw [of_decide_eq_true h]; rfl
theorem pg_term {one : rdP} (h : rdPG one) : rdPG (rdTermB one) := lp_PG h opT_op 160
theorem pg_sum {one : rdP} (h : rdPG one) : rdPG (rdSumB one) := lp_PG (pg_term h) opS_op 160
theorem pg_and {nt : rdP} (h : rdPG nt) : rdPG (rdAndB nt) := lp_PG h opA_op 160
theorem pg_or {nt : rdP} (h : rdPG nt) : rdPG (rdOrB nt) := lp_PG (pg_and h) opR_op 160
theorem pg_one {nest : Bool} {one or : rdP} (h1 : nest = true → rdPG one) (h2 : nest = true → rdPG or) : rdPG (rdOneB nest one or) := by
  intro l o l2 o2 h
  unfold rdOneB at h
  by_cases c1 : rdH l = 2
  · rw [if_pos c1] at h
    cases h
    have hn : ¬ rdH l = 0 := by rw [c1]; decide
    refine ⟨rdY.val hn (fun g => ?_) (fun g => Or.inl ?_), by have := len_tl hn; omega⟩
    · have := g.hd c1
      exact ⟨by have := this.1; omega, this.2⟩
    · rw [i_le, I0]; exact (g.hd c1).1
  · rw [if_neg c1] at h
    by_cases c2 : rdN (rdH l) = true
    · rw [if_pos c2] at h
      cases h
      have hd := of_decide_eq_true c2
      have hn : ¬ rdH l = 0 := by
        intro e
        rw [e] at c2
        exact absurd c2 (by decide)
      refine ⟨rdY.val hn (fun _ => ?_) (fun _ => Or.inr hd), by have := len_tl hn; omega⟩
      have b := bnd_of (a := -6) (b := -1) (by decide) (by decide) hd
      exact ⟨by have := b.1; omega, by have := b.2; omega⟩
    · rw [if_neg c2] at h
      by_cases c3 : rdH l = -13 ∧ nest = true
      · rw [if_pos c3] at h
        obtain ⟨l1, o1, q1, q2⟩ := rdB_inr h
        cases q2
        have hn : ¬ rdH l = 0 := by rw [c3.1]; decide
        obtain ⟨y1, y2⟩ := h1 c3.2 _ _ _ _ q1
        exact ⟨y1.op hn (fun n r => dep_un (Or.inr rfl)) ⟨by decide, by decide⟩, by have := len_tl hn; omega⟩
      · rw [if_neg c3] at h
        by_cases c4 : rdH l = 3 ∧ nest = true
        · rw [if_pos c4] at h
          obtain ⟨l1, o1, q1, q2⟩ := rdB_inr h
          obtain ⟨y1, y2⟩ := h2 c4.2 _ _ _ _ q1
          unfold rdAcc at q2
          by_cases c5 : rdH l1 = 4
          · rw [if_pos c5] at q2
            cases q2
            have hn : ¬ rdH l = 0 := by rw [c4.1]; decide
            have := len_tl hn
            have := len_tl' l1
            exact ⟨y1.acc, by omega⟩
          · rw [if_neg c5] at q2
            cases q2
        · rw [if_neg c4] at h
          cases h
theorem pg_not {nest : Bool} {nt sum : rdP} (h1 : nest = true → rdPG nt) (h2 : rdPG sum) : rdPG (rdNotB nest nt sum) := by
  intro l o l2 o2 h
  unfold rdNotB at h
  by_cases c1 : rdH l = -9
  · rw [if_pos c1] at h
    by_cases c2 : nest = true
    · rw [if_pos c2] at h
      obtain ⟨l1, o1, q1, q2⟩ := rdB_inr h
      cases q2
      have hn : ¬ rdH l = 0 := by rw [c1]; decide
      obtain ⟨y1, y2⟩ := h1 c2 _ _ _ _ q1
      exact ⟨y1.op hn (fun n r => dep_un (Or.inl rfl)) ⟨by decide, by decide⟩, by have := len_tl hn; omega⟩
    · rw [if_neg c2] at h
      cases h
  · rw [if_neg c1] at h
    obtain ⟨l1, o1, q1, q2⟩ := rdB_inr h
    obtain ⟨y1, y2⟩ := h2 _ _ _ _ q1
    by_cases c2 : opC (rdH l1) = true
    · rw [if_pos c2] at q2
      obtain ⟨l3, o3, q3, q4⟩ := rdB_inr q2
      cases q4
      obtain ⟨y3, y4⟩ := h2 _ _ _ _ q3
      have hb := bnd_op (Or.inr c2)
      have := len_tl' l1
      exact ⟨y1.tr (y3.op hb.2 (fun n r => dep_bin (Or.inr c2)) hb.1), by omega⟩
    · rw [if_neg c2] at q2
      cases q2
      exact ⟨y1, y2⟩
theorem pg_L : ∀ d, rdPG (rdL d).1 ∧ rdPG (rdL d).2.1 ∧ rdPG (rdL d).2.2 := by
  have mk : ∀ (nest : Bool) (p : rdP × rdP × rdP), (nest = true → rdPG p.1 ∧ rdPG p.2.1 ∧ rdPG p.2.2) → rdPG (rdMk nest p).1 ∧ rdPG (rdMk nest p).2.1 ∧ rdPG (rdMk nest p).2.2 := by
    intro nest p h
    have k1 : rdPG (rdOneB nest p.1 p.2.2) := pg_one (fun z => (h z).1) (fun z => (h z).2.2)
    have k2 : rdPG (rdNotB nest p.2.1 (rdSumB (rdOneB nest p.1 p.2.2))) := pg_not (fun z => (h z).2.1) (pg_sum k1)
    exact ⟨k1, k2, pg_or k2⟩
  intro d
  induction d with
  | zero => exact mk _ _ (fun z => absurd z (by decide))
  | succ d ih => exact mk _ _ (fun _ => ih)
end
