/-! PURE, 45: two readers of a row of tokens: by descent, by ranks -/
section
abbrev rdT := Int32 × Int32 × Nat
abbrev rdO := List Int32
abbrev rdR := Sum Nat (List rdT × rdO)
abbrev rdP := List rdT → rdO → rdR
def rdH (l : List rdT) : Int32 := match l with
  | [] => 0
  | x :: _ => x.1
def rdV (l : List rdT) : Int32 := match l with
  | [] => 0
  | x :: _ => x.2.1
def rdQ (l : List rdT) : Nat := match l with
  | [] => 0
  | x :: _ => x.2.2
def rdN (t : Int32) : Bool := decide (-6 ≤ t ∧ t ≤ -1)
def rdB (r : rdR) (f : rdP) : rdR := match r with
  | Sum.inl q => Sum.inl q
  | Sum.inr p => f p.1 p.2
def rdAcc (t : Int32) : rdP := fun l o => if rdH l = t then Sum.inr (l.tail, o) else Sum.inl (rdQ l)
def rdOneB (nest : Bool) (one or : rdP) : rdP := fun l o => if rdH l = 2 then Sum.inr (l.tail, o ++ [rdV l]) else if rdN (rdH l) = true then Sum.inr (l.tail, o ++ [rdH l]) else if rdH l = -13 ∧ nest = true then rdB (one l.tail o) (fun l2 o2 => Sum.inr (l2, o2 ++ [-15])) else if rdH l = 3 ∧ nest = true then rdB (or l.tail o) (rdAcc 4) else Sum.inl (rdQ l)
def rdLoop (op : Int32 → Bool) (sub : rdP) : Nat → rdP
  | 0, l, o => Sum.inr (l, o)
  | f + 1, l, o => if op (rdH l) = true then rdB (sub l.tail o) (fun l2 o2 => rdLoop op sub f l2 (o2 ++ [rdH l])) else Sum.inr (l, o)
def opT (t : Int32) : Bool := decide (t = -14)
def opS (t : Int32) : Bool := decide (t = -12 ∨ t = -13)
def opA (t : Int32) : Bool := decide (t = -8)
def opR (t : Int32) : Bool := decide (t = -7)
def opC (t : Int32) : Bool := decide (t = -10 ∨ t = -11)
def rdTermB (one : rdP) : rdP := fun l o => rdB (one l o) (rdLoop opT one 160)
def rdSumB (one : rdP) : rdP := fun l o => rdB (rdTermB one l o) (rdLoop opS (rdTermB one) 160)
def rdNotB (nest : Bool) (nt sum : rdP) : rdP := fun l o => if rdH l = -9 then (if nest = true then rdB (nt l.tail o) (fun l2 o2 => Sum.inr (l2, o2 ++ [-9])) else Sum.inl (rdQ l)) else rdB (sum l o) (fun l2 o2 => if opC (rdH l2) = true then rdB (sum l2.tail o2) (fun l3 o3 => Sum.inr (l3, o3 ++ [rdH l2])) else Sum.inr (l2, o2))
def rdAndB (nt : rdP) : rdP := fun l o => rdB (nt l o) (rdLoop opA nt 160)
def rdOrB (nt : rdP) : rdP := fun l o => rdB (rdAndB nt l o) (rdLoop opR (rdAndB nt) 160)
def rdMk (nest : Bool) (p : rdP × rdP × rdP) : rdP × rdP × rdP := (rdOneB nest p.1 p.2.2, rdNotB nest p.2.1 (rdSumB (rdOneB nest p.1 p.2.2)), rdOrB (rdNotB nest p.2.1 (rdSumB (rdOneB nest p.1 p.2.2))))
def rdNone : rdP := fun _ _ => Sum.inl 0
def rdL : Nat → rdP × rdP × rdP
  | 0 => rdMk false (rdNone, rdNone, rdNone)
  | d + 1 => rdMk true (rdL d)
/-- by ranks -/
def rk (x : Int32) : Nat := if x = -7 then 1 else if x = -8 then 2 else if x = -9 then 3 else if x = -10 ∨ x = -11 then 4 else if x = -12 ∨ x = -13 then 5 else if x = -14 then 6 else if x = -15 then 7 else 0
def rkTop (w : rdO) : Nat := match w with
  | [] => 0
  | x :: _ => rk x
def lgo (r : Nat) : rdO → rdO → rdO × rdO
  | [], o => ([], o)
  | x :: w, o => if r ≤ rk x then lgo r w (o ++ [x]) else (x :: w, o)
def rkOpn : rdO → Nat
  | [] => 0
  | x :: w => (if x = -9 ∨ x = -15 ∨ x = -16 then 1 else 0) + rkOpn w
def rkBr : rdO → Bool
  | [] => false
  | x :: w => decide (x = -16) || rkBr w
def rkCmp : rdO → Bool
  | [] => false
  | x :: w => if opC x = true then true else if rk x ≤ 3 then false else rkCmp w
def isOp (t : Int32) : Bool := decide (t = -7 ∨ t = -8 ∨ t = -12 ∨ t = -13 ∨ t = -14)
abbrev rkK := Bool → Bool → rdO → rdO → rdR
def rkGo (k : rkK) (t : Int32) (w o : rdO) : rdR := k true (decide (t = -7 ∨ t = -8)) (t :: (lgo (rk t) w o).1) (lgo (rk t) w o).2
def rkB (k : rkK) (t v : Int32) (q : Nat) (mn : Bool) (w o : rdO) : rdR := if t = 2 then k false mn (lgo 7 w (o ++ [v])).1 (lgo 7 w (o ++ [v])).2 else if rdN t = true then k false mn (lgo 7 w (o ++ [t])).1 (lgo 7 w (o ++ [t])).2 else if t = -9 ∧ mn = true then (if rkOpn w = 5 then Sum.inl q else k true true (-9 :: w) o) else if t = 3 then (if rkOpn w = 5 then Sum.inl q else k true true (-16 :: w) o) else if t = -13 then (if rkOpn w = 5 then Sum.inl q else k true false (-15 :: w) o) else Sum.inl q
def rkA (k : rkK) (t : Int32) (q : Nat) (r : List rdT) (mn : Bool) (w o : rdO) : rdR := if isOp t = true then rkGo k t w o else if opC t = true then (if rkCmp w = true then Sum.inl q else rkGo k t w o) else if t = 4 ∧ rkBr w = true then k false mn (lgo 7 (lgo 1 w o).1.tail (lgo 1 w o).2).1 (lgo 7 (lgo 1 w o).1.tail (lgo 1 w o).2).2 else if t = 5 ∧ rkBr w = false then Sum.inr (r, (lgo 1 w o).2) else Sum.inl q
def rkRun : List rdT → Bool → Bool → rdO → rdO → rdR
  | [], _, _, _, _ => Sum.inl 0
  | x :: r, b, mn, w, o => if b = true then rkB (rkRun r) x.1 x.2.1 x.2.2 mn w o else rkA (rkRun r) x.1 x.2.2 r mn w o
def rA (l : List rdT) (w o : rdO) : rdR := rkRun l false false w o
def op5 (t : Int32) : Bool := decide (t = -10 ∨ t = -11 ∨ t = -12 ∨ t = -13 ∨ t = -14)
def rK (l : List rdT) (w o : rdO) : rdR := if op5 (rdH l) = true then Sum.inl (rdQ l) else rA l w o
theorem rdB_as (r : rdR) (f g : rdP) : rdB (rdB r f) g = rdB r (fun l o => rdB (f l o) g) := by
  cases r <;> rfl
theorem rdB_cg {r : rdR} {f g : rdP} (h : ∀ l o, r = Sum.inr (l, o) → f l o = g l o) : rdB r f = rdB r g := by
  match r, h with
  | Sum.inl _, _ => rfl
  | Sum.inr (l, o), h => exact h l o rfl
theorem rdB_inr {r : rdR} {f : rdP} {l2 : List rdT} {o2 : rdO} (h : rdB r f = Sum.inr (l2, o2)) : ∃ l1 o1, r = Sum.inr (l1, o1) ∧ f l1 o1 = Sum.inr (l2, o2) := by
  match r, h with
  | Sum.inl _, h => exact absurd h (by simp [rdB])
  | Sum.inr (l, o), h => exact ⟨l, o, rfl, h⟩
/-- the tokens of a kind -/
theorem cs_nm {t : Int32} (h : rdN t = true) : (0 ≤ t ∨ -6 ≤ t ∧ t ≤ -1) ∧ ¬ t = 2 ∧ ¬ t = 3 ∧ ¬ t = -13 ∧ ¬ t = -9 := by
  unfold rdN at h
  have h := of_decide_eq_true h
  refine ⟨Or.inr h, ?_, ?_, ?_, ?_⟩ <;> rintro rfl <;> exact absurd h (by decide)
theorem op_of {t : Int32} (h : isOp t = true) : t = -7 ∨ t = -8 ∨ t = -12 ∨ t = -13 ∨ t = -14 := of_decide_eq_true h
theorem opC_of {t : Int32} (h : opC t = true) : t = -10 ∨ t = -11 := of_decide_eq_true h
theorem lgo_top {r : Nat} {w o : rdO} (h : rkTop w < r) : lgo r w o = (w, o) := by
  match w, h with
  | [], _ => rfl
  | x :: w, h =>
    rw [lgo, if_neg]
    exact fun z => absurd (show rk x < r from h) (by omega)
theorem lgo_in {r : Nat} {x : Int32} {w o : rdO} (h : r ≤ rk x) : lgo r (x :: w) o = lgo r w (o ++ [x]) := by
  rw [lgo, if_pos h]
theorem run_mn : ∀ (l : List rdT) (mn : Bool) (w o : rdO), rkRun l false mn w o = rA l w o := by
  intro l
  induction l with
  | nil => intro mn w o; rfl
  | cons x r ih =>
    intro mn w o
    show rkA (rkRun r) x.1 x.2.2 r mn w o = rkA (rkRun r) x.1 x.2.2 r false w o
    unfold rkA
    rw [ih mn, ← ih false]
/-- what waits is let go, if the next token lets it -/
theorem flush {x : Int32} {l : List rdT} {w o : rdO} (h0 : 1 ≤ rk x) (hx : ¬ x = -16) (h1 : isOp (rdH l) = true → rk (rdH l) ≤ rk x) (h2 : opC (rdH l) = true → 4 ≤ rk x ∧ rkCmp (x :: w) = rkCmp w) : rA l (x :: w) o = rA l w (o ++ [x]) := by
  match l, h1, h2 with
  | [], _, _ => rfl
  | y :: r, h1, h2 =>
    have h1 : isOp y.1 = true → rk y.1 ≤ rk x := h1
    have h2 : opC y.1 = true → 4 ≤ rk x ∧ rkCmp (x :: w) = rkCmp w := h2
    show rkA (rkRun r) y.1 y.2.2 r false (x :: w) o = rkA (rkRun r) y.1 y.2.2 r false w (o ++ [x])
    unfold rkA rkGo
    have hb : rkBr (x :: w) = rkBr w := by
      rw [rkBr, decide_eq_false hx, Bool.false_or]
    rw [hb, lgo_in h0]
    by_cases c1 : isOp y.1 = true
    · rw [if_pos c1, if_pos c1, lgo_in (h1 c1)]
    · rw [if_neg c1, if_neg c1]
      by_cases c2 : opC y.1 = true
      · obtain ⟨g1, g2⟩ := h2 c2
        have e4 : rk y.1 = 4 := by
          rcases opC_of c2 with e | e <;> rw [e] <;> rfl
        rw [if_pos c2, if_pos c2, g2, e4, lgo_in g1]
      · rw [if_neg c2, if_neg c2]
theorem rA_op {l : List rdT} {w o : rdO} (h : isOp (rdH l) = true) (ht : rkTop w < rk (rdH l)) : rA l w o = rkRun l.tail true (decide (rdH l = -7 ∨ rdH l = -8)) (rdH l :: w) o := by
  match l, h, ht with
  | [], h, _ => exact absurd h (by decide)
  | y :: r, h, ht =>
    show rkA (rkRun r) y.1 y.2.2 r false w o = rkRun r true (decide (y.1 = -7 ∨ y.1 = -8)) (y.1 :: w) o
    unfold rkA rkGo
    have ht : rkTop w < rk y.1 := ht
    have h : isOp y.1 = true := h
    rw [if_pos h, lgo_top ht]
theorem rA_cmp {l : List rdT} {w o : rdO} (h : opC (rdH l) = true) (ht : rkTop w < 4) (hc : rkCmp w = false) : rA l w o = rkRun l.tail true false (rdH l :: w) o := by
  match l, h with
  | [], h => exact absurd h (by decide)
  | y :: r, h =>
    show rkA (rkRun r) y.1 y.2.2 r false w o = rkRun r true false (y.1 :: w) o
    unfold rkA rkGo
    have h : opC y.1 = true := h
    have e : isOp y.1 = false ∧ rk y.1 = 4 ∧ decide (y.1 = -7 ∨ y.1 = -8) = false := by
      rcases opC_of h with e | e <;> rw [e] <;> exact ⟨rfl, rfl, rfl⟩
    rw [if_neg (by rw [e.1]; decide), if_pos h, hc, if_neg (by decide), e.2.1, lgo_top ht, e.2.2]
theorem rA_cmp2 {l : List rdT} {w o : rdO} (h : opC (rdH l) = true) (hc : rkCmp w = true) : rA l w o = Sum.inl (rdQ l) := by
  match l, h with
  | [], h => exact absurd h (by decide)
  | y :: r, h =>
    show rkA (rkRun r) y.1 y.2.2 r false w o = Sum.inl y.2.2
    unfold rkA
    have h : opC y.1 = true := h
    have e : isOp y.1 = false := by
      rcases opC_of h with e | e <;> rw [e] <;> rfl
    rw [if_neg (by rw [e]; decide), if_pos h, if_pos hc]
theorem rA_no {l : List rdT} {w o : rdO} (h1 : isOp (rdH l) = false) (h2 : opC (rdH l) = false) (h3 : rdH l = 4 → rkBr w = false) (h4 : rdH l = 5 → rkBr w = true) : rA l w o = Sum.inl (rdQ l) := by
  match l, h1, h2, h3, h4 with
  | [], _, _, _, _ => rfl
  | y :: r, h1, h2, h3, h4 =>
    show rkA (rkRun r) y.1 y.2.2 r false w o = Sum.inl y.2.2
    have h1 : isOp y.1 = false := h1
    have h2 : opC y.1 = false := h2
    unfold rkA
    rw [h1, h2, if_neg (by decide), if_neg (by decide), if_neg, if_neg]
    · intro z
      have q := h4 z.1
      rw [z.2] at q
      exact absurd q (by decide)
    · intro z
      have q := h3 z.1
      rw [z.2] at q
      exact absurd q (by decide)
theorem rA_cl {l : List rdT} {w o : rdO} (h : rdH l = 4) : rA l (-16 :: w) o = rA l.tail (lgo 7 w o).1 (lgo 7 w o).2 := by
  match l, h with
  | [], h => exact absurd h (by decide)
  | y :: r, h =>
    show rkA (rkRun r) y.1 y.2.2 r false (-16 :: w) o = rA r (lgo 7 w o).1 (lgo 7 w o).2
    have h : y.1 = 4 := h
    unfold rkA
    have hb : rkBr (-16 :: w) = true := rfl
    rw [h, if_neg (by decide), if_neg (by decide), if_pos ⟨rfl, hb⟩, lgo_top (show rkTop (-16 :: w) < 1 from Nat.one_pos)]
    rfl
theorem rA_sc {l : List rdT} {o : rdO} (h : rdH l = 5) : rA l [] o = Sum.inr (l.tail, o) := by
  match l, h with
  | [], h => exact absurd h (by decide)
  | y :: r, h =>
    show rkA (rkRun r) y.1 y.2.2 r false [] o = Sum.inr (r, o)
    have h : y.1 = 5 := h
    unfold rkA
    rw [h, if_neg (by decide), if_neg (by decide), if_neg (by decide), if_pos ⟨rfl, rfl⟩]
    rfl
theorem op5_of {t : Int32} (h : op5 t = true) : t = -10 ∨ t = -11 ∨ t = -12 ∨ t = -13 ∨ t = -14 := of_decide_eq_true h
theorem op5_C {t : Int32} (h : op5 t = false) : opC t = false ∧ (isOp t = true → t = -7 ∨ t = -8) := by
  have h := of_decide_eq_false h
  refine ⟨decide_eq_false (fun z => h (z.elim Or.inl (fun y => Or.inr (Or.inl y)))), fun z => ?_⟩
  rcases op_of z with e | e | e | e | e
  · exact Or.inl e
  · exact Or.inr e
  · exact absurd (Or.inr (Or.inr (Or.inl e))) h
  · exact absurd (Or.inr (Or.inr (Or.inr (Or.inl e)))) h
  · exact absurd (Or.inr (Or.inr (Or.inr (Or.inr e)))) h
theorem rK_n {l : List rdT} {w o : rdO} (h : op5 (rdH l) = false) : rK l w o = rA l w o := by
  unfold rK
  rw [if_neg (by rw [h]; decide)]
theorem rK_y {l : List rdT} {w o : rdO} (h : op5 (rdH l) = true) : rK l w o = Sum.inl (rdQ l) := by
  unfold rK
  rw [if_pos h]
/-- behind a NOT, what waits is let go -/
theorem flushK {x : Int32} {l : List rdT} {w o : rdO} (hx : x = -7 ∨ x = -8 ∨ x = -9) (h7 : x = -7 → ¬ rdH l = -8) : rK l (x :: w) o = rK l w (o ++ [x]) := by
  cases c : op5 (rdH l) with
  | true => rw [rK_y c, rK_y c]
  | false =>
    rw [rK_n c, rK_n c]
    obtain ⟨c1, c2⟩ := op5_C c
    refine flush ?_ ?_ (fun z => ?_) (fun z => absurd z (by rw [c1]; decide))
    · rcases hx with e | e | e <;> rw [e] <;> decide
    · rcases hx with e | e | e <;> rw [e] <;> decide
    · rcases c2 z with e | e
      · rcases hx with e2 | e2 | e2 <;> rw [e, e2] <;> decide
      · rcases hx with e2 | e2 | e2
        · exact absurd e (h7 e2)
        · rw [e, e2]; decide
        · rw [e, e2]; decide
end
