/-! PURE, 17: what a rule's part comes to -/
section
variable {S T S' T' : Mem} {a1 a2 a3 a4 a5 : Int32}
def jn (s a b : Int32) : Int32 := if s = -13 then a - b else if s = -12 then a + b else if s = -11 then bI (a = b) else if s = -10 then bI (¬ b ≤ a) else if s = -9 then a * b else if s = -8 then bI (¬ a = 0 ∧ ¬ b = 0) else if s = -7 then (if a = 0 ∧ b = 0 then 0 else 1) else a * b
def tu (s a : Int32) : Int32 := if s = -15 then -a else bI (a = 0)
theorem x_joined (s a b : Int32) (S : Mem) (post : Int32 → Mem → Prop) (h : post (jn s a b) S) : w_X2_joined s a b S post := by
  unfold w_X2_joined w_X2_joined_93 w_X2_joined_82 w_X2_joined_102 w_X2_joined_70 w_X2_joined_71 w_X2_joined_52 w_X2_joined_57
  unfold jn at h
  by_cases c1 : s = -13
  · rw [if_pos c1] at h
    exact ⟨fun _ => h, fun z => absurd c1 z⟩
  rw [if_neg c1] at h
  refine ⟨fun z => absurd z c1, fun _ => ?_⟩
  by_cases c2 : s = -12
  · rw [if_pos c2] at h
    exact ⟨fun _ => h, fun z => absurd c2 z⟩
  rw [if_neg c2] at h
  refine ⟨fun z => absurd z c2, fun _ => ?_⟩
  by_cases c3 : s = -11
  · rw [if_pos c3] at h
    exact ⟨fun _ => ⟨fun q => by rw [bI_f q] at h; exact h, fun q => by rw [bI_t q] at h; exact h⟩, fun z => absurd c3 z⟩
  rw [if_neg c3] at h
  refine ⟨fun z => absurd z c3, fun _ => ?_⟩
  by_cases c4 : s = -10
  · rw [if_pos c4] at h
    exact ⟨fun _ => ⟨fun q => by rw [bI_f (fun z => z q)] at h; exact h, fun q => by rw [bI_t q] at h; exact h⟩, fun z => absurd c4 z⟩
  rw [if_neg c4] at h
  refine ⟨fun z => absurd z c4, fun _ => ?_⟩
  by_cases c5 : s = -9
  · rw [if_pos c5] at h
    exact ⟨fun _ => h, fun z => absurd c5 z⟩
  rw [if_neg c5] at h
  refine ⟨fun z => absurd z c5, fun _ => ?_⟩
  by_cases c6 : s = -8
  · rw [if_pos c6] at h
    exact ⟨fun _ => ⟨fun q => by rw [bI_f (fun z => z.1 q)] at h; exact h, fun q => ⟨fun q2 => by rw [bI_f (fun z => z.2 q2)] at h; exact h, fun q2 => by rw [bI_t ⟨q, q2⟩] at h; exact h⟩⟩, fun z => absurd c6 z⟩
  rw [if_neg c6] at h
  refine ⟨fun z => absurd z c6, fun _ => ?_⟩
  by_cases c7 : s = -7
  · rw [if_pos c7] at h
    exact ⟨fun _ => ⟨fun q => by rw [if_neg (fun z => q z.1)] at h; exact h, fun q => ⟨fun q2 => by rw [if_pos ⟨q, q2⟩] at h; exact h, fun q2 => by rw [if_neg (fun z => q2 z.2)] at h; exact h⟩⟩, fun z => absurd c7 z⟩
  rw [if_neg c7] at h
  exact ⟨fun z => absurd z c7, fun _ => h⟩
def bin (s : Int32) : Prop := s = -7 ∨ s = -8 ∨ s = -10 ∨ s = -11 ∨ s = -12 ∨ s = -13 ∨ s = -14
theorem m_done {s a b : Int32} (hs : bin s) (S : Mem) (post : Int32 → Mem → Prop) (h : post (jn s a b) S) : w_X8_done (trS s) a b S post := by
  unfold w_X8_done w_X8_done_93 w_X8_done_82 w_X8_done_102 w_X8_done_70 w_X8_done_71 w_X8_done_52 w_X8_done_57
  rcases hs with e | e | e | e | e | e | e <;> subst e
  · have h : post (if a = 0 ∧ b = 0 then 0 else 1) S := h
    rw [show trS (-7) = 10 by decide]
    exact ⟨fun _ => ⟨fun q => by rw [if_neg (fun z => q z.1)] at h; exact h, fun q => ⟨fun q2 => by rw [if_pos ⟨q, q2⟩] at h; exact h, fun q2 => by rw [if_neg (fun z => q2 z.2)] at h; exact h⟩⟩, fun z => absurd rfl z⟩
  · have h : post (bI (¬ a = 0 ∧ ¬ b = 0)) S := h
    rw [show trS (-8) = 11 by decide]
    exact ⟨fun z => absurd z (by decide), fun _ => ⟨fun _ => ⟨fun q => by rw [bI_f (fun z => z.1 q)] at h; exact h, fun q => ⟨fun q2 => by rw [bI_f (fun z => z.2 q2)] at h; exact h, fun q2 => by rw [bI_t ⟨q, q2⟩] at h; exact h⟩⟩, fun z => absurd rfl z⟩⟩
  · have h : post (bI (¬ b ≤ a)) S := h
    rw [show trS (-10) = 13 by decide]
    exact ⟨fun z => absurd z (by decide), fun _ => ⟨fun z => absurd z (by decide), fun _ => ⟨fun z => absurd z (by decide), fun _ => ⟨fun _ => ⟨fun q => by rw [bI_f (fun z => z q)] at h; exact h, fun q => by rw [bI_t q] at h; exact h⟩, fun z => absurd rfl z⟩⟩⟩⟩
  · have h : post (bI (a = b)) S := h
    rw [show trS (-11) = 14 by decide]
    exact ⟨fun z => absurd z (by decide), fun _ => ⟨fun z => absurd z (by decide), fun _ => ⟨fun z => absurd z (by decide), fun _ => ⟨fun z => absurd z (by decide), fun _ => ⟨fun _ => ⟨fun q => by rw [bI_f q] at h; exact h, fun q => by rw [bI_t q] at h; exact h⟩, fun z => absurd rfl z⟩⟩⟩⟩⟩
  · have h : post (a + b) S := h
    rw [show trS (-12) = 15 by decide]
    exact ⟨fun z => absurd z (by decide), fun _ => ⟨fun z => absurd z (by decide), fun _ => ⟨fun z => absurd z (by decide), fun _ => ⟨fun z => absurd z (by decide), fun _ => ⟨fun z => absurd z (by decide), fun _ => ⟨fun _ => h, fun z => absurd rfl z⟩⟩⟩⟩⟩⟩
  · have h : post (a - b) S := h
    rw [show trS (-13) = 16 by decide]
    exact ⟨fun z => absurd z (by decide), fun _ => ⟨fun z => absurd z (by decide), fun _ => ⟨fun z => absurd z (by decide), fun _ => ⟨fun z => absurd z (by decide), fun _ => ⟨fun z => absurd z (by decide), fun _ => ⟨fun z => absurd z (by decide), fun _ => ⟨fun _ => h, fun z => absurd rfl z⟩⟩⟩⟩⟩⟩⟩
  · have h : post (a * b) S := h
    rw [show trS (-14) = 17 by decide]
    exact ⟨fun z => absurd z (by decide), fun _ => ⟨fun z => absurd z (by decide), fun _ => ⟨fun z => absurd z (by decide), fun _ => ⟨fun z => absurd z (by decide), fun _ => ⟨fun z => absurd z (by decide), fun _ => ⟨fun z => absurd z (by decide), fun _ => ⟨fun z => absurd z (by decide), fun _ => h⟩⟩⟩⟩⟩⟩⟩
theorem stp {s : Int32} (h : bnd s (-15) 9999) : 0 ≤ s ∨ (s = -1 ∨ s = -2 ∨ s = -3 ∨ s = -4 ∨ s = -5 ∨ s = -6) ∨ (s = -9 ∨ s = -15) ∨ bin s := by
  obtain ⟨h0, h1⟩ := h
  unfold bin
  rw [i_le, i_eq, i_eq, i_eq, i_eq, i_eq, i_eq, i_eq, i_eq, i_eq, i_eq, i_eq, i_eq, i_eq, i_eq, i_eq, I0, Im1, show (-2 : Int32).toInt = -2 by decide, show (-3 : Int32).toInt = -3 by decide, show (-4 : Int32).toInt = -4 by decide, show (-5 : Int32).toInt = -5 by decide, show (-6 : Int32).toInt = -6 by decide, show (-7 : Int32).toInt = -7 by decide, show (-8 : Int32).toInt = -8 by decide, show (-9 : Int32).toInt = -9 by decide, show (-10 : Int32).toInt = -10 by decide, show (-11 : Int32).toInt = -11 by decide, show (-12 : Int32).toInt = -12 by decide, show (-13 : Int32).toInt = -13 by decide, show (-14 : Int32).toInt = -14 by decide, show (-15 : Int32).toInt = -15 by decide]
  omega
def evF (nm : Nat → Int32) : List Int32 → Nat → (Nat → Int32) → Int32
  | [], _, f => f 0
  | s :: l, n, f => if 0 ≤ s then evF nm l (n + 1) (upd f n s) else if -6 ≤ s then evF nm l (n + 1) (upd f n (nm (-1 - s).toNatClampNeg)) else if s = -9 ∨ s = -15 then evF nm l n (upd f (n - 1) (tu s (f (n - 1)))) else evF nm l (n - 1) (upd f (n - 2) (jn s (f (n - 2)) (f (n - 1))))
theorem up_cg {f g : Nat → Int32} {n k : Nat} {x y : Int32} (h : ∀ j, j < n → f j = g j) (e : x = y) : ∀ j, j < n → upd f k x j = upd g k y j := by
  intro j hj
  subst e
  by_cases c : j = k
  · rw [c, up_s, up_s]
  · rw [up_n c, up_n c]; exact h j hj
theorem up_cg1 {f g : Nat → Int32} {n : Nat} {x y : Int32} (h : ∀ j, j < n → f j = g j) (e : x = y) : ∀ j, j < n + 1 → upd f n x j = upd g n y j := by
  intro j hj
  subst e
  by_cases c : j = n
  · rw [c, up_s, up_s]
  · rw [up_n c, up_n c]; exact h j (by omega)
theorem evF_cg {nm nm' : Nat → Int32} (hn : ∀ j, j < 6 → nm j = nm' j) : ∀ (l : List Int32) (n m : Nat) (f g : Nat → Int32), (∀ j, j < n → f j = g j) → (∀ s, s ∈ l → bnd s (-15) 9999) → dep l n = some (m + 1) → evF nm l n f = evF nm' l n g := by
  intro l
  induction l with
  | nil =>
    intro n m f g h hb hd
    have hd : some n = some (m + 1) := hd
    have : n = m + 1 := by injection hd
    exact h 0 (by omega)
  | cons s l ih =>
    intro n m f g h hb hd
    have hb' := fun s hs => hb s (List.mem_cons_of_mem _ hs)
    have hs := stp (hb s (List.mem_cons_self ..))
    rw [evF, evF]
    rw [dep] at hd
    by_cases c1 : 0 ≤ s
    · rw [if_pos (Or.inl c1)] at hd
      rw [if_pos c1, if_pos c1]
      exact ih _ m _ _ (up_cg1 h rfl) hb' hd
    rw [if_neg c1, if_neg c1]
    by_cases c2 : -6 ≤ s ∧ s ≤ -1
    · rw [if_pos (Or.inr c2)] at hd
      rw [if_pos c2.1, if_pos c2.1]
      refine ih _ m _ _ (up_cg1 h (hn _ ?_)) hb' hd
      have h6 : s = -1 ∨ s = -2 ∨ s = -3 ∨ s = -4 ∨ s = -5 ∨ s = -6 := by
        rcases hs with q | q | q | q
        · exact absurd q c1
        · exact q
        · rcases q with q | q <;> subst q <;> exact absurd c2.1 (by decide)
        · unfold bin at q
          rcases q with q | q | q | q | q | q | q <;> subst q <;> exact absurd c2.1 (by decide)
      rcases h6 with q | q | q | q | q | q <;> subst q <;> decide
    have c2' : ¬ -6 ≤ s := by
      intro q
      refine c2 ⟨q, ?_⟩
      rw [i_le] at c1 ⊢
      rw [I0] at c1
      rw [Im1]
      omega
    rw [if_neg (fun z => z.elim c1 c2)] at hd
    rw [if_neg c2', if_neg c2']
    by_cases c3 : s = -9 ∨ s = -15
    · rw [if_pos c3] at hd
      rw [if_pos c3, if_pos c3]
      by_cases c4 : 1 ≤ n
      · rw [if_pos c4] at hd
        exact ih _ m _ _ (up_cg h (by rw [h _ (by omega)])) hb' hd
      · rw [if_neg c4] at hd
        exact absurd hd (by simp)
    · rw [if_neg c3] at hd
      rw [if_neg c3, if_neg c3]
      by_cases c4 : -15 ≤ s
      · rw [if_pos c4] at hd
        by_cases c5 : 2 ≤ n
        · rw [if_pos c5] at hd
          exact ih _ m _ _ (fun j hj => up_cg h (by rw [h _ (by omega), h _ (by omega)]) j (by omega)) hb' hd
        · rw [if_neg c5] at hd
          exact absurd hd (by simp)
      · rw [if_neg c4] at hd
        exact absurd hd (by simp)
theorem seg_nil (f : Nat → Int32) (a : Nat) : seg f a a = [] := by
  unfold seg
  rw [Nat.sub_self]
  rfl
theorem seg_cons (f : Nat → Int32) {a b : Nat} (h : a < b) : seg f a b = f a :: seg f (a + 1) b := by
  unfold seg
  rw [show b - a = (b - (a + 1)) + 1 by omega, List.range_succ_eq_map, List.map_cons, List.map_map]
  congr 1
  refine List.map_congr_left (fun i _ => ?_)
  show f (a + (i + 1)) = f (a + 1 + i)
  rw [show a + (i + 1) = a + 1 + i by omega]
theorem x_turnedRound (s a : Int32) (S : Mem) (post : Int32 → Mem → Prop) (h : post (tu s a) S) : w_X2_turnedRound s a S post := by
  unfold w_X2_turnedRound w_X2_turnedRound_18
  unfold tu at h
  refine ⟨fun c => ?_, fun c => ?_⟩
  · rw [if_neg c] at h
    exact ⟨fun q => by rw [bI_f q] at h; exact h, fun q => by rw [bI_t q] at h; exact h⟩
  · rw [if_pos c] at h; exact h
end
