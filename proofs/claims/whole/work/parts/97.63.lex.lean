/-! PURE, 48: tokens -/
section
variable {S T S' T' : Mem} {a1 a2 a3 a4 a5 : Int32}
def lxS (tp : Nat → Int32) : Nat → Nat → Nat
  | 0, p => p
  | f + 1, p => if tp p = 32 ∨ tp p = 10 then lxS tp f (p + 1) else p
def lxR (tp : Nat → Int32) (a b : Int32) : Nat → Nat → Nat
  | 0, p => p
  | f + 1, p => if a ≤ tp p ∧ tp p ≤ b then lxR tp a b f (p + 1) else p
def lxQ (tp : Nat → Int32) (n p : Nat) : Nat := lxS tp (n - p) p
def lxEq (tp : Nat → Int32) (n q : Nat) : Nat := if n ≤ q then q else if 97 ≤ tp q ∧ tp q ≤ 122 then lxR tp 97 122 (n - q) q else if 48 ≤ tp q ∧ tp q ≤ 57 then lxR tp 48 57 (n - q) q else q + 1
def lxE (tp : Nat → Int32) (n p : Nat) : Nat := lxEq tp n (lxQ tp n p)
def lxW (w : List Int32) : Int32 := if w = strByt.getD 1 [] then 6 else if w = strByt.getD 2 [] then 7 else if w = strByt.getD 3 [] then 8 else if w = strByt.getD 4 [] then -7 else if w = strByt.getD 5 [] then -8 else if w = strByt.getD 6 [] then -9 else if w = strByt.getD 7 [] then -1 else if w = strByt.getD 8 [] then -2 else if w = strByt.getD 9 [] then -3 else if w = strByt.getD 10 [] then -4 else if w = strByt.getD 11 [] then -5 else if w = strByt.getD 12 [] then -6 else 1
def lxG (c : Int32) : Int32 := if c = 40 then 3 else if c = 41 then 4 else if c = 42 then -14 else if c = 43 then -12 else if c = 45 then -13 else if c = 59 then 5 else if c = 60 then -10 else if c = 61 then -11 else 1
def lxTq (tp : Nat → Int32) (n q : Nat) : Int32 := if n ≤ q then 0 else if 97 ≤ tp q ∧ tp q ≤ 122 then lxW (seg tp q (lxEq tp n q)) else if 48 ≤ tp q ∧ tp q ≤ 57 then (if 4 < lxEq tp n q - q then 1 else 2) else lxG (tp q)
def lxT (tp : Nat → Int32) (n p : Nat) : Int32 := lxTq tp n (lxQ tp n p)
def lxN (tp : Nat → Int32) : Nat → Nat → Int32 → Int32
  | 0, _, a => a
  | f + 1, p, a => lxN tp f (p + 1) (a * 10 + tp p - 48)
def lxVq (tp : Nat → Int32) (n q : Nat) : Int32 := lxN tp (lxEq tp n q - q) q 0
def lxV (tp : Nat → Int32) (n p : Nat) : Int32 := lxVq tp n (lxQ tp n p)
def lxL (tp : Nat → Int32) (n : Nat) : Nat → Nat → List rdT
  | 0, _ => []
  | f + 1, p => (lxT tp n p, lxV tp n p, lxQ tp n p) :: (if lxT tp n p = 0 then [] else lxL tp n f (lxE tp n p))
theorem lxS_b {tp : Nat → Int32} : ∀ (f p : Nat), p ≤ lxS tp f p ∧ lxS tp f p ≤ p + f := by
  intro f
  induction f with
  | zero => intro p; exact ⟨Nat.le_refl _, Nat.le_refl _⟩
  | succ f ih =>
    intro p
    rw [lxS]
    by_cases c : tp p = 32 ∨ tp p = 10
    · rw [if_pos c]
      have := ih (p + 1)
      omega
    · rw [if_neg c]; omega
theorem lxR_b {tp : Nat → Int32} {a b : Int32} : ∀ (f p : Nat), p ≤ lxR tp a b f p ∧ lxR tp a b f p ≤ p + f := by
  intro f
  induction f with
  | zero => intro p; exact ⟨Nat.le_refl _, Nat.le_refl _⟩
  | succ f ih =>
    intro p
    rw [lxR]
    by_cases c : a ≤ tp p ∧ tp p ≤ b
    · rw [if_pos c]
      have := ih (p + 1)
      omega
    · rw [if_neg c]; omega
theorem lxR_1 {tp : Nat → Int32} {a b : Int32} {f p : Nat} (hf : 1 ≤ f) (h : a ≤ tp p ∧ tp p ≤ b) : p + 1 ≤ lxR tp a b f p := by
  match f, hf with
  | f + 1, _ =>
    rw [lxR, if_pos h]
    exact (lxR_b f (p + 1)).1
theorem lxR_in {tp : Nat → Int32} {a b : Int32} : ∀ (f p i : Nat), p ≤ i → i < lxR tp a b f p → a ≤ tp i ∧ tp i ≤ b := by
  intro f
  induction f with
  | zero =>
    intro p i h1 h2
    rw [lxR] at h2
    omega
  | succ f ih =>
    intro p i h1 h2
    rw [lxR] at h2
    by_cases c : a ≤ tp p ∧ tp p ≤ b
    · rw [if_pos c] at h2
      by_cases e : i = p
      · rw [e]; exact c
      · exact ih (p + 1) i (by omega) h2
    · rw [if_neg c] at h2
      omega
theorem lxQ_b {tp : Nat → Int32} {n p : Nat} (h : p ≤ n) : p ≤ lxQ tp n p ∧ lxQ tp n p ≤ n := by
  have := lxS_b (tp := tp) (n - p) p
  unfold lxQ
  omega
theorem lxEq_b {tp : Nat → Int32} {n q : Nat} (h : q ≤ n) : q ≤ lxEq tp n q ∧ lxEq tp n q ≤ n ∧ (q < n → q < lxEq tp n q) := by
  unfold lxEq
  by_cases c : n ≤ q
  · rw [if_pos c]; omega
  · rw [if_neg c]
    by_cases c1 : 97 ≤ tp q ∧ tp q ≤ 122
    · rw [if_pos c1]
      have h1 := lxR_b (tp := tp) (a := 97) (b := 122) (n - q) q
      have h2 := lxR_1 (tp := tp) (f := n - q) (by omega) c1
      omega
    · rw [if_neg c1]
      by_cases c2 : 48 ≤ tp q ∧ tp q ≤ 57
      · rw [if_pos c2]
        have h1 := lxR_b (tp := tp) (a := 48) (b := 57) (n - q) q
        have h2 := lxR_1 (tp := tp) (f := n - q) (by omega) c2
        omega
      · rw [if_neg c2]; omega
/-- the class's side -/
theorem x_eorLoop {post : Int32 → Mem → Prop} {a b : Int32} {n : Nat} (hn : S 15 2 = nI n) (h160 : n ≤ 160) : ∀ (f p : Nat), p + f = n → post (nI (lxR (S 16) a b f p)) S → w_X1_endOfRun_5 post (f + 1) a b (nI p) S := by
  intro f
  induction f with
  | zero =>
    intro p hp hq
    rw [w_X1_endOfRun_5, hn]
    unfold w_X1_endOfRun_33
    have e : p = n := by omega
    rw [e]
    rw [e] at hq
    exact ⟨fun _ => hq, fun z => absurd (nI_le (Nat.le_refl _) (by omega)) z⟩
  | succ f ih =>
    intro p hp hq
    rw [w_X1_endOfRun_5, hn]
    unfold w_X1_endOfRun_33
    rw [lxR] at hq
    refine ⟨fun z => absurd z (nI_ge (by omega) (by omega)), fun _ => ⟨nI_in (by omega) (by decide), ?_⟩⟩
    rw [nI_clamp (by omega), x_within]
    by_cases c : a ≤ S 16 p ∧ S 16 p ≤ b
    · rw [if_pos c] at hq
      rw [bI_t c]
      refine ⟨fun z => absurd z (by decide), fun _ z2 e2 => ?_⟩
      rw [e2, nI_1]
      exact ih _ (by omega) hq
    · rw [if_neg c] at hq
      rw [bI_f c]
      exact ⟨fun _ => hq, fun z => absurd rfl z⟩
theorem x_eor {post : Int32 → Mem → Prop} {a b : Int32} {n p : Nat} (hn : S 15 2 = nI n) (h160 : n ≤ 160) (h4 : S 15 4 = nI p) (hp : p ≤ n) (hq : post (nI (lxR (S 16) a b (n - p) p)) S) : w_X1_endOfRun a b S post := by
  unfold w_X1_endOfRun
  intro z1 e1
  rw [e1, h4]
  exact ⟨_, x_eorLoop hn h160 (n - p) p (by omega) hq⟩
theorem x_numLoop {post : Int32 → Mem → Prop} {e : Nat} (h160 : e ≤ 160) : ∀ (f p : Nat) (S1 : Mem), p + f = e → (S1 15 5 = nI e ∧ ∀ c, c ≠ 15 → S1 c = S c) → (∀ j, j ≠ 6 → S1 15 j = S 15 j) → (∀ S2 : Mem, (∀ c, c ≠ 15 → S2 c = S c) → (∀ j, j ≠ 6 → S2 15 j = S 15 j) → S2 15 6 = lxN (S 16) f p (S1 15 6) → post 2 S2) → w_X1_numberToken_25 post (f + 1) (nI p) S1 := by
  intro f
  induction f with
  | zero =>
    intro p S1 hp h5 hj hq
    rw [w_X1_numberToken_25, h5.1]
    have e : p = e := by omega
    rw [e]
    exact ⟨fun _ => hq S1 h5.2 hj rfl, fun z => absurd (nI_le (Nat.le_refl _) (by omega)) z⟩
  | succ f ih =>
    intro p S1 hp h5 hj hq
    rw [w_X1_numberToken_25, h5.1]
    refine ⟨fun z => absurd z (nI_ge (by omega) (by omega)), fun _ => ⟨nI_in (by omega) (by decide), fun S2 e2 z2 ez => ?_⟩⟩
    rw [nI_clamp (by omega), h5.2 16 (by decide)] at e2
    rw [e2, ez, nI_1]
    refine ih _ _ (by omega) ⟨?_, fun c hc => ?_⟩ (fun j hj2 => ?_) (fun S3 g1 g2 g3 => hq S3 g1 g2 ?_)
    · rw [ms_s, up_n (by decide)]; exact h5.1
    · rw [ms_n hc]; exact h5.2 c hc
    · rw [ms_s, up_n hj2]; exact hj j hj2
    · rw [g3, ms_s, up_s, lxN]
theorem seg_len (tp : Nat → Int32) (q e : Nat) : (seg tp q e).length = e - q := by
  unfold seg
  rw [List.length_map, List.length_range]
theorem seg_get {tp : Nat → Int32} {q e i : Nat} (h : i < e - q) : (seg tp q e).getD i 0 = tp (q + i) := by
  unfold seg
  simp [List.getD, h]
theorem seg_ne {tp : Nat → Int32} {q e i : Nat} {w : List Int32} (h : i < e - q) (hw : tp (q + i) ≠ w.getD i 0) : ¬ seg tp q e = w := by
  intro z
  rw [← z, seg_get h] at hw
  exact hw rfl
theorem seg_is {tp : Nat → Int32} {q e : Nat} {w : List Int32} (hl : e - q = w.length) (h : ∀ i, i < w.length → tp (q + i) = w.getD i 0) : seg tp q e = w := by
  refine List.ext_getElem (by rw [seg_len]; exact hl) (fun i h1 h2 => ?_)
  have g := h i h2
  rw [seg_len] at h1
  have g2 : (seg tp q e)[i] = tp (q + i) := by simp [seg]
  have g3 : w.getD i 0 = w[i] := by
    rw [List.getD_eq_getElem?_getD, List.getElem?_eq_getElem h2]
    rfl
  rw [g2, g, g3]
theorem str_ln : ∀ t, t < 13 → strLen.getD t 0 = (strByt.getD t []).length ∧ (strByt.getD t []).length < 100 := by decide +kernel
theorem x_spLoop {post : Int32 → Mem → Prop} {t q e : Nat} (ht : t < 13) (h4 : S 15 4 = nI q) (he : e ≤ 160) (hqe : e - q = (strByt.getD t []).length) : ∀ (f i : Nat), i + f = e - q → (∀ j, j < i → S 16 (q + j) = (strByt.getD t []).getD j 0) → post (bI (seg (S 16) q e = strByt.getD t [])) S → w_X1_spells_20 post t (f + 1) (nI i) S := by
  intro f
  obtain ⟨l1, l2⟩ := str_ln t ht
  induction f with
  | zero =>
    intro i hi hj hq
    rw [w_X1_spells_20]
    unfold w_J0_length_8abf5
    have e : i = (strByt.getD t []).length := by omega
    rw [bI_t (seg_is hqe (fun j h => hj j (by omega)))] at hq
    rw [l1, ← e]
    exact ⟨fun _ => hq, fun z => absurd (nI_le (Nat.le_refl i) (by omega)) z⟩
  | succ f ih =>
    intro i hi hj hq
    rw [w_X1_spells_20]
    unfold w_J0_length_8abf5
    try dsimp only
    rw [l1, h4, nI_add, nI_clamp (by omega)]
    refine ⟨fun z => absurd z (nI_ge (b := (strByt.getD t []).length) (by omega) (by omega)), fun _ => ⟨nI_in (by omega) (by decide), ?_⟩⟩
    unfold w_J0_charAt_5068e
    rw [nI_clamp (n := i) (by omega)]
    refine ⟨nI_in (by omega) (by omega), fun z z3 e3 => ?_, fun z => ?_⟩
    · rw [e3, nI_1]
      refine ih _ (by omega) (fun j hj2 => ?_) hq
      by_cases c : j = i
      · rw [c]; exact z
      · exact hj j (by omega)
    · rw [bI_f (seg_ne (by omega) z)] at hq
      exact hq
theorem x_spells {post : Int32 → Mem → Prop} {t q e : Nat} (ht : t < 13) (h4 : S 15 4 = nI q) (h5 : S 15 5 = nI e) (he : e ≤ 160) (hqe : q ≤ e) (hq : post (bI (seg (S 16) q e = strByt.getD t [])) S) : w_X1_spells t S post := by
  unfold w_X1_spells w_J0_length_8abf5
  obtain ⟨l1, l2⟩ := str_ln t ht
  try dsimp only
  rw [l1, h4, h5, pk_sub hqe]
  refine ⟨fun z => ?_, fun z => ?_⟩
  · have z := (nI_eq (b := (strByt.getD t []).length) (by omega) (by omega)).mp z
    exact ⟨_, x_spLoop ht h4 he z (e - q) 0 (by omega) (fun j hj => absurd hj (by omega)) hq⟩
  · have z : ¬ e - q = (strByt.getD t []).length := fun y => z (by rw [y]; rfl)
    rw [bI_f (fun y => z (by rw [← y, seg_len]))] at hq
    exact hq
theorem bI_0' {p : Prop} [Decidable p] (h : bI p = 0) : ¬ p := by
  rw [bI_0] at h
  exact h
theorem x_word {post : Int32 → Mem → Prop} {q e : Nat} (h4 : S 15 4 = nI q) (h5 : S 15 5 = nI e) (h160 : e ≤ 160) (hqe : q ≤ e) (hq : post (lxW (seg (S 16) q e)) S) : w_X1_wordToken S post := by
  unfold w_X1_wordToken w_X1_wordToken_146
  unfold lxW at hq
  refine x_spells (t := 1) (by decide) h4 h5 h160 hqe ?_
  by_cases c1 : seg (S 16) q e = strByt.getD 1 []
  · rw [if_pos c1] at hq
    exact ⟨fun z => absurd c1 (bI_0' z), fun _ => hq⟩
  · rw [if_neg c1] at hq
    refine ⟨fun _ => ?_, fun z => absurd (bI_f c1) z⟩
    refine x_spells (t := 2) (by decide) h4 h5 h160 hqe ?_
    by_cases c2 : seg (S 16) q e = strByt.getD 2 []
    · rw [if_pos c2] at hq
      exact ⟨fun z => absurd c2 (bI_0' z), fun _ => hq⟩
    · rw [if_neg c2] at hq
      refine ⟨fun _ => ?_, fun z => absurd (bI_f c2) z⟩
      refine x_spells (t := 3) (by decide) h4 h5 h160 hqe ?_
      by_cases c3 : seg (S 16) q e = strByt.getD 3 []
      · rw [if_pos c3] at hq
        exact ⟨fun z => absurd c3 (bI_0' z), fun _ => hq⟩
      · rw [if_neg c3] at hq
        refine ⟨fun _ => ?_, fun z => absurd (bI_f c3) z⟩
        refine x_spells (t := 4) (by decide) h4 h5 h160 hqe ?_
        by_cases c4 : seg (S 16) q e = strByt.getD 4 []
        · rw [if_pos c4] at hq
          exact ⟨fun z => absurd c4 (bI_0' z), fun _ => hq⟩
        · rw [if_neg c4] at hq
          refine ⟨fun _ => ?_, fun z => absurd (bI_f c4) z⟩
          refine x_spells (t := 5) (by decide) h4 h5 h160 hqe ?_
          by_cases c5 : seg (S 16) q e = strByt.getD 5 []
          · rw [if_pos c5] at hq
            exact ⟨fun z => absurd c5 (bI_0' z), fun _ => hq⟩
          · rw [if_neg c5] at hq
            refine ⟨fun _ => ?_, fun z => absurd (bI_f c5) z⟩
            refine x_spells (t := 6) (by decide) h4 h5 h160 hqe ?_
            by_cases c6 : seg (S 16) q e = strByt.getD 6 []
            · rw [if_pos c6] at hq
              exact ⟨fun z => absurd c6 (bI_0' z), fun _ => hq⟩
            · rw [if_neg c6] at hq
              refine ⟨fun _ => ?_, fun z => absurd (bI_f c6) z⟩
              refine x_spells (t := 7) (by decide) h4 h5 h160 hqe ?_
              by_cases c7 : seg (S 16) q e = strByt.getD 7 []
              · rw [if_pos c7] at hq
                exact ⟨fun z => absurd c7 (bI_0' z), fun _ => hq⟩
              · rw [if_neg c7] at hq
                refine ⟨fun _ => ?_, fun z => absurd (bI_f c7) z⟩
                refine x_spells (t := 8) (by decide) h4 h5 h160 hqe ?_
                by_cases c8 : seg (S 16) q e = strByt.getD 8 []
                · rw [if_pos c8] at hq
                  exact ⟨fun z => absurd c8 (bI_0' z), fun _ => hq⟩
                · rw [if_neg c8] at hq
                  refine ⟨fun _ => ?_, fun z => absurd (bI_f c8) z⟩
                  refine x_spells (t := 9) (by decide) h4 h5 h160 hqe ?_
                  by_cases c9 : seg (S 16) q e = strByt.getD 9 []
                  · rw [if_pos c9] at hq
                    exact ⟨fun z => absurd c9 (bI_0' z), fun _ => hq⟩
                  · rw [if_neg c9] at hq
                    refine ⟨fun _ => ?_, fun z => absurd (bI_f c9) z⟩
                    refine x_spells (t := 10) (by decide) h4 h5 h160 hqe ?_
                    by_cases c10 : seg (S 16) q e = strByt.getD 10 []
                    · rw [if_pos c10] at hq
                      exact ⟨fun z => absurd c10 (bI_0' z), fun _ => hq⟩
                    · rw [if_neg c10] at hq
                      refine ⟨fun _ => ?_, fun z => absurd (bI_f c10) z⟩
                      refine x_spells (t := 11) (by decide) h4 h5 h160 hqe ?_
                      by_cases c11 : seg (S 16) q e = strByt.getD 11 []
                      · rw [if_pos c11] at hq
                        exact ⟨fun z => absurd c11 (bI_0' z), fun _ => hq⟩
                      · rw [if_neg c11] at hq
                        refine ⟨fun _ => ?_, fun z => absurd (bI_f c11) z⟩
                        refine x_spells (t := 12) (by decide) h4 h5 h160 hqe ?_
                        by_cases c12 : seg (S 16) q e = strByt.getD 12 []
                        · rw [if_pos c12] at hq
                          exact ⟨fun z => absurd c12 (bI_0' z), fun _ => hq⟩
                        · rw [if_neg c12] at hq
                          exact ⟨fun _ => hq, fun z => absurd (bI_f c12) z⟩
theorem x_sign {post : Int32 → Mem → Prop} {c : Int32} (hq : post (lxG c) S) : w_X6_ofSign c S post := by
  unfold w_X6_ofSign w_X6_ofSign_125
  unfold lxG at hq
  refine ⟨fun z => by rw [z] at hq; exact hq, fun n40 => ?_⟩
  rw [if_neg n40] at hq
  refine ⟨fun z => by rw [z] at hq; exact hq, fun n41 => ?_⟩
  rw [if_neg n41] at hq
  refine ⟨fun z => by rw [z] at hq; exact hq, fun n42 => ?_⟩
  rw [if_neg n42] at hq
  refine ⟨fun z => by rw [z] at hq; exact hq, fun n43 => ?_⟩
  rw [if_neg n43] at hq
  refine ⟨fun z => by rw [z] at hq; exact hq, fun _ => ?_⟩
  refine ⟨fun z => by rw [z] at hq; exact hq, fun n45 => ?_⟩
  rw [if_neg n45] at hq
  refine ⟨fun z => by rw [z] at hq; exact hq, fun _ => ?_⟩
  refine ⟨fun z => by rw [z] at hq; exact hq, fun _ => ?_⟩
  refine ⟨fun z => by rw [z] at hq; exact hq, fun _ => ?_⟩
  refine ⟨fun z => by rw [z] at hq; exact hq, fun _ => ?_⟩
  refine ⟨fun z => by rw [z] at hq; exact hq, fun _ => ?_⟩
  refine ⟨fun z => by rw [z] at hq; exact hq, fun _ => ?_⟩
  refine ⟨fun z => by rw [z] at hq; exact hq, fun _ => ?_⟩
  refine ⟨fun z => by rw [z] at hq; exact hq, fun _ => ?_⟩
  refine ⟨fun z => by rw [z] at hq; exact hq, fun _ => ?_⟩
  refine ⟨fun z => by rw [z] at hq; exact hq, fun _ => ?_⟩
  refine ⟨fun z => by rw [z] at hq; exact hq, fun _ => ?_⟩
  refine ⟨fun z => by rw [z] at hq; exact hq, fun _ => ?_⟩
  refine ⟨fun z => by rw [z] at hq; exact hq, fun _ => ?_⟩
  refine ⟨fun z => by rw [z] at hq; exact hq, fun n59 => ?_⟩
  rw [if_neg n59] at hq
  refine ⟨fun z => by rw [z] at hq; exact hq, fun n60 => ?_⟩
  rw [if_neg n60] at hq
  refine ⟨fun z => by rw [z] at hq; exact hq, fun n61 => ?_⟩
  rw [if_neg n61] at hq
  exact hq
end
