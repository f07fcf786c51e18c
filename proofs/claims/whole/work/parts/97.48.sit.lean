/-! PURE, 33: sit -/
section
variable {S T S' T' : Mem} {a1 a2 a3 a4 a5 : Int32}
def ldS (S : Mem) (x : Nat) : Mem := mset S 1 (upd (S 1) 5 (nI x))
def lgT (T : Mem) (x : Nat) : Mem := mset T 0 (upd (T 0) 7 (nI x))
theorem RX.load (h : RX S T) {x : Nat} (hx : x ≤ 9) : RX (ldS S x) (lgT T x) := by
  obtain ⟨g4, g5, g6, g7, g15⟩ := h.2.2.1
  refine h.tab ⟨g4, g5, g6, ⟨rfl, ?_⟩, g15⟩ rfl rfl rfl
  show bnd (nI x) 0 9
  unfold bnd
  rw [nI_toInt (by omega)]
  omega
theorem upup {f : Nat → Int32} {k : Nat} {x y : Int32} : upd (upd f k x) k y = upd f k y := by
  funext j
  by_cases c : j = k
  · rw [c, up_s, up_s]
  · rw [up_n c, up_n c, up_n c]
theorem upself {f : Nat → Int32} {k : Nat} : upd f k (f k) = f := by
  funext j
  by_cases c : j = k
  · rw [c, up_s]
  · rw [up_n c]
theorem ld_set {x y : Nat} {S1 : Mem} (h : SX (ldS S x) S1) : SX (ldS S y) (mset S1 1 (upd (S1 1) 5 (nI y))) := by
  obtain ⟨q0, q1, q2, q3, q4, q5, q6, q7⟩ := h
  have n : ∀ c, c ≠ 1 → ldS S x c = ldS S y c := fun c hc => by
    unfold ldS
    rw [ms_n hc, ms_n hc]
  refine ⟨?_, ?_, ?_, fun c c1 c2 => ?_, ?_, ?_, fun c c1 c2 => ?_, fun c c1 => ?_⟩
  · rw [ms_n (by decide), q0, n 0 (by decide)]
  · rw [ms_s, q1]
    unfold ldS
    rw [ms_s, ms_s, upup]
  · rw [ms_n (by decide), q2, n 2 (by decide)]
  · rw [ms_n (by omega), q3 c c1 c2, n c (by omega)]
  · rw [ms_n (by decide), q4, n 15 (by decide)]
  · rw [ms_n (by decide), q5, n 16 (by decide)]
  · rw [ms_n (by omega), q6 c c1 c2, n c (by omega)]
  · rw [ms_n (by omega), q7 c c1, n c (by omega)]
theorem ld_self {w : Nat} (h : S 1 5 = nI w) : ldS S w = S := by
  unfold ldS
  rw [← h, upself, mrefl]
theorem lg_set {x y : Nat} {T1 : Mem} (h : SM (lgT T x) T1) : SM (lgT T y) (mset T1 0 (upd (T1 0) 7 (nI y))) := by
  obtain ⟨⟨b1, b2, b3, b4, b5, b6, b7, b8⟩, c1, c2, c3, c4, c5, c6, c7, c8, c9, c10, c11⟩ := h
  exact ⟨⟨b1, b2, b3, rfl, b5, b6, b7, b8⟩, c1, c2, c3, c4, c5, c6, c7, c8, c9, c10, c11⟩
theorem lg_self {w : Nat} (h : T 0 7 = nI w) : lgT T w = T := by
  unfold lgT
  rw [← h, upself, mrefl]
def siF (q : Nat → Bool) : Nat → Nat → Int32
  | 0, _ => -1
  | n + 1, k => if q k then nI k else siF q n (k + 1)
def siQ (S : Mem) (w b k : Nat) : Bool := frB (ldS S (w + k)) (S 1 2) b
theorem x_sitEnd {post : Int32 → Mem → Prop} {x2 : Int32} {w x : Nat} {S1 : Mem} (ew : S 1 5 = nI w) (hs : SX (ldS S x) S1) (hq : ∀ S2, SX S S2 → post x2 S2) : w_X7_sit_64 post (nI w) x2 S1 := by
  unfold w_X7_sit_64
  intro S2 e2
  subst e2
  have := ld_set (y := w) hs
  rw [ld_self ew] at this
  exact hq _ this
theorem x_sitLoop {post : Int32 → Mem → Prop} {w b : Nat} (h : RX S T) (hw : w ≤ 9) (ew : S 1 5 = nI w) (hb : b < 8) (eb : S 1 4 = nI b) : ∀ (n k : Nat) (S1 : Mem), k + n = 10 - w → (∃ x, SX (ldS S x) S1) → (∀ S2, SX S S2 → post (siF (siQ S w b) n k) S2) → w_X7_sit_12 post (n + 2) (nI w) (-1) (nI k) S1 := by
  intro n
  have e9 : (9 : Int32) - nI w = nI (9 - w) := pk_sub (a := 9) hw
  induction n with
  | zero =>
    intro k S1 hk hs hq
    obtain ⟨x, hs⟩ := hs
    rw [w_X7_sit_12, e9]
    exact ⟨fun _ => x_sitEnd ew hs hq, fun z => absurd (nI_lt (by omega) (by omega)) z⟩
  | succ n ih =>
    intro k S1 hk hs hq
    obtain ⟨x, hs⟩ := hs
    rw [w_X7_sit_12, e9]
    refine ⟨fun z => absurd z (nI_nlt (by omega) (by omega)), fun _ => ⟨fun z => absurd rfl z, fun _ S2 e2 => ?_⟩⟩
    rw [nI_add] at e2
    have s2 := ld_set (y := w + k) hs
    rw [← e2] at s2
    have f2 : S2 1 2 = S 1 2 := by rw [s2.2.1]; rfl
    have f4 : S2 1 4 = nI b := by rw [s2.2.1]; exact eb
    have hr := h.load (x := w + k) (by omega)
    have hr2 := hr.same s2 SM.rf
    obtain ⟨k6, -⟩ := rl_of hr
    rw [f2, f4]
    refine x_isFirmAt hr2 hb (fun S3 s3 => ?_)
    rw [rckF_sx s2 k6]
    have s4 := s2.tr s3
    rw [siF] at hq
    unfold w_X7_sit_58
    by_cases c1 : rckF (ldS S (w + k)) (S 1 2) b = 0
    · rw [bI_t c1]
      have hb : siQ S w b k = true := frB_t c1
      refine ⟨fun z => absurd z (by decide), fun _ z1 e1 => ?_⟩
      rw [e1, nI_1, w_X7_sit_12, e9]
      have fin : w_X7_sit_64 post (nI w) (nI k) S3 := by
        refine x_sitEnd ew s4 (fun S5 s5 => ?_)
        have q := hq S5 s5
        rw [hb, if_pos rfl] at q
        exact q
      refine ⟨fun _ => fin, fun _ => ⟨fun _ => fin, fun z => ?_⟩⟩
      exfalso
      have hh := nI_toInt (n := k) (by omega)
      rw [z, Im1] at hh
      omega
    · rw [bI_f c1]
      have hb : siQ S w b k = false := frB_f c1
      refine ⟨fun _ z1 e1 => ?_, fun z => absurd rfl z⟩
      rw [e1, nI_1]
      refine ih _ _ (by omega) ⟨w + k, s4⟩ (fun S5 s5 => ?_)
      have q := hq S5 s5
      rw [hb, if_neg (by decide)] at q
      exact q
theorem m_sitEnd {post : Int32 → Mem → Prop} {x2 : Int32} {w x : Nat} {T1 : Mem} (ew : T 0 7 = nI w) (hs : SM (lgT T x) T1) (hq : ∀ T2, SM T T2 → post x2 T2) : w_X8_sit_54 post (nI w) x2 T1 := by
  unfold w_X8_sit_54
  intro T2 e2
  subst e2
  have := lg_set (y := w) hs
  rw [lg_self ew] at this
  exact hq _ this
theorem m_sitLoop {post : Int32 → Mem → Prop} {w b : Nat} (h : RX S T) (hw : w ≤ 9) (ew : T 0 7 = nI w) (hb : b < 8) (eb : T 0 6 = nI b) (ep : T 0 4 = S 1 2) : ∀ (n k : Nat) (T1 : Mem), k + n = 10 - w → (∃ x, SM (lgT T x) T1) → (∀ T2, SM T T2 → post (siF (siQ S w b) n k) T2) → w_X8_sit_14 post (n + 2) (nI w) (-1) (nI (w + k)) T1 := by
  intro n
  induction n with
  | zero =>
    intro k T1 hk hs hq
    obtain ⟨x, hs⟩ := hs
    rw [w_X8_sit_14]
    have e : w + k = 10 := by omega
    rw [e]
    exact ⟨fun _ => m_sitEnd ew hs hq, fun z => absurd (by decide) z⟩
  | succ n ih =>
    intro k T1 hk hs hq
    obtain ⟨x, hs⟩ := hs
    rw [w_X8_sit_14]
    refine ⟨fun z => absurd z (nI_ge (b := 10) (by omega) (by decide)), fun _ => ⟨fun z => absurd z (by decide), fun _ T2 e2 => ?_⟩⟩
    have s2 := lg_set (y := w + k) hs
    rw [← e2] at s2
    have f4 : T2 0 4 = S 1 2 := by rw [s2.1.1]; exact ep
    have f6 : T2 0 6 = nI b := by rw [s2.1.2.2.1]; exact eb
    have hr2 := (h.load (x := w + k) (by omega)).same SX.rf s2
    unfold w_X8_findNow
    rw [f4, f6]
    refine m_find hr2 hb (fun T3 m3 => ?_)
    try dsimp only
    rw [m3.2.2.2.1]
    have s4 := s2.tr m3.sm
    rw [siF] at hq
    unfold w_X8_sit_47
    refine ⟨fun c1 z1 e1 => ?_, fun c1 z1 e1 => ?_⟩
    · have hb : siQ S w b k = false := frB_f c1
      rw [e1, nI_1, Nat.add_assoc]
      refine ih _ _ (by omega) ⟨w + k, s4⟩ (fun S5 s5 => ?_)
      have q := hq S5 s5
      rw [hb, if_neg (by decide)] at q
      exact q
    · have hb : siQ S w b k = true := frB_t c1
      have e3 : nI (w + k) - nI w = nI k := by rw [pk_sub (by omega), show w + k - w = k by omega]
      rw [e1, e3, nI_1, w_X8_sit_14]
      have fin : w_X8_sit_54 post (nI w) (nI k) T3 := by
        refine m_sitEnd ew s4 (fun S5 s5 => ?_)
        have q := hq S5 s5
        rw [hb, if_pos rfl] at q
        exact q
      exact ⟨fun _ => fin, fun _ => ⟨fun _ => fin, fun z => absurd (nI_pos' (by omega)) z⟩⟩
theorem h_sit (h : RX S T) : w_X7_sit S (fun r1 S1 => w_X8_sit T (fun r2 T1 => r1 = r2 ∧ RX S1 T1)) := by
  have hsame := h.same SX.rf (sm_thr T 0)
  obtain ⟨b, hb, e1, e2, e3⟩ := place_of h
  obtain ⟨w, hw, hw2, ew⟩ := nI_ofb h.2.2.1.2.2.2.1.2 (by decide)
  have ew2 : T 0 7 = nI w := by rw [← h.2.2.1.2.2.2.1.1]; exact ew
  unfold w_X7_sit w_X8_sit
  intro z1 ez1
  rw [ez1, ew]
  refine ⟨10 - w + 2, x_sitLoop h (by omega) ew hb e1 (10 - w) 0 S (by omega) ⟨w, by rw [ld_self ew]; exact SX.rf⟩ (fun S2 s2 T1 t1 z2 ez2 => ?_)⟩
  subst t1
  have g7 : (mset T 0 (upd (T 0) 8 0)) 0 7 = nI w := ew2
  rw [g7] at ez2
  rw [ez2]
  exact ⟨10 - w + 2, m_sitLoop hsame (by omega) g7 hb e2 e3 (10 - w) 0 _ (by omega) ⟨w, by rw [lg_self g7]; exact SM.rf⟩ (fun T2 t2 => ⟨rfl, hsame.same s2 t2⟩)⟩
end
