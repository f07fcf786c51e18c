/-! PURE, 62: a new object -/
section
variable {S T S' T' : Mem} {a1 a2 a3 a4 a5 : Int32}
def tx0 (i : Nat) : Int32 := (strByt.getD 0 []).getD i 0
def txmL : List Int32 := [115, 108, 97, 99, 107, 32, 48, 59, 119, 111, 114, 116, 104, 32, 48, 45, 114, 111, 99, 107, 42, 57, 45, 108, 101, 97, 110, 59, 115, 112, 105, 108, 108, 115, 32, 108, 101, 97, 110, 43, 114, 111, 99, 107, 42, 50, 59, 32, 32, 32, 32, 32, 32, 32, 32, 32]
def txm (i : Nat) : Int32 := txmL.getD i 0
def o0 : rdO := [0, 0, -1, 9, -14, -13, -2, -13, -2, -1, 2, -14, -12]
def es0 : List Nat := [1, 8, 13]
theorem rd_x0 : rdX 3 0 (tks tx0 62) [] [] = Sum.inr (o0, es0) := by decide +kernel
theorem rd_m0 : rdX 3 0 (tks txm 56) [] [] = Sum.inr (o0, es0) := by decide +kernel
theorem tm_5 : ∀ j, j < 56 → T0m 5 j = txm j := by decide +kernel
theorem tx_l : strLen.getD 0 0 = 62 := rfl
theorem x_initLoop {post : Mem → Prop} (hq : ∀ S2 : Mem, S2 15 2 = nI 62 → (∀ j, j < 62 → S2 16 j = tx0 j) → (∀ d, d ≠ 15 → d ≠ 16 → S2 d = S0x d) → w_X7_text S2 (fun _ S3 => post S3)) : ∀ (f i : Nat) (S : Mem), i + f = 62 → S 15 2 = nI i → (∀ j, j < i → S 16 j = tx0 j) → (∀ d, d ≠ 15 → d ≠ 16 → S d = S0x d) → w_X7_init_130 post (f + 1) (nI i) S := by
  intro f
  induction f with
  | zero =>
    intro i S hi h2 ht hd
    rw [w_X7_init_130]
    unfold w_J0_length_8abf5
    have e : i = 62 := by omega
    subst e
    exact ⟨fun _ => hq S h2 ht hd, fun z => absurd (nI_le (Nat.le_refl 62) (by decide)) z⟩
  | succ f ih =>
    intro i S hi h2 ht hd
    rw [w_X7_init_130]
    unfold w_J0_length_8abf5 w_J0_charAt_5068e w_X1_append
    try dsimp only
    rw [tx_l, nI_clamp (by omega), h2]
    refine ⟨fun z => absurd z (nI_ge (b := 62) (by omega) (by decide)), fun _ => ⟨nI_in (by omega) (by decide), fun _ => ⟨nI_in (by omega) (by decide), fun S1 e1 S2 e2 z5 e5 => ?_⟩, fun z => absurd (nI_lt (b := 160) (by omega) (by decide)) z⟩⟩
    rw [nI_clamp (by omega)] at e1
    have g15 : S1 15 = S 15 := by rw [e1, ms_n (by decide)]
    have g16 : S2 16 = upd (S 16) i ((strByt.getD 0 []).getD i 0) := by rw [e2, ms_n (by decide), e1, ms_s]
    rw [e5, nI_1]
    refine ih (i + 1) S2 (by omega) ?_ (fun j hj => ?_) (fun d d1 d2 => ?_)
    · rw [e2, ms_s, up_s, g15, h2, nI_1]
    · rw [g16]
      by_cases c : j = i
      · rw [c, up_s]; rfl
      · rw [up_n c]; exact ht j (by omega)
    · rw [e2, ms_n d1, e1, ms_n d2]; exact hd d d1 d2
theorem x_textOk {post : Int32 → Mem → Prop} {c n : Nat} {o : rdO} {es : List Nat} (ec : S 0 5 = nI c) (hc5 : c < 6) (h160 : n ≤ 160) (en : S 15 2 = nI n) (hx : rdX 3 0 (tks (S 16) n) [] [] = Sum.inr (o, es)) (ho : o.length ≤ 160) (he : es.length = 3) (hq : ∀ S4 : Mem, (∀ i, i ≠ 0 → i ≠ 15 → i ≠ 17 → i ≠ 18 → i ≠ 19 → (i < 21 + 3 * c ∨ 23 + 3 * c < i) → S4 i = S i) → S4 0 5 = nI (c + 1) → (∀ j, j ≠ 5 → S4 0 j = S 0 j) → S4 15 2 = 0 → (∀ i, i < o.length → S4 (22 + 3 * c) i = o.getD i 0) → (∀ i, i < 3 → S4 (23 + 3 * c) i = nI (es.getD i 0)) → post (nI c) S4) : w_X7_text S post := by
  unfold w_X7_text
  rw [ec]
  refine ⟨fun _ => ?_, fun z => absurd (nI_lt (b := 6) hc5 (by decide)) z⟩
  refine x_readTape h160 en (fun q S2 hx2 => ?_) (fun o2 es2 S2 hx2 fr s15 hcc hes => ?_)
  · rw [hx] at hx2
    exact absurd hx2 (by simp)
  · rw [hx] at hx2
    have eq : (o, es) = (o2, es2) := Sum.inr.inj hx2
    have eq1 : o = o2 := congrArg (fun x => x.1) eq
    have eq2 : es = es2 := congrArg (fun x => x.2) eq
    subst eq1
    subst eq2
    have e0 : S2 0 5 = nI c := by rw [fr 0 (by decide) (by decide) (by decide) (by decide)]; exact ec
    try dsimp only
    rw [e0, nI_clamp (by omega)]
    refine ⟨fun _ => ⟨nI_in hc5 (by decide), x_like2 (by omega) (fun S3 sf sc se s2 S4 e4 => ?_)⟩, fun y => absurd rfl y⟩
    have s30 : S3 0 = S2 0 := sf 0 (by omega) (by omega) (by omega)
    have s40 : S4 0 5 = nI (c + 1) := by rw [e4, ms_s, up_s, s30, e0, nI_1]
    have f4 : ∀ d, d ≠ 0 → S4 d = S3 d := fun d hd => by rw [e4, ms_n hd]
    rw [s40, nI_pred]
    refine hq S4 (fun i i0 i1 i2 i3 i4 i5 => ?_) s40 (fun j hj => ?_) ?_ (fun i hi => ?_) (fun i hi => ?_)
    · rw [f4 i i0, sf i (by omega) (by omega) (by omega)]
      exact fr i i1 i2 i3 i4
    · rw [e4, ms_s, up_n hj, s30, fr 0 (by decide) (by decide) (by decide) (by decide)]
    · rw [f4 15 (by decide), sf 15 (by omega) (by omega) (by omega)]; exact s15
    · rw [f4 _ (by omega), show 22 + 3 * c = 20 + 1 + 3 * c + 1 by omega, sc i (by omega)]
      exact hcc.2 i hi
    · rw [f4 _ (by omega), show 23 + 3 * c = 20 + 1 + 3 * c + 2 by omega, se i hi]
      exact hes i (by omega)
theorem m_initLoop {post : Mem → Prop} (hq : ∀ T2 : Mem, (∀ j, j < 56 → T2 8 j = txm j) → (∀ d, d ≠ 0 → d ≠ 8 → T2 d = T0m d) → (∀ j, j ≠ 8 → j ≠ 13 → T2 0 j = T0m 0 j) → w_X8_init_867 post 1 (nI 56) T2) : ∀ (f i : Nat) (T : Mem), i + f = 56 → (∀ j, j < i → T 8 j = txm j) → (∀ d, d ≠ 0 → d ≠ 8 → T d = T0m d) → (∀ j, j ≠ 8 → j ≠ 13 → T 0 j = T0m 0 j) → w_X8_init_867 post (f + 1) (nI i) T := by
  intro f
  induction f with
  | zero =>
    intro i T hi ht hd h0
    have e : i = 56 := by omega
    subst e
    exact hq T ht hd h0
  | succ f ih =>
    intro i T hi ht hd h0
    rw [w_X8_init_867, nI_clamp (by omega)]
    refine ⟨fun z => absurd z (nI_ge (b := 56) (by omega) (by decide)), fun _ => ⟨nI_in (by omega) (by decide), nI_in (by omega) (by decide), fun S5 e5 z6 e6 => ?_⟩⟩
    rw [e6, nI_1]
    refine ih (i + 1) S5 (by omega) (fun j hj => ?_) (fun d d1 d2 => ?_) (fun j j1 j2 => ?_)
    · rw [e5, ms_s]
      by_cases c : j = i
      · rw [c, up_s, hd 5 (by decide) (by decide)]
        exact tm_5 i (by omega)
      · rw [up_n c]; exact ht j (by omega)
    · rw [e5, ms_n d2]; exact hd d d1 d2
    · rw [e5, ms_n (by decide)]; exact h0 j j1 j2
theorem in_leg : ∀ i, i < 4 → (S0x (4 + i) 0 = T0m 2 i ∧ S0x (4 + i) 1 = T0m 3 i ∧ S0x (4 + i) 2 = T0m 4 i) ∧ (0 ≤ (S0x (4 + i) 0).toInt ∧ (S0x (4 + i) 0).toInt ≤ 5) ∧ (0 ≤ (S0x (4 + i) 1).toInt ∧ (S0x (4 + i) 1).toInt ≤ 99) ∧ (0 ≤ (S0x (4 + i) 2).toInt ∧ (S0x (4 + i) 2).toInt ≤ 9) := by decide +kernel
theorem in_w : RW T0m := by
  have h1 : ∀ i, i < 42 → T0m 6 i = ltL.getD i 0 := by decide +kernel
  have h2 : ∀ i, i < 13 → T0m 7 i = waL.getD i 0 := by decide +kernel
  exact ⟨h1, h2⟩
theorem in_t : (S0x 1 2 = T0m 0 4 ∧ (0 ≤ (S0x 1 2).toInt ∧ (S0x 1 2).toInt ≤ 63)) ∧ (S0x 1 3 = T0m 0 5 ∧ (1 ≤ (S0x 1 3).toInt ∧ (S0x 1 3).toInt ≤ 3)) ∧ (S0x 1 4 = T0m 0 6 ∧ (0 ≤ (S0x 1 4).toInt ∧ (S0x 1 4).toInt ≤ 7)) ∧ (S0x 1 5 = T0m 0 7 ∧ (0 ≤ (S0x 1 5).toInt ∧ (S0x 1 5).toInt ≤ 9)) ∧ (S0x 1 6 = T0m 0 15 ∧ 0 ≤ (S0x 1 6).toInt ∧ (S0x 1 6).toInt < 1) := by decide +kernel
theorem in_s : ∀ i, i < 4 → (S0x (44 + 2 * i) 0 = T0m 17 i ∧ (-1 ≤ (S0x (44 + 2 * i) 0).toInt ∧ (S0x (44 + 2 * i) 0).toInt ≤ 2)) ∧ (S0x (44 + 2 * i) 1 = T0m 18 i ∧ S0x (44 + 2 * i) 1 = 0) := by decide +kernel
theorem hinit : w_X7_init S0x (fun S => w_X8_init T0m (fun T => RX S T)) := by
  unfold w_X7_init
  refine ⟨63, x_initLoop (fun S2 e2 ht hd => ?_) 62 0 S0x rfl rfl (fun j hj => absurd hj (by omega)) (fun _ _ _ => rfl)⟩
  have hx : rdX 3 0 (tks (S2 16) 62) [] [] = Sum.inr (o0, es0) := by
    have e : tks (S2 16) 62 = tks tx0 62 := lxL_cg ht _ _ (Nat.zero_le _)
    rw [e]; exact rd_x0
  have z05 : S2 0 5 = nI 0 := by rw [hd 0 (by decide) (by decide)]; rfl
  refine x_textOk (c := 0) z05 (by decide) (by decide) e2 hx (by decide) (by decide) (fun S4 sf s5 s0 s15 sc se => ?_)
  unfold w_X8_init
  intro T1 t1 T2 t2
  refine ⟨57, m_initLoop (fun T3 q8 qd q0 => ?_) 56 0 T2 rfl (fun j hj => absurd hj (by omega)) (fun d d0 _ => by rw [t2, ms_n d0, t1, ms_n d0]) (fun j j1 j2 => by rw [t2, ms_s, up_n j2, t1, ms_s, up_n j1])⟩
  rw [w_X8_init_867]
  refine ⟨fun _ T4 e4 => ?_, fun z => absurd (by decide) z⟩
  have r8 : T4 8 = T3 8 := by rw [e4, ms_n (by decide)]
  have rd : ∀ d, d ≠ 0 → d ≠ 8 → T4 d = T0m d := fun d d0 d8 => by rw [e4, ms_n d0]; exact qd d d0 d8
  have r0 : ∀ j, j ≠ 8 → j ≠ 13 → T4 0 j = T0m 0 j := fun j j1 j2 => by rw [e4, ms_s, up_n j2]; exact q0 j j1 j2
  have r13 : T4 0 13 = nI 56 := by rw [e4, ms_s, up_s]; rfl
  have rw4 : RW T4 := by
    unfold RW
    rw [rd 6 (by decide) (by decide), rd 7 (by decide) (by decide)]
    exact in_w
  have r14 : T4 0 14 = nI 0 := by rw [r0 14 (by decide) (by decide)]; rfl
  have hxm : rdX 3 0 (tks (T4 8) 56) [] [] = Sum.inr (o0, es0) := by
    have e : tks (T4 8) 56 = tks txm 56 := lxL_cg (fun i hi => by rw [r8]; exact q8 i hi) _ _ (Nat.zero_le _)
    rw [e]; exact rd_m0
  refine m_readText (k := 0) (n := 56) (tp := T4 8) (by decide) (by decide) rfl r13 r14 rw4 (fun q T5 a1 => ?_) (fun o2 es2 T5 a1 a2 a3 a4 T6 e6 T7 e7 => ?_)
  · rw [hxm] at a1
    exact absurd a1 (by simp)
  · rw [hxm] at a1
    have eq : (o0, es0) = (o2, es2) := Sum.inr.inj a1
    have eq1 : o0 = o2 := congrArg (fun x => x.1) eq
    have eq2 : es0 = es2 := congrArg (fun x => x.2) eq
    subst eq1
    subst eq2
    have k0 : ∀ j, j ≠ 8 → j ≠ 13 → j ≠ 14 → (j < 16 ∨ 27 < j) → T7 0 j = T0m 0 j := fun j j1 j2 j3 j4 => by
      rw [e7, ms_s, up_n j2, e6, ms_s, up_n j3, a2.2.1 j j4]
      exact r0 j j1 j2
    have kc : ∀ d, d ≠ 0 → T7 d = T5 d := fun d d0 => by rw [e7, ms_n d0, e6, ms_n d0]
    have kd : ∀ d, d ≠ 0 → d ≠ 8 → d ≠ 9 → d ≠ 10 → d ≠ 11 → T7 d = T0m d := fun d d0 d8 d9 d10 d11 => by
      rw [kc d d0, a2.1 d d0 d9 d10 d11]
      exact rd d d0 d8
    have k14 : T7 0 14 = 1 := by rw [e7, ms_s, up_n (by decide), e6, ms_s, up_s]
    have k13 : T7 0 13 = 0 := by rw [e7, ms_s, up_s]
    clear e6 e7
    have sd : ∀ i, i ≠ 0 → i ≠ 15 → i ≠ 16 → i ≠ 17 → i ≠ 18 → i ≠ 19 → (i < 21 ∨ 23 < i) → S4 i = S0x i := fun i i0 i1 i2 i3 i4 i5 i6 => by
      rw [sf i i0 i1 i3 i4 i5 (by omega)]
      exact hd i i1 i2
    have s1 := sd 1 (by decide) (by decide) (by decide) (by decide) (by decide) (by decide) (by decide)
    have s02 : S4 0 2 = 0 := by rw [s0 2 (by decide), hd 0 (by decide) (by decide)]; rfl
    have s05 : S4 0 5 = 1 := s5
    refine ⟨⟨?_, fun i hi => ?_⟩, fun i hi => ?_, ?_, ⟨by rw [s15, k13], by rw [s15]; exact ⟨by decide, by decide⟩, fun i hi => ?_, ?_⟩, ⟨by rw [s05, k14], by rw [s05]; exact ⟨by decide, by decide⟩, fun j hj => ?_⟩, ⟨?_, Or.inl s02⟩, fun i hi => ?_⟩
    · rw [sd 2 (by decide) (by decide) (by decide) (by decide) (by decide) (by decide) (by decide), kd 1 (by decide) (by decide) (by decide) (by decide) (by decide)]
      rfl
    · rw [sd 2 (by decide) (by decide) (by decide) (by decide) (by decide) (by decide) (by decide), show S0x 2 i = 0 from rfl]
      exact ⟨by decide, by decide⟩
    · rw [sd (4 + i) (by omega) (by omega) (by omega) (by omega) (by omega) (by omega) (by omega), kd 2 (by decide) (by decide) (by decide) (by decide) (by decide), kd 3 (by decide) (by decide) (by decide) (by decide) (by decide), kd 4 (by decide) (by decide) (by decide) (by decide) (by decide)]
      exact in_leg i hi
    · unfold RT
      rw [s1, s05, k0 4 (by decide) (by decide) (by decide) (by decide), k0 5 (by decide) (by decide) (by decide) (by decide), k0 6 (by decide) (by decide) (by decide) (by decide), k0 7 (by decide) (by decide) (by decide) (by decide), k0 15 (by decide) (by decide) (by decide) (by decide)]
      exact in_t
    · rw [s15, I0] at hi
      omega
    · unfold RW
      rw [kd 6 (by decide) (by decide) (by decide) (by decide) (by decide), kd 7 (by decide) (by decide) (by decide) (by decide) (by decide)]
      exact in_w
    · have ej : j = 0 := by
        rw [s05, I1] at hj
        omega
      subst ej
      refine rule_new (l := tks tx0 62) rd_x0 (lxL_G _ _ (Nat.zero_le _)) ?_ sc se (fun i hi => ?_) (fun i hi => ?_)
      · have := lxL_len (tp := tx0) (n := 62) 63 0
        exact Nat.le_trans this (by decide)
      · rw [kc 9 (by decide)]; exact a3.2 i hi
      · rw [kc 10 (by decide)]; exact a4 i hi
    · rw [s02, k0 38 (by decide) (by decide) (by decide) (by decide)]
      rfl
    · obtain ⟨g1, g2, g3⟩ := in_s i hi
      rw [sd (44 + 2 * i) (by omega) (by omega) (by omega) (by omega) (by omega) (by omega) (by omega), kd 17 (by decide) (by decide) (by decide) (by decide) (by decide), kd 18 (by decide) (by decide) (by decide) (by decide) (by decide)]
      refine ⟨g1, ⟨g2, by rw [g3]; exact ⟨by decide, by decide⟩⟩, fun j hj => ?_⟩
      rw [g3, I0] at hj
      omega
end
