/-! PURE, 30: wedge, saw -/
section
variable {S T S' T' : Mem} {a1 a2 a3 a4 a5 : Int32}
theorem rck_b (h : RX S T) (a : Int32) (b : Nat) : bnd (rckF S a b) 0 600 := by
  have hs := siz_b h a b
  have hg := giv_b h a b
  have e := sub_t (hs.w (by decide) (by decide)) (hg.w (by decide) (by decide))
  unfold rckF
  by_cases c : slkF S a b < sizF S a b
  · rw [if_pos c]
    unfold bnd
    rw [jmax_t, I0, e]
    obtain ⟨q1, q2⟩ := hs
    obtain ⟨q3, q4⟩ := hg
    omega
  · rw [if_neg c]; unfold bnd; decide
theorem hl_t {x : Int32} {lo hi : Int32} (h : lo.toInt ≤ hi.toInt) : (hl x lo hi).toInt = max lo.toInt (min x.toInt hi.toInt) := by
  unfold hl
  by_cases h1 : lo ≤ x
  · rw [if_pos h1]
    rw [i_le] at h1
    by_cases h2 : x ≤ hi
    · rw [if_pos h2]; rw [i_le] at h2; omega
    · rw [if_neg h2]; rw [i_le] at h2; omega
  · rw [if_neg h1]; rw [i_le] at h1; omega
theorem h_wedge (h : RX S T) : w_X7_wedge S (fun r1 S1 => w_X8_wedge T (fun r2 T1 => r1 = r2 ∧ RX S1 T1)) := by
  have hsame := h.same SX.rf (sm_thr T 0)
  obtain ⟨b, hb, e1, e2, e3⟩ := place_of h
  have hk : lfN S (S 1 2) b < 2 := by unfold lfN; by_cases z : 0 ≤ gapF S (S 1 2) b <;> simp [z]
  unfold w_X7_wedge
  refine x_rockHere h hb e1 (fun S1 hm => ⟨fun c => x_firstL hm.2.1 ?_, fun c => ?_⟩)
  · have f2 : S1 1 2 = S 1 2 := by rw [hm.1 1 (Or.inl (by decide))]
    have f4 : S1 1 4 = nI b := by rw [hm.1 1 (Or.inl (by decide))]; exact e1
    have f3 : S1 1 3 = S 1 3 := by rw [hm.1 1 (Or.inl (by decide))]
    have hS2 : S1 2 = S 2 := hm.1 2 (Or.inl (by decide))
    rw [f2, f4]
    refine x_cell hb (by show lfN S (S 1 2) b < 4; omega) ?_
    rw [f3]
    obtain ⟨j, hj, ej⟩ := pC_b (S 1 3) (S 1 2) ((b + 2 * lfN S (S 1 2) b) % 8)
    rw [show (if 0 ≤ gapF S (S 1 2) b then 1 else 0) = lfN S (S 1 2) b from rfl, ej, nI_clamp (by omega), hS2]
    refine ⟨nI_in hj (by decide), nI_in hj (by decide), fun S4 es4 => ?_⟩
    unfold w_X8_wedge
    intro T1 t1
    subst t1
    unfold w_X8_findNow
    have g4 : (mset T 0 (upd (T 0) 8 0)) 0 4 = S 1 2 := e3
    have g6 : (mset T 0 (upd (T 0) 8 0)) 0 6 = nI b := e2
    rw [g4, g6]
    refine m_find hsame hb (fun T2 mm2 => ?_)
    have sm := mm2.sm
    have k4 : T2 0 4 = S 1 2 := sm.1.1.trans g4
    have k6 : T2 0 6 = nI b := sm.1.2.2.1.trans g6
    have k5 : T2 0 5 = S 1 3 := sm.1.2.1.trans h.2.2.1.2.1.1.symm
    have k1 : T2 1 = S 2 := sm.2.1.trans h.1.1.symm
    dsimp only
    rw [mm2.2.2.2.1, mm2.2.2.2.2.2.1, k4, k6]
    refine ⟨fun _ => m_cell hb (by omega) ?_, fun z => absurd z c⟩
    rw [k5, ej, mm2.2.2.2.1, nI_clamp (by omega), k1]
    refine ⟨nI_in hj (by decide), ?_⟩
    rw [m_held2]
    refine ⟨nI_in hj (by decide), fun S5 es5 => ?_⟩
    have hbj := h.1.2 j hj
    have hr := rck_b h (S 1 2) b
    have ea := add_t (hbj.w (by decide) (by decide)) (hr.w (by decide) (by decide))
    have ev : jmin 99 (S 2 j + rckF S (S 1 2) b) = hl (S 2 j + rckF S (S 1 2) b) 0 99 := by
      apply Int32.toInt_inj.mp
      rw [jmin_t, hl_t (by decide), I99, I0]
      obtain ⟨q1, q2⟩ := hbj
      obtain ⟨q3, q4⟩ := hr
      omega
    rw [es5, es4, ev]
    refine ⟨?_, ?_⟩
    · show rckF S (S 1 2) b = T2 0 33
      exact mm2.2.2.2.1.symm
    · have hr2 := hsame.same hm.sx sm
      have := hr2.floor (k := j) (v := hl (S 2 j + rckF S (S 1 2) b) 0 99) (by
        unfold bnd
        rw [hl_t (by decide), I99, I0]
        omega)
      rw [hS2] at this
      exact this
  · unfold w_X8_wedge
    intro T1 t1
    subst t1
    unfold w_X8_findNow
    have g4 : (mset T 0 (upd (T 0) 8 0)) 0 4 = S 1 2 := e3
    have g6 : (mset T 0 (upd (T 0) 8 0)) 0 6 = nI b := e2
    rw [g4, g6]
    refine m_find hsame hb (fun T2 mm2 => ?_)
    dsimp only
    rw [mm2.2.2.2.1]
    exact ⟨fun z => absurd c z, fun _ => ⟨rfl, hsame.same hm.sx mm2.sm⟩⟩
theorem saw_v {L r z : Int32} (hL : bnd L 0 99) (hr : bnd r 0 600) (hz : bnd z 0 600) : jmax 0 (L - z) = hl (L - z) 0 99 ∧ jmax 0 (L - (r - z)) = hl ((L - r) + z) 0 99 ∨ ¬ z.toInt ≤ r.toInt := by
  by_cases c : z.toInt ≤ r.toInt
  · refine Or.inl ⟨?_, ?_⟩
    · have e := sub_t (hL.w (by decide) (by decide)) (hz.w (by decide) (by decide))
      apply Int32.toInt_inj.mp
      rw [jmax_t, hl_t (by decide), I99, I0]
      obtain ⟨q1, q2⟩ := hL
      obtain ⟨q3, q4⟩ := hz
      omega
    · have e1 := sub_t (hr.w (by decide) (by decide)) (hz.w (by decide) (by decide))
      have e3 := sub_t (hL.w (by decide) (by decide)) (hr.w (by decide) (by decide))
      obtain ⟨q1, q2⟩ := hL
      obtain ⟨q3, q4⟩ := hz
      obtain ⟨q5, q6⟩ := hr
      have e2 := sub_t (x := L) (y := r - z) ⟨by omega, by omega⟩ ⟨by omega, by omega⟩
      have e4 := add_t (x := L - r) (y := z) ⟨by omega, by omega⟩ ⟨by omega, by omega⟩
      apply Int32.toInt_inj.mp
      rw [jmax_t, hl_t (by decide), I99, I0]
      omega
  · exact Or.inr c
theorem h_saw (h : RX S T) : w_X7_saw S (fun r1 S1 => w_X8_saw T (fun r2 T1 => r1 = r2 ∧ RX S1 T1)) := by
  have hsame := h.same SX.rf (sm_thr T 0)
  obtain ⟨b, hb, e1, e2, e3⟩ := place_of h
  have hk : bfN S (S 1 2) b < 2 := by unfold bfN; by_cases z : 0 ≤ gapF S (S 1 2) b <;> simp [z]
  have hr := rck_b h (S 1 2) b
  have g4 : (mset T 0 (upd (T 0) 8 0)) 0 4 = S 1 2 := e3
  have g6 : (mset T 0 (upd (T 0) 8 0)) 0 6 = nI b := e2
  have ek2 : nI (bfN S (S 1 2) b) + (2 : Int32) = nI (bfN S (S 1 2) b + 2) := nI_add _ 2
  unfold w_X7_saw w_X0_shorten
  refine x_rockHere h hb e1 (fun S1 hm => ⟨fun c z2 ez2 => x_firstB hm.2.1 ?_, fun c => ?_⟩)
  · rw [show (if 0 ≤ gapF S (S 1 2) b then 0 else 1) = bfN S (S 1 2) b from rfl, ek2, nI_clamp (by omega), nI_clamp (by omega)]
    have hz : bnd z2 0 600 ∧ z2.toInt ≤ (rckF S (S 1 2) b).toInt := by
      obtain ⟨j, hj, hj2, ej⟩ := nI_ofb hr (by decide)
      have e22 : (2 : Int32) = nI 2 := rfl
      rw [ez2, ej, e22, pk_div hj (by decide) (by decide)]
      unfold bnd
      rw [nI_toInt (by omega), nI_toInt hj]
      omega
    obtain ⟨hz, hzr⟩ := hz
    refine ⟨four_nI (by omega), fun S4 es4 => ⟨four_nI (by omega), fun S5 es5 => ?_⟩⟩
    have hl0 : S1 (3 + 1 + bfN S (S 1 2) b) = S (4 + bfN S (S 1 2) b) := by
      rw [show 3 + 1 + bfN S (S 1 2) b = 4 + bfN S (S 1 2) b by omega]
      exact hm.1 _ (Or.inl (by omega))
    have hl2 : S4 (3 + 1 + (bfN S (S 1 2) b + 2)) = S (4 + (bfN S (S 1 2) b + 2)) := by
      rw [es4, ms_n (by omega), show 3 + 1 + (bfN S (S 1 2) b + 2) = 4 + (bfN S (S 1 2) b + 2) by omega]
      exact hm.1 _ (Or.inl (by omega))
    obtain ⟨⟨p1, p2, p3⟩, -, p5, -⟩ := h.2.1 (bfN S (S 1 2) b) (by omega)
    obtain ⟨⟨r1, r2, r3⟩, -, r5, -⟩ := h.2.1 (bfN S (S 1 2) b + 2) (by omega)
    have v1 := ((saw_v p5 hr hz).resolve_right (fun z => z hzr)).1
    have v2 := ((saw_v r5 hr hz).resolve_right (fun z => z hzr)).2
    have hS5 : S5 = mset (mset S1 (4 + bfN S (S 1 2) b) (upd (S1 (4 + bfN S (S 1 2) b)) 1 (hl (S (4 + bfN S (S 1 2) b) 1 - z2) 0 99))) (4 + (bfN S (S 1 2) b + 2)) (upd ((mset S1 (4 + bfN S (S 1 2) b) (upd (S1 (4 + bfN S (S 1 2) b)) 1 (hl (S (4 + bfN S (S 1 2) b) 1 - z2) 0 99))) (4 + (bfN S (S 1 2) b + 2))) 1 (hl (S (4 + (bfN S (S 1 2) b + 2)) 1 - rckF S (S 1 2) b + z2) 0 99)) := by
      rw [es5, hl2, v2, es4, hl0, v1, show 3 + 1 + bfN S (S 1 2) b = 4 + bfN S (S 1 2) b by omega, show 3 + 1 + (bfN S (S 1 2) b + 2) = 4 + (bfN S (S 1 2) b + 2) by omega, ms_n (show 4 + (bfN S (S 1 2) b + 2) ≠ 4 + bfN S (S 1 2) b by omega), hm.1 (4 + (bfN S (S 1 2) b + 2)) (Or.inl (by omega))]
    have hlb : ∀ x : Int32, bnd (hl x 0 99) 0 99 := by
      intro x
      unfold bnd
      rw [hl_t (by decide), I99, I0]
      omega
    have both : ∀ T2, MM S (mset T 0 (upd (T 0) 8 0)) T2 (S 1 2) b → RX S5 (mset (mset T2 3 (upd (T2 3) (bfN S (S 1 2) b) (hl (S (4 + bfN S (S 1 2) b) 1 - z2) 0 99))) 3 (upd ((mset T2 3 (upd (T2 3) (bfN S (S 1 2) b) (hl (S (4 + bfN S (S 1 2) b) 1 - z2) 0 99))) 3) (bfN S (S 1 2) b + 2) (hl (S (4 + (bfN S (S 1 2) b + 2)) 1 - rckF S (S 1 2) b + z2) 0 99))) := by
      intro T2 mm2
      rw [hS5]
      exact ((hsame.same hm.sx mm2.sm).leg1 (by omega) (hlb _)).leg1 (by omega) (hlb _)
    clear es5 hl2 v2 es4 hl0 v1
    obtain ⟨T2w, hT2w⟩ : ∃ Tw : Mem, RX S5 Tw := by
      refine ⟨_, (by rw [hS5]; exact ((hsame.same hm.sx SM.rf).leg1 (by omega) (hlb _)).leg1 (by omega) (hlb _))⟩
    have f4 : S5 1 4 = nI b := by rw [hS5, ms_n (by omega), ms_n (by omega), hm.1 1 (Or.inl (by decide))]; exact e1
    have f2 : S5 1 2 = S 1 2 := by rw [hS5, ms_n (by omega), ms_n (by omega), hm.1 1 (Or.inl (by decide))]
    refine x_rockHere hT2w hb f4 (fun S6 hm6 => ?_)
    rw [f2] at hm6 ⊢
    unfold w_X8_saw
    intro T1 t1
    subst t1
    unfold w_X8_findNow
    rw [g4, g6]
    refine m_find hsame hb (fun T2 mm2 => ?_)
    have sm := mm2.sm
    have hrx := both T2 mm2
    have k3 : T2 3 = T 3 := sm.2.2.2.1
    have k33 : T2 0 33 = rckF S (S 1 2) b := mm2.2.2.2.1
    have k35 : T2 0 35 = nI (bfN S (S 1 2) b) := mm2.2.2.2.2.2.2.2
    dsimp only
    rw [k33, k35]
    refine ⟨fun _ z3 ez3 => ⟨four_nI (by omega), ?_⟩, fun z => absurd z c⟩
    rw [← ez2] at ez3
    rw [m_held2, nI_clamp (by omega), k3, ← p2, ez3]
    rw [k3] at hrx
    refine ⟨four_nI (by omega), fun S7 es7 => ?_⟩
    have w35 : S7 0 35 = nI (bfN S (S 1 2) b) := by rw [es7, ms_n (by decide)]; exact k35
    have w33 : S7 0 33 = rckF S (S 1 2) b := by rw [es7, ms_n (by decide)]; exact k33
    have w3 : S7 3 (bfN S (S 1 2) b + 2) = S (4 + (bfN S (S 1 2) b + 2)) 1 := by rw [es7, ms_s, up_n (by omega)]; exact r2.symm
    rw [w35, w33, ek2, nI_clamp (by omega), w3]
    refine ⟨four_nI (by omega), ?_⟩
    rw [m_held2]
    refine ⟨four_nI (by omega), fun S8 es8 => ?_⟩
    rw [← es7, ← es8] at hrx
    have u4 : S8 0 4 = S 1 2 := by rw [es8, ms_n (by decide), es7, ms_n (by decide)]; exact sm.1.1.trans g4
    have u6 : S8 0 6 = nI b := by rw [es8, ms_n (by decide), es7, ms_n (by decide)]; exact sm.1.2.2.1.trans g6
    rw [u4, u6]
    refine m_find hrx hb (fun T9 mm9 => ⟨mm9.2.2.2.1.symm, hrx.same hm6.sx mm9.sm⟩)
  · unfold w_X8_saw
    intro T1 t1
    subst t1
    unfold w_X8_findNow
    rw [g4, g6]
    refine m_find hsame hb (fun T2 mm2 => ?_)
    dsimp only
    rw [mm2.2.2.2.1]
    exact ⟨fun z => absurd c z, fun _ => ⟨rfl, hsame.same hm.sx mm2.sm⟩⟩
end
