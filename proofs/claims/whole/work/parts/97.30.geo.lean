/-! PURE, 20: tall, give, cell -/
section
variable {S T S' T' : Mem} {a1 a2 a3 a4 a5 : Int32}
def hl (x lo hi : Int32) : Int32 := if lo ≤ x then (if x ≤ hi then x else hi) else lo
def pT (k L n w : Int32) : Int32 := jmax 0 (if k = 1 then L + n - w / 2 else if k = 2 then L + 3 * n else if k = 3 then (L + n - w / 2) / 2 else if k = 4 then L + 3 * n + 2 else if k = 5 then L - w * n else L)
def pG (k n s : Int32) : Int32 := if k = 1 then jmin (s / 2) n else if k = 3 then jmin (s / 2) n + 1 else if k = 5 then jmin s n else 0
def pC (r a : Int32) (d : Nat) : Int32 := hl (a / 8 + r * tWayY.getD d 0) 0 7 * 8 + hl (jrem a 8 + r * tWayX.getD d 0) 0 7
theorem x_tall {post : Int32 → Mem → Prop} {c : Nat} {w : Int32} (h : post (pT (S c 0) (S c 1) (S c 2) w) S) : w_X0_tall c w S post := by
  unfold w_X0_tall w_X0_tall_97 w_X0_feltTall w_X0_screwTall
  unfold pT at h
  intro z1 e1 z2 e2
  subst e1 e2
  by_cases c1 : S c 0 = 1
  · rw [if_pos c1] at h
    exact ⟨fun _ => h, fun z => absurd c1 z⟩
  rw [if_neg c1] at h
  refine ⟨fun z => absurd z c1, fun _ => ?_⟩
  by_cases c2 : S c 0 = 2
  · rw [if_pos c2] at h
    exact ⟨fun _ => h, fun z => absurd c2 z⟩
  rw [if_neg c2] at h
  refine ⟨fun z => absurd z c2, fun _ => ?_⟩
  by_cases c3 : S c 0 = 3
  · rw [if_pos c3] at h
    exact ⟨fun _ z9 e9 => by rw [e9]; exact h, fun z => absurd c3 z⟩
  rw [if_neg c3] at h
  refine ⟨fun z => absurd z c3, fun _ => ?_⟩
  by_cases c4 : S c 0 = 4
  · rw [if_pos c4] at h
    exact ⟨fun _ z9 e9 => by rw [e9]; exact h, fun z => absurd c4 z⟩
  rw [if_neg c4] at h
  refine ⟨fun z => absurd z c4, fun _ => ?_⟩
  by_cases c5 : S c 0 = 5
  · rw [if_pos c5] at h
    exact ⟨fun _ z9 e9 => by rw [e9]; exact h, fun z => absurd c5 z⟩
  rw [if_neg c5] at h
  exact ⟨fun z => absurd z c5, fun _ => h⟩
theorem jmax0 (x : Int32) : jmax 0 x = if 0 ≤ x then x else 0 := by
  unfold jmax
  by_cases h : (0 : Int32) < x
  · have h2 : 0 ≤ x := by rw [i_lt] at h; rw [i_le]; omega
    rw [if_pos h, if_pos h2]
  · rw [if_neg h]
    by_cases h2 : 0 ≤ x
    · rw [if_pos h2]
      rw [i_lt] at h
      rw [i_le] at h2
      rw [i_eq]
      omega
    · rw [if_neg h2]
theorem m_tall {post : Int32 → Mem → Prop} {i : Nat} {k L n w : Int32} (hi : i < 4) (ek : T 2 i = k) (eL : T 3 i = L) (en : T 4 i = n) (h : post (pT k L n w) T) : w_X8_tallOf (nI i) w T post := by
  have fin : ∀ x, jmax 0 x = pT k L n w → w_X8_tallOf_110 post x T := by
    intro x e
    unfold w_X8_tallOf_110 w_X8_tallOf_119
    rw [jmax0] at e
    rw [← e] at h
    exact ⟨fun z => by rw [if_pos z] at h; exact h, fun z => by rw [if_neg z] at h; exact h⟩
  unfold w_X8_tallOf
  rw [nI_clamp (by omega)]
  refine ⟨four_nI hi, fun z1 e1 => ⟨four_nI hi, fun z2 e2 z3 e3 => ⟨four_nI hi, fun z4 e4 => ?_⟩⟩⟩
  rw [eL] at e1
  rw [en] at e2
  rw [ek] at e4
  subst e1 e2 e3 e4
  have hp : pT z4 z1 z2 w = pT z4 z1 z2 w := rfl
  unfold pT at fin
  by_cases c1 : z4 = 1
  · exact ⟨fun _ => fin _ (by rw [if_pos c1]), fun z => absurd c1 z⟩
  refine ⟨fun z => absurd z c1, fun _ => ?_⟩
  by_cases c2 : z4 = 2
  · exact ⟨fun _ z7 e7 => fin _ (by rw [if_neg c1, if_pos c2, e7]), fun z => absurd c2 z⟩
  refine ⟨fun z => absurd z c2, fun _ => ?_⟩
  by_cases c3 : z4 = 3
  · exact ⟨fun _ z7 e7 => fin _ (by rw [if_neg c1, if_neg c2, if_pos c3, e7]), fun z => absurd c3 z⟩
  refine ⟨fun z => absurd z c3, fun _ => ?_⟩
  by_cases c4 : z4 = 4
  · exact ⟨fun _ z7 e7 => fin _ (by rw [if_neg c1, if_neg c2, if_neg c3, if_pos c4, e7, Int32.add_assoc]), fun z => absurd c4 z⟩
  refine ⟨fun z => absurd z c4, fun _ => ?_⟩
  by_cases c5 : z4 = 5
  · exact ⟨fun _ z7 e7 => fin _ (by rw [if_neg c1, if_neg c2, if_neg c3, if_neg c4, if_pos c5, e7]), fun z => absurd c5 z⟩
  exact ⟨fun z => absurd z c5, fun _ => fin _ (by rw [if_neg c1, if_neg c2, if_neg c3, if_neg c4, if_neg c5])⟩
theorem x_gives {post : Int32 → Mem → Prop} {c : Nat} {s : Int32} (h : post (pG (S c 0) (S c 2) s) S) : w_X0_gives c s S post := by
  unfold w_X0_gives w_X0_gives_63 w_X0_feltGives
  unfold pG at h
  intro z1 e1
  subst e1
  by_cases c1 : S c 0 = 1
  · rw [if_pos c1] at h
    exact ⟨fun _ => h, fun z => absurd c1 z⟩
  rw [if_neg c1] at h
  refine ⟨fun z => absurd z c1, fun _ => ?_⟩
  by_cases c3 : S c 0 = 3
  · rw [if_pos c3] at h
    exact ⟨fun z => absurd (z.symm.trans c3) (by decide), fun _ => ⟨fun _ => h, fun z => absurd c3 z⟩⟩
  rw [if_neg c3] at h
  by_cases c5 : S c 0 = 5
  · rw [if_pos c5] at h
    exact ⟨fun z => absurd (z.symm.trans c5) (by decide), fun _ => ⟨fun z => absurd z c3, fun _ => ⟨fun z => absurd (z.symm.trans c5) (by decide), fun _ => ⟨fun _ => h, fun z => absurd c5 z⟩⟩⟩⟩
  rw [if_neg c5] at h
  exact ⟨fun _ => h, fun _ => ⟨fun z => absurd z c3, fun _ => ⟨fun _ => h, fun _ => ⟨fun z => absurd z c5, fun _ => h⟩⟩⟩⟩
theorem jmin_le (x y : Int32) : jmin x y = if y ≤ x then y else x := by
  unfold jmin
  by_cases h : y < x
  · have h2 : y ≤ x := by rw [i_lt] at h; rw [i_le]; omega
    rw [if_pos h, if_pos h2]
  · rw [if_neg h]
    by_cases h2 : y ≤ x
    · rw [if_pos h2]
      rw [i_lt] at h
      rw [i_le] at h2
      rw [i_eq]
      omega
    · rw [if_neg h2]
theorem m_gives {post : Int32 → Mem → Prop} {i : Nat} {k n s : Int32} (hi : i < 4) (ek : T 2 i = k) (en : T 4 i = n) (h : post (pG k n s) T) : w_X8_givesOf (nI i) s T post := by
  unfold pG at h
  rw [jmin_le, jmin_le] at h
  have go : ∀ y : Int32, y = (if n ≤ s / 2 then n else s / 2) → w_X8_givesOf_21 post (nI i) s n y T := by
    intro y ey
    unfold w_X8_givesOf_21 w_X8_givesOf_75
    rw [nI_clamp (by omega), ek]
    refine ⟨four_nI hi, fun z1 e1 => ?_⟩
    subst e1
    rw [← ey] at h
    refine ⟨fun c1 => ?_, fun c1 => ?_⟩
    · rw [if_neg c1] at h
      refine ⟨fun c3 => ?_, fun c3 => ?_⟩
      · rw [if_neg c3] at h
        refine ⟨fun c5 => ?_, fun c5 => ?_⟩
        · rw [if_neg c5] at h; exact h
        · rw [if_pos c5] at h
          exact ⟨fun z => by rw [if_pos z] at h; exact h, fun z => by rw [if_neg z] at h; exact h⟩
      · rw [if_pos c3] at h; exact h
    · rw [if_pos c1] at h; exact h
  unfold w_X8_givesOf
  rw [nI_clamp (by omega), en]
  refine ⟨four_nI hi, fun z1 e1 => ?_⟩
  subst e1
  exact ⟨fun z => go _ (by rw [if_pos z]), fun z => go _ (by rw [if_neg z])⟩
theorem hl_b (x : Int32) : bnd (hl x 0 7) 0 7 := by
  unfold hl
  by_cases h1 : 0 ≤ x
  · by_cases h2 : x ≤ 7
    · rw [if_pos h1, if_pos h2]; exact bnd_of (by decide) (by decide) ⟨h1, h2⟩
    · rw [if_pos h1, if_neg h2]; exact bnd_of (lo := 0) (hi := 7) (by decide) (by decide) (by decide)
  · rw [if_neg h1]; exact bnd_of (lo := 0) (hi := 7) (by decide) (by decide) (by decide)
theorem pC_b (r a : Int32) (d : Nat) : ∃ j : Nat, j < 64 ∧ pC r a d = nI j := by
  unfold pC
  obtain ⟨x, hx, hx2, ex⟩ := nI_ofb (hl_b (a / 8 + r * tWayY.getD d 0)) (by decide)
  obtain ⟨y, hy, hy2, ey⟩ := nI_ofb (hl_b (jrem a 8 + r * tWayX.getD d 0)) (by decide)
  refine ⟨x * 8 + y, by omega, ?_⟩
  have e8 : (8 : Int32) = nI 8 := rfl
  rw [ex, ey, e8, pk_mul, nI_add]
theorem x_floorMod {post : Int32 → Mem → Prop} {a : Nat} (ha : a < 24) (h : post (nI (a % 8)) S) : w_X7_round (nI a) S post := by
  unfold w_X7_round w_J9_floorMod_7cf53 w_J9_floorMod_7cf53_18
  have e8 : (8 : Int32) = nI 8 := rfl
  have hx : ∀ a : Fin 24, 0 ≤ (nI a.val ^^^ (8 : Int32)) := by decide
  refine ⟨by decide, fun z ez => ?_⟩
  rw [e8, jrem_nI (by omega) (by decide) (by decide)] at ez
  rw [ez]
  exact ⟨fun _ => h, fun z => absurd (hx ⟨a, ha⟩) z⟩
theorem x_cell {post : Int32 → Mem → Prop} {a : Int32} {b i : Nat} (hb : b < 8) (hi : i < 4) (h : post (pC (S 1 3) a ((b + 2 * i) % 8)) S) : w_X5_cellBeneath 1 (nI i) a (nI b) S post := by
  unfold w_X5_cellBeneath
  have e2 : nI b + (2 : Int32) * nI i = nI (b + 2 * i) := by
    have e2 : (2 : Int32) = nI 2 := rfl
    rw [e2, pk_mul, nI_add]
  rw [e2]
  have hin : vp_in (nI ((b + 2 * i) % 8)) 8 := nI_in (by omega) (by decide)
  refine x_floorMod (by omega) ⟨hin, ?_⟩
  rw [x_held, nI_clamp (by omega)]
  refine ⟨hin, ?_⟩
  rw [x_held]
  exact h
theorem m_cell73 {post : Int32 → Mem → Prop} {a x5 y0 : Int32} {d : Nat} (ey : y0 = tWayY.getD d 0) (ex : x5 = tWayX.getD d 0) (h : post (pC (T 0 5) a d) T) : w_X8_cellOf_73 post a x5 y0 T := by
  unfold w_X8_cellOf_73
  rw [m_held, m_held, Int32.mul_comm 8, ey, ex]
  exact h
theorem m_cell {post : Int32 → Mem → Prop} {a : Int32} {b i : Nat} (hb : b < 8) (hi : i < 4) (h : post (pC (T 0 5) a ((b + 2 * i) % 8)) T) : w_X8_cellOf (nI i) a (nI b) T post := by
  unfold w_X8_cellOf w_X8_cellOf_23 w_X8_cellOf_44 w_X8_cellOf_45 w_X8_cellOf_62
  have e2 : nI b + (2 : Int32) * nI i = nI (b + 2 * i) := by
    have e2 : (2 : Int32) = nI 2 := rfl
    rw [e2, pk_mul, nI_add]
  have e8 : (8 : Int32) = nI 8 := rfl
  rw [e2]
  intro z1 e1
  rw [e8, jrem_nI (by omega) (by decide) (by decide)] at e1
  have hd : (b + 2 * i) % 8 < 8 := Nat.mod_lt _ (by decide)
  generalize (b + 2 * i) % 8 = d at h e1 hd
  have hc : d = 0 ∨ d = 1 ∨ d = 2 ∨ d = 3 ∨ d = 4 ∨ d = 5 ∨ d = 6 ∨ d = 7 := by omega
  rw [e1]
  rcases hc with e | e | e | e | e | e | e | e <;> subst e <;> refine ⟨fun z => ?_, fun z => ⟨fun z2 => ⟨fun z3 => ?_, fun z3 => ⟨fun z4 => ?_, fun z4 => ?_⟩⟩, fun z2 => ?_⟩⟩ <;> first | exact absurd z (by decide) | exact absurd z2 (by decide) | exact absurd z3 (by decide) | exact absurd z4 (by decide) | (refine ⟨fun y => ?_, fun y => ⟨fun y2 => ?_, fun y2 => ?_⟩⟩ <;> first | exact absurd y (by decide) | exact absurd y2 (by decide) | exact m_cell73 (by decide) (by decide) h | (refine ⟨fun x => ?_, fun x => ?_⟩ <;> first | exact absurd x (by decide) | exact m_cell73 (by decide) (by decide) h))
end
