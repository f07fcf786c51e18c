/-! PURE, 2: the relation of the class's cells S and the model's T -/
/-- a step of the class's rules in the model's words -/
def trS (s : Int32) : Int32 := if s ≤ -7 then 3 - s else -1 - s
/-- how many values a row of steps leaves on the stack, if it never wants one that isn't there -/
def dep : List Int32 → Nat → Option Nat
  | [], n => some n
  | s :: l, n => if 0 ≤ s ∨ (-6 ≤ s ∧ s ≤ -1) then dep l (n + 1) else if s = -9 ∨ s = -15 then (if 1 ≤ n then dep l n else none) else if -15 ≤ s then (if 2 ≤ n then dep l (n - 1) else none) else none
def seg (f : Nat → Int32) (a b : Nat) : List Int32 := (List.range (b - a)).map fun i => f (a + i)
def RH (S T : Mem) : Prop := S 2 = T 1 ∧ ∀ i, i < 64 → bnd (S 2 i) 0 99
def RLeg (S T : Mem) : Prop := ∀ i, i < 4 → (S (4 + i) 0 = T 2 i ∧ S (4 + i) 1 = T 3 i ∧ S (4 + i) 2 = T 4 i) ∧ bnd (S (4 + i) 0) 0 5 ∧ bnd (S (4 + i) 1) 0 99 ∧ bnd (S (4 + i) 2) 0 9
def RT (S T : Mem) : Prop := (S 1 2 = T 0 4 ∧ bnd (S 1 2) 0 63) ∧ (S 1 3 = T 0 5 ∧ bnd (S 1 3) 1 3) ∧ (S 1 4 = T 0 6 ∧ bnd (S 1 4) 0 7) ∧ (S 1 5 = T 0 7 ∧ bnd (S 1 5) 0 9) ∧ (S 1 6 = T 0 15 ∧ 0 ≤ (S 1 6).toInt ∧ (S 1 6).toInt < (S 0 5).toInt)
/-- the words' letters and where each begins: nothing writes there -/
def ltL : List Int32 := [114, 111, 99, 107, 108, 101, 97, 110, 116, 117, 114, 110, 121, 120, 103, 105, 118, 101, 115, 108, 97, 99, 107, 119, 111, 114, 116, 104, 115, 112, 105, 108, 108, 115, 111, 114, 97, 110, 100, 110, 111, 116]
def waL : List Int32 := [0, 4, 8, 12, 13, 14, 18, 23, 28, 34, 36, 39, 42]
def RW (T : Mem) : Prop := (∀ i, i < 42 → T 6 i = ltL.getD i 0) ∧ ∀ i, i < 13 → T 7 i = waL.getD i 0
def tp3 (T : Mem) : (Nat → Int32) × (Nat → Int32) × (Nat → Int32) := (T 8, T 6, T 7)
theorem tp3_of {T T' : Mem} (a : T' 8 = T 8) (b : T' 6 = T 6) (c : T' 7 = T 7) : tp3 T' = tp3 T := by
  unfold tp3
  rw [a, b, c]
def RB (S T : Mem) : Prop := S 15 2 = T 0 13 ∧ bnd (S 15 2) 0 160 ∧ (∀ i : Nat, (i : Int) < (S 15 2).toInt → S 16 i = T 8 i ∧ bnd (S 16 i) 0 255) ∧ RW T
def RuleOk (S T : Mem) (k : Nat) : Prop := ∃ e0 e1 e2 : Nat, e0 ≤ e1 ∧ e1 ≤ e2 ∧ e2 ≤ 160 ∧ S (23 + 3 * k) 0 = nI e0 ∧ S (23 + 3 * k) 1 = nI e1 ∧ S (23 + 3 * k) 2 = nI e2 ∧ T 10 (4 * k) = nI 0 ∧ T 10 (4 * k + 1) = nI e0 ∧ T 10 (4 * k + 2) = nI e1 ∧ T 10 (4 * k + 3) = nI e2 ∧ (∀ i, i < e2 → T 9 (160 * k + i) = trS (S (22 + 3 * k) i)) ∧ (∀ i, i < e2 → bnd (S (22 + 3 * k) i) (-15) 9999) ∧ dep (seg (S (22 + 3 * k)) 0 e0) 0 = some 1 ∧ dep (seg (S (22 + 3 * k)) e0 e1) 0 = some 1 ∧ dep (seg (S (22 + 3 * k)) e1 e2) 0 = some 1
def RR (S T : Mem) : Prop := S 0 5 = T 0 14 ∧ bnd (S 0 5) 1 6 ∧ ∀ k : Nat, (k : Int) < (S 0 5).toInt → RuleOk S T k
def KeptOk (S T : Mem) : Prop := (∀ i, i < 64 → S 9 i = T 16 (13 + i) ∧ bnd (S 9 i) 0 99) ∧ (∀ i, i < 4 → (S (11 + i) 1 = T 16 (5 + 2 * i) ∧ S (11 + i) 2 = T 16 (6 + 2 * i)) ∧ bnd (S (11 + i) 1) 0 99 ∧ bnd (S (11 + i) 2) 0 9) ∧ (S 8 2 = T 16 0 ∧ bnd (S 8 2) 0 63) ∧ (S 8 3 = T 16 1 ∧ bnd (S 8 3) 1 3) ∧ (S 8 4 = T 16 2 ∧ bnd (S 8 4) 0 7) ∧ (S 8 5 = T 16 3 ∧ bnd (S 8 5) 0 9) ∧ (S 8 6 = T 16 4 ∧ 0 ≤ (S 8 6).toInt ∧ (S 8 6).toInt < (S 0 5).toInt)
def RK (S T : Mem) : Prop := S 0 2 = T 0 38 ∧ (S 0 2 = 0 ∨ KeptOk S T)
def RS (S T : Mem) : Prop := ∀ i, i < 4 → (S (44 + 2 * i) 0 = T 17 i ∧ bnd (S (44 + 2 * i) 0) (-1) 2) ∧ (S (44 + 2 * i) 1 = T 18 i ∧ bnd (S (44 + 2 * i) 1) 0 40) ∧ ∀ j : Nat, (j : Int) < (S (44 + 2 * i) 1).toInt → S (45 + 2 * i) j = T 19 (40 * i + j)
def RX (S T : Mem) : Prop := RH S T ∧ RLeg S T ∧ RT S T ∧ RB S T ∧ RR S T ∧ RK S T ∧ RS S T
section
variable {S T S' T' : Mem}
theorem RH.fr (h : RH S T) (a : S' 2 = S 2) (b : T' 1 = T 1) : RH S' T' := by
  unfold RH
  rw [a, b]
  exact h
theorem RLeg.fr (h : RLeg S T) (a : ∀ i, i < 4 → S' (4 + i) = S (4 + i)) (b : T' 2 = T 2) (c : T' 3 = T 3) (d : T' 4 = T 4) : RLeg S' T' := by
  intro i hi
  rw [a i hi, b, c, d]
  exact h i hi
theorem RT.fr (h : RT S T) (a : ∀ j, 2 ≤ j → j ≤ 6 → S' 1 j = S 1 j) (a0 : S' 0 5 = S 0 5) (b4 : T' 0 4 = T 0 4) (b5 : T' 0 5 = T 0 5) (b6 : T' 0 6 = T 0 6) (b7 : T' 0 7 = T 0 7) (b15 : T' 0 15 = T 0 15) : RT S' T' := by
  unfold RT
  rw [a 2 (by decide) (by decide), a 3 (by decide) (by decide), a 4 (by decide) (by decide), a 5 (by decide) (by decide), a 6 (by decide) (by decide), a0, b4, b5, b6, b7, b15]
  exact h
theorem RB.fr (h : RB S T) (a : S' 15 2 = S 15 2) (a1 : S' 16 = S 16) (b : T' 0 13 = T 0 13) (b1 : tp3 T' = tp3 T) : RB S' T' := by
  have b8 : T' 8 = T 8 := congrArg (fun x => x.1) b1
  have b6 : T' 6 = T 6 := congrArg (fun x => x.2.1) b1
  have b7 : T' 7 = T 7 := congrArg (fun x => x.2.2) b1
  unfold RB RW
  rw [a, a1, b, b8, b6, b7]
  exact h
theorem RuleOk.fr {k : Nat} (h : RuleOk S T k) (hk : k < 6) (a1 : ∀ c, 20 < c → c < 39 → S' c = S c) (b1 : T' 9 = T 9) (b2 : T' 10 = T 10) : RuleOk S' T' k := by
  unfold RuleOk
  rw [a1 (23 + 3 * k) (by omega) (by omega), a1 (22 + 3 * k) (by omega) (by omega), b1, b2]
  exact h
theorem RR.fr (h : RR S T) (a : S' 0 5 = S 0 5) (a1 : ∀ c, 20 < c → c < 39 → S' c = S c) (b : T' 0 14 = T 0 14) (b1 : T' 9 = T 9) (b2 : T' 10 = T 10) : RR S' T' := by
  obtain ⟨h1, h2, h3⟩ := h
  refine ⟨by rw [a, b]; exact h1, by rw [a]; exact h2, fun k hk => ?_⟩
  rw [a] at hk
  have h22 := h2.2
  exact (h3 k hk).fr (by omega) a1 b1 b2
theorem KeptOk.fr (h : KeptOk S T) (a5 : S' 0 5 = S 0 5) (a8 : S' 8 = S 8) (a9 : S' 9 = S 9) (a : ∀ i, i < 4 → S' (11 + i) = S (11 + i)) (b : T' 16 = T 16) : KeptOk S' T' := by
  obtain ⟨h1, h2, h3⟩ := h
  refine ⟨?_, ?_, ?_⟩
  · rw [a9, b]; exact h1
  · intro i hi
    rw [a i hi, b]
    exact h2 i hi
  · rw [a8, a5, b]; exact h3
theorem RK.fr (h : RK S T) (a2 : S' 0 2 = S 0 2) (a5 : S' 0 5 = S 0 5) (a8 : S' 8 = S 8) (a9 : S' 9 = S 9) (a : ∀ i, i < 4 → S' (11 + i) = S (11 + i)) (b0 : T' 0 38 = T 0 38) (b : T' 16 = T 16) : RK S' T' := by
  unfold RK
  rw [a2, b0]
  exact ⟨h.1, h.2.imp id (fun z => z.fr a5 a8 a9 a b)⟩
theorem RS.fr (h : RS S T) (a : ∀ c, 43 < c → S' c = S c) (b17 : T' 17 = T 17) (b18 : T' 18 = T 18) (b19 : T' 19 = T 19) : RS S' T' := by
  intro i hi
  rw [a (44 + 2 * i) (by omega), a (45 + 2 * i) (by omega), b17, b18, b19]
  exact h i hi
/-- what the class's scratch is, changes nothing -/
def SX (S S' : Mem) : Prop := S' 0 = S 0 ∧ S' 1 = S 1 ∧ S' 2 = S 2 ∧ (∀ c, 3 < c → c < 15 → S' c = S c) ∧ S' 15 2 = S 15 2 ∧ S' 16 = S 16 ∧ (∀ c, 20 < c → c < 39 → S' c = S c) ∧ ∀ c, 43 < c → S' c = S c
def SM (T T' : Mem) : Prop := (T' 0 4 = T 0 4 ∧ T' 0 5 = T 0 5 ∧ T' 0 6 = T 0 6 ∧ T' 0 7 = T 0 7 ∧ T' 0 13 = T 0 13 ∧ T' 0 14 = T 0 14 ∧ T' 0 15 = T 0 15 ∧ T' 0 38 = T 0 38) ∧ T' 1 = T 1 ∧ T' 2 = T 2 ∧ T' 3 = T 3 ∧ T' 4 = T 4 ∧ tp3 T' = tp3 T ∧ T' 9 = T 9 ∧ T' 10 = T 10 ∧ T' 16 = T 16 ∧ T' 17 = T 17 ∧ T' 18 = T 18 ∧ T' 19 = T 19
theorem SX.rf : SX S S := ⟨rfl, rfl, rfl, fun _ _ _ => rfl, rfl, rfl, fun _ _ _ => rfl, fun _ _ => rfl⟩
theorem SM.rf : SM T T := ⟨⟨rfl, rfl, rfl, rfl, rfl, rfl, rfl, rfl⟩, rfl, rfl, rfl, rfl, rfl, rfl, rfl, rfl, rfl, rfl, rfl⟩
theorem SX.tr {S2 : Mem} (h : SX S S') (h2 : SX S' S2) : SX S S2 := by
  obtain ⟨a1, a2, a3, a4, a5, a6, a7, a8⟩ := h
  obtain ⟨b1, b2, b3, b4, b5, b6, b7, b8⟩ := h2
  exact ⟨b1.trans a1, b2.trans a2, b3.trans a3, fun c x y => (b4 c x y).trans (a4 c x y), b5.trans a5, b6.trans a6, fun c x y => (b7 c x y).trans (a7 c x y), fun c x => (b8 c x).trans (a8 c x)⟩
theorem SM.tr {T2 : Mem} (h : SM T T') (h2 : SM T' T2) : SM T T2 := by
  obtain ⟨⟨a1, a2, a3, a4, a5, a6, a7, a8⟩, c1, c2, c3, c4, c5, c6, c7, c8, c9, c10, c11⟩ := h
  obtain ⟨⟨b1, b2, b3, b4, b5, b6, b7, b8⟩, d1, d2, d3, d4, d5, d6, d7, d8, d9, d10, d11⟩ := h2
  exact ⟨⟨b1.trans a1, b2.trans a2, b3.trans a3, b4.trans a4, b5.trans a5, b6.trans a6, b7.trans a7, b8.trans a8⟩, d1.trans c1, d2.trans c2, d3.trans c3, d4.trans c4, d5.trans c5, d6.trans c6, d7.trans c7, d8.trans c8, d9.trans c9, d10.trans c10, d11.trans c11⟩
theorem RX.same (h : RX S T) (hx : SX S S') (hm : SM T T') : RX S' T' := by
  obtain ⟨h1, h2, h3, h4, h5, h6, h7⟩ := h
  obtain ⟨a1, a2, a3, a4, a5, a6, a7, a8⟩ := hx
  obtain ⟨⟨b1, b2, b3, b4, b5, b6, b7, b8⟩, d1, d2, d3, d4, d5, d6, d7, d8, d9, d10, d11⟩ := hm
  have e05 : S' 0 5 = S 0 5 := by rw [a1]
  have e02 : S' 0 2 = S 0 2 := by rw [a1]
  exact ⟨h1.fr a3 d1, h2.fr (fun i hi => a4 _ (by omega) (by omega)) d2 d3 d4, h3.fr (fun j _ _ => by rw [a2]) e05 b1 b2 b3 b4 b7, h4.fr a5 a6 b5 d5, h5.fr e05 a7 b6 d6 d7, h6.fr e02 e05 (a4 _ (by decide) (by decide)) (a4 _ (by decide) (by decide)) (fun i hi => a4 _ (by omega) (by omega)) b8 d8, h7.fr a8 d9 d10 d11⟩
theorem sm_thr (T : Mem) (x : Int32) : SM T (mset T 0 (upd (T 0) 8 x)) := ⟨⟨rfl, rfl, rfl, rfl, rfl, rfl, rfl, rfl⟩, rfl, rfl, rfl, rfl, rfl, rfl, rfl, rfl, rfl, rfl, rfl⟩
/-- changes of what is told -/
theorem RX.floor (h : RX S T) {k : Nat} {v : Int32} (hv : bnd v 0 99) : RX (mset S 2 (upd (S 2) k v)) (mset T 1 (upd (T 1) k v)) := by
  obtain ⟨h1, h2, h3, h4, h5, h6, h7⟩ := h
  refine ⟨⟨by rw [ms_s, ms_s, h1.1], fun i hi => ?_⟩, h2.fr (fun i hi => ms_n (by omega)) rfl rfl rfl, h3.fr (fun _ _ _ => rfl) rfl rfl rfl rfl rfl rfl, h4.fr rfl rfl rfl rfl, h5.fr rfl (fun c _ _ => ms_n (by omega)) rfl rfl rfl, h6.fr rfl rfl rfl rfl (fun i hi => ms_n (by omega)) rfl rfl, h7.fr (fun c hc => ms_n (by omega)) rfl rfl rfl⟩
  rw [ms_s]
  by_cases e : i = k
  · rw [e, up_s]; exact hv
  · rw [up_n e]; exact h1.2 i hi
end
