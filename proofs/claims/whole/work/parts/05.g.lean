/-! THE WALK LAYER: a frozen set of cells o = (N, addresses, shapes, class numbers, array classes, standing facts), a memory S (cell, slot -> int);
G: the machine stands in method frame g at pc, with locals L and stack st, the cells holding S. -/
abbrev CxT : Type := Program × Launch × Env × State × MethodId × Array Value × List Frame × Method × Code × (State → Prop) × Nat × Nat
abbrev Mem : Type := Nat → Nat → Int32
abbrev OmT : Type := Nat × (Nat → Nat) × (Nat → (Nat → Int32) → va_E) × va_G × List (ClassId × FieldType) × (State → Heap → Prop)
def mset (S : Mem) (c : Nat) (f : Nat → Int32) : Mem := fun a => if a = c then f else S a
def rl (k : Nat) : Room := { frames := k, cells := 0, slots := 0, locals := 100 * k }
def rlc (k cs sl : Nat) : Room := { frames := k, cells := cs, slots := sl, locals := 100 * k }
def GW (o : OmT) (S : Mem) : va_W := (List.range o.1).map fun c => (o.2.1 c, o.2.2.1 c (S c))
def AX (o : OmT) : Nat → Prop := fun a => ∃ c, c < o.1 ∧ a = o.2.1 c
theorem gw_at {o : OmT} {c : Nat} (S : Mem) (h : c < o.1) : (GW o S)[c]? = some (o.2.1 c, o.2.2.1 c (S c)) := by
  unfold GW
  rw [List.getElem?_map, List.getElem?_range h]
  rfl
theorem gw_at' {o : OmT} {c : Nat} {S : Mem} {e : va_E} (h : c < o.1) (he : o.2.2.1 c (S c) = e) : (GW o S)[c]? = some (o.2.1 c, e) := by
  rw [gw_at S h, he]
theorem gw_set (o : OmT) (S : Mem) (c : Nat) (f : Nat → Int32) : (GW o S).set c (o.2.1 c, o.2.2.1 c f) = GW o (mset S c f) := by
  apply List.ext_getElem?
  intro i
  unfold GW
  rw [List.getElem?_set]
  by_cases hi : i < o.1
  · rw [List.getElem?_map, List.getElem?_map, List.getElem?_range hi]
    by_cases hc : c = i
    · subst hc
      simp [mset, hi]
    · have hc2 : ¬ i = c := fun e => hc e.symm
      simp [mset, hc, hc2]
  · have hn : (List.range o.1)[i]? = none := List.getElem?_eq_none (by simpa using Nat.le_of_not_lt hi)
    rw [List.getElem?_map, List.getElem?_map, hn]
    by_cases hc : c = i
    · subst hc
      simp [hi]
    · simp [hc]
theorem gw_set' {o : OmT} {S : Mem} {c : Nat} {f : Nat → Int32} {e : va_E} (he : o.2.2.1 c f = e) : (GW o S).set c (o.2.1 c, e) = GW o (mset S c f) := by
  rw [← he, gw_set]
def isNest : Cond → Bool
  | .fieldLinkNest _ _ _ _ _ _ => true
  | .methodLinkNest _ _ _ _ => true
  | _ => false
def okw (w : Cond) : Bool := goodWord w || isNest w
def WD (U : State) : Prop := ∀ w, w ∈ lw_tbl → okw w = true → ∀ a : Array Value, w.before a U = true
theorem wd_warm {w : Cond} {s U : State} {a a' : Array Value} (hk : okw w = true) (hW : s.WarmedH U.vm) (h : w.before a s = true) : w.before a' U = true := by
  unfold okw at hk
  rw [Bool.or_eq_true] at hk
  rcases hk with hk | hk
  · exact word_at hW (good_of_word hk) h
  · cases w with
    | fieldLinkNest x1 x2 x3 x4 x5 x6 => exact va_Nw.use rfl (va_Nw.warmF hW (va_Nw.of rfl h))
    | methodLinkNest x1 x2 x3 x4 => exact va_Nw.use rfl (va_Nw.warmM hW (va_Nw.of rfl h))
    | _ => cases hk
theorem WD.warm {s U : State} (h : WD s) (hW : s.WarmedH U.vm) : WD U := fun w hw hk a => wd_warm (a := a) hk hW (h w hw hk a)
theorem WD.of {s : State} {a : Array Value} (h : ∀ w ∈ lw_tbl, w.before a s = true) : WD s := fun w hw hk a' => wd_warm (a := a) hk (State.WarmedH.refl s) (h w hw)
theorem tm1 {w : Cond} (i : Nat) (h : tables_1_1[i]? = some w) : w ∈ lw_tbl := List.mem_append_right _ (List.mem_append_left _ (List.mem_of_getElem? h))
theorem tm2 {w : Cond} (i : Nat) (h : tables_1_2[i]? = some w) : w ∈ lw_tbl := List.mem_append_right _ (List.mem_append_right _ (List.mem_append_left _ (List.mem_of_getElem? h)))
theorem tm3 {w : Cond} (i : Nat) (h : tables_1_3[i]? = some w) : w ∈ lw_tbl := List.mem_append_right _ (List.mem_append_right _ (List.mem_append_right _ (List.mem_append_left _ (List.mem_of_getElem? h))))
theorem tm4 {w : Cond} (i : Nat) (h : tables_1_4[i]? = some w) : w ∈ lw_tbl := List.mem_append_right _ (List.mem_append_right _ (List.mem_append_right _ (List.mem_append_right _ (List.mem_append_left _ (List.mem_of_getElem? h)))))
theorem tm5 {w : Cond} (i : Nat) (h : tables_1_5[i]? = some w) : w ∈ lw_tbl := List.mem_append_right _ (List.mem_append_right _ (List.mem_append_right _ (List.mem_append_right _ (List.mem_append_right _ (List.mem_append_left _ (List.mem_of_getElem? h))))))
theorem tm6 {w : Cond} (i : Nat) (h : tables_1_6[i]? = some w) : w ∈ lw_tbl := List.mem_append_right _ (List.mem_append_right _ (List.mem_append_right _ (List.mem_append_right _ (List.mem_append_right _ (List.mem_append_right _ (List.mem_of_getElem? h))))))
theorem pm {q : MethodName × Nat} (i : Nat) (h : lw_privs[i]? = some q) : Cond.selects q.1.cls q.1 q.1 ∈ lw_tbl := List.mem_append_left _ (List.mem_map.mpr ⟨q, List.mem_of_getElem? h, rfl⟩)
/-- the words of a class's fields -/
def WL (ws : List Cond) : Prop := ∀ w ∈ ws, w ∈ lw_tbl ∧ okw w = true
theorem wl_nil : WL [] := fun _ h => by cases h
theorem wl_cons {w : Cond} {ws : List Cond} (h1 : w ∈ lw_tbl) (h2 : okw w = true) (h : WL ws) : WL (w :: ws) := List.forall_mem_cons.mpr ⟨⟨h1, h2⟩, h⟩
theorem WL.use {ws : List Cond} {s : State} {a : Array Value} (h : WL ws) (hW : WD s) : ∀ w ∈ ws, w.before a s = true := fun w hw => hW w (h w hw).1 (h w hw).2 a
def DW (o : OmT) : Prop := ∀ S, va_D (AX o) (GW o S)
def Stab (o : OmT) : Prop := ∀ (u U : State) (H1 : Heap), u.WarmedH U.vm → (∀ a, a < u.heap.size → ¬ AX o a → H1[a]? = u.heap[a]?) → o.2.2.2.2.2 u u.heap → o.2.2.2.2.2 U H1
def BX (o : OmT) (S : Mem) (U : State) : Prop := va_P o.2.2.2.1 vwCl (GW o S) U.heap ∧ va_K o.2.2.2.1 vwCl o.2.2.2.2.1 U ∧ DW o ∧ Stab o ∧ o.2.2.2.2.2 U U.heap ∧ WD U
def Ok (l : Launch) (g : CxT) (o : OmT) (nL : Nat) (cc : ByteArray) (own : String) (ret : Option FieldType) : Prop := match g with
  | (p, l', _, s, m, _, _, meth, c, _, _, _) => l' = l ∧ p.tables.exec = Jvm.exec ∧ c.code = cc ∧ c.maxLocals = nL ∧ s.vm.findClass own = some m.cls ∧ WD s ∧ meth.sig.returnType = ret ∧ meth.locks = false ∧ va_K o.2.2.2.1 vwCl o.2.2.2.2.1 s ∧ DW o ∧ Stab o ∧ o.2.2.2.2.2 s s.heap
def G (g : CxT) (o : OmT) (k nL pc : Nat) (L : List (Nat × Value)) (st : List Value) (S : Mem) : Prop := match g with
  | (p, l, e, s, m, args, below, meth, c, Q, cs, sl) => ∀ (ls : Array Slot) (H : Heap) (locs : List Loc), lv_has ls nL L → va_P o.2.2.2.1 vwCl (GW o S) H → va_S (AX o) s.heap H locs → W p l e (rlc k cs sl) s m args below meth c H locs cs sl Q (F0 m pc ls st)
theorem bx_blind {o : OmT} {S : Mem} (av : List Value) : FrameBlind (va_Pc av (BX o S)) := by
  intro a U g mk h
  obtain ⟨h0, hP, hK, hD, hSt, hZ, hWD⟩ := h
  exact ⟨h0, hP, va_K.moved (u := U) (U := U.calling g mk a) (Vm.Alike.refl U.vm) hK, hD, hSt, hSt U (U.calling g mk a) U.heap (State.WarmedH.refl U) (fun _ _ _ => rfl) hZ, hWD.warm (U := U.calling g mk a) (State.WarmedH.refl U)⟩
theorem bx_make {o : OmT} {S : Mem} {s U : State} {H : Heap} {locs : List Loc} (hK : va_K o.2.2.2.1 vwCl o.2.2.2.2.1 s) (hD : DW o) (hSt : Stab o) (hZ : o.2.2.2.2.2 s s.heap) (hWD : WD s) (hP : va_P o.2.2.2.1 vwCl (GW o S) H) (hS : va_S (AX o) s.heap H locs) (hU : U.heap = H) (hW : s.WarmedH U.vm) : BX o S U := by
  subst hU
  exact ⟨hP, va_K.moved hW.alike hK, hD, hSt, hSt s U U.heap hW (fun a h1 h2 => hS.2.1 a h1 h2) hZ, hWD.warm hW⟩
theorem vp_dec {i : Int32} {n : Nat} (h : decide (i < 0 ∨ n ≤ i.toNatClampNeg) = false) : vp_in i n := of_decide_eq_false h
section
variable {l : Launch} {g : CxT} {o : OmT} {k nL pc : Nat} {cc : ByteArray} {own : String} {ret : Option FieldType} {L : List (Nat × Value)} {st : List Value} {S : Mem}
theorem g_eq {L' : List (Nat × Value)} {st' : List Value} (h : G g o k nL pc L' st' S) (e1 : L = L') (e2 : st = st') : G g o k nL pc L st S := by
  subst e1; subst e2; exact h
theorem g_sub {L' : List (Nat × Value)} (ks : List Nat) (hl : lv_pick L ks = L') (h : G g o k nL pc L' st S) : G g o k nL pc L st S := by
  obtain ⟨p, l', e, s, m, args, below, meth, c, Q, cs, sl⟩ := g
  exact fun ls H locs hl2 hP hS => h ls H locs (lv_sub hl2 ks hl) hP hS
theorem g_topi {x : Int32} (h : ∀ y : Int32, y = x → G g o k nL pc L (.int y :: st) S) : G g o k nL pc L (.int x :: st) S := h x rfl
theorem g_topl {x : Int64} (h : ∀ y : Int64, y = x → G g o k nL pc L (.long y :: st) S) : G g o k nL pc L (.long x :: st) S := h x rfl
theorem g_mem (h : ∀ S1 : Mem, S1 = S → G g o k nL pc L st S1) : G g o k nL pc L st S := h S rfl
theorem g_iconst  (ok : Ok l g o nL cc own ret) {i : Int} {v : Int32} {n : Nat} (hd : decode cc pc = .ok (.iconst i, 1)) (hn : pc + 1 = n) (hv : Int32.ofInt i = v) (h : G g o k nL n L (.int v :: st) S) : G g o k nL pc L (st) S := by
  obtain ⟨p, l', e, s, m, args, below, meth, cD, Q, cs, sl⟩ := g
  obtain ⟨rfl, hx, hb, hml, hown, hts, hr, hlk, hK, hD, hSt, hZ⟩ := ok
  subst hn
  exact fun ls H locs hl hP hS => lv_iconst hx hb hd hv (h ls H locs hl hP hS)
theorem g_bipush  (ok : Ok l g o nL cc own ret) {i : Int} {v : Int32} {n : Nat} (hd : decode cc pc = .ok (.bipush i, 2)) (hn : pc + 2 = n) (hv : (Int8.ofInt i).toInt32 = v) (h : G g o k nL n L (.int v :: st) S) : G g o k nL pc L (st) S := by
  obtain ⟨p, l', e, s, m, args, below, meth, cD, Q, cs, sl⟩ := g
  obtain ⟨rfl, hx, hb, hml, hown, hts, hr, hlk, hK, hD, hSt, hZ⟩ := ok
  subst hn
  exact fun ls H locs hl hP hS => lv_bipush hx hb hd hv (h ls H locs hl hP hS)
theorem g_sipush  (ok : Ok l g o nL cc own ret) {i : Int} {v : Int32} {n : Nat} (hd : decode cc pc = .ok (.sipush i, 3)) (hn : pc + 3 = n) (hv : (Int16.ofInt i).toInt32 = v) (h : G g o k nL n L (.int v :: st) S) : G g o k nL pc L (st) S := by
  obtain ⟨p, l', e, s, m, args, below, meth, cD, Q, cs, sl⟩ := g
  obtain ⟨rfl, hx, hb, hml, hown, hts, hr, hlk, hK, hD, hSt, hZ⟩ := ok
  subst hn
  exact fun ls H locs hl hP hS => lv_sipush hx hb hd hv (h ls H locs hl hP hS)
theorem g_lconst  (ok : Ok l g o nL cc own ret) {i : Fin 2} {v : Int64} {n : Nat} (hd : decode cc pc = .ok (.lconst i, 1)) (hn : pc + 1 = n) (hv : Int64.ofNat (i : Nat) = v) (h : G g o k nL n L (.long v :: st) S) : G g o k nL pc L (st) S := by
  obtain ⟨p, l', e, s, m, args, below, meth, cD, Q, cs, sl⟩ := g
  obtain ⟨rfl, hx, hb, hml, hown, hts, hr, hlk, hK, hD, hSt, hZ⟩ := ok
  subst hn
  exact fun ls H locs hl hP hS => lv_lconst hx hb hd hv (h ls H locs hl hP hS)
theorem g_ldc  (ok : Ok l g o nL cc own ret) {i : Nat} {v : Int32} {n : Nat} (hd : decode cc pc = .ok (.ldc i, 2)) (hn : pc + 2 = n) (hc : Cond.constant own i v ∈ lw_tbl) (h : G g o k nL n L (.int v :: st) S) : G g o k nL pc L (st) S := by
  obtain ⟨p, l', e, s, m, args, below, meth, cD, Q, cs, sl⟩ := g
  obtain ⟨rfl, hx, hb, hml, hown, hts, hr, hlk, hK, hD, hSt, hZ⟩ := ok
  subst hn
  exact fun ls H locs hl hP hS => lv_ldc hx hb hown (hts _ hc rfl _) hd (h ls H locs hl hP hS)
theorem g_ldc2  (ok : Ok l g o nL cc own ret) {i : Nat} {v : Int64} {n : Nat} (hd : decode cc pc = .ok (.ldc2_w i, 3)) (hn : pc + 3 = n) (hc : Cond.constantLong own i v ∈ lw_tbl) (h : G g o k nL n L (.long v :: st) S) : G g o k nL pc L (st) S := by
  obtain ⟨p, l', e, s, m, args, below, meth, cD, Q, cs, sl⟩ := g
  obtain ⟨rfl, hx, hb, hml, hown, hts, hr, hlk, hK, hD, hSt, hZ⟩ := ok
  subst hn
  exact fun ls H locs hl hP hS => lv_ldc2 hx hb hown (hts _ hc rfl _) hd (h ls H locs hl hP hS)
theorem g_iload_n (j : Nat) (ok : Ok l g o nL cc own ret) {i : Fin 4} {x : Int32} {n : Nat} (hd : decode cc pc = .ok (.iload_n i, 1)) (hn : pc + 1 = n) (hj : L[j]? = some ((i : Nat), .int x)) (h : G g o k nL n L (.int x :: st) S) : G g o k nL pc L (st) S := by
  obtain ⟨p, l', e, s, m, args, below, meth, cD, Q, cs, sl⟩ := g
  obtain ⟨rfl, hx, hb, hml, hown, hts, hr, hlk, hK, hD, hSt, hZ⟩ := ok
  subst hn
  exact fun ls H locs hl hP hS => lv_iload_n hx hb hd rfl (lv_at hl j hj) (h ls H locs hl hP hS)
theorem g_iload (j : Nat) (ok : Ok l g o nL cc own ret) {i : Nat} {x : Int32} {n : Nat} (hd : decode cc pc = .ok (.iload i, 2)) (hn : pc + 2 = n) (hj : L[j]? = some (i, .int x)) (h : G g o k nL n L (.int x :: st) S) : G g o k nL pc L (st) S := by
  obtain ⟨p, l', e, s, m, args, below, meth, cD, Q, cs, sl⟩ := g
  obtain ⟨rfl, hx, hb, hml, hown, hts, hr, hlk, hK, hD, hSt, hZ⟩ := ok
  subst hn
  exact fun ls H locs hl hP hS => lv_iload hx hb hd (lv_at hl j hj) (h ls H locs hl hP hS)
theorem g_lload_n (j : Nat) (ok : Ok l g o nL cc own ret) {i : Fin 4} {x : Int64} {n : Nat} (hd : decode cc pc = .ok (.lload_n i, 1)) (hn : pc + 1 = n) (hj : L[j]? = some ((i : Nat), .long x)) (h : G g o k nL n L (.long x :: st) S) : G g o k nL pc L (st) S := by
  obtain ⟨p, l', e, s, m, args, below, meth, cD, Q, cs, sl⟩ := g
  obtain ⟨rfl, hx, hb, hml, hown, hts, hr, hlk, hK, hD, hSt, hZ⟩ := ok
  subst hn
  exact fun ls H locs hl hP hS => lv_lload_n hx hb hd rfl (lv_at hl j hj) (h ls H locs hl hP hS)
theorem g_lload (j : Nat) (ok : Ok l g o nL cc own ret) {i : Nat} {x : Int64} {n : Nat} (hd : decode cc pc = .ok (.lload i, 2)) (hn : pc + 2 = n) (hj : L[j]? = some (i, .long x)) (h : G g o k nL n L (.long x :: st) S) : G g o k nL pc L (st) S := by
  obtain ⟨p, l', e, s, m, args, below, meth, cD, Q, cs, sl⟩ := g
  obtain ⟨rfl, hx, hb, hml, hown, hts, hr, hlk, hK, hD, hSt, hZ⟩ := ok
  subst hn
  exact fun ls H locs hl hP hS => lv_lload hx hb hd (lv_at hl j hj) (h ls H locs hl hP hS)
theorem g_aload_n (j : Nat) (ok : Ok l g o nL cc own ret) {i : Fin 4} {x : Nat} {n : Nat} (hd : decode cc pc = .ok (.aload_n i, 1)) (hn : pc + 1 = n) (hj : L[j]? = some ((i : Nat), .ref x)) (h : G g o k nL n L (.ref x :: st) S) : G g o k nL pc L (st) S := by
  obtain ⟨p, l', e, s, m, args, below, meth, cD, Q, cs, sl⟩ := g
  obtain ⟨rfl, hx, hb, hml, hown, hts, hr, hlk, hK, hD, hSt, hZ⟩ := ok
  subst hn
  exact fun ls H locs hl hP hS => lv_aload_n hx hb hd rfl (lv_at hl j hj) (h ls H locs hl hP hS)
theorem g_aload (j : Nat) (ok : Ok l g o nL cc own ret) {i : Nat} {x : Nat} {n : Nat} (hd : decode cc pc = .ok (.aload i, 2)) (hn : pc + 2 = n) (hj : L[j]? = some (i, .ref x)) (h : G g o k nL n L (.ref x :: st) S) : G g o k nL pc L (st) S := by
  obtain ⟨p, l', e, s, m, args, below, meth, cD, Q, cs, sl⟩ := g
  obtain ⟨rfl, hx, hb, hml, hown, hts, hr, hlk, hK, hD, hSt, hZ⟩ := ok
  subst hn
  exact fun ls H locs hl hP hS => lv_aload hx hb hd (lv_at hl j hj) (h ls H locs hl hP hS)
theorem g_istore_n (L2 : List (Nat × Value)) (ok : Ok l g o nL cc own ret) {i : Fin 4} {x : Int32} {n : Nat} (hd : decode cc pc = .ok (.istore_n i, 1)) (hn : pc + 1 = n) (hi : (i : Nat) < nL) (hf : ((i : Nat), Value.int x) :: L.filter (fun q => !(q.1 == (i : Nat)) && !(q.1 + 1 == (i : Nat) && q.2.category == 2)) = L2) (h : G g o k nL n L2 (st) S) : G g o k nL pc L (.int x :: st) S := by
  obtain ⟨p, l', e, s, m, args, below, meth, cD, Q, cs, sl⟩ := g
  obtain ⟨rfl, hx, hb, hml, hown, hts, hr, hlk, hK, hD, hSt, hZ⟩ := ok
  subst hn
  exact fun ls H locs hl hP hS => lv_istore_n hx hb hd rfl hl hi hf (fun ls2 hl2 => h ls2 H locs hl2 hP hS)
theorem g_istore (L2 : List (Nat × Value)) (ok : Ok l g o nL cc own ret) {i : Nat} {x : Int32} {n : Nat} (hd : decode cc pc = .ok (.istore i, 2)) (hn : pc + 2 = n) (hi : i < nL) (hf : (i, Value.int x) :: L.filter (fun q => !(q.1 == i) && !(q.1 + 1 == i && q.2.category == 2)) = L2) (h : G g o k nL n L2 (st) S) : G g o k nL pc L (.int x :: st) S := by
  obtain ⟨p, l', e, s, m, args, below, meth, cD, Q, cs, sl⟩ := g
  obtain ⟨rfl, hx, hb, hml, hown, hts, hr, hlk, hK, hD, hSt, hZ⟩ := ok
  subst hn
  exact fun ls H locs hl hP hS => lv_istore hx hb hd hl hi hf (fun ls2 hl2 => h ls2 H locs hl2 hP hS)
theorem g_lstore_n (L2 : List (Nat × Value)) (ok : Ok l g o nL cc own ret) {i : Fin 4} {x : Int64} {n : Nat} (hd : decode cc pc = .ok (.lstore_n i, 1)) (hn : pc + 1 = n) (hi : (i : Nat) + 1 < nL) (hf : ((i : Nat), Value.long x) :: L.filter (fun q => !(q.1 == (i : Nat)) && (!(q.1 == (i : Nat) + 1) && !(q.1 + 1 == (i : Nat) && q.2.category == 2))) = L2) (h : G g o k nL n L2 (st) S) : G g o k nL pc L (.long x :: st) S := by
  obtain ⟨p, l', e, s, m, args, below, meth, cD, Q, cs, sl⟩ := g
  obtain ⟨rfl, hx, hb, hml, hown, hts, hr, hlk, hK, hD, hSt, hZ⟩ := ok
  subst hn
  exact fun ls H locs hl hP hS => lv_lstore_n hx hb hd rfl hl hi hf (fun ls2 hl2 => h ls2 H locs hl2 hP hS)
theorem g_lstore (L2 : List (Nat × Value)) (ok : Ok l g o nL cc own ret) {i : Nat} {x : Int64} {n : Nat} (hd : decode cc pc = .ok (.lstore i, 2)) (hn : pc + 2 = n) (hi : i + 1 < nL) (hf : (i, Value.long x) :: L.filter (fun q => !(q.1 == i) && (!(q.1 == i + 1) && !(q.1 + 1 == i && q.2.category == 2))) = L2) (h : G g o k nL n L2 (st) S) : G g o k nL pc L (.long x :: st) S := by
  obtain ⟨p, l', e, s, m, args, below, meth, cD, Q, cs, sl⟩ := g
  obtain ⟨rfl, hx, hb, hml, hown, hts, hr, hlk, hK, hD, hSt, hZ⟩ := ok
  subst hn
  exact fun ls H locs hl hP hS => lv_lstore hx hb hd hl hi hf (fun ls2 hl2 => h ls2 H locs hl2 hP hS)
theorem g_astore_n (L2 : List (Nat × Value)) (ok : Ok l g o nL cc own ret) {i : Fin 4} {x : Nat} {n : Nat} (hd : decode cc pc = .ok (.astore_n i, 1)) (hn : pc + 1 = n) (hi : (i : Nat) < nL) (hf : ((i : Nat), Value.ref x) :: L.filter (fun q => !(q.1 == (i : Nat)) && !(q.1 + 1 == (i : Nat) && q.2.category == 2)) = L2) (h : G g o k nL n L2 (st) S) : G g o k nL pc L (.ref x :: st) S := by
  obtain ⟨p, l', e, s, m, args, below, meth, cD, Q, cs, sl⟩ := g
  obtain ⟨rfl, hx, hb, hml, hown, hts, hr, hlk, hK, hD, hSt, hZ⟩ := ok
  subst hn
  exact fun ls H locs hl hP hS => lv_astore_n hx hb hd rfl hl hi hf (fun ls2 hl2 => h ls2 H locs hl2 hP hS)
theorem g_astore (L2 : List (Nat × Value)) (ok : Ok l g o nL cc own ret) {i : Nat} {x : Nat} {n : Nat} (hd : decode cc pc = .ok (.astore i, 2)) (hn : pc + 2 = n) (hi : i < nL) (hf : (i, Value.ref x) :: L.filter (fun q => !(q.1 == i) && !(q.1 + 1 == i && q.2.category == 2)) = L2) (h : G g o k nL n L2 (st) S) : G g o k nL pc L (.ref x :: st) S := by
  obtain ⟨p, l', e, s, m, args, below, meth, cD, Q, cs, sl⟩ := g
  obtain ⟨rfl, hx, hb, hml, hown, hts, hr, hlk, hK, hD, hSt, hZ⟩ := ok
  subst hn
  exact fun ls H locs hl hP hS => lv_astore hx hb hd hl hi hf (fun ls2 hl2 => h ls2 H locs hl2 hP hS)
theorem g_iinc (j : Nat) (L2 : List (Nat × Value)) (ok : Ok l g o nL cc own ret) {i : Nat} {d : Int} {x v : Int32} {n : Nat} (hd : decode cc pc = .ok (.iinc i d, 3)) (hn : pc + 3 = n) (hj : L[j]? = some (i, .int x)) (hv : x + Int32.ofInt d = v) (hi : i < nL) (hf : (i, Value.int v) :: L.filter (fun q => !(q.1 == i) && !(q.1 + 1 == i && q.2.category == 2)) = L2) (h : G g o k nL n L2 (st) S) : G g o k nL pc L (st) S := by
  obtain ⟨p, l', e, s, m, args, below, meth, cD, Q, cs, sl⟩ := g
  obtain ⟨rfl, hx, hb, hml, hown, hts, hr, hlk, hK, hD, hSt, hZ⟩ := ok
  subst hn
  exact fun ls H locs hl hP hS => lv_iinc hx hb hd hl hj hv hi hf (fun ls2 hl2 => h ls2 H locs hl2 hP hS)
theorem g_iadd  (ok : Ok l g o nL cc own ret) {x y : Int32} {n : Nat} (hd : decode cc pc = .ok (.iadd, 1)) (hn : pc + 1 = n)  (h : G g o k nL n L (.int (x + y) :: st) S) : G g o k nL pc L (.int y :: .int x :: st) S := by
  obtain ⟨p, l', e, s, m, args, below, meth, cD, Q, cs, sl⟩ := g
  obtain ⟨rfl, hx, hb, hml, hown, hts, hr, hlk, hK, hD, hSt, hZ⟩ := ok
  subst hn
  exact fun ls H locs hl hP hS => lv_iadd hx hb hd (h ls H locs hl hP hS)
theorem g_isub  (ok : Ok l g o nL cc own ret) {x y : Int32} {n : Nat} (hd : decode cc pc = .ok (.isub, 1)) (hn : pc + 1 = n)  (h : G g o k nL n L (.int (x - y) :: st) S) : G g o k nL pc L (.int y :: .int x :: st) S := by
  obtain ⟨p, l', e, s, m, args, below, meth, cD, Q, cs, sl⟩ := g
  obtain ⟨rfl, hx, hb, hml, hown, hts, hr, hlk, hK, hD, hSt, hZ⟩ := ok
  subst hn
  exact fun ls H locs hl hP hS => lv_isub hx hb hd (h ls H locs hl hP hS)
theorem g_imul  (ok : Ok l g o nL cc own ret) {x y : Int32} {n : Nat} (hd : decode cc pc = .ok (.imul, 1)) (hn : pc + 1 = n)  (h : G g o k nL n L (.int (x * y) :: st) S) : G g o k nL pc L (.int y :: .int x :: st) S := by
  obtain ⟨p, l', e, s, m, args, below, meth, cD, Q, cs, sl⟩ := g
  obtain ⟨rfl, hx, hb, hml, hown, hts, hr, hlk, hK, hD, hSt, hZ⟩ := ok
  subst hn
  exact fun ls H locs hl hP hS => lv_imul hx hb hd (h ls H locs hl hP hS)
theorem g_iand  (ok : Ok l g o nL cc own ret) {x y : Int32} {n : Nat} (hd : decode cc pc = .ok (.iand, 1)) (hn : pc + 1 = n)  (h : G g o k nL n L (.int (x &&& y) :: st) S) : G g o k nL pc L (.int y :: .int x :: st) S := by
  obtain ⟨p, l', e, s, m, args, below, meth, cD, Q, cs, sl⟩ := g
  obtain ⟨rfl, hx, hb, hml, hown, hts, hr, hlk, hK, hD, hSt, hZ⟩ := ok
  subst hn
  exact fun ls H locs hl hP hS => lv_iand hx hb hd (h ls H locs hl hP hS)
theorem g_ior  (ok : Ok l g o nL cc own ret) {x y : Int32} {n : Nat} (hd : decode cc pc = .ok (.ior, 1)) (hn : pc + 1 = n)  (h : G g o k nL n L (.int (x ||| y) :: st) S) : G g o k nL pc L (.int y :: .int x :: st) S := by
  obtain ⟨p, l', e, s, m, args, below, meth, cD, Q, cs, sl⟩ := g
  obtain ⟨rfl, hx, hb, hml, hown, hts, hr, hlk, hK, hD, hSt, hZ⟩ := ok
  subst hn
  exact fun ls H locs hl hP hS => lv_ior hx hb hd (h ls H locs hl hP hS)
theorem g_ixor  (ok : Ok l g o nL cc own ret) {x y : Int32} {n : Nat} (hd : decode cc pc = .ok (.ixor, 1)) (hn : pc + 1 = n)  (h : G g o k nL n L (.int (x ^^^ y) :: st) S) : G g o k nL pc L (.int y :: .int x :: st) S := by
  obtain ⟨p, l', e, s, m, args, below, meth, cD, Q, cs, sl⟩ := g
  obtain ⟨rfl, hx, hb, hml, hown, hts, hr, hlk, hK, hD, hSt, hZ⟩ := ok
  subst hn
  exact fun ls H locs hl hP hS => lv_ixor hx hb hd (h ls H locs hl hP hS)
theorem g_ishl  (ok : Ok l g o nL cc own ret) {x y : Int32} {n : Nat} (hd : decode cc pc = .ok (.ishl, 1)) (hn : pc + 1 = n)  (h : G g o k nL n L (.int (x <<< (y &&& 31)) :: st) S) : G g o k nL pc L (.int y :: .int x :: st) S := by
  obtain ⟨p, l', e, s, m, args, below, meth, cD, Q, cs, sl⟩ := g
  obtain ⟨rfl, hx, hb, hml, hown, hts, hr, hlk, hK, hD, hSt, hZ⟩ := ok
  subst hn
  exact fun ls H locs hl hP hS => lv_ishl hx hb hd (h ls H locs hl hP hS)
theorem g_ishr  (ok : Ok l g o nL cc own ret) {x y : Int32} {n : Nat} (hd : decode cc pc = .ok (.ishr, 1)) (hn : pc + 1 = n)  (h : G g o k nL n L (.int (x >>> (y &&& 31)) :: st) S) : G g o k nL pc L (.int y :: .int x :: st) S := by
  obtain ⟨p, l', e, s, m, args, below, meth, cD, Q, cs, sl⟩ := g
  obtain ⟨rfl, hx, hb, hml, hown, hts, hr, hlk, hK, hD, hSt, hZ⟩ := ok
  subst hn
  exact fun ls H locs hl hP hS => lv_ishr hx hb hd (h ls H locs hl hP hS)
theorem g_ladd  (ok : Ok l g o nL cc own ret) {x y : Int64} {n : Nat} (hd : decode cc pc = .ok (.ladd, 1)) (hn : pc + 1 = n)  (h : G g o k nL n L (.long (x + y) :: st) S) : G g o k nL pc L (.long y :: .long x :: st) S := by
  obtain ⟨p, l', e, s, m, args, below, meth, cD, Q, cs, sl⟩ := g
  obtain ⟨rfl, hx, hb, hml, hown, hts, hr, hlk, hK, hD, hSt, hZ⟩ := ok
  subst hn
  exact fun ls H locs hl hP hS => lv_ladd hx hb hd (h ls H locs hl hP hS)
theorem g_lmul  (ok : Ok l g o nL cc own ret) {x y : Int64} {n : Nat} (hd : decode cc pc = .ok (.lmul, 1)) (hn : pc + 1 = n)  (h : G g o k nL n L (.long (x * y) :: st) S) : G g o k nL pc L (.long y :: .long x :: st) S := by
  obtain ⟨p, l', e, s, m, args, below, meth, cD, Q, cs, sl⟩ := g
  obtain ⟨rfl, hx, hb, hml, hown, hts, hr, hlk, hK, hD, hSt, hZ⟩ := ok
  subst hn
  exact fun ls H locs hl hP hS => lv_lmul hx hb hd (h ls H locs hl hP hS)
theorem g_lor  (ok : Ok l g o nL cc own ret) {x y : Int64} {n : Nat} (hd : decode cc pc = .ok (.lor, 1)) (hn : pc + 1 = n)  (h : G g o k nL n L (.long (x ||| y) :: st) S) : G g o k nL pc L (.long y :: .long x :: st) S := by
  obtain ⟨p, l', e, s, m, args, below, meth, cD, Q, cs, sl⟩ := g
  obtain ⟨rfl, hx, hb, hml, hown, hts, hr, hlk, hK, hD, hSt, hZ⟩ := ok
  subst hn
  exact fun ls H locs hl hP hS => lv_lor hx hb hd (h ls H locs hl hP hS)
def jrem (x y : Int32) : Int32 := x - x / y * y
def jushr (x y : Int32) : Int32 := (x.toUInt32 >>> (y.toUInt32 &&& Int32.toUInt32 31)).toInt32
def jlshl (x : Int64) (y : Int32) : Int64 := x <<< (y.toInt64 &&& 63)
def jmax (x y : Int32) : Int32 := if x < y then y else x
def jmin (x y : Int32) : Int32 := if y < x then y else x
def jabs (x : Int32) : Int32 := if 0 ≤ x then x else 0 - x
theorem g_idiv  (ok : Ok l g o nL cc own ret) {x y : Int32} {n : Nat} (hd : decode cc pc = .ok (.idiv, 1)) (hn : pc + 1 = n) (h0 : ¬ y = 0) (h : G g o k nL n L (.int (x / y) :: st) S) : G g o k nL pc L (.int y :: .int x :: st) S := by
  obtain ⟨p, l', e, s, m, args, below, meth, cD, Q, cs, sl⟩ := g
  obtain ⟨rfl, hx, hb, hml, hown, hts, hr, hlk, hK, hD, hSt, hZ⟩ := ok
  subst hn
  exact fun ls H locs hl hP hS => lv_idiv hx hb hd h0 (h ls H locs hl hP hS)
theorem g_irem  (ok : Ok l g o nL cc own ret) {x y : Int32} {n : Nat} (hd : decode cc pc = .ok (.irem, 1)) (hn : pc + 1 = n) (h0 : ¬ y = 0) (h : G g o k nL n L (.int (jrem x y) :: st) S) : G g o k nL pc L (.int y :: .int x :: st) S := by
  obtain ⟨p, l', e, s, m, args, below, meth, cD, Q, cs, sl⟩ := g
  obtain ⟨rfl, hx, hb, hml, hown, hts, hr, hlk, hK, hD, hSt, hZ⟩ := ok
  subst hn
  exact fun ls H locs hl hP hS => lv_irem hx hb hd h0 (h ls H locs hl hP hS)
theorem g_ineg  (ok : Ok l g o nL cc own ret) {x : Int32} {n : Nat} (hd : decode cc pc = .ok (.ineg, 1)) (hn : pc + 1 = n)  (h : G g o k nL n L (.int (-x) :: st) S) : G g o k nL pc L (.int x :: st) S := by
  obtain ⟨p, l', e, s, m, args, below, meth, cD, Q, cs, sl⟩ := g
  obtain ⟨rfl, hx, hb, hml, hown, hts, hr, hlk, hK, hD, hSt, hZ⟩ := ok
  subst hn
  exact fun ls H locs hl hP hS => lv_ineg hx hb hd (h ls H locs hl hP hS)
theorem g_iushr  (ok : Ok l g o nL cc own ret) {x y : Int32} {n : Nat} (hd : decode cc pc = .ok (.iushr, 1)) (hn : pc + 1 = n)  (h : G g o k nL n L (.int (jushr x y) :: st) S) : G g o k nL pc L (.int y :: .int x :: st) S := by
  obtain ⟨p, l', e, s, m, args, below, meth, cD, Q, cs, sl⟩ := g
  obtain ⟨rfl, hx, hb, hml, hown, hts, hr, hlk, hK, hD, hSt, hZ⟩ := ok
  subst hn
  exact fun ls H locs hl hP hS => lv_iushr hx hb hd rfl (h ls H locs hl hP hS)
theorem g_lshl  (ok : Ok l g o nL cc own ret) {x : Int64} {y : Int32} {n : Nat} (hd : decode cc pc = .ok (.lshl, 1)) (hn : pc + 1 = n)  (h : G g o k nL n L (.long (jlshl x y) :: st) S) : G g o k nL pc L (.int y :: .long x :: st) S := by
  obtain ⟨p, l', e, s, m, args, below, meth, cD, Q, cs, sl⟩ := g
  obtain ⟨rfl, hx, hb, hml, hown, hts, hr, hlk, hK, hD, hSt, hZ⟩ := ok
  subst hn
  exact fun ls H locs hl hP hS => lv_lshl hx hb hd rfl (h ls H locs hl hP hS)
theorem g_lcmp  (ok : Ok l g o nL cc own ret) {x y : Int64} {n : Nat} (hd : decode cc pc = .ok (.lcmp, 1)) (hn : pc + 1 = n)  (h : G g o k nL n L (.int (lg_cmp x y) :: st) S) : G g o k nL pc L (.long y :: .long x :: st) S := by
  obtain ⟨p, l', e, s, m, args, below, meth, cD, Q, cs, sl⟩ := g
  obtain ⟨rfl, hx, hb, hml, hown, hts, hr, hlk, hK, hD, hSt, hZ⟩ := ok
  subst hn
  exact fun ls H locs hl hP hS => W.lcmp hx hb hd (h ls H locs hl hP hS)
theorem g_i2l  (ok : Ok l g o nL cc own ret) {x : Int32} {n : Nat} (hd : decode cc pc = .ok (.i2l, 1)) (hn : pc + 1 = n)  (h : G g o k nL n L (.long x.toInt64 :: st) S) : G g o k nL pc L (.int x :: st) S := by
  obtain ⟨p, l', e, s, m, args, below, meth, cD, Q, cs, sl⟩ := g
  obtain ⟨rfl, hx, hb, hml, hown, hts, hr, hlk, hK, hD, hSt, hZ⟩ := ok
  subst hn
  exact fun ls H locs hl hP hS => lv_i2l hx hb hd rfl (h ls H locs hl hP hS)
theorem g_l2i  (ok : Ok l g o nL cc own ret) {x : Int64} {n : Nat} (hd : decode cc pc = .ok (.l2i, 1)) (hn : pc + 1 = n)  (h : G g o k nL n L (.int x.toInt32 :: st) S) : G g o k nL pc L (.long x :: st) S := by
  obtain ⟨p, l', e, s, m, args, below, meth, cD, Q, cs, sl⟩ := g
  obtain ⟨rfl, hx, hb, hml, hown, hts, hr, hlk, hK, hD, hSt, hZ⟩ := ok
  subst hn
  exact fun ls H locs hl hP hS => lv_l2i hx hb hd rfl (h ls H locs hl hP hS)
theorem g_i2b  (ok : Ok l g o nL cc own ret) {x : Int32} {n : Nat} (hd : decode cc pc = .ok (.i2b, 1)) (hn : pc + 1 = n)  (h : G g o k nL n L (.int x.toInt8.toInt32 :: st) S) : G g o k nL pc L (.int x :: st) S := by
  obtain ⟨p, l', e, s, m, args, below, meth, cD, Q, cs, sl⟩ := g
  obtain ⟨rfl, hx, hb, hml, hown, hts, hr, hlk, hK, hD, hSt, hZ⟩ := ok
  subst hn
  exact fun ls H locs hl hP hS => lv_i2b hx hb hd rfl (h ls H locs hl hP hS)
theorem g_i2s  (ok : Ok l g o nL cc own ret) {x : Int32} {n : Nat} (hd : decode cc pc = .ok (.i2s, 1)) (hn : pc + 1 = n)  (h : G g o k nL n L (.int x.toInt16.toInt32 :: st) S) : G g o k nL pc L (.int x :: st) S := by
  obtain ⟨p, l', e, s, m, args, below, meth, cD, Q, cs, sl⟩ := g
  obtain ⟨rfl, hx, hb, hml, hown, hts, hr, hlk, hK, hD, hSt, hZ⟩ := ok
  subst hn
  exact fun ls H locs hl hP hS => lv_i2s hx hb hd rfl (h ls H locs hl hP hS)
theorem g_dup  (ok : Ok l g o nL cc own ret) {x : Value} {n : Nat} (hd : decode cc pc = .ok (.dup, 1)) (hn : pc + 1 = n) (hc : x.category = 1) (h : G g o k nL n L (x :: x :: st) S) : G g o k nL pc L (x :: st) S := by
  obtain ⟨p, l', e, s, m, args, below, meth, cD, Q, cs, sl⟩ := g
  obtain ⟨rfl, hx, hb, hml, hown, hts, hr, hlk, hK, hD, hSt, hZ⟩ := ok
  subst hn
  exact fun ls H locs hl hP hS => lv_dup hx hb hd hc (h ls H locs hl hP hS)
theorem g_pop  (ok : Ok l g o nL cc own ret) {x : Value} {n : Nat} (hd : decode cc pc = .ok (.pop, 1)) (hn : pc + 1 = n) (hc : x.category = 1) (h : G g o k nL n L (st) S) : G g o k nL pc L (x :: st) S := by
  obtain ⟨p, l', e, s, m, args, below, meth, cD, Q, cs, sl⟩ := g
  obtain ⟨rfl, hx, hb, hml, hown, hts, hr, hlk, hK, hD, hSt, hZ⟩ := ok
  subst hn
  exact fun ls H locs hl hP hS => lv_pop hx hb hd hc (h ls H locs hl hP hS)
theorem g_goto (ok : Ok l g o nL cc own ret) {off : Int} {t : Nat} (hd : decode cc pc = .ok (.goto off, 3)) (ht : (pc : Int) + off = (t : Int)) (h : G g o k nL t L st S) : G g o k nL pc L st S := by
  obtain ⟨p, l', e, s, m, args, below, meth, cD, Q, cs, sl⟩ := g
  obtain ⟨rfl, hx, hb, hml, hown, hts, hr, hlk, hK, hD, hSt, hZ⟩ := ok
  exact fun ls H locs hl hP hS => lv_goto hx hb hd ht (h ls H locs hl hP hS)
theorem g_if_eq (ok : Ok l g o nL cc own ret) {x : Int32} {off : Int} {t : Nat} {n : Nat} (hd : decode cc pc = .ok (.ifCond .eq off, 3)) (ht : (pc : Int) + off = (t : Int)) (hn : pc + 3 = n) (h1 : x = 0 → G g o k nL t L st S) (h2 : ¬ x = 0 → G g o k nL n L st S) : G g o k nL pc L (.int x :: st) S := by
  obtain ⟨p, l', e, s, m, args, below, meth, cD, Q, cs, sl⟩ := g
  obtain ⟨rfl, hx, hb, hml, hown, hts, hr, hlk, hK, hD, hSt, hZ⟩ := ok
  subst hn
  exact fun ls H locs hl hP hS => lv_if_eq hx hb hd ht (fun z => h1 z ls H locs hl hP hS) (fun z => h2 z ls H locs hl hP hS)
theorem g_if_ne (ok : Ok l g o nL cc own ret) {x : Int32} {off : Int} {t : Nat} {n : Nat} (hd : decode cc pc = .ok (.ifCond .ne off, 3)) (ht : (pc : Int) + off = (t : Int)) (hn : pc + 3 = n) (h1 : ¬ x = 0 → G g o k nL t L st S) (h2 : x = 0 → G g o k nL n L st S) : G g o k nL pc L (.int x :: st) S := by
  obtain ⟨p, l', e, s, m, args, below, meth, cD, Q, cs, sl⟩ := g
  obtain ⟨rfl, hx, hb, hml, hown, hts, hr, hlk, hK, hD, hSt, hZ⟩ := ok
  subst hn
  exact fun ls H locs hl hP hS => lv_if_ne hx hb hd ht (fun z => h1 z ls H locs hl hP hS) (fun z => h2 z ls H locs hl hP hS)
theorem g_if_lt (ok : Ok l g o nL cc own ret) {x : Int32} {off : Int} {t : Nat} {n : Nat} (hd : decode cc pc = .ok (.ifCond .lt off, 3)) (ht : (pc : Int) + off = (t : Int)) (hn : pc + 3 = n) (h1 : x < 0 → G g o k nL t L st S) (h2 : ¬ x < 0 → G g o k nL n L st S) : G g o k nL pc L (.int x :: st) S := by
  obtain ⟨p, l', e, s, m, args, below, meth, cD, Q, cs, sl⟩ := g
  obtain ⟨rfl, hx, hb, hml, hown, hts, hr, hlk, hK, hD, hSt, hZ⟩ := ok
  subst hn
  exact fun ls H locs hl hP hS => lv_if_lt hx hb hd ht (fun z => h1 z ls H locs hl hP hS) (fun z => h2 z ls H locs hl hP hS)
theorem g_if_ge (ok : Ok l g o nL cc own ret) {x : Int32} {off : Int} {t : Nat} {n : Nat} (hd : decode cc pc = .ok (.ifCond .ge off, 3)) (ht : (pc : Int) + off = (t : Int)) (hn : pc + 3 = n) (h1 : 0 ≤ x → G g o k nL t L st S) (h2 : ¬ 0 ≤ x → G g o k nL n L st S) : G g o k nL pc L (.int x :: st) S := by
  obtain ⟨p, l', e, s, m, args, below, meth, cD, Q, cs, sl⟩ := g
  obtain ⟨rfl, hx, hb, hml, hown, hts, hr, hlk, hK, hD, hSt, hZ⟩ := ok
  subst hn
  exact fun ls H locs hl hP hS => lv_if_ge hx hb hd ht (fun z => h1 z ls H locs hl hP hS) (fun z => h2 z ls H locs hl hP hS)
theorem g_if_gt (ok : Ok l g o nL cc own ret) {x : Int32} {off : Int} {t : Nat} {n : Nat} (hd : decode cc pc = .ok (.ifCond .gt off, 3)) (ht : (pc : Int) + off = (t : Int)) (hn : pc + 3 = n) (h1 : 0 < x → G g o k nL t L st S) (h2 : ¬ 0 < x → G g o k nL n L st S) : G g o k nL pc L (.int x :: st) S := by
  obtain ⟨p, l', e, s, m, args, below, meth, cD, Q, cs, sl⟩ := g
  obtain ⟨rfl, hx, hb, hml, hown, hts, hr, hlk, hK, hD, hSt, hZ⟩ := ok
  subst hn
  exact fun ls H locs hl hP hS => lv_if_gt hx hb hd ht (fun z => h1 z ls H locs hl hP hS) (fun z => h2 z ls H locs hl hP hS)
theorem g_if_le (ok : Ok l g o nL cc own ret) {x : Int32} {off : Int} {t : Nat} {n : Nat} (hd : decode cc pc = .ok (.ifCond .le off, 3)) (ht : (pc : Int) + off = (t : Int)) (hn : pc + 3 = n) (h1 : x ≤ 0 → G g o k nL t L st S) (h2 : ¬ x ≤ 0 → G g o k nL n L st S) : G g o k nL pc L (.int x :: st) S := by
  obtain ⟨p, l', e, s, m, args, below, meth, cD, Q, cs, sl⟩ := g
  obtain ⟨rfl, hx, hb, hml, hown, hts, hr, hlk, hK, hD, hSt, hZ⟩ := ok
  subst hn
  exact fun ls H locs hl hP hS => lv_if_le hx hb hd ht (fun z => h1 z ls H locs hl hP hS) (fun z => h2 z ls H locs hl hP hS)
theorem g_icmp_eq (ok : Ok l g o nL cc own ret) {x y : Int32} {off : Int} {t : Nat} {n : Nat} (hd : decode cc pc = .ok (.if_icmp .eq off, 3)) (ht : (pc : Int) + off = (t : Int)) (hn : pc + 3 = n) (h1 : x = y → G g o k nL t L st S) (h2 : ¬ x = y → G g o k nL n L st S) : G g o k nL pc L (.int y :: .int x :: st) S := by
  obtain ⟨p, l', e, s, m, args, below, meth, cD, Q, cs, sl⟩ := g
  obtain ⟨rfl, hx, hb, hml, hown, hts, hr, hlk, hK, hD, hSt, hZ⟩ := ok
  subst hn
  exact fun ls H locs hl hP hS => lv_icmp_eq hx hb hd ht (fun z => h1 z ls H locs hl hP hS) (fun z => h2 z ls H locs hl hP hS)
theorem g_icmp_ne (ok : Ok l g o nL cc own ret) {x y : Int32} {off : Int} {t : Nat} {n : Nat} (hd : decode cc pc = .ok (.if_icmp .ne off, 3)) (ht : (pc : Int) + off = (t : Int)) (hn : pc + 3 = n) (h1 : ¬ x = y → G g o k nL t L st S) (h2 : x = y → G g o k nL n L st S) : G g o k nL pc L (.int y :: .int x :: st) S := by
  obtain ⟨p, l', e, s, m, args, below, meth, cD, Q, cs, sl⟩ := g
  obtain ⟨rfl, hx, hb, hml, hown, hts, hr, hlk, hK, hD, hSt, hZ⟩ := ok
  subst hn
  exact fun ls H locs hl hP hS => lv_icmp_ne hx hb hd ht (fun z => h1 z ls H locs hl hP hS) (fun z => h2 z ls H locs hl hP hS)
theorem g_icmp_lt (ok : Ok l g o nL cc own ret) {x y : Int32} {off : Int} {t : Nat} {n : Nat} (hd : decode cc pc = .ok (.if_icmp .lt off, 3)) (ht : (pc : Int) + off = (t : Int)) (hn : pc + 3 = n) (h1 : x < y → G g o k nL t L st S) (h2 : ¬ x < y → G g o k nL n L st S) : G g o k nL pc L (.int y :: .int x :: st) S := by
  obtain ⟨p, l', e, s, m, args, below, meth, cD, Q, cs, sl⟩ := g
  obtain ⟨rfl, hx, hb, hml, hown, hts, hr, hlk, hK, hD, hSt, hZ⟩ := ok
  subst hn
  exact fun ls H locs hl hP hS => lv_icmp_lt hx hb hd ht (fun z => h1 z ls H locs hl hP hS) (fun z => h2 z ls H locs hl hP hS)
theorem g_icmp_ge (ok : Ok l g o nL cc own ret) {x y : Int32} {off : Int} {t : Nat} {n : Nat} (hd : decode cc pc = .ok (.if_icmp .ge off, 3)) (ht : (pc : Int) + off = (t : Int)) (hn : pc + 3 = n) (h1 : y ≤ x → G g o k nL t L st S) (h2 : ¬ y ≤ x → G g o k nL n L st S) : G g o k nL pc L (.int y :: .int x :: st) S := by
  obtain ⟨p, l', e, s, m, args, below, meth, cD, Q, cs, sl⟩ := g
  obtain ⟨rfl, hx, hb, hml, hown, hts, hr, hlk, hK, hD, hSt, hZ⟩ := ok
  subst hn
  exact fun ls H locs hl hP hS => lv_icmp_ge hx hb hd ht (fun z => h1 z ls H locs hl hP hS) (fun z => h2 z ls H locs hl hP hS)
theorem g_icmp_gt (ok : Ok l g o nL cc own ret) {x y : Int32} {off : Int} {t : Nat} {n : Nat} (hd : decode cc pc = .ok (.if_icmp .gt off, 3)) (ht : (pc : Int) + off = (t : Int)) (hn : pc + 3 = n) (h1 : y < x → G g o k nL t L st S) (h2 : ¬ y < x → G g o k nL n L st S) : G g o k nL pc L (.int y :: .int x :: st) S := by
  obtain ⟨p, l', e, s, m, args, below, meth, cD, Q, cs, sl⟩ := g
  obtain ⟨rfl, hx, hb, hml, hown, hts, hr, hlk, hK, hD, hSt, hZ⟩ := ok
  subst hn
  exact fun ls H locs hl hP hS => lv_icmp_gt hx hb hd ht (fun z => h1 z ls H locs hl hP hS) (fun z => h2 z ls H locs hl hP hS)
theorem g_icmp_le (ok : Ok l g o nL cc own ret) {x y : Int32} {off : Int} {t : Nat} {n : Nat} (hd : decode cc pc = .ok (.if_icmp .le off, 3)) (ht : (pc : Int) + off = (t : Int)) (hn : pc + 3 = n) (h1 : x ≤ y → G g o k nL t L st S) (h2 : ¬ x ≤ y → G g o k nL n L st S) : G g o k nL pc L (.int y :: .int x :: st) S := by
  obtain ⟨p, l', e, s, m, args, below, meth, cD, Q, cs, sl⟩ := g
  obtain ⟨rfl, hx, hb, hml, hown, hts, hr, hlk, hK, hD, hSt, hZ⟩ := ok
  subst hn
  exact fun ls H locs hl hP hS => lv_icmp_le hx hb hd ht (fun z => h1 z ls H locs hl hP hS) (fun z => h2 z ls H locs hl hP hS)
theorem g_tsIn (ok : Ok l g o nL cc own ret) {dflt lo hi : Int} {offs : Array Int} {len : Nat} {x : Int32} {off : Int} {t : Nat} (hd : decode cc pc = .ok (.tableswitch dflt lo hi offs, len)) (h1 : ¬ x.toInt < lo) (h2 : ¬ hi < x.toInt) (ho : offs[(x.toInt - lo).toNat]? = some off) (ht : (pc : Int) + off = (t : Int)) (h : G g o k nL t L st S) : G g o k nL pc L (.int x :: st) S := by
  obtain ⟨p, l', e, s, m, args, below, meth, cD, Q, cs, sl⟩ := g
  obtain ⟨rfl, hx, hb, hml, hown, hts, hr, hlk, hK, hD, hSt, hZ⟩ := ok
  exact fun ls H locs hl hP hS => lv_tableIn hx hb hd h1 h2 ho ht (h ls H locs hl hP hS)
theorem g_tsOut (ok : Ok l g o nL cc own ret) {dflt lo hi : Int} {offs : Array Int} {len : Nat} {x : Int32} {t : Nat} (hd : decode cc pc = .ok (.tableswitch dflt lo hi offs, len)) (hrg : x.toInt < lo ∨ hi < x.toInt) (ht : (pc : Int) + dflt = (t : Int)) (h : G g o k nL t L st S) : G g o k nL pc L (.int x :: st) S := by
  obtain ⟨p, l', e, s, m, args, below, meth, cD, Q, cs, sl⟩ := g
  obtain ⟨rfl, hx, hb, hml, hown, hts, hr, hlk, hK, hD, hSt, hZ⟩ := ok
  exact fun ls H locs hl hP hS => lv_tableOut hx hb hd hrg ht (h ls H locs hl hP hS)
theorem g_get (ok : Ok l g o nL cc own ret) {C : String} {T : u_T} {N ci index c fk : Nat} {fs : List Value} {v : Value} {n : Nat} (hc : c < o.1) (hsh : o.2.2.1 c (S c) = .inr (ci, fs)) (hcl : vwCl[ci]? = some (C, T, N)) (hk : fk < N) (hT : (T fk).1 = C) (hwl : WL (u_ws C T N)) (hlink : Cond.fieldLink own index C (T fk).2.1 (T fk).2.2.1 ∈ lw_tbl) (hv : fs[fk]? = some v) (hd : decode cc pc = .ok (.getfield index, 3)) (hn : pc + 3 = n) (h : G g o k nL n L (v :: st) S) : G g o k nL pc L (.ref (o.2.1 c) :: st) S := by
  obtain ⟨p, l', e, s, m, args, below, meth, cD, Q, cs, sl⟩ := g
  obtain ⟨rfl, hx, hb, hml, hown, hts, hr, hlk, hK, hD, hSt, hZ⟩ := ok
  subst hn
  exact fun ls H locs hl hP hS => va_get (Ts := u_ws C T N) hx hb (hwl.use hts) (fun _ z => z) hown hK hP c (gw_at' hc hsh) hcl fk hk (hts _ hlink rfl _) (fun _ z => by rw [← hT]; exact z) hv hd (h ls H locs hl hP hS)
theorem g_getN (ok : Ok l g o nL cc own ret) {host : String} {C : String} {T : u_T} {N ci index c fk : Nat} {fs : List Value} {v : Value} {n : Nat} (hc : c < o.1) (hsh : o.2.2.1 c (S c) = .inr (ci, fs)) (hcl : vwCl[ci]? = some (C, T, N)) (hk : fk < N) (hT : (T fk).1 = C) (hwl : WL (u_ws C T N)) (hlink : Cond.fieldLinkNest own index C (T fk).2.1 (T fk).2.2.1 host ∈ lw_tbl) (hv : fs[fk]? = some v) (hd : decode cc pc = .ok (.getfield index, 3)) (hn : pc + 3 = n) (h : G g o k nL n L (v :: st) S) : G g o k nL pc L (.ref (o.2.1 c) :: st) S := by
  obtain ⟨p, l', e, s, m, args, below, meth, cD, Q, cs, sl⟩ := g
  obtain ⟨rfl, hx, hb, hml, hown, hts, hr, hlk, hK, hD, hSt, hZ⟩ := ok
  subst hn
  exact fun ls H locs hl hP hS => va_getN (Ts := u_ws C T N) hx hb (hwl.use hts) (fun _ z => z) hown hK hP c (gw_at' hc hsh) hcl fk hk (hts _ hlink rfl _) (fun _ z => by rw [← hT]; exact z) hv hd (h ls H locs hl hP hS)
theorem g_put (ok : Ok l g o nL cc own ret) {C : String} {T : u_T} {N ci index c fk : Nat} {fs : List Value} {x : Int32} {n : Nat} {ty0 : Nat → FieldType} {ty : FieldType} (hc : c < o.1) (hsh : o.2.2.1 c (S c) = .inr (ci, fs)) (hcl : vwCl[ci]? = some (C, T, N)) (hk : fk < N) (hT : (T fk).1 = C) (hwl : WL (u_ws C T N)) (hlink : Cond.fieldLink own index C (T fk).2.1 (T fk).2.2.1 ∈ lw_tbl) (hty : ∀ j, j < N → parseFieldDescriptor (T j).2.2.1 = some (ty0 j)) (hnm : ∀ a, a < N → ∀ b, b < N → a ≠ b → (T a).2.1 ≠ (T b).2.1) (hfin : (T fk).2.2.2 = false) (hpd : parseFieldDescriptor (T fk).2.2.1 = some ty) (hnr : narrow ty (.int x) = .int x) (hft : fits ty (.int x) = true) (hl2 : fk < fs.length) (hup : o.2.2.1 c (upd (S c) fk x) = .inr (ci, fs.set fk (.int x))) (hd : decode cc pc = .ok (.putfield index, 3)) (hn : pc + 3 = n) (h : G g o k nL n L st (mset S c (upd (S c) fk x))) : G g o k nL pc L (.int x :: .ref (o.2.1 c) :: st) S := by
  obtain ⟨p, l', e, s, m, args, below, meth, cD, Q, cs, sl⟩ := g
  obtain ⟨rfl, hx, hb, hml, hown, hts, hr, hlk, hK, hD, hSt, hZ⟩ := ok
  subst hn
  intro ls H locs hl hP hS
  refine va_put (Ts := u_ws C T N) hx hb (hwl.use hts) (fun _ z => z) ty0 hty hnm hown hK hP (hD S) hS c (gw_at' hc hsh) hcl fk hk (hts _ hlink rfl _) (fun _ z => by rw [← hT]; exact z) hfin hpd hnr hft hl2 hd (fun H1 locs1 hP1 hD1 hS1 => ?_)
  rw [gw_set' hup] at hP1
  exact h ls H1 locs1 hl hP1 hS1
theorem g_putN (ok : Ok l g o nL cc own ret) {host : String} {C : String} {T : u_T} {N ci index c fk : Nat} {fs : List Value} {x : Int32} {n : Nat} {ty0 : Nat → FieldType} {ty : FieldType} (hc : c < o.1) (hsh : o.2.2.1 c (S c) = .inr (ci, fs)) (hcl : vwCl[ci]? = some (C, T, N)) (hk : fk < N) (hT : (T fk).1 = C) (hwl : WL (u_ws C T N)) (hlink : Cond.fieldLinkNest own index C (T fk).2.1 (T fk).2.2.1 host ∈ lw_tbl) (hty : ∀ j, j < N → parseFieldDescriptor (T j).2.2.1 = some (ty0 j)) (hnm : ∀ a, a < N → ∀ b, b < N → a ≠ b → (T a).2.1 ≠ (T b).2.1) (hfin : (T fk).2.2.2 = false) (hpd : parseFieldDescriptor (T fk).2.2.1 = some ty) (hnr : narrow ty (.int x) = .int x) (hft : fits ty (.int x) = true) (hl2 : fk < fs.length) (hup : o.2.2.1 c (upd (S c) fk x) = .inr (ci, fs.set fk (.int x))) (hd : decode cc pc = .ok (.putfield index, 3)) (hn : pc + 3 = n) (h : G g o k nL n L st (mset S c (upd (S c) fk x))) : G g o k nL pc L (.int x :: .ref (o.2.1 c) :: st) S := by
  obtain ⟨p, l', e, s, m, args, below, meth, cD, Q, cs, sl⟩ := g
  obtain ⟨rfl, hx, hb, hml, hown, hts, hr, hlk, hK, hD, hSt, hZ⟩ := ok
  subst hn
  intro ls H locs hl hP hS
  refine va_putN (Ts := u_ws C T N) hx hb (hwl.use hts) (fun _ z => z) ty0 hty hnm hown hK hP (hD S) hS c (gw_at' hc hsh) hcl fk hk (hts _ hlink rfl _) (fun _ z => by rw [← hT]; exact z) hfin hpd hnr hft hl2 hd (fun H1 locs1 hP1 hD1 hS1 => ?_)
  rw [gw_set' hup] at hP1
  exact h ls H1 locs1 hl hP1 hS1
theorem g_iald (ok : Ok l g o nL cc own ret) {c t0 N : Nat} {cA : ClassId} {i : Int32} {n : Nat} (hc : c < o.1) (hsh : o.2.2.1 c (S c) = .inl (cA, N, .inl (S c))) (ht : o.2.2.2.2.1[t0]? = some (cA, .int)) (hin : vp_in i N) (hd : decode cc pc = .ok (.iaload, 1)) (hn : pc + 1 = n) (h : G g o k nL n L (.int (S c i.toNatClampNeg) :: st) S) : G g o k nL pc L (.int i :: .ref (o.2.1 c) :: st) S := by
  obtain ⟨p, l', e, s, m, args, below, meth, cD, Q, cs, sl⟩ := g
  obtain ⟨rfl, hx, hb, hml, hown, hts, hr, hlk, hK, hD, hSt, hZ⟩ := ok
  subst hn
  exact fun ls H locs hl hP hS => va_iald hx hb hK hP c t0 (gw_at' hc hsh) ht hin hd (h ls H locs hl hP hS)
theorem g_iast (ok : Ok l g o nL cc own ret) {c t0 N : Nat} {cA : ClassId} {i x : Int32} {n : Nat} (hc : c < o.1) (hsh : ∀ f, o.2.2.1 c f = .inl (cA, N, .inl f)) (ht : o.2.2.2.2.1[t0]? = some (cA, .int)) (hin : vp_in i N) (hd : decode cc pc = .ok (.iastore, 1)) (hn : pc + 1 = n) (h : G g o k nL n L st (mset S c (upd (S c) i.toNatClampNeg x))) : G g o k nL pc L (.int x :: .int i :: .ref (o.2.1 c) :: st) S := by
  obtain ⟨p, l', e, s, m, args, below, meth, cD, Q, cs, sl⟩ := g
  obtain ⟨rfl, hx, hb, hml, hown, hts, hr, hlk, hK, hD, hSt, hZ⟩ := ok
  subst hn
  intro ls H locs hl hP hS
  refine va_iast hx hb hK hP (hD S) hS c t0 (gw_at' hc (hsh _)) ht hin hd (fun H1 locs1 hP1 hD1 hS1 => ?_)
  rw [gw_set' (hsh _)] at hP1
  exact h ls H1 locs1 hl hP1 hS1
theorem g_aald (ok : Ok l g o nL cc own ret) {c t0 N a : Nat} {cA : ClassId} {C : String} {f : Nat → Option Nat} {i : Int32} {n : Nat} (hc : c < o.1) (hsh : o.2.2.1 c (S c) = .inl (cA, N, .inr (.inr (.inr (.inr f))))) (ht : o.2.2.2.2.1[t0]? = some (cA, .object C)) (hin : vp_in i N) (hf : f i.toNatClampNeg = some a) (hd : decode cc pc = .ok (.aaload, 1)) (hn : pc + 1 = n) (h : G g o k nL n L (.ref a :: st) S) : G g o k nL pc L (.int i :: .ref (o.2.1 c) :: st) S := by
  obtain ⟨p, l', e, s, m, args, below, meth, cD, Q, cs, sl⟩ := g
  obtain ⟨rfl, hx, hb, hml, hown, hts, hr, hlk, hK, hD, hSt, hZ⟩ := ok
  subst hn
  intro ls H locs hl hP hS
  refine va_aldq hx hb hK hP c t0 (gw_at' hc hsh) ht hin hd ?_
  rw [hf]
  exact h ls H locs hl hP hS
theorem g_alen (ok : Ok l g o nL cc own ret) {c t0 : Nat} {cA : ClassId} {x : vp_A} {ty : FieldType} {v : Int32} {n : Nat} (hc : c < o.1) (hsh : o.2.2.1 c (S c) = .inl (cA, x)) (ht : o.2.2.2.2.1[t0]? = some (cA, ty)) (hv : Int32.ofNat x.1 = v) (hd : decode cc pc = .ok (.arraylength, 1)) (hn : pc + 1 = n) (h : G g o k nL n L (.int v :: st) S) : G g o k nL pc L (.ref (o.2.1 c) :: st) S := by
  obtain ⟨p, l', e, s, m, args, below, meth, cD, Q, cs, sl⟩ := g
  obtain ⟨rfl, hx, hb, hml, hown, hts, hr, hlk, hK, hD, hSt, hZ⟩ := ok
  subst hn
  exact fun ls H locs hl hP hS => va_alen hx hb hK hP c t0 (gw_at' hc hsh) ht hv hd (h ls H locs hl hP hS)
/-- a static that holds a table, and the table -/
theorem g_gets (ok : Ok l g o nL cc own ret) {C nm d : String} {v : Value} {index n : Nat} (hZs : ∀ (U : State) (H : Heap), o.2.2.2.2.2 U H → va_Z C nm d v (AX o) U H) (hlink : Cond.fieldLink own index C nm d ∈ lw_tbl) (hd : decode cc pc = .ok (.getstatic index, 3)) (hn : pc + 3 = n) (h : G g o k nL n L (v :: st) S) : G g o k nL pc L st S := by
  obtain ⟨p, l', e, s, m, args, below, meth, cD, Q, cs, sl⟩ := g
  obtain ⟨rfl, hx, hb, hml, hown, hts, hr, hlk, hK, hD, hSt, hZ⟩ := ok
  subst hn
  exact fun ls H locs hl hP hS => va_gets hx hb (hZs _ _ hZ) hS hown (hts _ hlink rfl _) (fun _ z => z) hd (h ls H locs hl hP hS)
theorem g_ti (ok : Ok l g o nL cc own ret) {t N : Nat} {f : Nat → Int32} {i : Int32} {n : Nat} (hTs : ∀ (U : State) (H : Heap), o.2.2.2.2.2 U H → va_T .int t N (fun j => .int (f j)) (AX o) U H) (hin : vp_in i N) (hd : decode cc pc = .ok (.iaload, 1)) (hn : pc + 1 = n) (h : G g o k nL n L (.int (f i.toNatClampNeg) :: st) S) : G g o k nL pc L (.int i :: .ref t :: st) S := by
  obtain ⟨p, l', e, s, m, args, below, meth, cD, Q, cs, sl⟩ := g
  obtain ⟨rfl, hx, hb, hml, hown, hts, hr, hlk, hK, hD, hSt, hZ⟩ := ok
  subst hn
  exact fun ls H locs hl hP hS => va_ti hx hb (hTs _ _ hZ) hS hin rfl hd (h ls H locs hl hP hS)
theorem g_mmax (ok : Ok l g o nL cc own ret) {x y : Int32} {index n : Nat} (hlink : Cond.methodLink own index Lib.Math.max.name ∈ lw_tbl) (hm1 : Cond.static Lib.Math.max.name ∈ lw_tbl) (hm2 : Cond.initialized "java/lang/Math" ∈ lw_tbl) (hm3 : Cond.code Lib.Math.max.name Lib.Math.max.code 2 (some .int) ∈ lw_tbl) (hk1 : 1 ≤ k) (hr1 : (st.map fun v => v.category).sum ≤ 8) (hd : decode cc pc = .ok (.invokestatic index, 3)) (hn : pc + 3 = n) (h : G g o k nL n L (.int (jmax x y) :: st) S) : G g o k nL pc L (.int y :: .int x :: st) S := by
  obtain ⟨p, l', e, s, m, args, below, meth, cD, Q, cs, sl⟩ := g
  obtain ⟨rfl, hx, hb, hml, hown, hts, hr, hlk, hK, hD, hSt, hZ⟩ := ok
  subst hn
  exact fun ls H locs hl hP hS => va_mmax hx hb (hml.trans hl.1.symm) hown (hts _ hlink rfl _) (hts _ hm1 rfl _) (hts _ hm2 rfl _) (hts _ hm3 rfl _) hk1 (by show _ + 13 ≤ 100 * k; omega) (Nat.le_refl _) (Nat.le_refl _) hd (h ls H locs hl hP hS)
theorem g_mmin (ok : Ok l g o nL cc own ret) {x y : Int32} {index n : Nat} (hlink : Cond.methodLink own index Lib.Math.min.name ∈ lw_tbl) (hm1 : Cond.static Lib.Math.min.name ∈ lw_tbl) (hm2 : Cond.initialized "java/lang/Math" ∈ lw_tbl) (hm3 : Cond.code Lib.Math.min.name Lib.Math.min.code 2 (some .int) ∈ lw_tbl) (hk1 : 1 ≤ k) (hr1 : (st.map fun v => v.category).sum ≤ 8) (hd : decode cc pc = .ok (.invokestatic index, 3)) (hn : pc + 3 = n) (h : G g o k nL n L (.int (jmin x y) :: st) S) : G g o k nL pc L (.int y :: .int x :: st) S := by
  obtain ⟨p, l', e, s, m, args, below, meth, cD, Q, cs, sl⟩ := g
  obtain ⟨rfl, hx, hb, hml, hown, hts, hr, hlk, hK, hD, hSt, hZ⟩ := ok
  subst hn
  exact fun ls H locs hl hP hS => va_mmin hx hb (hml.trans hl.1.symm) hown (hts _ hlink rfl _) (hts _ hm1 rfl _) (hts _ hm2 rfl _) (hts _ hm3 rfl _) hk1 (by show _ + 13 ≤ 100 * k; omega) (Nat.le_refl _) (Nat.le_refl _) hd (h ls H locs hl hP hS)
theorem g_mabs (ok : Ok l g o nL cc own ret) {x : Int32} {index n : Nat} (hlink : Cond.methodLink own index Lib.Math.abs.name ∈ lw_tbl) (hm1 : Cond.static Lib.Math.abs.name ∈ lw_tbl) (hm2 : Cond.initialized "java/lang/Math" ∈ lw_tbl) (hm3 : Cond.code Lib.Math.abs.name Lib.Math.abs.code 1 (some .int) ∈ lw_tbl) (hk1 : 1 ≤ k) (hr1 : (st.map fun v => v.category).sum ≤ 8) (hd : decode cc pc = .ok (.invokestatic index, 3)) (hn : pc + 3 = n) (h : G g o k nL n L (.int (jabs x) :: st) S) : G g o k nL pc L (.int x :: st) S := by
  obtain ⟨p, l', e, s, m, args, below, meth, cD, Q, cs, sl⟩ := g
  obtain ⟨rfl, hx, hb, hml, hown, hts, hr, hlk, hK, hD, hSt, hZ⟩ := ok
  subst hn
  exact fun ls H locs hl hP hS => va_mabs hx hb (hml.trans hl.1.symm) hown (hts _ hlink rfl _) (hts _ hm1 rfl _) (hts _ hm2 rfl _) (hts _ hm3 rfl _) hk1 (by show _ + 13 ≤ 100 * k; omega) (Nat.le_refl _) (Nat.le_refl _) hd (h ls H locs hl hP hS)
def CalC (y : MethodName) (bytes : ByteArray) (maxL : Nat) (rt : Option FieldType) (n : Nat) : Prop := Cond.code y bytes maxL rt ∈ lw_tbl ∧ Cond.initialized y.cls ∈ lw_tbl ∧ (y.cls ≠ "java/lang/invoke/MethodHandle" ∧ y.cls ≠ "java/lang/invoke/VarHandle") ∧ (∀ sig, parseMethodDescriptor y.desc = some sig → n = sig.parameters.length)
theorem calc_of {y : MethodName} {bytes : ByteArray} {maxL : Nat} {rt : Option FieldType} {n : Nat} (h1 : Cond.code y bytes maxL rt ∈ lw_tbl) (h2 : Cond.initialized y.cls ∈ lw_tbl) (h3 : y.cls ≠ "java/lang/invoke/MethodHandle" ∧ y.cls ≠ "java/lang/invoke/VarHandle" ∧ (parseMethodDescriptor y.desc).map (fun d => d.parameters.length) = some n) : CalC y bytes maxL rt n := by
  refine ⟨h1, h2, ⟨h3.1, h3.2.1⟩, fun sig h => ?_⟩
  have e := h3.2.2
  rw [h] at e
  exact (Option.some.inj e).symm
theorem rl_loc {kc k maxL cs sl : Nat} (h1 : kc + 1 ≤ k) (h2 : maxL ≤ 80) : 8 + (maxL + 11) + (rl kc).locals ≤ (rlc k cs sl).locals := by
  show 8 + (maxL + 11) + 100 * kc ≤ 100 * k
  omega
theorem cw_B {s : State} {args : Array Value} {own : String} {index kc k cs sl : Nat} {y : MethodName} {bytes : ByteArray} {maxL n : Nat} {rt : Option FieldType} (hW : WD s) (hc : CalC y bytes maxL rt n) (hl : Cond.methodLink own index y ∈ lw_tbl) (hk : kc + 1 ≤ k) (hm : maxL ≤ 80) : CallB (rlc k cs sl) s args own index y bytes maxL rt [Cond.code y bytes maxL rt] (rl kc) 0 0 n :=
  ⟨rfl, rfl, hk, rl_loc hk hm, fun w hw a' U hU => by
    rw [List.mem_singleton.mp hw]
    exact wd_warm (a := args) rfl hU (hW _ hc.1 rfl _), List.mem_singleton.mpr rfl, hW _ hc.1 rfl _, hW _ hc.2.1 rfl _, hc.2.2.1, hc.2.2.2, hW _ hl rfl _⟩
theorem cw_N {s : State} {args : Array Value} {own host : String} {index kc k cs sl : Nat} {y : MethodName} {bytes : ByteArray} {maxL n : Nat} {rt : Option FieldType} (hW : WD s) (hc : CalC y bytes maxL rt n) (hl : Cond.methodLinkNest own index y host ∈ lw_tbl) (hk : kc + 1 ≤ k) (hm : maxL ≤ 80) : va_CN (rlc k cs sl) s args own index y host bytes maxL rt [Cond.code y bytes maxL rt] (rl kc) 0 0 n :=
  ⟨⟨rfl, rfl, hk, rl_loc hk hm, fun w hw a' U hU => by
    rw [List.mem_singleton.mp hw]
    exact wd_warm (a := args) rfl hU (hW _ hc.1 rfl _), List.mem_singleton.mpr rfl⟩, hW _ hc.1 rfl _, hW _ hc.2.1 rfl _, hc.2.2.1, hc.2.2.2, hW _ hl rfl _⟩
/-- a contract over the cells o: int, long, void -/
def MI (l : Launch) (y : MethodName) (bytes : ByteArray) (maxL : Nat) (rt : Option FieldType) (k : Nat) (o : OmT) (av : List Value) (S : Mem) (post : Int32 → Mem → Prop) : Prop := Met l y [Cond.code y bytes maxL rt] (rl k) (va_Pc av (BX o S)) (va_Qi post (fun S1 t => BX o S1 t) (AX o)) 0 0 (AX o)
def ML (l : Launch) (y : MethodName) (bytes : ByteArray) (maxL : Nat) (rt : Option FieldType) (k : Nat) (o : OmT) (av : List Value) (S : Mem) (post : Int64 → Mem → Prop) : Prop := Met l y [Cond.code y bytes maxL rt] (rl k) (va_Pc av (BX o S)) (va_Ql post (fun S1 t => BX o S1 t) (AX o)) 0 0 (AX o)
def MV (l : Launch) (y : MethodName) (bytes : ByteArray) (maxL : Nat) (rt : Option FieldType) (k : Nat) (o : OmT) (av : List Value) (S : Mem) (post : Mem → Prop) : Prop := Met l y [Cond.code y bytes maxL rt] (rl k) (va_Pc av (BX o S)) (va_Qv post (fun S1 t => BX o S1 t) (AX o)) 0 0 (AX o)
/-- .. and one that answers a cell of o -/
def MR (l : Launch) (y : MethodName) (bytes : ByteArray) (maxL : Nat) (rt : Option FieldType) (k : Nat) (o : OmT) (av : List Value) (S : Mem) (post : Nat → Mem → Prop) : Prop := Met l y [Cond.code y bytes maxL rt] (rl k) (va_Pc av (BX o S)) (va_Qr (fun u : Nat × Mem => post u.1 u.2) (fun u a t => a = o.2.1 u.1 ∧ BX o u.2 t) (AX o)) 0 0 (AX o)
theorem g_callVi (ok : Ok l g o nL cc own ret) {y : MethodName} {bytes : ByteArray} {maxL na index kc n : Nat} {rt : Option FieldType} {As rest : List Value} {post : Int32 → Mem → Prop} {C : String} {T : u_T} {N ci c : Nat} {fs : List Value} (hM : MI l y bytes maxL rt kc o (.ref (o.2.1 c) :: As) S post) (hcal : CalC y bytes maxL rt na) (hlink : Cond.methodLink own index y ∈ lw_tbl) (hinst : Cond.instanceMethod y ∈ lw_tbl) (hsel : Cond.selects C y y ∈ lw_tbl) (hc : c < o.1) (hsh : o.2.2.1 c (S c) = .inr (ci, fs)) (hcl : vwCl[ci]? = some (C, T, N)) (hk : kc + 1 ≤ k) (hmx : maxL ≤ 80) (hna : As.length = na) (hrs : (rest.map fun v => v.category).sum ≤ 8) (hd : decode cc pc = .ok (.invokevirtual index, 3)) (hn : pc + 3 = n) {st : List Value} (hst : st = As.reverse ++ .ref (o.2.1 c) :: rest) (kk : ∀ (r : Int32) (S1 : Mem), post r S1 → G g o k nL n L (.int r :: rest) S1) : G g o k nL pc L st S := by
  obtain ⟨p, l', e, s, m, args, below, meth, cD, Q, cs, sl⟩ := g
  obtain ⟨rfl, hx, hb, hml, hown, hts, hr, hlk, hK, hD, hSt, hZ⟩ := ok
  subst hn
  subst hst
  intro ls H locs hl hP hS
  exact va_calli (va_runV (As := As) (rest := rest) ⟨hx, hb, hml, hown, (fun (w : Cond) (hw : w ∈ ([] : List Cond)) => by cases hw)⟩ hM ⟨cw_B hts hcal hlink hk hmx, hts _ hinst rfl _, hts _ hsel rfl _⟩ ⟨bx_blind _, va_recv hK hP hcl (gw_at' hc hsh), fun U hU hW => ⟨rfl, bx_make hK hD hSt hZ hts hP hS hU hW⟩⟩ rfl hna hl.1 rfl (lv_room hrs) hd ⟨Nat.le_refl _, Nat.le_refl _⟩) hS (fun q _ h => h) (fun q h => h) (fun r S1 t H1 locs1 ht hvm hw hB hz hk1 hS1 => kk r S1 hw ls H1 locs1 hl (by rw [← ht]; exact hB.1) hS1)
theorem g_callVl (ok : Ok l g o nL cc own ret) {y : MethodName} {bytes : ByteArray} {maxL na index kc n : Nat} {rt : Option FieldType} {As rest : List Value} {post : Int64 → Mem → Prop} {C : String} {T : u_T} {N ci c : Nat} {fs : List Value} (hM : ML l y bytes maxL rt kc o (.ref (o.2.1 c) :: As) S post) (hcal : CalC y bytes maxL rt na) (hlink : Cond.methodLink own index y ∈ lw_tbl) (hinst : Cond.instanceMethod y ∈ lw_tbl) (hsel : Cond.selects C y y ∈ lw_tbl) (hc : c < o.1) (hsh : o.2.2.1 c (S c) = .inr (ci, fs)) (hcl : vwCl[ci]? = some (C, T, N)) (hk : kc + 1 ≤ k) (hmx : maxL ≤ 80) (hna : As.length = na) (hrs : (rest.map fun v => v.category).sum ≤ 8) (hd : decode cc pc = .ok (.invokevirtual index, 3)) (hn : pc + 3 = n) {st : List Value} (hst : st = As.reverse ++ .ref (o.2.1 c) :: rest) (kk : ∀ (r : Int64) (S1 : Mem), post r S1 → G g o k nL n L (.long r :: rest) S1) : G g o k nL pc L st S := by
  obtain ⟨p, l', e, s, m, args, below, meth, cD, Q, cs, sl⟩ := g
  obtain ⟨rfl, hx, hb, hml, hown, hts, hr, hlk, hK, hD, hSt, hZ⟩ := ok
  subst hn
  subst hst
  intro ls H locs hl hP hS
  exact va_calll (va_runV (As := As) (rest := rest) ⟨hx, hb, hml, hown, (fun (w : Cond) (hw : w ∈ ([] : List Cond)) => by cases hw)⟩ hM ⟨cw_B hts hcal hlink hk hmx, hts _ hinst rfl _, hts _ hsel rfl _⟩ ⟨bx_blind _, va_recv hK hP hcl (gw_at' hc hsh), fun U hU hW => ⟨rfl, bx_make hK hD hSt hZ hts hP hS hU hW⟩⟩ rfl hna hl.1 rfl (lv_room hrs) hd ⟨Nat.le_refl _, Nat.le_refl _⟩) hS (fun q _ h => h) (fun q h => h) (fun r S1 t H1 locs1 ht hvm hw hB hz hk1 hS1 => kk r S1 hw ls H1 locs1 hl (by rw [← ht]; exact hB.1) hS1)
theorem g_callVv (ok : Ok l g o nL cc own ret) {y : MethodName} {bytes : ByteArray} {maxL na index kc n : Nat} {rt : Option FieldType} {As rest : List Value} {post : Mem → Prop} {C : String} {T : u_T} {N ci c : Nat} {fs : List Value} (hM : MV l y bytes maxL rt kc o (.ref (o.2.1 c) :: As) S post) (hcal : CalC y bytes maxL rt na) (hlink : Cond.methodLink own index y ∈ lw_tbl) (hinst : Cond.instanceMethod y ∈ lw_tbl) (hsel : Cond.selects C y y ∈ lw_tbl) (hc : c < o.1) (hsh : o.2.2.1 c (S c) = .inr (ci, fs)) (hcl : vwCl[ci]? = some (C, T, N)) (hk : kc + 1 ≤ k) (hmx : maxL ≤ 80) (hna : As.length = na) (hrs : (rest.map fun v => v.category).sum ≤ 8) (hd : decode cc pc = .ok (.invokevirtual index, 3)) (hn : pc + 3 = n) {st : List Value} (hst : st = As.reverse ++ .ref (o.2.1 c) :: rest) (kk : ∀ (S1 : Mem), post S1 → G g o k nL n L rest S1) : G g o k nL pc L st S := by
  obtain ⟨p, l', e, s, m, args, below, meth, cD, Q, cs, sl⟩ := g
  obtain ⟨rfl, hx, hb, hml, hown, hts, hr, hlk, hK, hD, hSt, hZ⟩ := ok
  subst hn
  subst hst
  intro ls H locs hl hP hS
  exact va_callv (va_runV (As := As) (rest := rest) ⟨hx, hb, hml, hown, (fun (w : Cond) (hw : w ∈ ([] : List Cond)) => by cases hw)⟩ hM ⟨cw_B hts hcal hlink hk hmx, hts _ hinst rfl _, hts _ hsel rfl _⟩ ⟨bx_blind _, va_recv hK hP hcl (gw_at' hc hsh), fun U hU hW => ⟨rfl, bx_make hK hD hSt hZ hts hP hS hU hW⟩⟩ rfl hna hl.1 rfl (lv_room hrs) hd ⟨Nat.le_refl _, Nat.le_refl _⟩) hS (fun q _ h => h) (fun q h => h) (fun S1 t H1 locs1 ht hvm hw hB hz hk1 hS1 => kk S1 hw ls H1 locs1 hl (by rw [← ht]; exact hB.1) hS1)
theorem g_callVr (ok : Ok l g o nL cc own ret) {y : MethodName} {bytes : ByteArray} {maxL na index kc n : Nat} {rt : Option FieldType} {As rest : List Value} {post : Nat → Mem → Prop} {C : String} {T : u_T} {N ci c : Nat} {fs : List Value} (hM : MR l y bytes maxL rt kc o (.ref (o.2.1 c) :: As) S post) (hcal : CalC y bytes maxL rt na) (hlink : Cond.methodLink own index y ∈ lw_tbl) (hinst : Cond.instanceMethod y ∈ lw_tbl) (hsel : Cond.selects C y y ∈ lw_tbl) (hc : c < o.1) (hsh : o.2.2.1 c (S c) = .inr (ci, fs)) (hcl : vwCl[ci]? = some (C, T, N)) (hk : kc + 1 ≤ k) (hmx : maxL ≤ 80) (hna : As.length = na) (hrs : (rest.map fun v => v.category).sum ≤ 8) (hd : decode cc pc = .ok (.invokevirtual index, 3)) (hn : pc + 3 = n) {st : List Value} (hst : st = As.reverse ++ .ref (o.2.1 c) :: rest) (kk : ∀ (r : Nat) (S1 : Mem), post r S1 → G g o k nL n L (.ref (o.2.1 r) :: rest) S1) : G g o k nL pc L st S := by
  obtain ⟨p, l', e, s, m, args, below, meth, cD, Q, cs, sl⟩ := g
  obtain ⟨rfl, hx, hb, hml, hown, hts, hr, hlk, hK, hD, hSt, hZ⟩ := ok
  subst hn
  subst hst
  intro ls H locs hl hP hS
  exact va_callr (va_runV (As := As) (rest := rest) ⟨hx, hb, hml, hown, (fun (w : Cond) (hw : w ∈ ([] : List Cond)) => by cases hw)⟩ hM ⟨cw_B hts hcal hlink hk hmx, hts _ hinst rfl _, hts _ hsel rfl _⟩ ⟨bx_blind _, va_recv hK hP hcl (gw_at' hc hsh), fun U hU hW => ⟨rfl, bx_make hK hD hSt hZ hts hP hS hU hW⟩⟩ rfl hna hl.1 rfl (lv_room hrs) hd ⟨Nat.le_refl _, Nat.le_refl _⟩) hS (fun q _ h => h) (fun q h => h) (fun u ra t H1 locs1 ht hvm hw hB hz hk1 hS1 => by
    obtain ⟨hB1, hB2⟩ := hB
    subst hB1
    exact kk u.1 u.2 hw ls H1 locs1 hl (by rw [← ht]; exact hB2.1) hS1)
theorem g_callVNi (ok : Ok l g o nL cc own ret) {y : MethodName} {bytes : ByteArray} {maxL na index kc n : Nat} {rt : Option FieldType} {As rest : List Value} {post : Int32 → Mem → Prop} {host : String} {C : String} {T : u_T} {N ci c : Nat} {fs : List Value} (hM : MI l y bytes maxL rt kc o (.ref (o.2.1 c) :: As) S post) (hcal : CalC y bytes maxL rt na) (hlink : Cond.methodLinkNest own index y host ∈ lw_tbl) (hinst : Cond.instanceMethod y ∈ lw_tbl) (hsel : Cond.selects C y y ∈ lw_tbl) (hc : c < o.1) (hsh : o.2.2.1 c (S c) = .inr (ci, fs)) (hcl : vwCl[ci]? = some (C, T, N)) (hk : kc + 1 ≤ k) (hmx : maxL ≤ 80) (hna : As.length = na) (hrs : (rest.map fun v => v.category).sum ≤ 8) (hd : decode cc pc = .ok (.invokevirtual index, 3)) (hn : pc + 3 = n) {st : List Value} (hst : st = As.reverse ++ .ref (o.2.1 c) :: rest) (kk : ∀ (r : Int32) (S1 : Mem), post r S1 → G g o k nL n L (.int r :: rest) S1) : G g o k nL pc L st S := by
  obtain ⟨p, l', e, s, m, args, below, meth, cD, Q, cs, sl⟩ := g
  obtain ⟨rfl, hx, hb, hml, hown, hts, hr, hlk, hK, hD, hSt, hZ⟩ := ok
  subst hn
  subst hst
  intro ls H locs hl hP hS
  exact va_calli (va_runVN (As := As) (rest := rest) ⟨hx, hb, hml, hown, (fun (w : Cond) (hw : w ∈ ([] : List Cond)) => by cases hw)⟩ hM ⟨cw_N hts hcal hlink hk hmx, hts _ hinst rfl _, hts _ hsel rfl _⟩ ⟨bx_blind _, va_recv hK hP hcl (gw_at' hc hsh), fun U hU hW => ⟨rfl, bx_make hK hD hSt hZ hts hP hS hU hW⟩⟩ rfl hna hl.1 rfl (lv_room hrs) hd ⟨Nat.le_refl _, Nat.le_refl _⟩) hS (fun q _ h => h) (fun q h => h) (fun r S1 t H1 locs1 ht hvm hw hB hz hk1 hS1 => kk r S1 hw ls H1 locs1 hl (by rw [← ht]; exact hB.1) hS1)
theorem g_callVNl (ok : Ok l g o nL cc own ret) {y : MethodName} {bytes : ByteArray} {maxL na index kc n : Nat} {rt : Option FieldType} {As rest : List Value} {post : Int64 → Mem → Prop} {host : String} {C : String} {T : u_T} {N ci c : Nat} {fs : List Value} (hM : ML l y bytes maxL rt kc o (.ref (o.2.1 c) :: As) S post) (hcal : CalC y bytes maxL rt na) (hlink : Cond.methodLinkNest own index y host ∈ lw_tbl) (hinst : Cond.instanceMethod y ∈ lw_tbl) (hsel : Cond.selects C y y ∈ lw_tbl) (hc : c < o.1) (hsh : o.2.2.1 c (S c) = .inr (ci, fs)) (hcl : vwCl[ci]? = some (C, T, N)) (hk : kc + 1 ≤ k) (hmx : maxL ≤ 80) (hna : As.length = na) (hrs : (rest.map fun v => v.category).sum ≤ 8) (hd : decode cc pc = .ok (.invokevirtual index, 3)) (hn : pc + 3 = n) {st : List Value} (hst : st = As.reverse ++ .ref (o.2.1 c) :: rest) (kk : ∀ (r : Int64) (S1 : Mem), post r S1 → G g o k nL n L (.long r :: rest) S1) : G g o k nL pc L st S := by
  obtain ⟨p, l', e, s, m, args, below, meth, cD, Q, cs, sl⟩ := g
  obtain ⟨rfl, hx, hb, hml, hown, hts, hr, hlk, hK, hD, hSt, hZ⟩ := ok
  subst hn
  subst hst
  intro ls H locs hl hP hS
  exact va_calll (va_runVN (As := As) (rest := rest) ⟨hx, hb, hml, hown, (fun (w : Cond) (hw : w ∈ ([] : List Cond)) => by cases hw)⟩ hM ⟨cw_N hts hcal hlink hk hmx, hts _ hinst rfl _, hts _ hsel rfl _⟩ ⟨bx_blind _, va_recv hK hP hcl (gw_at' hc hsh), fun U hU hW => ⟨rfl, bx_make hK hD hSt hZ hts hP hS hU hW⟩⟩ rfl hna hl.1 rfl (lv_room hrs) hd ⟨Nat.le_refl _, Nat.le_refl _⟩) hS (fun q _ h => h) (fun q h => h) (fun r S1 t H1 locs1 ht hvm hw hB hz hk1 hS1 => kk r S1 hw ls H1 locs1 hl (by rw [← ht]; exact hB.1) hS1)
theorem g_callVNv (ok : Ok l g o nL cc own ret) {y : MethodName} {bytes : ByteArray} {maxL na index kc n : Nat} {rt : Option FieldType} {As rest : List Value} {post : Mem → Prop} {host : String} {C : String} {T : u_T} {N ci c : Nat} {fs : List Value} (hM : MV l y bytes maxL rt kc o (.ref (o.2.1 c) :: As) S post) (hcal : CalC y bytes maxL rt na) (hlink : Cond.methodLinkNest own index y host ∈ lw_tbl) (hinst : Cond.instanceMethod y ∈ lw_tbl) (hsel : Cond.selects C y y ∈ lw_tbl) (hc : c < o.1) (hsh : o.2.2.1 c (S c) = .inr (ci, fs)) (hcl : vwCl[ci]? = some (C, T, N)) (hk : kc + 1 ≤ k) (hmx : maxL ≤ 80) (hna : As.length = na) (hrs : (rest.map fun v => v.category).sum ≤ 8) (hd : decode cc pc = .ok (.invokevirtual index, 3)) (hn : pc + 3 = n) {st : List Value} (hst : st = As.reverse ++ .ref (o.2.1 c) :: rest) (kk : ∀ (S1 : Mem), post S1 → G g o k nL n L rest S1) : G g o k nL pc L st S := by
  obtain ⟨p, l', e, s, m, args, below, meth, cD, Q, cs, sl⟩ := g
  obtain ⟨rfl, hx, hb, hml, hown, hts, hr, hlk, hK, hD, hSt, hZ⟩ := ok
  subst hn
  subst hst
  intro ls H locs hl hP hS
  exact va_callv (va_runVN (As := As) (rest := rest) ⟨hx, hb, hml, hown, (fun (w : Cond) (hw : w ∈ ([] : List Cond)) => by cases hw)⟩ hM ⟨cw_N hts hcal hlink hk hmx, hts _ hinst rfl _, hts _ hsel rfl _⟩ ⟨bx_blind _, va_recv hK hP hcl (gw_at' hc hsh), fun U hU hW => ⟨rfl, bx_make hK hD hSt hZ hts hP hS hU hW⟩⟩ rfl hna hl.1 rfl (lv_room hrs) hd ⟨Nat.le_refl _, Nat.le_refl _⟩) hS (fun q _ h => h) (fun q h => h) (fun S1 t H1 locs1 ht hvm hw hB hz hk1 hS1 => kk S1 hw ls H1 locs1 hl (by rw [← ht]; exact hB.1) hS1)
theorem g_callVNr (ok : Ok l g o nL cc own ret) {y : MethodName} {bytes : ByteArray} {maxL na index kc n : Nat} {rt : Option FieldType} {As rest : List Value} {post : Nat → Mem → Prop} {host : String} {C : String} {T : u_T} {N ci c : Nat} {fs : List Value} (hM : MR l y bytes maxL rt kc o (.ref (o.2.1 c) :: As) S post) (hcal : CalC y bytes maxL rt na) (hlink : Cond.methodLinkNest own index y host ∈ lw_tbl) (hinst : Cond.instanceMethod y ∈ lw_tbl) (hsel : Cond.selects C y y ∈ lw_tbl) (hc : c < o.1) (hsh : o.2.2.1 c (S c) = .inr (ci, fs)) (hcl : vwCl[ci]? = some (C, T, N)) (hk : kc + 1 ≤ k) (hmx : maxL ≤ 80) (hna : As.length = na) (hrs : (rest.map fun v => v.category).sum ≤ 8) (hd : decode cc pc = .ok (.invokevirtual index, 3)) (hn : pc + 3 = n) {st : List Value} (hst : st = As.reverse ++ .ref (o.2.1 c) :: rest) (kk : ∀ (r : Nat) (S1 : Mem), post r S1 → G g o k nL n L (.ref (o.2.1 r) :: rest) S1) : G g o k nL pc L st S := by
  obtain ⟨p, l', e, s, m, args, below, meth, cD, Q, cs, sl⟩ := g
  obtain ⟨rfl, hx, hb, hml, hown, hts, hr, hlk, hK, hD, hSt, hZ⟩ := ok
  subst hn
  subst hst
  intro ls H locs hl hP hS
  exact va_callr (va_runVN (As := As) (rest := rest) ⟨hx, hb, hml, hown, (fun (w : Cond) (hw : w ∈ ([] : List Cond)) => by cases hw)⟩ hM ⟨cw_N hts hcal hlink hk hmx, hts _ hinst rfl _, hts _ hsel rfl _⟩ ⟨bx_blind _, va_recv hK hP hcl (gw_at' hc hsh), fun U hU hW => ⟨rfl, bx_make hK hD hSt hZ hts hP hS hU hW⟩⟩ rfl hna hl.1 rfl (lv_room hrs) hd ⟨Nat.le_refl _, Nat.le_refl _⟩) hS (fun q _ h => h) (fun q h => h) (fun u ra t H1 locs1 ht hvm hw hB hz hk1 hS1 => by
    obtain ⟨hB1, hB2⟩ := hB
    subst hB1
    exact kk u.1 u.2 hw ls H1 locs1 hl (by rw [← ht]; exact hB2.1) hS1)
theorem g_callSi (ok : Ok l g o nL cc own ret) {y : MethodName} {bytes : ByteArray} {maxL na index kc n : Nat} {rt : Option FieldType} {As rest : List Value} {post : Int32 → Mem → Prop} (hM : MI l y bytes maxL rt kc o As S post) (hcal : CalC y bytes maxL rt na) (hlink : Cond.methodLink own index y ∈ lw_tbl) (hstat : Cond.static y ∈ lw_tbl) (hk : kc + 1 ≤ k) (hmx : maxL ≤ 80) (hna : As.length = na) (hrs : (rest.map fun v => v.category).sum ≤ 8) (hd : decode cc pc = .ok (.invokestatic index, 3)) (hn : pc + 3 = n) {st : List Value} (hst : st = As.reverse ++ rest) (kk : ∀ (r : Int32) (S1 : Mem), post r S1 → G g o k nL n L (.int r :: rest) S1) : G g o k nL pc L st S := by
  obtain ⟨p, l', e, s, m, args, below, meth, cD, Q, cs, sl⟩ := g
  obtain ⟨rfl, hx, hb, hml, hown, hts, hr, hlk, hK, hD, hSt, hZ⟩ := ok
  subst hn
  subst hst
  intro ls H locs hl hP hS
  exact va_calli (va_runS (As := As) (rest := rest) ⟨hx, hb, hml, hown, (fun (w : Cond) (hw : w ∈ ([] : List Cond)) => by cases hw)⟩ hM ⟨cw_B hts hcal hlink hk hmx, hts _ hstat rfl _⟩ ⟨bx_blind _, fun U hU hW => ⟨rfl, bx_make hK hD hSt hZ hts hP hS hU hW⟩⟩ rfl hna hl.1 rfl (lv_room hrs) hd ⟨Nat.le_refl _, Nat.le_refl _⟩) hS (fun q _ h => h) (fun q h => h) (fun r S1 t H1 locs1 ht hvm hw hB hz hk1 hS1 => kk r S1 hw ls H1 locs1 hl (by rw [← ht]; exact hB.1) hS1)
theorem g_callSv (ok : Ok l g o nL cc own ret) {y : MethodName} {bytes : ByteArray} {maxL na index kc n : Nat} {rt : Option FieldType} {As rest : List Value} {post : Mem → Prop} (hM : MV l y bytes maxL rt kc o As S post) (hcal : CalC y bytes maxL rt na) (hlink : Cond.methodLink own index y ∈ lw_tbl) (hstat : Cond.static y ∈ lw_tbl) (hk : kc + 1 ≤ k) (hmx : maxL ≤ 80) (hna : As.length = na) (hrs : (rest.map fun v => v.category).sum ≤ 8) (hd : decode cc pc = .ok (.invokestatic index, 3)) (hn : pc + 3 = n) {st : List Value} (hst : st = As.reverse ++ rest) (kk : ∀ (S1 : Mem), post S1 → G g o k nL n L rest S1) : G g o k nL pc L st S := by
  obtain ⟨p, l', e, s, m, args, below, meth, cD, Q, cs, sl⟩ := g
  obtain ⟨rfl, hx, hb, hml, hown, hts, hr, hlk, hK, hD, hSt, hZ⟩ := ok
  subst hn
  subst hst
  intro ls H locs hl hP hS
  exact va_callv (va_runS (As := As) (rest := rest) ⟨hx, hb, hml, hown, (fun (w : Cond) (hw : w ∈ ([] : List Cond)) => by cases hw)⟩ hM ⟨cw_B hts hcal hlink hk hmx, hts _ hstat rfl _⟩ ⟨bx_blind _, fun U hU hW => ⟨rfl, bx_make hK hD hSt hZ hts hP hS hU hW⟩⟩ rfl hna hl.1 rfl (lv_room hrs) hd ⟨Nat.le_refl _, Nat.le_refl _⟩) hS (fun q _ h => h) (fun q h => h) (fun S1 t H1 locs1 ht hvm hw hB hz hk1 hS1 => kk S1 hw ls H1 locs1 hl (by rw [← ht]; exact hB.1) hS1)
theorem g_callSNi (ok : Ok l g o nL cc own ret) {y : MethodName} {bytes : ByteArray} {maxL na index kc n : Nat} {rt : Option FieldType} {As rest : List Value} {post : Int32 → Mem → Prop} {host : String} (hM : MI l y bytes maxL rt kc o As S post) (hcal : CalC y bytes maxL rt na) (hlink : Cond.methodLinkNest own index y host ∈ lw_tbl) (hstat : Cond.static y ∈ lw_tbl) (hk : kc + 1 ≤ k) (hmx : maxL ≤ 80) (hna : As.length = na) (hrs : (rest.map fun v => v.category).sum ≤ 8) (hd : decode cc pc = .ok (.invokestatic index, 3)) (hn : pc + 3 = n) {st : List Value} (hst : st = As.reverse ++ rest) (kk : ∀ (r : Int32) (S1 : Mem), post r S1 → G g o k nL n L (.int r :: rest) S1) : G g o k nL pc L st S := by
  obtain ⟨p, l', e, s, m, args, below, meth, cD, Q, cs, sl⟩ := g
  obtain ⟨rfl, hx, hb, hml, hown, hts, hr, hlk, hK, hD, hSt, hZ⟩ := ok
  subst hn
  subst hst
  intro ls H locs hl hP hS
  exact va_calli (va_runSN (As := As) (rest := rest) ⟨hx, hb, hml, hown, (fun (w : Cond) (hw : w ∈ ([] : List Cond)) => by cases hw)⟩ hM ⟨cw_N hts hcal hlink hk hmx, hts _ hstat rfl _, trivial⟩ ⟨bx_blind _, fun U hU hW => ⟨rfl, bx_make hK hD hSt hZ hts hP hS hU hW⟩⟩ rfl hna hl.1 rfl (lv_room hrs) hd ⟨Nat.le_refl _, Nat.le_refl _⟩) hS (fun q _ h => h) (fun q h => h) (fun r S1 t H1 locs1 ht hvm hw hB hz hk1 hS1 => kk r S1 hw ls H1 locs1 hl (by rw [← ht]; exact hB.1) hS1)
theorem g_callSNv (ok : Ok l g o nL cc own ret) {y : MethodName} {bytes : ByteArray} {maxL na index kc n : Nat} {rt : Option FieldType} {As rest : List Value} {post : Mem → Prop} {host : String} (hM : MV l y bytes maxL rt kc o As S post) (hcal : CalC y bytes maxL rt na) (hlink : Cond.methodLinkNest own index y host ∈ lw_tbl) (hstat : Cond.static y ∈ lw_tbl) (hk : kc + 1 ≤ k) (hmx : maxL ≤ 80) (hna : As.length = na) (hrs : (rest.map fun v => v.category).sum ≤ 8) (hd : decode cc pc = .ok (.invokestatic index, 3)) (hn : pc + 3 = n) {st : List Value} (hst : st = As.reverse ++ rest) (kk : ∀ (S1 : Mem), post S1 → G g o k nL n L rest S1) : G g o k nL pc L st S := by
  obtain ⟨p, l', e, s, m, args, below, meth, cD, Q, cs, sl⟩ := g
  obtain ⟨rfl, hx, hb, hml, hown, hts, hr, hlk, hK, hD, hSt, hZ⟩ := ok
  subst hn
  subst hst
  intro ls H locs hl hP hS
  exact va_callv (va_runSN (As := As) (rest := rest) ⟨hx, hb, hml, hown, (fun (w : Cond) (hw : w ∈ ([] : List Cond)) => by cases hw)⟩ hM ⟨cw_N hts hcal hlink hk hmx, hts _ hstat rfl _, trivial⟩ ⟨bx_blind _, fun U hU hW => ⟨rfl, bx_make hK hD hSt hZ hts hP hS hU hW⟩⟩ rfl hna hl.1 rfl (lv_room hrs) hd ⟨Nat.le_refl _, Nat.le_refl _⟩) hS (fun q _ h => h) (fun q h => h) (fun S1 t H1 locs1 ht hvm hw hB hz hk1 hS1 => kk S1 hw ls H1 locs1 hl (by rw [← ht]; exact hB.1) hS1)
theorem g_ldc_w  (ok : Ok l g o nL cc own ret) {i : Nat} {v : Int32} {n : Nat} (hd : decode cc pc = .ok (.ldc_w i, 3)) (hn : pc + 3 = n) (hc : Cond.constant own i v ∈ lw_tbl) (h : G g o k nL n L (.int v :: st) S) : G g o k nL pc L (st) S := by
  obtain ⟨p, l', e, s, m, args, below, meth, cD, Q, cs, sl⟩ := g
  obtain ⟨rfl, hx, hb, hml, hown, hts, hr, hlk, hK, hD, hSt, hZ⟩ := ok
  subst hn
  exact fun ls H locs hl hP hS => lv_ldcw hx hb hown (hts _ hc rfl _) hd (h ls H locs hl hP hS)
theorem g_i2c  (ok : Ok l g o nL cc own ret) {x : Int32} {n : Nat} (hd : decode cc pc = .ok (.i2c, 1)) (hn : pc + 1 = n)  (h : G g o k nL n L (.int (x.toUInt32 % 65536).toInt32 :: st) S) : G g o k nL pc L (.int x :: st) S := by
  obtain ⟨p, l', e, s, m, args, below, meth, cD, Q, cs, sl⟩ := g
  obtain ⟨rfl, hx, hb, hml, hown, hts, hr, hlk, hK, hD, hSt, hZ⟩ := ok
  subst hn
  exact fun ls H locs hl hP hS => lv_i2c hx hb hd rfl (h ls H locs hl hP hS)
theorem nfw_arraycopy : nativeFrameWords "java/lang/System" "arraycopy" 5 + 11 ≤ 60 := by decide
theorem g_copy (ok : Ok l g o nL cc own ret) {c0 c1 t0 N0 N1 index n : Nat} {cA : ClassId} {sp dp nn : Int32} (hl1 : Cond.methodLink own index arraycopyName ∈ lw_tbl) (hl2 : Cond.native arraycopyName ∈ lw_tbl) (hl3 : Cond.static arraycopyName ∈ lw_tbl) (hl4 : Cond.initialized "java/lang/System" ∈ lw_tbl) (hc0 : c0 < o.1) (hsh0 : ∀ f, o.2.2.1 c0 f = .inl (cA, N0, .inl f)) (hc1 : c1 < o.1) (hsh1 : ∀ f, o.2.2.1 c1 f = .inl (cA, N1, .inl f)) (ht : o.2.2.2.2.1[t0]? = some (cA, .int)) (h0 : ¬ sp < 0 ∧ ¬ dp < 0 ∧ ¬ nn < 0 ∧ sp.toNatClampNeg + nn.toNatClampNeg ≤ N0 ∧ dp.toNatClampNeg + nn.toNatClampNeg ≤ N1) (hk1 : 1 ≤ k) (hrs : (st.map fun v => v.category).sum ≤ 8) (hd : decode cc pc = .ok (.invokestatic index, 3)) (hn : pc + 3 = n) (h : G g o k nL n L st (mset S c1 (va_cpy (S c0) (S c1) sp.toNatClampNeg dp.toNatClampNeg nn.toNatClampNeg))) : G g o k nL pc L (.int nn :: .int dp :: .ref (o.2.1 c1) :: .int sp :: .ref (o.2.1 c0) :: st) S := by
  obtain ⟨p, l', e, s, m, args, below, meth, cD, Q, cs, sl⟩ := g
  obtain ⟨rfl, hx, hb, hml, hown, hts, hr, hlk, hK, hD, hSt, hZ⟩ := ok
  subst hn
  intro ls H locs hl hP hS
  have e60 := nfw_arraycopy
  refine va_copyi hx hb (hml.trans hl.1.symm) hown (hts _ hl1 rfl _) (hts _ hl2 rfl _) (hts _ hl3 rfl _) (hts _ hl4 rfl _) hK hP (hD S) hS c0 c1 t0 t0 (gw_at' hc0 (hsh0 _)) (gw_at' hc1 (hsh1 _)) ht ht rfl h0.1 h0.2.1 h0.2.2.1 h0.2.2.2.1 h0.2.2.2.2 (fun _ _ => rfl) hk1 (by show _ + (nativeFrameWords "java/lang/System" "arraycopy" 5 + 11) ≤ 100 * k; omega) hd (fun H1 locs1 hP1 hD1 hS1 => ?_)
  rw [gw_set' (hsh1 _)] at hP1
  exact h ls H1 locs1 hl hP1 hS1
def EndQ (g : CxT) (o : OmT) (Qc : Array Value → State → Outcome → State → Prop) : Prop := match g with
  | (_, _, _, s, _, args, below, _, _, Q, cs, sl) => Q = MQ below Qc args s cs sl (AX o)
theorem g_iret (ok : Ok l g o nL cc own (some .int)) {post : Int32 → Mem → Prop} {x : Int32} (he : EndQ g o (va_Qi post (fun S1 t => BX o S1 t) (AX o))) (hp : post x S) (hd : decode cc pc = .ok (.ireturn, 1)) : G g o k nL pc L [.int x] S := by
  obtain ⟨p, l', e, s, m, args, below, meth, cD, Q, cs, sl⟩ := g
  obtain ⟨rfl, hx, hb, hml, hown, hts, hr, hlk, hK, hD, hSt, hZ⟩ := ok
  have he : Q = _ := he
  subst he
  intro ls H locs hl hP hS
  exact W.iret (v := x) hx hb hr (fun t ht hW => ⟨⟨x, S, rfl, hp, bx_make hK hD hSt hZ hts hP hS ht hW⟩, hS.F ht⟩) hS.2.2 hd
theorem g_zret (ok : Ok l g o nL cc own (some .boolean)) {post : Int32 → Mem → Prop} {x : Int32} (he : EndQ g o (va_Qi post (fun S1 t => BX o S1 t) (AX o))) (hz : x = 0 ∨ x = 1) (hp : post x S) (hd : decode cc pc = .ok (.ireturn, 1)) : G g o k nL pc L [.int x] S := by
  obtain ⟨p, l', e, s, m, args, below, meth, cD, Q, cs, sl⟩ := g
  obtain ⟨rfl, hx, hb, hml, hown, hts, hr, hlk, hK, hD, hSt, hZ⟩ := ok
  have he : Q = _ := he
  subst he
  intro ls H locs hl hP hS
  exact W.zret (v := x) hx hb hr (by rcases hz with rfl | rfl <;> decide) (fun t ht hW => ⟨⟨x, S, rfl, hp, bx_make hK hD hSt hZ hts hP hS ht hW⟩, hS.F ht⟩) hS.2.2 hd
theorem g_nret {ty : FieldType} (ok : Ok l g o nL cc own (some ty)) {post : Int32 → Mem → Prop} {x : Int32} (he : EndQ g o (va_Qi post (fun S1 t => BX o S1 t) (AX o))) (hz : narrow ty (.int x) = .int x) (hp : post x S) (hd : decode cc pc = .ok (.ireturn, 1)) : G g o k nL pc L [.int x] S := by
  obtain ⟨p, l', e, s, m, args, below, meth, cD, Q, cs, sl⟩ := g
  obtain ⟨rfl, hx, hb, hml, hown, hts, hr, hlk, hK, hD, hSt, hZ⟩ := ok
  have he : Q = _ := he
  subst he
  intro ls H locs hl hP hS
  exact W.zret (v := x) hx hb hr hz (fun t ht hW => ⟨⟨x, S, rfl, hp, bx_make hK hD hSt hZ hts hP hS ht hW⟩, hS.F ht⟩) hS.2.2 hd
theorem g_lret (ok : Ok l g o nL cc own (some .long)) {post : Int64 → Mem → Prop} {x : Int64} (he : EndQ g o (va_Ql post (fun S1 t => BX o S1 t) (AX o))) (hp : post x S) (hd : decode cc pc = .ok (.lreturn, 1)) : G g o k nL pc L [.long x] S := by
  obtain ⟨p, l', e, s, m, args, below, meth, cD, Q, cs, sl⟩ := g
  obtain ⟨rfl, hx, hb, hml, hown, hts, hr, hlk, hK, hD, hSt, hZ⟩ := ok
  have he : Q = _ := he
  subst he
  intro ls H locs hl hP hS
  exact W.lret (v := x) hx hb hr (fun t ht hW => ⟨⟨x, S, rfl, hp, bx_make hK hD hSt hZ hts hP hS ht hW⟩, hS.F ht⟩) hS.2.2 hd
theorem g_vret (ok : Ok l g o nL cc own none) {post : Mem → Prop} (he : EndQ g o (va_Qv post (fun S1 t => BX o S1 t) (AX o))) (hp : post S) (hd : decode cc pc = .ok (.return_, 1)) : G g o k nL pc L [] S := by
  obtain ⟨p, l', e, s, m, args, below, meth, cD, Q, cs, sl⟩ := g
  obtain ⟨rfl, hx, hb, hml, hown, hts, hr, hlk, hK, hD, hSt, hZ⟩ := ok
  have he : Q = _ := he
  subst he
  intro ls H locs hl hP hS
  exact W.vret hx hb hr (fun t ht hW => ⟨⟨S, rfl, hp, bx_make hK hD hSt hZ hts hP hS ht hW⟩, hS.F ht⟩) hS.2.2 hd
theorem g_aret {C : String} (ok : Ok l g o nL cc own (some (.object C))) {post : Nat → Mem → Prop} {c : Nat} (he : EndQ g o (va_Qr (fun u : Nat × Mem => post u.1 u.2) (fun u a t => a = o.2.1 u.1 ∧ BX o u.2 t) (AX o))) (hp : post c S) (hd : decode cc pc = .ok (.areturn, 1)) : G g o k nL pc L [.ref (o.2.1 c)] S := by
  obtain ⟨p, l', e, s, m, args, below, meth, cD, Q, cs, sl⟩ := g
  obtain ⟨rfl, hx, hb, hml, hown, hts, hr, hlk, hK, hD, hSt, hZ⟩ := ok
  have he : Q = _ := he
  subst he
  intro ls H locs hl hP hS
  exact W.aret (v := .ref (o.2.1 c)) hx hb hr (Or.inl ⟨_, rfl⟩) (Or.inr ⟨_, rfl⟩) (fun t ht hW => ⟨⟨(c, S), o.2.1 c, rfl, hp, rfl, bx_make hK hD hSt hZ hts hP hS ht hW⟩, hS.F ht⟩) hS.2.2 hd
end
theorem met_ofF {l : Launch} {y : MethodName} {ws ws' : List Cond} {rm : Room} {Pc : Array Value → State → Prop} {Qc : Array Value → State → Outcome → State → Prop} {mc ms : Nat} {free : Addr → Prop} {cc : ByteArray} {maxL : Nat} {ret : Option FieldType}
    (hy : plainFor y = true) (hw : ws = Cond.code y cc maxL ret :: ws')
    (body : ∀ p e s m args below meth c s₁, BodyLoose p l y (headSpec ws rm) cc maxL ret e s m args below meth c s₁ → c.maxLocals = maxL → Pc args s →
      W p l e (headSpec ws rm).room s m args below meth c s.heap [] 0 0 (MQ below Qc args s mc ms free) (entryFrame m args maxL)) : Met l y ws rm Pc Qc mc ms free := by
  refine MetFree.of_bodySF (code := cc) (maxLocals := maxL) (ret := ret) hy ?_ ?_
  · intro args s m h hn
    obtain ⟨meth, c, h1, h2, h3, h4, h5, h6, -, -⟩ := Cond.code_spec hn (atoms_spec (ws := ws) h _ (by rw [hw]; exact List.mem_cons_self))
    exact ⟨meth, c, h1, h2, h3, h4, h5, h6⟩
  · intro p e s m args below meth c s₁ B hml hP _
    have hh0 : s₁.heap = s.heap := by rw [B.state]; rfl
    obtain ⟨t, a1, o, b1, b2, b3⟩ := body p e s m args below meth c s₁ B hml hP s₁ hh0 (Stand.of_body B)
    exact ⟨t, o, a1, b1, b2, ⟨b3.1, b3.2⟩⟩
/-- a method's start: from the cells o holding S, with the arguments av -/
theorem met_start {l : Launch} {y : MethodName} {bytes : ByteArray} {maxL : Nat} {rt : Option FieldType} {k : Nat} {o : OmT} {av : List Value} {S : Mem} {Qc : Array Value → State → Outcome → State → Prop} (hy : plainName y.cls = true) (hlen : (lg_sl av).length ≤ maxL) (body : ∀ g : CxT, Ok l g o maxL bytes y.cls rt → EndQ g o Qc → G g o k maxL 0 (lv_args 0 av) [] S) : Met l y [Cond.code y bytes maxL rt] (rl k) (va_Pc av (BX o S)) Qc 0 0 (AX o) := by
  refine Met.ofW (cc := bytes) (maxL := maxL) (ret := rt) hy rfl ?_
  intro p e s m args below meth c s₁ B hml hv
  obtain ⟨rfl, hP, hK, hD, hSt, hZ, hW⟩ := hv
  have hown : s.vm.findClass y.cls = some m.cls := findClass_of_methodNamed B.named
  have hl := lv_entry av (n := maxL) hlen
  rw [lg_entry_eq]
  exact body (p, l, e, s, m, av.toArray, below, meth, c, _, 0, 0) ⟨rfl, B.exec, B.bytes, hml, hown, hW, B.returns, B.notSynchronized, hK, hD, hSt, hZ⟩ rfl _ _ _ hl hP va_S.rf
theorem met_startF {l : Launch} {y : MethodName} {bytes : ByteArray} {maxL : Nat} {rt : Option FieldType} {k : Nat} {o : OmT} {av : List Value} {S : Mem} {Qc : Array Value → State → Outcome → State → Prop} (hy : plainFor y = true) (hlen : (lg_sl av).length ≤ maxL) (body : ∀ g : CxT, Ok l g o maxL bytes y.cls rt → EndQ g o Qc → G g o k maxL 0 (lv_args 0 av) [] S) : Met l y [Cond.code y bytes maxL rt] (rl k) (va_Pc av (BX o S)) Qc 0 0 (AX o) := by
  refine met_ofF (cc := bytes) (maxL := maxL) (ret := rt) hy rfl ?_
  intro p e s m args below meth c s₁ B hml hv
  obtain ⟨rfl, hP, hK, hD, hSt, hZ, hW⟩ := hv
  have hown : s.vm.findClass y.cls = some m.cls := findClass_of_methodNamed B.named
  have hl := lv_entry av (n := maxL) hlen
  rw [lg_entry_eq]
  exact body (p, l, e, s, m, av.toArray, below, meth, c, _, 0, 0) ⟨rfl, B.exec, B.bytes, hml, hown, hW, B.returns, B.notSynchronized, hK, hD, hSt, hZ⟩ rfl _ _ _ hl hP va_S.rf
