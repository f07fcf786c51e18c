/-! CONSTRUCTORS: a world ws (a list of cells) that grows; t: the array classes of int, Leg, Rule, Sheet -/
abbrev TiT : Type := ClassId × ClassId × ClassId × ClassId
abbrev tysOf (t : TiT) : List (ClassId × FieldType) := [(t.1, .int), (t.2.1, .object "TableRocks$Leg"), (t.2.2.1, .object "TableRocks$Rule"), (t.2.2.2, .object "TableRocks$Sheet")]
def AOs (U : State) : Prop := va_AO "TableRocks$Leg" U ∧ va_AO "TableRocks$Rule" U ∧ va_AO "TableRocks$Sheet" U
theorem AOs.moved {u U : State} (hvm : u.vm.Alike U.vm) (h : AOs u) : AOs U := ⟨va_AO.moved hvm h.1, va_AO.moved hvm h.2.1, va_AO.moved hvm h.2.2⟩
def OkA (l : Launch) (g : CxT) (D : va_G) (t : TiT) (A : Nat → Prop) (nL : Nat) (cc : ByteArray) (own : String) (ret : Option FieldType) : Prop := match g with
  | (p, l', _, s, m, _, _, meth, c, _, _, _) => l' = l ∧ p.tables.exec = Jvm.exec ∧ c.code = cc ∧ c.maxLocals = nL ∧ s.vm.findClass own = some m.cls ∧ WD s ∧ meth.sig.returnType = ret ∧ meth.locks = false ∧ va_K D vwCl (tysOf t) s ∧ AOs s ∧ meth.name = "<init>" ∧ ∀ q, s.heap.size ≤ q → A q
def GA (g : CxT) (D : va_G) (A : Nat → Prop) (k nL pc : Nat) (L : List (Nat × Value)) (st : List Value) (ws : va_W) (cl sk : Nat) : Prop := match g with
  | (p, l, e, s, m, args, below, meth, c, Q, cs, sl) => ∀ (ls : Array Slot) (H : Heap) (locs : List Loc), lv_has ls nL L → va_P D vwCl ws H → va_D A ws → va_S A s.heap H locs → W p l e (rlc k cs sl) s m args below meth c H locs cl sk Q (F0 m pc ls st)
theorem int_cls {s : State} {D : va_G} {t : TiT} {cA : ClassId} {xs : List (ClassId × FieldType)} (hK : va_K D vwCl (tysOf t) s) (h : va_K D vwCl (xs ++ [(cA, .int)]) s) : cA = t.1 := by
  have h1 := va_nm_int ((hK.2 0 _ rfl).2)
  have h2 := va_nm_int ((h.2 xs.length (cA, .int) (by simp)).2)
  exact Option.some.inj (h2.symm.trans h1)
theorem obj_cls {s : State} {D : va_G} {t : TiT} {C : String} {cA cB : ClassId} {i : Nat} {xs : List (ClassId × FieldType)} (hK : va_K D vwCl (tysOf t) s) (hi : (tysOf t)[i]? = some (cB, .object C)) (h : va_K D vwCl (xs ++ [(cA, .object C)]) s) : cA = cB := by
  obtain ⟨_, _, _, _, _, h1⟩ := (hK.2 i _ hi).2
  obtain ⟨_, _, _, _, _, h2⟩ := (h.2 xs.length (cA, .object C) (by simp)).2
  exact Option.some.inj (h2.symm.trans h1)
section
variable {l : Launch} {g : CxT} {D : va_G} {t : TiT} {A : Nat → Prop} {k nL pc cl sk : Nat} {cc : ByteArray} {own : String} {ret : Option FieldType} {L : List (Nat × Value)} {st : List Value} {ws : va_W}
theorem ga_iconst  (ok : OkA l g D t A nL cc own ret) {i : Int} {v : Int32} {n : Nat} (hd : decode cc pc = .ok (.iconst i, 1)) (hn : pc + 1 = n) (hv : Int32.ofInt i = v) (h : GA g D A k nL n L (.int v :: st) ws cl sk) : GA g D A k nL pc L (st) ws cl sk := by
  obtain ⟨p, l', e, s, m, args, below, meth, cD, Q, cs, sl⟩ := g
  obtain ⟨rfl, hx, hb, hml, hown, hts, hr, hlk, hK, hO, hin, hA⟩ := ok
  subst hn
  exact fun ls H locs hl hP hD hS => lv_iconst hx hb hd hv (h ls H locs hl hP hD hS)
theorem ga_bipush  (ok : OkA l g D t A nL cc own ret) {i : Int} {v : Int32} {n : Nat} (hd : decode cc pc = .ok (.bipush i, 2)) (hn : pc + 2 = n) (hv : (Int8.ofInt i).toInt32 = v) (h : GA g D A k nL n L (.int v :: st) ws cl sk) : GA g D A k nL pc L (st) ws cl sk := by
  obtain ⟨p, l', e, s, m, args, below, meth, cD, Q, cs, sl⟩ := g
  obtain ⟨rfl, hx, hb, hml, hown, hts, hr, hlk, hK, hO, hin, hA⟩ := ok
  subst hn
  exact fun ls H locs hl hP hD hS => lv_bipush hx hb hd hv (h ls H locs hl hP hD hS)
theorem ga_sipush  (ok : OkA l g D t A nL cc own ret) {i : Int} {v : Int32} {n : Nat} (hd : decode cc pc = .ok (.sipush i, 3)) (hn : pc + 3 = n) (hv : (Int16.ofInt i).toInt32 = v) (h : GA g D A k nL n L (.int v :: st) ws cl sk) : GA g D A k nL pc L (st) ws cl sk := by
  obtain ⟨p, l', e, s, m, args, below, meth, cD, Q, cs, sl⟩ := g
  obtain ⟨rfl, hx, hb, hml, hown, hts, hr, hlk, hK, hO, hin, hA⟩ := ok
  subst hn
  exact fun ls H locs hl hP hD hS => lv_sipush hx hb hd hv (h ls H locs hl hP hD hS)
theorem ga_aload_n (j : Nat) (ok : OkA l g D t A nL cc own ret) {i : Fin 4} {x : Nat} {n : Nat} (hd : decode cc pc = .ok (.aload_n i, 1)) (hn : pc + 1 = n) (hj : L[j]? = some ((i : Nat), .ref x)) (h : GA g D A k nL n L (.ref x :: st) ws cl sk) : GA g D A k nL pc L (st) ws cl sk := by
  obtain ⟨p, l', e, s, m, args, below, meth, cD, Q, cs, sl⟩ := g
  obtain ⟨rfl, hx, hb, hml, hown, hts, hr, hlk, hK, hO, hin, hA⟩ := ok
  subst hn
  exact fun ls H locs hl hP hD hS => lv_aload_n hx hb hd rfl (lv_at hl j hj) (h ls H locs hl hP hD hS)
theorem ga_iload_n (j : Nat) (ok : OkA l g D t A nL cc own ret) {i : Fin 4} {x : Int32} {n : Nat} (hd : decode cc pc = .ok (.iload_n i, 1)) (hn : pc + 1 = n) (hj : L[j]? = some ((i : Nat), .int x)) (h : GA g D A k nL n L (.int x :: st) ws cl sk) : GA g D A k nL pc L (st) ws cl sk := by
  obtain ⟨p, l', e, s, m, args, below, meth, cD, Q, cs, sl⟩ := g
  obtain ⟨rfl, hx, hb, hml, hown, hts, hr, hlk, hK, hO, hin, hA⟩ := ok
  subst hn
  exact fun ls H locs hl hP hD hS => lv_iload_n hx hb hd rfl (lv_at hl j hj) (h ls H locs hl hP hD hS)
theorem ga_istore_n (L2 : List (Nat × Value)) (ok : OkA l g D t A nL cc own ret) {i : Fin 4} {x : Int32} {n : Nat} (hd : decode cc pc = .ok (.istore_n i, 1)) (hn : pc + 1 = n) (hi : (i : Nat) < nL) (hf : ((i : Nat), Value.int x) :: L.filter (fun q => !(q.1 == (i : Nat)) && !(q.1 + 1 == (i : Nat) && q.2.category == 2)) = L2) (h : GA g D A k nL n L2 (st) ws cl sk) : GA g D A k nL pc L (.int x :: st) ws cl sk := by
  obtain ⟨p, l', e, s, m, args, below, meth, cD, Q, cs, sl⟩ := g
  obtain ⟨rfl, hx, hb, hml, hown, hts, hr, hlk, hK, hO, hin, hA⟩ := ok
  subst hn
  exact fun ls H locs hl hP hD hS => lv_istore_n hx hb hd rfl hl hi hf (fun ls2 hl2 => h ls2 H locs hl2 hP hD hS)
theorem ga_iinc (j : Nat) (L2 : List (Nat × Value)) (ok : OkA l g D t A nL cc own ret) {i : Nat} {d : Int} {x v : Int32} {n : Nat} (hd : decode cc pc = .ok (.iinc i d, 3)) (hn : pc + 3 = n) (hj : L[j]? = some (i, .int x)) (hv : x + Int32.ofInt d = v) (hi : i < nL) (hf : (i, Value.int v) :: L.filter (fun q => !(q.1 == i) && !(q.1 + 1 == i && q.2.category == 2)) = L2) (h : GA g D A k nL n L2 (st) ws cl sk) : GA g D A k nL pc L (st) ws cl sk := by
  obtain ⟨p, l', e, s, m, args, below, meth, cD, Q, cs, sl⟩ := g
  obtain ⟨rfl, hx, hb, hml, hown, hts, hr, hlk, hK, hO, hin, hA⟩ := ok
  subst hn
  exact fun ls H locs hl hP hD hS => lv_iinc hx hb hd hl hj hv hi hf (fun ls2 hl2 => h ls2 H locs hl2 hP hD hS)
theorem ga_dup  (ok : OkA l g D t A nL cc own ret) {x : Value} {n : Nat} (hd : decode cc pc = .ok (.dup, 1)) (hn : pc + 1 = n) (hc : x.category = 1) (h : GA g D A k nL n L (x :: x :: st) ws cl sk) : GA g D A k nL pc L (x :: st) ws cl sk := by
  obtain ⟨p, l', e, s, m, args, below, meth, cD, Q, cs, sl⟩ := g
  obtain ⟨rfl, hx, hb, hml, hown, hts, hr, hlk, hK, hO, hin, hA⟩ := ok
  subst hn
  exact fun ls H locs hl hP hD hS => lv_dup hx hb hd hc (h ls H locs hl hP hD hS)
theorem ga_goto (ok : OkA l g D t A nL cc own ret) {off : Int} {tt : Nat} (hd : decode cc pc = .ok (.goto off, 3)) (ht : (pc : Int) + off = (tt : Int)) (h : GA g D A k nL tt L (st) ws cl sk) : GA g D A k nL pc L (st) ws cl sk := by
  obtain ⟨p, l', e, s, m, args, below, meth, cD, Q, cs, sl⟩ := g
  obtain ⟨rfl, hx, hb, hml, hown, hts, hr, hlk, hK, hO, hin, hA⟩ := ok
  exact fun ls H locs hl hP hD hS => lv_goto hx hb hd ht (h ls H locs hl hP hD hS)
theorem ga_icmp_ge (ok : OkA l g D t A nL cc own ret) {x y : Int32} {off : Int} {tt n : Nat} (hd : decode cc pc = .ok (.if_icmp .ge off, 3)) (ht : (pc : Int) + off = (tt : Int)) (hn : pc + 3 = n) (h1 : y ≤ x → GA g D A k nL tt L (st) ws cl sk) (h2 : ¬ y ≤ x → GA g D A k nL n L (st) ws cl sk) : GA g D A k nL pc L (.int y :: .int x :: st) ws cl sk := by
  obtain ⟨p, l', e, s, m, args, below, meth, cD, Q, cs, sl⟩ := g
  obtain ⟨rfl, hx, hb, hml, hown, hts, hr, hlk, hK, hO, hin, hA⟩ := ok
  subst hn
  exact fun ls H locs hl hP hD hS => lv_icmp_ge hx hb hd ht (fun z => h1 z ls H locs hl hP hD hS) (fun z => h2 z ls H locs hl hP hD hS)
theorem ga_objInit (ok : OkA l g D t A nL cc own ret) {x idx n : Nat} (hl1 : Cond.methodLink own idx Lib.objectInit ∈ lw_tbl) (hl2 : Cond.instanceMethod Lib.objectInit ∈ lw_tbl) (hl3 : Cond.code Lib.objectInit ⟨#[0xb1]⟩ 1 none ∈ lw_tbl) (hk1 : 1 ≤ k) (hrs : (st.map fun v => v.category).sum ≤ 8) (hd : decode cc pc = .ok (.invokespecial idx, 3)) (hn : pc + 3 = n) (h : GA g D A k nL n L (st) ws cl sk) : GA g D A k nL pc L (.ref x :: st) ws cl sk := by
  obtain ⟨p, l', e, s, m, args, below, meth, cD, Q, cs, sl⟩ := g
  obtain ⟨rfl, hx, hb, hml, hown, hts, hr, hlk, hK, hO, hin, hA⟩ := ok
  subst hn
  intro ls H locs hl hP hD hS
  refine W.objInit hx hb hown (hts _ hl1 rfl _) (hts _ hl2 rfl _) (hts _ hl3 rfl _) rfl (hl.1.trans hml.symm) rfl hd hk1 (by show 2 * 0 + _ + 12 ≤ 100 * k; omega) ?_
  exact W.eq (g2 := F0 m (pc + 3) ls st) rfl (h ls H locs hl hP hD hS)
theorem ga_new (ok : OkA l g D t A nL cc own ret) {C : String} {T : u_T} {N ci index n cl2 sk2 : Nat} {fs : List Value} {ty : Nat → FieldType} (hwl : WL (u_ws C T N)) (hty : ∀ j, j < N → parseFieldDescriptor (T j).2.2.1 = some (ty j)) (hcl : vwCl[ci]? = some (C, T, N)) (h1 : Cond.classLink own index C ∈ lw_tbl) (h2 : Cond.instantiable C N ∈ lw_tbl) (h3 : Cond.initialized C ∈ lw_tbl) (hfs : ∀ j, j < N → defaultValue (ty j) = vp_V fs j) (ws2 : Nat → va_W) (hw : ∀ q, ws ++ [(q, .inr (ci, fs))] = ws2 q) (hcc : cl + 1 = cl2) (hss : sk + N = sk2) (hcs : ∀ (p : Program) (l : Launch) e s m args below meth c Q cs sl, g = (p, l, e, s, m, args, below, meth, c, Q, cs, sl) → cl2 ≤ cs ∧ sk2 ≤ sl) (hd : decode cc pc = .ok (.new index, 3)) (hn : pc + 3 = n) (h : ∀ q, GA g D A k nL n L (.ref q :: st) (ws2 q) cl2 sk2) : GA g D A k nL pc L (st) ws cl sk := by
  obtain ⟨p, l', e, s, m, args, below, meth, cD, Q, cs, sl⟩ := g
  obtain ⟨rfl, hx, hb, hml, hown, hts, hr, hlk, hK, hO, hin, hA⟩ := ok
  subst hn
  subst hcc
  subst hss
  obtain ⟨hc1, hc2⟩ := hcs p l' e s m args below meth cD Q cs sl rfl
  intro ls H locs hl hP hD hS
  refine va_new (Ts := u_ws C T N) hx hb (hwl.use hts) (fun _ z => z) ty hty hown (hts _ h1 rfl _) (hts _ h2 rfl _) (hts _ h3 rfl _) hK hP hD hS hA hcl hfs hc1 hc2 hd (fun q H1 hP1 hD1 hS1 => ?_)
  rw [hw q] at hP1 hD1
  exact h q ls H1 locs hl hP1 hD1 hS1
theorem ga_newa (ok : OkA l g D t A nL cc own ret) {N n cl2 sk2 : Nat} {x : Int32} (ha : Cond.arrayClass .int ∈ lw_tbl) (hx0 : ¬ x < 0) (hN : x.toNatClampNeg = N) (hby : N * componentBytes .int ≤ 536870912) (ws2 : Nat → va_W) (hw : ∀ q, ws ++ [(q, .inl (t.1, N, .inl (fun _ => 0)))] = ws2 q) (hcc : cl + 1 = cl2) (hss : sk + N = sk2) (hcs : ∀ (p : Program) (l : Launch) e s m args below meth c Q cs sl, g = (p, l, e, s, m, args, below, meth, c, Q, cs, sl) → cl2 ≤ cs ∧ sk2 ≤ sl) (hd : decode cc pc = .ok (.newarray .int, 2)) (hn : pc + 2 = n) (h : ∀ q, GA g D A k nL n L (.ref q :: st) (ws2 q) cl2 sk2) : GA g D A k nL pc L (.int x :: st) ws cl sk := by
  obtain ⟨p, l', e, s, m, args, below, meth, cD, Q, cs, sl⟩ := g
  obtain ⟨rfl, hx, hb, hml, hown, hts, hr, hlk, hK, hO, hin, hA⟩ := ok
  subst hn
  subst hcc
  subst hss
  obtain ⟨hc1, hc2⟩ := hcs p l' e s m args below meth cD Q cs sl rfl
  intro ls H locs hl hP hD hS
  refine va_newa (atype := .int) (ty := .int) (a0 := (N, .inl (fun _ => 0))) hx hb (hts _ ha rfl _) rfl hK hP hD hS hA (fun cA => rfl) hx0 hN hby hc1 hc2 hd (fun q cA H1 hK1 hP1 hD1 hS1 => ?_)
  have e1 := int_cls hK hK1
  subst e1
  rw [hw q] at hP1 hD1
  exact h q ls H1 locs hl hP1 hD1 hS1
theorem ga_anew (ok : OkA l g D t A nL cc own ret) {C : String} {cB : ClassId} {ti N n index cl2 sk2 : Nat} {x : Int32} (hi : (tysOf t)[ti]? = some (cB, .object C)) (hlk2 : Cond.classLink own index C ∈ lw_tbl) (hao : ∀ U : State, AOs U → va_AO C U) (hx0 : ¬ x < 0) (hN : x.toNatClampNeg = N) (hby : N * 4 ≤ 536870912) (ws2 : Nat → va_W) (hw : ∀ q, ws ++ [(q, .inl (cB, N, .inr (.inr (.inr (.inr (fun _ => none))))))] = ws2 q) (hcc : cl + 1 = cl2) (hss : sk + N = sk2) (hcs : ∀ (p : Program) (l : Launch) e s m args below meth c Q cs sl, g = (p, l, e, s, m, args, below, meth, c, Q, cs, sl) → cl2 ≤ cs ∧ sk2 ≤ sl) (hd : decode cc pc = .ok (.anewarray index, 3)) (hn : pc + 3 = n) (h : ∀ q, GA g D A k nL n L (.ref q :: st) (ws2 q) cl2 sk2) : GA g D A k nL pc L (.int x :: st) ws cl sk := by
  obtain ⟨p, l', e, s, m, args, below, meth, cD, Q, cs, sl⟩ := g
  obtain ⟨rfl, hx, hb, hml, hown, hts, hr, hlk, hK, hO, hin, hA⟩ := ok
  subst hn
  subst hcc
  subst hss
  obtain ⟨hc1, hc2⟩ := hcs p l' e s m args below meth cD Q cs sl rfl
  intro ls H locs hl hP hD hS
  refine va_newq hx hb hown (hts _ hlk2 rfl _) (hao _ hO) hK hP hD hS hA hx0 hN hby hc1 hc2 hd (fun q cA H1 hK1 hP1 hD1 hS1 => ?_)
  have e1 := obj_cls hK hi hK1
  subst e1
  rw [hw q] at hP1 hD1
  exact h q ls H1 locs hl hP1 hD1 hS1
theorem ga_get (ok : OkA l g D t A nL cc own ret) {C : String} {T : u_T} {N ci index a n : Nat} {fs : List Value} (q0 fk : Nat) {v : Value} (he : ws[q0]? = some (a, .inr (ci, fs))) (hcl : vwCl[ci]? = some (C, T, N)) (hk : fk < N) (hT : (T fk).1 = C) (hwl : WL (u_ws C T N)) (hlink : Cond.fieldLink own index C (T fk).2.1 (T fk).2.2.1 ∈ lw_tbl) (hv : fs[fk]? = some v) (hd : decode cc pc = .ok (.getfield index, 3)) (hn : pc + 3 = n) (h : GA g D A k nL n L (v :: st) ws cl sk) : GA g D A k nL pc L (.ref a :: st) ws cl sk := by
  obtain ⟨p, l', e, s, m, args, below, meth, cD, Q, cs, sl⟩ := g
  obtain ⟨rfl, hx, hb, hml, hown, hts, hr, hlk, hK, hO, hin, hA⟩ := ok
  subst hn
  exact fun ls H locs hl hP hD hS => va_get (Ts := u_ws C T N) hx hb (hwl.use hts) (fun _ z => z) hown hK hP q0 he hcl fk hk (hts _ hlink rfl _) (fun _ z => by rw [← hT]; exact z) hv hd (h ls H locs hl hP hD hS)
theorem ga_put (ok : OkA l g D t A nL cc own ret) {C : String} {T : u_T} {N ci index a n : Nat} {fs : List Value} (q0 fk : Nat) {v : Value} {ty0 : Nat → FieldType} {ty : FieldType} (he : ws[q0]? = some (a, .inr (ci, fs))) (hcl : vwCl[ci]? = some (C, T, N)) (hk : fk < N) (hT : (T fk).1 = C) (hwl : WL (u_ws C T N)) (hlink : Cond.fieldLink own index C (T fk).2.1 (T fk).2.2.1 ∈ lw_tbl) (hty : ∀ j, j < N → parseFieldDescriptor (T j).2.2.1 = some (ty0 j)) (hnm : ∀ a, a < N → ∀ b, b < N → a ≠ b → (T a).2.1 ≠ (T b).2.1) (hfin : (T fk).2.2.2 = false) (hpd : parseFieldDescriptor (T fk).2.2.1 = some ty) (hnr : narrow ty v = v) (hft : fits ty v = true) (hl2 : fk < fs.length) (ws2 : va_W) (hw : ws.set q0 (a, .inr (ci, fs.set fk v)) = ws2) (hd : decode cc pc = .ok (.putfield index, 3)) (hn : pc + 3 = n) (h : GA g D A k nL n L (st) ws2 cl sk) : GA g D A k nL pc L (v :: .ref a :: st) ws cl sk := by
  obtain ⟨p, l', e, s, m, args, below, meth, cD, Q, cs, sl⟩ := g
  obtain ⟨rfl, hx, hb, hml, hown, hts, hr, hlk, hK, hO, hin, hA⟩ := ok
  subst hn
  subst hw
  intro ls H locs hl hP hD hS
  exact va_put (Ts := u_ws C T N) hx hb (hwl.use hts) (fun _ z => z) ty0 hty hnm hown hK hP hD hS q0 he hcl fk hk (hts _ hlink rfl _) (fun _ z => by rw [← hT]; exact z) hfin hpd hnr hft hl2 hd (fun H1 locs1 hP1 hD1 hS1 => h ls H1 locs1 hl hP1 hD1 hS1)
theorem ga_putF (ok : OkA l g D t A nL cc own ret) {C : String} {T : u_T} {N ci index a n : Nat} {fs : List Value} (q0 fk : Nat) {v : Value} {ty0 : Nat → FieldType} {ty : FieldType} (he : ws[q0]? = some (a, .inr (ci, fs))) (hcl : vwCl[ci]? = some (C, T, N)) (hk : fk < N) (hT : (T fk).1 = C) (hwl : WL (u_ws C T N)) (hlink : Cond.fieldLink own index C (T fk).2.1 (T fk).2.2.1 ∈ lw_tbl) (hty : ∀ j, j < N → parseFieldDescriptor (T j).2.2.1 = some (ty0 j)) (hnm : ∀ a, a < N → ∀ b, b < N → a ≠ b → (T a).2.1 ≠ (T b).2.1) (hfin : (T fk).2.2.2 = true) (hdc : (T fk).1 = own) (hpd : parseFieldDescriptor (T fk).2.2.1 = some ty) (hnr : narrow ty v = v) (hft : fits ty v = true) (hl2 : fk < fs.length) (ws2 : va_W) (hw : ws.set q0 (a, .inr (ci, fs.set fk v)) = ws2) (hd : decode cc pc = .ok (.putfield index, 3)) (hn : pc + 3 = n) (h : GA g D A k nL n L (st) ws2 cl sk) : GA g D A k nL pc L (v :: .ref a :: st) ws cl sk := by
  obtain ⟨p, l', e, s, m, args, below, meth, cD, Q, cs, sl⟩ := g
  obtain ⟨rfl, hx, hb, hml, hown, hts, hr, hlk, hK, hO, hin, hA⟩ := ok
  subst hn
  subst hw
  intro ls H locs hl hP hD hS
  exact va_putF (Ts := u_ws C T N) hx hb (hwl.use hts) (fun _ z => z) ty0 hty hnm hown hK hP hD hS q0 he hcl fk hk (hts _ hlink rfl _) (fun _ z => by rw [← hT]; exact z) hfin hin hdc hpd hnr hft hl2 hd (fun H1 locs1 hP1 hD1 hS1 => h ls H1 locs1 hl hP1 hD1 hS1)
theorem ga_iast (ok : OkA l g D t A nL cc own ret) {N a n : Nat} {f : Nat → Int32} {i x : Int32} (q0 : Nat) (he : ws[q0]? = some (a, .inl (t.1, N, .inl f))) (hiv : vp_in i N) (ws2 : va_W) (hw : ws.set q0 (a, .inl (t.1, N, .inl (upd f i.toNatClampNeg x))) = ws2) (hd : decode cc pc = .ok (.iastore, 1)) (hn : pc + 1 = n) (h : GA g D A k nL n L (st) ws2 cl sk) : GA g D A k nL pc L (.int x :: .int i :: .ref a :: st) ws cl sk := by
  obtain ⟨p, l', e, s, m, args, below, meth, cD, Q, cs, sl⟩ := g
  obtain ⟨rfl, hx, hb, hml, hown, hts, hr, hlk, hK, hO, hin, hA⟩ := ok
  subst hn
  subst hw
  intro ls H locs hl hP hD hS
  exact va_iast hx hb hK hP hD hS q0 0 he rfl hiv hd (fun H1 locs1 hP1 hD1 hS1 => h ls H1 locs1 hl hP1 hD1 hS1)
theorem ga_aast (ok : OkA l g D t A nL cc own ret) {r : vw_C} {cB : ClassId} {ti ci N a b n : Nat} {f : Nat → Option Nat} {vs : List Value} {i : Int32} (q0 qk : Nat) (he : ws[q0]? = some (a, .inl (cB, N, .inr (.inr (.inr (.inr f)))))) (hi : (tysOf t)[ti]? = some (cB, .object r.1)) (hv : ws[qk]? = some (b, .inr (ci, vs))) (hcl : vwCl[ci]? = some r) (hiv : vp_in i N) (ws2 : va_W) (hw : ws.set q0 (a, .inl (cB, N, .inr (.inr (.inr (.inr (va_up f i.toNatClampNeg (some b))))))) = ws2) (hd : decode cc pc = .ok (.aastore, 1)) (hn : pc + 1 = n) (h : GA g D A k nL n L (st) ws2 cl sk) : GA g D A k nL pc L (.ref b :: .int i :: .ref a :: st) ws cl sk := by
  obtain ⟨p, l', e, s, m, args, below, meth, cD, Q, cs, sl⟩ := g
  obtain ⟨rfl, hx, hb, hml, hown, hts, hr, hlk, hK, hO, hin, hA⟩ := ok
  subst hn
  subst hw
  intro ls H locs hl hP hD hS
  exact va_astq hx hb hK hP hD hS q0 ti qk ci he hi hv hcl hiv hd (fun H1 locs1 hP1 hD1 hS1 => h ls H1 locs1 hl hP1 hD1 hS1)
/-- a constructor's contract: out of the fresh cell e0 comes the world wf (u: the new addresses) -/
def MC (l : Launch) (y : MethodName) (bytes : ByteArray) (maxL k mc ms : Nat) (D : va_G) (t : TiT) (e0 : va_E) (wf : Nat → (Nat → Nat) → va_W) : Prop := ∀ h0 sz : Nat, Met l y [Cond.code y bytes maxL none] (rlc k mc ms) (va_Pc [.ref h0] (fun U => U.heap.size = sz ∧ va_P D vwCl [(h0, e0)] U.heap ∧ va_K D vwCl (tysOf t) U ∧ va_D (fun _ => True) [(h0, e0)] ∧ WD U ∧ AOs U)) (va_Qv (fun _ : Nat → Nat => True) (fun u tt => va_P D vwCl (wf h0 u) tt.heap ∧ va_D (va_A [(h0, e0)] sz) (wf h0 u)) (va_A [(h0, e0)] sz)) mc ms (va_A [(h0, e0)] sz)
theorem rlc_loc {kc k maxL a b c d : Nat} (h1 : kc + 1 ≤ k) (h2 : maxL ≤ 80) : 8 + (maxL + 11) + (rlc kc a b).locals ≤ (rlc k c d).locals := by
  show 8 + (maxL + 11) + 100 * kc ≤ 100 * k
  omega
theorem mc_blind {D : va_G} {t : TiT} {e0 : va_E} {h0 sz : Nat} : FrameBlind (va_Pc [.ref h0] (fun U => U.heap.size = sz ∧ va_P D vwCl [(h0, e0)] U.heap ∧ va_K D vwCl (tysOf t) U ∧ va_D (fun _ => True) [(h0, e0)] ∧ WD U ∧ AOs U)) := by
  intro a U g mk h
  obtain ⟨h0, h1, hP, hK, hD, hW, hO⟩ := h
  exact ⟨h0, h1, hP, va_K.moved (u := U) (U := U.calling g mk a) (Vm.Alike.refl U.vm) hK, hD, hW.warm (U := U.calling g mk a) (State.WarmedH.refl U), hO.moved (U := U.calling g mk a) (Vm.Alike.refl U.vm)⟩
theorem ga_initN (ok : OkA l g D t A nL cc own ret) {y : MethodName} {bytes : ByteArray} {maxL index kc mc ms n q cl2 sk2 : Nat} {host : String} {e0 : va_E} {wf : Nat → (Nat → Nat) → va_W} {wr : va_W} (q0 : Nat) (isR : List Nat) (hM : MC l y bytes maxL kc mc ms D t e0 wf) (hcal : CalC y bytes maxL none 0) (hy : y.name = "<init>") (hlink : Cond.methodLinkNest own index y host ∈ lw_tbl) (hinst : Cond.instanceMethod y ∈ lw_tbl) (hk : kc + 1 ≤ k) (hmx : maxL ≤ 80) (hrs : (st.map fun v => v.category).sum ≤ 8) (hC : [q0].map (fun i => ws[i]?) = [(q, e0)].map some) (hR : isR.map (fun i => ws[i]?) = wr.map some) (hnd : va_nd isR = true) (hdis : ∀ i ∈ isR, i ∉ [q0]) (ws2 : (Nat → Nat) → va_W) (hw : ∀ u, wr ++ wf q u = ws2 u) (hcc : cl + mc = cl2) (hss : sk + ms = sk2) (hcs : ∀ (p : Program) (l : Launch) e s m args below meth c Q cs sl, g = (p, l, e, s, m, args, below, meth, c, Q, cs, sl) → cl2 ≤ cs ∧ sk2 ≤ sl) (hd : decode cc pc = .ok (.invokespecial index, 3)) (hn : pc + 3 = n) (h : ∀ u, GA g D A k nL n L (st) (ws2 u) cl2 sk2) : GA g D A k nL pc L (.ref q :: st) ws cl sk := by
  obtain ⟨p, l', e, s, m, args, below, meth, cD, Q, cs, sl⟩ := g
  obtain ⟨rfl, hx, hb, hml, hown, hts, hr, hlk, hK, hO, hin, hA⟩ := ok
  subst hn
  subst hcc
  subst hss
  obtain ⟨hc1, hc2⟩ := hcs p l' e s m args below meth cD Q cs sl rfl
  intro ls H locs hl hP hD hS
  have hq : ws[q0]? = some (q, e0) := by simpa using hC
  have hPc : va_P D vwCl [(q, e0)] H := hP.sub [q0] (by simp [hq])
  have hDc := hD.sub (ws' := [(q, e0)]) [q0] rfl hC
  have hFc := va_free (wc := [(q, e0)]) hD hS hA [q0] hC
  have hcw : ∀ w ∈ [Cond.code y bytes maxL none], ∀ (a' : Array Value) (U : State), s.WarmedH U.vm → w.before a' U = true := fun w hw a' U hU => by
    rw [List.mem_singleton.mp hw]
    exact wd_warm (a := args) rfl hU (hts _ hcal.1 rfl _)
  refine va_callv (va_runIN (As := []) (rest := st) ⟨hx, hb, hml, hown, (fun (w : Cond) (hw : w ∈ ([] : List Cond)) => by cases hw)⟩ (hM q H.size) ⟨⟨⟨rfl, rfl, hk, rlc_loc hk hmx, hcw, List.mem_singleton.mpr rfl⟩, hts _ hcal.1 rfl _, hts _ hcal.2.1 rfl _, hcal.2.2.1, hcal.2.2.2, hts _ hlink rfl _⟩, hy, hts _ hinst rfl _⟩ ⟨mc_blind, fun U hU hW => ⟨rfl, by rw [hU], by rw [hU]; exact hPc, va_K.moved hW.alike hK, hDc.weaken (fun _ _ _ _ => trivial), hts.warm hW, hO.moved hW.alike⟩⟩ rfl rfl hl.1 rfl (lv_room hrs) hd ⟨hc1, hc2⟩) hS (fun q _ h => hFc q h) hFc (fun u tt H1 locs1 ht hvm hw1 hB hz1 hk1 hS1 => ?_)
  obtain ⟨hP1, hD1⟩ := hB
  rw [ht] at hP1
  obtain ⟨hP2, hD2⟩ := va_join (wr := wr) (w1 := wf q u) hP hD [q0] isR hC hR hnd hdis hk1 hFc hP1 hD1
  rw [hw u] at hP2 hD2
  exact h u ls H1 locs1 hl hP2 hD2 hS1
theorem ga_init (ok : OkA l g D t A nL cc own ret) {y : MethodName} {bytes : ByteArray} {maxL index kc mc ms n q cl2 sk2 : Nat} {e0 : va_E} {wf : Nat → (Nat → Nat) → va_W} {wr : va_W} (q0 : Nat) (isR : List Nat) (hM : MC l y bytes maxL kc mc ms D t e0 wf) (hcal : CalC y bytes maxL none 0) (hy : y.name = "<init>") (hlink : Cond.methodLink own index y ∈ lw_tbl) (hinst : Cond.instanceMethod y ∈ lw_tbl) (hk : kc + 1 ≤ k) (hmx : maxL ≤ 80) (hrs : (st.map fun v => v.category).sum ≤ 8) (hC : [q0].map (fun i => ws[i]?) = [(q, e0)].map some) (hR : isR.map (fun i => ws[i]?) = wr.map some) (hnd : va_nd isR = true) (hdis : ∀ i ∈ isR, i ∉ [q0]) (ws2 : (Nat → Nat) → va_W) (hw : ∀ u, wr ++ wf q u = ws2 u) (hcc : cl + mc = cl2) (hss : sk + ms = sk2) (hcs : ∀ (p : Program) (l : Launch) e s m args below meth c Q cs sl, g = (p, l, e, s, m, args, below, meth, c, Q, cs, sl) → cl2 ≤ cs ∧ sk2 ≤ sl) (hd : decode cc pc = .ok (.invokespecial index, 3)) (hn : pc + 3 = n) (h : ∀ u, GA g D A k nL n L (st) (ws2 u) cl2 sk2) : GA g D A k nL pc L (.ref q :: st) ws cl sk := by
  obtain ⟨p, l', e, s, m, args, below, meth, cD, Q, cs, sl⟩ := g
  obtain ⟨rfl, hx, hb, hml, hown, hts, hr, hlk, hK, hO, hin, hA⟩ := ok
  subst hn
  subst hcc
  subst hss
  obtain ⟨hc1, hc2⟩ := hcs p l' e s m args below meth cD Q cs sl rfl
  intro ls H locs hl hP hD hS
  have hq : ws[q0]? = some (q, e0) := by simpa using hC
  have hPc : va_P D vwCl [(q, e0)] H := hP.sub [q0] (by simp [hq])
  have hDc := hD.sub (ws' := [(q, e0)]) [q0] rfl hC
  have hFc := va_free (wc := [(q, e0)]) hD hS hA [q0] hC
  have hcw : ∀ w ∈ [Cond.code y bytes maxL none], ∀ (a' : Array Value) (U : State), s.WarmedH U.vm → w.before a' U = true := fun w hw a' U hU => by
    rw [List.mem_singleton.mp hw]
    exact wd_warm (a := args) rfl hU (hts _ hcal.1 rfl _)
  refine va_callv (va_runI (As := []) (rest := st) ⟨hx, hb, hml, hown, (fun (w : Cond) (hw : w ∈ ([] : List Cond)) => by cases hw)⟩ (hM q H.size) ⟨⟨rfl, rfl, hk, rlc_loc hk hmx, hcw, List.mem_singleton.mpr rfl, hts _ hcal.1 rfl _, hts _ hcal.2.1 rfl _, hcal.2.2.1, hcal.2.2.2, hts _ hlink rfl _⟩, hy, hts _ hinst rfl _⟩ ⟨mc_blind, fun U hU hW => ⟨rfl, by rw [hU], by rw [hU]; exact hPc, va_K.moved hW.alike hK, hDc.weaken (fun _ _ _ _ => trivial), hts.warm hW, hO.moved hW.alike⟩⟩ rfl rfl hl.1 rfl (lv_room hrs) hd ⟨hc1, hc2⟩) hS (fun q _ h => hFc q h) hFc (fun u tt H1 locs1 ht hvm hw1 hB hz1 hk1 hS1 => ?_)
  obtain ⟨hP1, hD1⟩ := hB
  rw [ht] at hP1
  obtain ⟨hP2, hD2⟩ := va_join (wr := wr) (w1 := wf q u) hP hD [q0] isR hC hR hnd hdis hk1 hFc hP1 hD1
  rw [hw u] at hP2 hD2
  exact h u ls H1 locs1 hl hP2 hD2 hS1
/-- the same world by other words: cells by their places, each once; row contents that agree within their length -/
theorem ga_perm {A : Nat → Prop} {g : CxT} {D : va_G} {k nL pc cl sk : Nat} {L : List (Nat × Value)} {st : List Value} {ws ws2 : va_W} (is : List Nat) (hn : va_nd is = true) (h1 : is.filterMap (fun i => ws[i]?) = ws2) (h2 : is.map (fun i => ws[i]?) = ws2.map some) (h : GA g D A k nL pc L st ws2 cl sk) : GA g D A k nL pc L st ws cl sk := by
  obtain ⟨p, l', e, s, m, args, below, meth, cD, Q, cs, sl⟩ := g
  exact fun ls H locs hl hP hD hS => h ls H locs hl (hP.sub is h1) (hD.sub is hn h2) hS
theorem arrV_congr {cA : ClassId} {N : Nat} {f f' : Nat → Value} (h : ∀ j, j < N → f j = f' j) : arrV cA N f = arrV cA N f' := by
  unfold arrV
  congr 1
  apply Array.ext
  · simp
  · intro i h1 h2
    simp at h1
    simp [h i h1]
theorem ga_row {A : Nat → Prop} {g : CxT} {D : va_G} {k nL pc cl sk a N : Nat} {cA : ClassId} {f f' : Nat → Option Nat} {L : List (Nat × Value)} {st : List Value} {ws : va_W} (q0 : Nat) (he : ws[q0]? = some (a, .inl (cA, N, .inr (.inr (.inr (.inr f)))))) (hf : ∀ j, j < N → f j = f' j) (ws2 : va_W) (hw : ws.set q0 (a, .inl (cA, N, .inr (.inr (.inr (.inr f'))))) = ws2) (h : GA g D A k nL pc L st ws2 cl sk) : GA g D A k nL pc L st ws cl sk := by
  obtain ⟨p, l', e, s, m, args, below, meth, cD, Q, cs, sl⟩ := g
  subst hw
  intro ls H locs hl hP hD hS
  refine h ls H locs hl (hP.set hD he ?_ (fun _ _ => rfl)) (hD.set he) hS
  have h1 : H[a]? = some (vp_cell cA (N, .inr (.inr (.inr (.inr f))))) := hP q0 _ he
  show H[a]? = some (vp_cell cA (N, .inr (.inr (.inr (.inr f')))))
  rw [h1, vp_cell_q, vp_cell_q, arrV_congr (fun j hj => by rw [hf j hj])]
theorem ga_widen {A : Nat → Prop} {g : CxT} {D : va_G} {k nL pc cl sk cl2 sk2 : Nat} {L : List (Nat × Value)} {st : List Value} {ws : va_W} (h1 : cl ≤ cl2) (h2 : sk ≤ sk2) (h : GA g D A k nL pc L st ws cl2 sk2) : GA g D A k nL pc L st ws cl sk := by
  obtain ⟨p, l', e, s, m, args, below, meth, cD, Q, cs, sl⟩ := g
  exact fun ls H locs hl hP hD hS => W.widen h1 h2 (h ls H locs hl hP hD hS)
/-- a constructor's end -/
theorem ga_vret {wf : Nat → (Nat → Nat) → va_W} {h0 sz : Nat} {e0 : va_E} {mc ms : Nat} (u : Nat → Nat) (ok : OkA l g D t A nL cc own none) (hA2 : A = va_A [(h0, e0)] sz) (hq : ∀ (p : Program) (l : Launch) e s m args below meth c Q cs sl, g = (p, l, e, s, m, args, below, meth, c, Q, cs, sl) → Q = MQ below (va_Qv (fun _ : Nat → Nat => True) (fun u tt => va_P D vwCl (wf h0 u) tt.heap ∧ va_D (va_A [(h0, e0)] sz) (wf h0 u)) (va_A [(h0, e0)] sz)) args s mc ms (va_A [(h0, e0)] sz)) (hcl : cl ≤ mc) (hsk : sk ≤ ms) (hw : ws = wf h0 u) (hd : decode cc pc = .ok (.return_, 1)) : GA g D A k nL pc L [] ws cl sk := by
  obtain ⟨p, l', e, s, m, args, below, meth, cD, Q, cs, sl⟩ := g
  obtain ⟨rfl, hx, hb, hml, hown, hts, hr, hlk, hK, hO, hin, hA⟩ := ok
  have hq := hq p l' e s m args below meth cD Q cs sl rfl
  subst hq
  subst hA2
  subst hw
  intro ls H locs hl hP hD hS
  refine W.widen hcl hsk ?_
  exact W.vret hx hb hr (fun tt ht hW => ⟨⟨u, rfl, trivial, by rw [ht]; exact hP, hD⟩, hS.F ht⟩) hS.2.2 hd
end
theorem mc_start {l : Launch} {y : MethodName} {bytes : ByteArray} {maxL k mc ms : Nat} {D : va_G} {t : TiT} {e0 : va_E} {wf : Nat → (Nat → Nat) → va_W} (hy : plainName y.cls = true) (hyn : y.name = "<init>") (hlen : 1 ≤ maxL) (body : ∀ (h0 sz : Nat) (A : Nat → Prop) (g : CxT), A = va_A [(h0, e0)] sz → OkA l g D t A maxL bytes y.cls none → (∀ (p : Program) (l : Launch) e s m args below meth c Q cs sl, g = (p, l, e, s, m, args, below, meth, c, Q, cs, sl) → (Q = MQ below (va_Qv (fun _ : Nat → Nat => True) (fun u tt => va_P D vwCl (wf h0 u) tt.heap ∧ va_D (va_A [(h0, e0)] sz) (wf h0 u)) (va_A [(h0, e0)] sz)) args s mc ms (va_A [(h0, e0)] sz)) ∧ cs = mc ∧ sl = ms) → GA g D A k maxL 0 [(0, .ref h0)] [] [(h0, e0)] 0 0) : MC l y bytes maxL k mc ms D t e0 wf := by
  intro h0 sz
  refine Met.ofW (cc := bytes) (maxL := maxL) (ret := none) hy rfl ?_
  intro p e s m args below meth c s₁ B hml hv
  obtain ⟨rfl, hsz, hP, hK, hD, hW, hO⟩ := hv
  subst hsz
  have hown : s.vm.findClass y.cls = some m.cls := findClass_of_methodNamed B.named
  have hl := lv_entry [.ref h0] (n := maxL) hlen
  have hin : meth.name = "<init>" := by rw [← hyn]; exact (name_of_methodNamed B.named B.method).1
  rw [lg_entry_eq]
  refine body h0 s.heap.size _ (p, l, e, s, m, #[.ref h0], below, meth, c, _, mc, ms) rfl ⟨rfl, B.exec, B.bytes, hml, hown, hW, B.returns, B.notSynchronized, hK, hO, hin, fun q hq => Or.inr hq⟩ ?_ _ _ _ hl hP (hD.self) va_S.rf
  intro p2 l2 e2 s2 m2 args2 below2 meth2 c2 Q2 cs2 sl2 he
  cases he
  exact ⟨rfl, rfl, rfl⟩
