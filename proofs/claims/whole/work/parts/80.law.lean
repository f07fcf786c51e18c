abbrev ClT : Type := Program × Launch × Env × State × MethodId × List Frame × Method × Code × Nat
def A0 (s : State) : Nat → Prop := fun q => s.heap.size ≤ q
def OkL (l : Launch) (g : ClT) (v : VxT) (u : VmT) (L : Nat) (xs : Nat → Int32) : Prop := match g with
  | (p, l', _, s, m, _, meth, c, b) => l' = l ∧ p.tables.exec = Jvm.exec ∧ c.code = code ∧ c.maxLocals = 4 ∧ s.vm.findClass RL = some m.cls ∧ WD s ∧ meth.sig.returnType = ret ∧ meth.locks = false ∧ va_K v.2.2.1 vwCl (oX v).2.2.2.2.1 s ∧ va_K u.2.2 vwCl (oM u).2.2.2.2.1 s ∧ DW (oX v) ∧ DW (oM u) ∧ StX v s s.heap ∧ (∀ q, AX (oX v) q → A0 s q) ∧ (∀ q, AX (oM u) q → A0 s q) ∧ (∀ q, AX (oX v) q → ¬ AX (oM u) q) ∧ va_X b L xs s s.heap ∧ b < s.heap.size ∧ L ≤ 384
def GL (g : ClT) (v : VxT) (u : VmT) (pc : Nat) (Ls : List (Nat × Value)) (st : List Value) (S T : Mem) : Prop := match g with
  | (p, l, e, s, m, below, meth, c, b) => ∀ (ls : Array Slot) (H : Heap) (locs : List Loc), lv_has ls 4 Ls → va_P v.2.2.1 vwCl (GW (oX v) S) H → va_P u.2.2 vwCl (GW (oM u) T) H → va_S (A0 s) s.heap H locs → W p l e room_1 s m #[Value.ref b] below meth c H locs 600000 7302250 (lw_Z below #[Value.ref b] s) (F0 m pc ls st)
section
variable {l : Launch} {g : ClT} {v : VxT} {u : VmT} {L pc : Nat} {xs : Nat → Int32} {Ls : List (Nat × Value)} {st : List Value} {S T : Mem}
theorem gl_iconst  (ok : OkL l g v u L xs) {i : Int} {w : Int32} {n : Nat} (hd : decode code pc = .ok (.iconst i, 1)) (hn : pc + 1 = n) (hv : Int32.ofInt i = w) (h : GL g v u n Ls (.int w :: st) S T) : GL g v u pc Ls (st) S T := by
  obtain ⟨p, l', e, s, m, below, meth, cD, b⟩ := g
  obtain ⟨rfl, hx, hb, hml, hown, hts, hr, hlk, hK, hKm, hD, hDm, hZ, hAx, hAm, hxm, hX, hbl, hL⟩ := ok
  subst hn
  exact fun ls H locs hl hP hM hS => lv_iconst hx hb hd hv (h ls H locs hl hP hM hS)
theorem gl_bipush  (ok : OkL l g v u L xs) {i : Int} {w : Int32} {n : Nat} (hd : decode code pc = .ok (.bipush i, 2)) (hn : pc + 2 = n) (hv : (Int8.ofInt i).toInt32 = w) (h : GL g v u n Ls (.int w :: st) S T) : GL g v u pc Ls (st) S T := by
  obtain ⟨p, l', e, s, m, below, meth, cD, b⟩ := g
  obtain ⟨rfl, hx, hb, hml, hown, hts, hr, hlk, hK, hKm, hD, hDm, hZ, hAx, hAm, hxm, hX, hbl, hL⟩ := ok
  subst hn
  exact fun ls H locs hl hP hM hS => lv_bipush hx hb hd hv (h ls H locs hl hP hM hS)
theorem gl_aload_n (j : Nat) (ok : OkL l g v u L xs) {i : Fin 4} {x : Nat} {n : Nat} (hd : decode code pc = .ok (.aload_n i, 1)) (hn : pc + 1 = n) (hj : Ls[j]? = some ((i : Nat), .ref x)) (h : GL g v u n Ls (.ref x :: st) S T) : GL g v u pc Ls (st) S T := by
  obtain ⟨p, l', e, s, m, below, meth, cD, b⟩ := g
  obtain ⟨rfl, hx, hb, hml, hown, hts, hr, hlk, hK, hKm, hD, hDm, hZ, hAx, hAm, hxm, hX, hbl, hL⟩ := ok
  subst hn
  exact fun ls H locs hl hP hM hS => lv_aload_n hx hb hd rfl (lv_at hl j hj) (h ls H locs hl hP hM hS)
theorem gl_iload_n (j : Nat) (ok : OkL l g v u L xs) {i : Fin 4} {x : Int32} {n : Nat} (hd : decode code pc = .ok (.iload_n i, 1)) (hn : pc + 1 = n) (hj : Ls[j]? = some ((i : Nat), .int x)) (h : GL g v u n Ls (.int x :: st) S T) : GL g v u pc Ls (st) S T := by
  obtain ⟨p, l', e, s, m, below, meth, cD, b⟩ := g
  obtain ⟨rfl, hx, hb, hml, hown, hts, hr, hlk, hK, hKm, hD, hDm, hZ, hAx, hAm, hxm, hX, hbl, hL⟩ := ok
  subst hn
  exact fun ls H locs hl hP hM hS => lv_iload_n hx hb hd rfl (lv_at hl j hj) (h ls H locs hl hP hM hS)
theorem gl_iinc (j : Nat) (L2 : List (Nat × Value)) (ok : OkL l g v u L xs) {i : Nat} {d : Int} {x w : Int32} {n : Nat} (hd : decode code pc = .ok (.iinc i d, 3)) (hn : pc + 3 = n) (hj : Ls[j]? = some (i, .int x)) (hv : x + Int32.ofInt d = w) (hi : i < 4) (hf : (i, Value.int w) :: Ls.filter (fun q => !(q.1 == i) && !(q.1 + 1 == i && q.2.category == 2)) = L2) (h : GL g v u n L2 (st) S T) : GL g v u pc Ls (st) S T := by
  obtain ⟨p, l', e, s, m, below, meth, cD, b⟩ := g
  obtain ⟨rfl, hx, hb, hml, hown, hts, hr, hlk, hK, hKm, hD, hDm, hZ, hAx, hAm, hxm, hX, hbl, hL⟩ := ok
  subst hn
  exact fun ls H locs hl hP hM hS => lv_iinc hx hb hd hl hj hv hi hf (fun ls2 hl2 => h ls2 H locs hl2 hP hM hS)
theorem gl_iadd  (ok : OkL l g v u L xs) {x y : Int32} {n : Nat} (hd : decode code pc = .ok (.iadd, 1)) (hn : pc + 1 = n)  (h : GL g v u n Ls (.int (x + y) :: st) S T) : GL g v u pc Ls (.int y :: .int x :: st) S T := by
  obtain ⟨p, l', e, s, m, below, meth, cD, b⟩ := g
  obtain ⟨rfl, hx, hb, hml, hown, hts, hr, hlk, hK, hKm, hD, hDm, hZ, hAx, hAm, hxm, hX, hbl, hL⟩ := ok
  subst hn
  exact fun ls H locs hl hP hM hS => lv_iadd hx hb hd (h ls H locs hl hP hM hS)
theorem gl_isub  (ok : OkL l g v u L xs) {x y : Int32} {n : Nat} (hd : decode code pc = .ok (.isub, 1)) (hn : pc + 1 = n)  (h : GL g v u n Ls (.int (x - y) :: st) S T) : GL g v u pc Ls (.int y :: .int x :: st) S T := by
  obtain ⟨p, l', e, s, m, below, meth, cD, b⟩ := g
  obtain ⟨rfl, hx, hb, hml, hown, hts, hr, hlk, hK, hKm, hD, hDm, hZ, hAx, hAm, hxm, hX, hbl, hL⟩ := ok
  subst hn
  exact fun ls H locs hl hP hM hS => lv_isub hx hb hd (h ls H locs hl hP hM hS)
theorem gl_iand  (ok : OkL l g v u L xs) {x y : Int32} {n : Nat} (hd : decode code pc = .ok (.iand, 1)) (hn : pc + 1 = n)  (h : GL g v u n Ls (.int (x &&& y) :: st) S T) : GL g v u pc Ls (.int y :: .int x :: st) S T := by
  obtain ⟨p, l', e, s, m, below, meth, cD, b⟩ := g
  obtain ⟨rfl, hx, hb, hml, hown, hts, hr, hlk, hK, hKm, hD, hDm, hZ, hAx, hAm, hxm, hX, hbl, hL⟩ := ok
  subst hn
  exact fun ls H locs hl hP hM hS => lv_iand hx hb hd (h ls H locs hl hP hM hS)
theorem gl_lcmp  (ok : OkL l g v u L xs) {x y : Int64} {n : Nat} (hd : decode code pc = .ok (.lcmp, 1)) (hn : pc + 1 = n)  (h : GL g v u n Ls (.int (lg_cmp x y) :: st) S T) : GL g v u pc Ls (.long y :: .long x :: st) S T := by
  obtain ⟨p, l', e, s, m, below, meth, cD, b⟩ := g
  obtain ⟨rfl, hx, hb, hml, hown, hts, hr, hlk, hK, hKm, hD, hDm, hZ, hAx, hAm, hxm, hX, hbl, hL⟩ := ok
  subst hn
  exact fun ls H locs hl hP hM hS => W.lcmp hx hb hd (h ls H locs hl hP hM hS)
theorem gl_sld (j : Nat) (ok : OkL l g v u L xs) {x : Int32} {n : Nat} (hd : decode code pc = .ok (.iaload, 1)) (hn : pc + 1 = n) (hj : x = nI j) (hjL : j < L) (h : GL g v u n Ls (.int (xs j) :: st) S T) : GL g v u pc Ls (.int x :: .ref g.2.2.2.2.2.2.2.2 :: st) S T := by
  obtain ⟨p, l', e, s, m, below, meth, cD, b⟩ := g
  obtain ⟨rfl, hx, hb, hml, hown, hts, hr, hlk, hK, hKm, hD, hDm, hZ, hAx, hAm, hxm, hX, hbl, hL⟩ := ok
  subst hn
  subst hj
  have hj2 : j < 2 ^ 31 := by omega
  intro ls H locs hl hP hM hS
  refine va_sld hx hb hX hbl (Nat.not_le.mpr hbl) hS (vp_in_nI hjL (by omega)) hd ?_
  rw [nI_clamp hj2]
  exact h ls H locs hl hP hM hS
theorem gl_slen (ok : OkL l g v u L xs) {n : Nat} (hd : decode code pc = .ok (.arraylength, 1)) (hn : pc + 1 = n) (h : GL g v u n Ls (.int (nI L) :: st) S T) : GL g v u pc Ls (.ref g.2.2.2.2.2.2.2.2 :: st) S T := by
  obtain ⟨p, l', e, s, m, below, meth, cD, b⟩ := g
  obtain ⟨rfl, hx, hb, hml, hown, hts, hr, hlk, hK, hKm, hD, hDm, hZ, hAx, hAm, hxm, hX, hbl, hL⟩ := ok
  subst hn
  exact fun ls H locs hl hP hM hS => va_slen hx hb hX hbl (Nat.not_le.mpr hbl) hS hd (h ls H locs hl hP hM hS)
theorem gl_goto (ok : OkL l g v u L xs) {off : Int} {t : Nat} (hd : decode code pc = .ok (.goto off, 3)) (ht : (pc : Int) + off = (t : Int)) (h : GL g v u t Ls (st) S T) : GL g v u pc Ls (st) S T := by
  obtain ⟨p, l', e, s, m, below, meth, cD, b⟩ := g
  obtain ⟨rfl, hx, hb, hml, hown, hts, hr, hlk, hK, hKm, hD, hDm, hZ, hAx, hAm, hxm, hX, hbl, hL⟩ := ok
  exact fun ls H locs hl hP hM hS => lv_goto hx hb hd ht (h ls H locs hl hP hM hS)
theorem gl_icmp_gt (ok : OkL l g v u L xs) {x y : Int32} {off : Int} {t n : Nat} (hd : decode code pc = .ok (.if_icmp .gt off, 3)) (ht : (pc : Int) + off = (t : Int)) (hn : pc + 3 = n) (h1 : y < x → GL g v u t Ls (st) S T) (h2 : ¬ y < x → GL g v u n Ls (st) S T) : GL g v u pc Ls (.int y :: .int x :: st) S T := by
  obtain ⟨p, l', e, s, m, below, meth, cD, b⟩ := g
  obtain ⟨rfl, hx, hb, hml, hown, hts, hr, hlk, hK, hKm, hD, hDm, hZ, hAx, hAm, hxm, hX, hbl, hL⟩ := ok
  subst hn
  exact fun ls H locs hl hP hM hS => lv_icmp_gt hx hb hd ht (fun z => h1 z ls H locs hl hP hM hS) (fun z => h2 z ls H locs hl hP hM hS)
theorem gl_icmp_eq (ok : OkL l g v u L xs) {x y : Int32} {off : Int} {t : Nat} (hxy : x = y) (hd : decode code pc = .ok (.if_icmp .eq off, 3)) (ht : (pc : Int) + off = (t : Int)) (h1 : GL g v u t Ls (st) S T) : GL g v u pc Ls (.int y :: .int x :: st) S T := by
  obtain ⟨p, l', e, s, m, below, meth, cD, b⟩ := g
  obtain ⟨rfl, hx, hb, hml, hown, hts, hr, hlk, hK, hKm, hD, hDm, hZ, hAx, hAm, hxm, hX, hbl, hL⟩ := ok
  exact fun ls H locs hl hP hM hS => lv_icmp_eq hx hb hd ht (fun z => h1 ls H locs hl hP hM hS) (fun z => absurd hxy z)
theorem gl_if_eq (ok : OkL l g v u L xs) {x : Int32} {off : Int} {t : Nat} (hx0 : x = 0) (hd : decode code pc = .ok (.ifCond .eq off, 3)) (ht : (pc : Int) + off = (t : Int)) (h1 : GL g v u t Ls (st) S T) : GL g v u pc Ls (.int x :: st) S T := by
  obtain ⟨p, l', e, s, m, below, meth, cD, b⟩ := g
  obtain ⟨rfl, hx, hb, hml, hown, hts, hr, hlk, hK, hKm, hD, hDm, hZ, hAx, hAm, hxm, hX, hbl, hL⟩ := ok
  exact fun ls H locs hl hP hM hS => lv_if_eq hx hb hd ht (fun z => h1 ls H locs hl hP hM hS) (fun z => absurd hx0 z)
theorem gl_tsIn (ok : OkL l g v u L xs) {dflt lo hi : Int} {offs : Array Int} {len : Nat} {x : Int32} {off : Int} {t : Nat} (hd : decode code pc = .ok (.tableswitch dflt lo hi offs, len)) (h1 : ¬ x.toInt < lo) (h2 : ¬ hi < x.toInt) (ho : offs[(x.toInt - lo).toNat]? = some off) (ht : (pc : Int) + off = (t : Int)) (h : GL g v u t Ls (st) S T) : GL g v u pc Ls (.int x :: st) S T := by
  obtain ⟨p, l', e, s, m, below, meth, cD, b⟩ := g
  obtain ⟨rfl, hx, hb, hml, hown, hts, hr, hlk, hK, hKm, hD, hDm, hZ, hAx, hAm, hxm, hX, hbl, hL⟩ := ok
  exact fun ls H locs hl hP hM hS => lv_tableIn hx hb hd h1 h2 ho ht (h ls H locs hl hP hM hS)
theorem gl_tsOut (ok : OkL l g v u L xs) {dflt lo hi : Int} {offs : Array Int} {len : Nat} {x : Int32} {t : Nat} (hd : decode code pc = .ok (.tableswitch dflt lo hi offs, len)) (hrg : x.toInt < lo ∨ hi < x.toInt) (ht : (pc : Int) + dflt = (t : Int)) (h : GL g v u t Ls (st) S T) : GL g v u pc Ls (.int x :: st) S T := by
  obtain ⟨p, l', e, s, m, below, meth, cD, b⟩ := g
  obtain ⟨rfl, hx, hb, hml, hown, hts, hr, hlk, hK, hKm, hD, hDm, hZ, hAx, hAm, hxm, hX, hbl, hL⟩ := ok
  exact fun ls H locs hl hP hM hS => lv_tableOut hx hb hd hrg ht (h ls H locs hl hP hM hS)
theorem bxl_make {o : OmT} {S : Mem} {s U : State} {H : Heap} {locs : List Loc} (hK : va_K o.2.2.2.1 vwCl o.2.2.2.2.1 s) (hD : DW o) (hSt : Stab o) (hZ : o.2.2.2.2.2 s s.heap) (hWD : WD s) (hP : va_P o.2.2.2.1 vwCl (GW o S) H) (hS : va_S (A0 s) s.heap H locs) (hU : U.heap = H) (hW : s.WarmedH U.vm) (hA : ∀ q, AX o q → A0 s q) : BX o S U := by
  subst hU
  exact ⟨hP, va_K.moved hW.alike hK, hD, hSt, hSt s U U.heap hW (fun a h1 h2 => hS.2.1 a h1 (Nat.not_le.mpr h1)) hZ, hWD.warm hW⟩
theorem lcw_B {s : State} {args : Array Value} {index kc : Nat} {y : MethodName} {bytes : ByteArray} {maxL n : Nat} {rt : Option FieldType} (hW : WD s) (hc : CalC y bytes maxL rt n) (hl : Cond.methodLink RL index y ∈ lw_tbl) (hk : kc ≤ 100) (hm : maxL ≤ 80) : CallB room_1 s args RL index y bytes maxL rt [Cond.code y bytes maxL rt] (rl kc) 0 0 n :=
  ⟨rfl, rfl, by show kc + 1 ≤ 2048; omega, by show 8 + (maxL + 11) + 100 * kc ≤ 84000; omega, fun w hw a' U hU => by
    rw [List.mem_singleton.mp hw]
    exact wd_warm (a := args) rfl hU (hW _ hc.1 rfl _), List.mem_singleton.mpr rfl, hW _ hc.1 rfl _, hW _ hc.2.1 rfl _, hc.2.2.1, hc.2.2.2, hW _ hl rfl _⟩
theorem ax_kept {A : Nat → Prop} {o : OmT} {D : va_G} {S : Mem} {H H1 : Heap} (hP : va_P D vwCl (GW o S) H) (hD : DW o) (hx : ∀ q, AX o q → ¬ A q) (hk : ∀ q : Nat, q < H.size → ¬ A q → H1[q]? = H[q]?) : va_P D vwCl (GW o S) H1 :=
  hP.kept fun k q hq => hk q.1 (hP k q hq).lt (hx _ ((hD S).2 k q hq))
theorem gl_callXi (ok : OkL l g v u L xs) {y : MethodName} {bytes : ByteArray} {maxL na index kc n : Nat} {rt : Option FieldType} {As rest : List Value} {post : Int32 → Mem → Prop} (hMt : MI l y bytes maxL rt kc (oX v) (.ref (v.1 0) :: As) S post) (hcal : CalC y bytes maxL rt na) (hlink : Cond.methodLink RL index y ∈ lw_tbl) (hinst : Cond.instanceMethod y ∈ lw_tbl) (hsel : Cond.selects RX7 y y ∈ lw_tbl) (hk : kc ≤ 100) (hmx : maxL ≤ 80) (hna : As.length = na) (hrs : (rest.map fun w => w.category).sum ≤ 8) (hd : decode code pc = .ok (.invokevirtual index, 3)) (hn : pc + 3 = n) {st : List Value} (hst : st = As.reverse ++ .ref (v.1 0) :: rest) (kk : ∀ (r : Int32) (S1 : Mem), post r S1 → GL g v u n Ls (.int r :: rest) S1 T) : GL g v u pc Ls (st) S T := by
  obtain ⟨p, l', e, s, m, below, meth, cD, b⟩ := g
  obtain ⟨rfl, hx, hb, hml, hown, hts, hr, hlk, hK, hKm, hD, hDm, hZ, hAx, hAm, hxm, hX, hbl, hL⟩ := ok
  subst hn
  subst hst
  intro ls H locs hl hP hM hS
  exact va_calli (va_runV (C := RX7) (As := As) (rest := rest) ⟨hx, hb, hml, hown, (fun (w : Cond) (hw : w ∈ ([] : List Cond)) => by cases hw)⟩ hMt ⟨lcw_B hts hcal hlink hk hmx, hts _ hinst rfl _, hts _ hsel rfl _⟩ ⟨bx_blind _, va_recv hK hP (ci := 6) (q := (RX7, TX7, 8)) rfl (gw_at' (Nat.le_of_ble_eq_true rfl) (sh0 (v := v) rfl _)), fun U hU hW => ⟨rfl, bxl_make hK hD (stabX v) hZ hts hP hS hU hW hAx⟩⟩ rfl hna hl.1 rfl (lv_room hrs) hd ⟨Nat.le_refl _, Nat.le_refl _⟩) hS (fun q _ h => hAx q h) (fun q h => hAx q h) (fun r S1 t H1 locs1 ht hvm hw hB hz hk1 hS1 => kk r S1 hw ls H1 locs1 hl (by rw [← ht]; exact hB.1) (ax_kept hM hDm (fun q h1 h2 => hxm q h2 h1) hk1) hS1)
theorem gl_callXl (ok : OkL l g v u L xs) {y : MethodName} {bytes : ByteArray} {maxL na index kc n : Nat} {rt : Option FieldType} {As rest : List Value} {post : Int64 → Mem → Prop} (hMt : ML l y bytes maxL rt kc (oX v) (.ref (v.1 0) :: As) S post) (hcal : CalC y bytes maxL rt na) (hlink : Cond.methodLink RL index y ∈ lw_tbl) (hinst : Cond.instanceMethod y ∈ lw_tbl) (hsel : Cond.selects RX7 y y ∈ lw_tbl) (hk : kc ≤ 100) (hmx : maxL ≤ 80) (hna : As.length = na) (hrs : (rest.map fun w => w.category).sum ≤ 8) (hd : decode code pc = .ok (.invokevirtual index, 3)) (hn : pc + 3 = n) {st : List Value} (hst : st = As.reverse ++ .ref (v.1 0) :: rest) (kk : ∀ (r : Int64) (S1 : Mem), post r S1 → GL g v u n Ls (.long r :: rest) S1 T) : GL g v u pc Ls (st) S T := by
  obtain ⟨p, l', e, s, m, below, meth, cD, b⟩ := g
  obtain ⟨rfl, hx, hb, hml, hown, hts, hr, hlk, hK, hKm, hD, hDm, hZ, hAx, hAm, hxm, hX, hbl, hL⟩ := ok
  subst hn
  subst hst
  intro ls H locs hl hP hM hS
  exact va_calll (va_runV (C := RX7) (As := As) (rest := rest) ⟨hx, hb, hml, hown, (fun (w : Cond) (hw : w ∈ ([] : List Cond)) => by cases hw)⟩ hMt ⟨lcw_B hts hcal hlink hk hmx, hts _ hinst rfl _, hts _ hsel rfl _⟩ ⟨bx_blind _, va_recv hK hP (ci := 6) (q := (RX7, TX7, 8)) rfl (gw_at' (Nat.le_of_ble_eq_true rfl) (sh0 (v := v) rfl _)), fun U hU hW => ⟨rfl, bxl_make hK hD (stabX v) hZ hts hP hS hU hW hAx⟩⟩ rfl hna hl.1 rfl (lv_room hrs) hd ⟨Nat.le_refl _, Nat.le_refl _⟩) hS (fun q _ h => hAx q h) (fun q h => hAx q h) (fun r S1 t H1 locs1 ht hvm hw hB hz hk1 hS1 => kk r S1 hw ls H1 locs1 hl (by rw [← ht]; exact hB.1) (ax_kept hM hDm (fun q h1 h2 => hxm q h2 h1) hk1) hS1)
theorem gl_callMi (ok : OkL l g v u L xs) {y : MethodName} {bytes : ByteArray} {maxL na index kc n : Nat} {rt : Option FieldType} {As rest : List Value} {post : Int32 → Mem → Prop} (hMt : MI l y bytes maxL rt kc (oM u) (.ref (u.1 0) :: As) T post) (hcal : CalC y bytes maxL rt na) (hlink : Cond.methodLink RL index y ∈ lw_tbl) (hinst : Cond.instanceMethod y ∈ lw_tbl) (hsel : Cond.selects RX8 y y ∈ lw_tbl) (hk : kc ≤ 100) (hmx : maxL ≤ 80) (hna : As.length = na) (hrs : (rest.map fun w => w.category).sum ≤ 8) (hd : decode code pc = .ok (.invokevirtual index, 3)) (hn : pc + 3 = n) {st : List Value} (hst : st = As.reverse ++ .ref (u.1 0) :: rest) (kk : ∀ (r : Int32) (T1 : Mem), post r T1 → GL g v u n Ls (.int r :: rest) S T1) : GL g v u pc Ls (st) S T := by
  obtain ⟨p, l', e, s, m, below, meth, cD, b⟩ := g
  obtain ⟨rfl, hx, hb, hml, hown, hts, hr, hlk, hK, hKm, hD, hDm, hZ, hAx, hAm, hxm, hX, hbl, hL⟩ := ok
  subst hn
  subst hst
  intro ls H locs hl hP hM hS
  exact va_calli (va_runV (C := RX8) (As := As) (rest := rest) ⟨hx, hb, hml, hown, (fun (w : Cond) (hw : w ∈ ([] : List Cond)) => by cases hw)⟩ hMt ⟨lcw_B hts hcal hlink hk hmx, hts _ hinst rfl _, hts _ hsel rfl _⟩ ⟨bx_blind _, va_recv hKm hM (ci := 7) (q := (RX8, TX8, 46)) rfl (gw_at' (o := oM u) (c := 0) (Nat.le_of_ble_eq_true rfl) rfl), fun U hU hW => ⟨rfl, bxl_make hKm hDm (stabM u) trivial hts hM hS hU hW hAm⟩⟩ rfl hna hl.1 rfl (lv_room hrs) hd ⟨Nat.le_refl _, Nat.le_refl _⟩) hS (fun q _ h => hAm q h) (fun q h => hAm q h) (fun r S1 t H1 locs1 ht hvm hw hB hz hk1 hS1 => kk r S1 hw ls H1 locs1 hl (ax_kept hP hD (fun q h1 h2 => hxm q h1 h2) hk1) (by rw [← ht]; exact hB.1) hS1)
theorem gl_callMl (ok : OkL l g v u L xs) {y : MethodName} {bytes : ByteArray} {maxL na index kc n : Nat} {rt : Option FieldType} {As rest : List Value} {post : Int64 → Mem → Prop} (hMt : ML l y bytes maxL rt kc (oM u) (.ref (u.1 0) :: As) T post) (hcal : CalC y bytes maxL rt na) (hlink : Cond.methodLink RL index y ∈ lw_tbl) (hinst : Cond.instanceMethod y ∈ lw_tbl) (hsel : Cond.selects RX8 y y ∈ lw_tbl) (hk : kc ≤ 100) (hmx : maxL ≤ 80) (hna : As.length = na) (hrs : (rest.map fun w => w.category).sum ≤ 8) (hd : decode code pc = .ok (.invokevirtual index, 3)) (hn : pc + 3 = n) {st : List Value} (hst : st = As.reverse ++ .ref (u.1 0) :: rest) (kk : ∀ (r : Int64) (T1 : Mem), post r T1 → GL g v u n Ls (.long r :: rest) S T1) : GL g v u pc Ls (st) S T := by
  obtain ⟨p, l', e, s, m, below, meth, cD, b⟩ := g
  obtain ⟨rfl, hx, hb, hml, hown, hts, hr, hlk, hK, hKm, hD, hDm, hZ, hAx, hAm, hxm, hX, hbl, hL⟩ := ok
  subst hn
  subst hst
  intro ls H locs hl hP hM hS
  exact va_calll (va_runV (C := RX8) (As := As) (rest := rest) ⟨hx, hb, hml, hown, (fun (w : Cond) (hw : w ∈ ([] : List Cond)) => by cases hw)⟩ hMt ⟨lcw_B hts hcal hlink hk hmx, hts _ hinst rfl _, hts _ hsel rfl _⟩ ⟨bx_blind _, va_recv hKm hM (ci := 7) (q := (RX8, TX8, 46)) rfl (gw_at' (o := oM u) (c := 0) (Nat.le_of_ble_eq_true rfl) rfl), fun U hU hW => ⟨rfl, bxl_make hKm hDm (stabM u) trivial hts hM hS hU hW hAm⟩⟩ rfl hna hl.1 rfl (lv_room hrs) hd ⟨Nat.le_refl _, Nat.le_refl _⟩) hS (fun q _ h => hAm q h) (fun q h => hAm q h) (fun r S1 t H1 locs1 ht hvm hw hB hz hk1 hS1 => kk r S1 hw ls H1 locs1 hl (ax_kept hP hD (fun q h1 h2 => hxm q h1 h2) hk1) (by rw [← ht]; exact hB.1) hS1)
theorem gl_ret (ok : OkL l g v u L xs) (hd : decode code pc = .ok (.ireturn, 1)) : GL g v u pc Ls [.int 1] S T := by
  obtain ⟨p, l', e, s, m, below, meth, cD, b⟩ := g
  obtain ⟨rfl, hx, hb, hml, hown, hts, hr, hlk, hK, hKm, hD, hDm, hZ, hAx, hAm, hxm, hX, hbl, hL⟩ := ok
  intro ls H locs hl hP hM hS
  exact va_forget (fun q hq => hS.2.2 q hq) (lw_ret hx hb hr hlk hd)
theorem gl_sub {L2 : List (Nat × Value)} (ks : List Nat) (hl : lv_pick Ls ks = L2) (h : GL g v u pc L2 st S T) : GL g v u pc Ls st S T := by
  obtain ⟨p, l', e, s, m, below, meth, cD, b⟩ := g
  exact fun ls H locs hl2 hP hM hS => h ls H locs (lv_sub hl2 ks hl) hP hM hS
end
/-- one call of the script: the class and the model answer alike, and K holds behind -/
def wLaw (k a1 a2 a3 a4 a5 : Int32) (S T : Mem) (K : Mem → Mem → Prop) : Prop :=
  (k = 0 → w_X7_floor a1 a2 S (fun r1 S1 => w_X8_floor a1 a2 T (fun r2 T1 => r1 = r2 ∧ K S1 T1))) ∧
  (k = 1 → w_X7_wave a1 a2 a3 S (fun r1 S1 => w_X8_wave a1 a2 a3 T (fun r2 T1 => r1 = r2 ∧ K S1 T1))) ∧
  (k = 2 → w_X7_leg a1 a2 a3 S (fun r1 S1 => w_X8_leg a1 a2 a3 T (fun r2 T1 => r1 = r2 ∧ K S1 T1))) ∧
  (k = 3 → w_X7_set a1 a2 a3 S (fun r1 S1 => w_X8_set a1 a2 a3 T (fun r2 T1 => r1 = r2 ∧ K S1 T1))) ∧
  (k = 4 → w_X7_told a1 a2 S (fun r1 S1 => w_X8_told a1 a2 T (fun r2 T1 => r1 = r2 ∧ K S1 T1))) ∧
  (k = 5 → w_X7_feed a1 S (fun r1 S1 => w_X8_feed a1 T (fun r2 T1 => r1 = r2 ∧ K S1 T1))) ∧
  (k = 6 → w_X7_text  S (fun r1 S1 => w_X8_text  T (fun r2 T1 => r1 = r2 ∧ K S1 T1))) ∧
  (k = 7 → w_X7_force a1 S (fun r1 S1 => w_X8_force a1 T (fun r2 T1 => r1 = r2 ∧ K S1 T1))) ∧
  (k = 8 → w_X7_stands a1 S (fun r1 S1 => w_X8_stands a1 T (fun r2 T1 => r1 = r2 ∧ K S1 T1))) ∧
  (k = 9 → w_X7_standsAt a1 a2 a3 S (fun r1 S1 => w_X8_standsAt a1 a2 a3 T (fun r2 T1 => r1 = r2 ∧ K S1 T1))) ∧
  (k = 10 → w_X7_firm  S (fun r1 S1 => w_X8_firm  T (fun r2 T1 => r1 = r2 ∧ K S1 T1))) ∧
  (k = 11 → w_X7_fewest a1 S (fun r1 S1 => w_X8_fewest a1 T (fun r2 T1 => r1 = r2 ∧ K S1 T1))) ∧
  (k = 12 → w_X7_feels a1 S (fun r1 S1 => w_X8_feels a1 T (fun r2 T1 => r1 = r2 ∧ K S1 T1))) ∧
  (k = 13 → w_X7_best a1 S (fun r1 S1 => w_X8_best a1 T (fun r2 T1 => r1 = r2 ∧ K S1 T1))) ∧
  (k = 14 → w_X7_turn a1 S (fun r1 S1 => w_X8_turn a1 T (fun r2 T1 => r1 = r2 ∧ K S1 T1))) ∧
  (k = 15 → w_X7_wedge  S (fun r1 S1 => w_X8_wedge  T (fun r2 T1 => r1 = r2 ∧ K S1 T1))) ∧
  (k = 16 → w_X7_saw  S (fun r1 S1 => w_X8_saw  T (fun r2 T1 => r1 = r2 ∧ K S1 T1))) ∧
  (k = 17 → w_X7_screwed  S (fun r1 S1 => w_X8_screwed  T (fun r2 T1 => r1 = r2 ∧ K S1 T1))) ∧
  (k = 18 → w_X7_blame a1 S (fun r1 S1 => w_X8_blame a1 T (fun r2 T1 => r1 = r2 ∧ K S1 T1))) ∧
  (k = 19 → w_X7_beside a1 S (fun r1 S1 => w_X8_beside a1 T (fun r2 T1 => r1 = r2 ∧ K S1 T1))) ∧
  (k = 20 → w_X7_sit  S (fun r1 S1 => w_X8_sit  T (fun r2 T1 => r1 = r2 ∧ K S1 T1))) ∧
  (k = 21 → w_X7_judge a1 S (fun r1 S1 => w_X8_judge a1 T (fun r2 T1 => r1 = r2 ∧ K S1 T1))) ∧
  (k = 22 → w_X7_which a1 S (fun r1 S1 => w_X8_which a1 T (fun r2 T1 => r1 = r2 ∧ K S1 T1))) ∧
  (k = 23 → w_X7_drawn a1 S (fun r1 S1 => w_X8_drawn a1 T (fun r2 T1 => r1 = r2 ∧ K S1 T1))) ∧
  (k = 24 → w_X7_odds a1 a2 a3 S (fun r1 S1 => w_X8_odds a1 a2 a3 T (fun r2 T1 => r1 = r2 ∧ K S1 T1))) ∧
  (k = 25 → w_X7_image  S (fun r1 S1 => w_X8_image  T (fun r2 T1 => r1 = r2 ∧ K S1 T1))) ∧
  (k = 26 → w_X7_back  S (fun r1 S1 => w_X8_back  T (fun r2 T1 => r1 = r2 ∧ K S1 T1))) ∧
  (k = 27 → w_X7_count a1 S (fun r1 S1 => w_X8_count a1 T (fun r2 T1 => r1 = r2 ∧ K S1 T1))) ∧
  (k = 28 → w_X7_sheet a1 a2 a3 S (fun r1 S1 => w_X8_sheet a1 a2 a3 T (fun r2 T1 => r1 = r2 ∧ K S1 T1))) ∧
  (k = 29 → w_X7_cell a1 a2 a3 S (fun r1 S1 => w_X8_cell a1 a2 a3 T (fun r2 T1 => r1 = r2 ∧ K S1 T1))) ∧
  (k = 30 → w_X7_copy a1 a2 a3 a4 a5 S (fun r1 S1 => w_X8_copy a1 a2 a3 a4 a5 T (fun r2 T1 => r1 = r2 ∧ K S1 T1))) ∧
  (k = 31 → w_X7_floors a1 a2 a3 a4 S (fun r1 S1 => w_X8_floors a1 a2 a3 a4 T (fun r2 T1 => r1 = r2 ∧ K S1 T1))) ∧
  (k = 32 → w_X7_taken a1 a2 S (fun r1 S1 => w_X8_taken a1 a2 T (fun r2 T1 => r1 = r2 ∧ K S1 T1))) ∧
  ((k.toInt < 0 ∨ 32 < k.toInt) → K S T)
set_option maxHeartbeats 4000000 in
set_option maxRecDepth 20000 in
theorem law_0 {l : Launch} {g : ClT} {v : VxT} {u : VmT} {L i : Nat} {xs : Nat → Int32} {x3 : Int32} {S T : Mem} {K : Mem → Mem → Prop} (ok : OkL l g v u L xs) (ex3 : x3 = nI i) (hi : i + 6 ≤ L) (h : w_X7_floor (xs (i + 1)) (xs (i + 2)) S (fun r1 S1 => w_X8_floor (xs (i + 1)) (xs (i + 2)) T (fun r2 T1 => r1 = r2 ∧ K S1 T1))) (hk : ∀ S1 T1, K S1 T1 → GL g v u 1101 [(3, .int x3), (2, .ref (u.1 0)), (1, .ref (v.1 0)), (0, .ref g.2.2.2.2.2.2.2.2)] [] S1 T1) : GL g v u 180 [(3, .int x3), (2, .ref (u.1 0)), (1, .ref (v.1 0)), (0, .ref g.2.2.2.2.2.2.2.2)] [] S T := by
  refine gl_aload_n 2 (n := 181) ok dL_law_180 rfl rfl ?_
  refine gl_aload_n 3 (n := 182) ok dL_law_181 rfl rfl ?_
  refine gl_iload_n 0 (n := 183) ok dL_law_182 rfl rfl ?_
  refine gl_iconst (w := 1) (n := 184) ok dL_law_183 rfl (by decide) ?_
  refine gl_iadd (n := 185) ok dL_law_184 rfl ?_
  refine gl_sld (i + 1) (n := 186) ok dL_law_185 rfl (by rw [ex3]; exact nI_add i 1) (by omega) ?_
  refine gl_aload_n 3 (n := 187) ok dL_law_186 rfl rfl ?_
  refine gl_iload_n 0 (n := 188) ok dL_law_187 rfl rfl ?_
  refine gl_iconst (w := 2) (n := 189) ok dL_law_188 rfl (by decide) ?_
  refine gl_iadd (n := 190) ok dL_law_189 rfl ?_
  refine gl_sld (i + 2) (n := 191) ok dL_law_190 rfl (by rw [ex3]; exact nI_add i 2) (by omega) ?_
  refine gl_callXi (n := 194) (As := [.int (xs (i + 1)), .int (xs (i + 2))]) (rest := []) ok (c_X7_floor l v (xs (i + 1)) (xs (i + 2)) S _ h) cal_X7_floor tw_369 tw_370 tw_371 (by decide) (by decide) rfl (Nat.le_of_ble_eq_true rfl) dL_law_191 rfl rfl (fun r1 S1 h => ?_)
  refine gl_aload_n 1 (n := 195) ok dL_law_194 rfl rfl ?_
  refine gl_aload_n 3 (n := 196) ok dL_law_195 rfl rfl ?_
  refine gl_iload_n 0 (n := 197) ok dL_law_196 rfl rfl ?_
  refine gl_iconst (w := 1) (n := 198) ok dL_law_197 rfl (by decide) ?_
  refine gl_iadd (n := 199) ok dL_law_198 rfl ?_
  refine gl_sld (i + 1) (n := 200) ok dL_law_199 rfl (by rw [ex3]; exact nI_add i 1) (by omega) ?_
  refine gl_aload_n 3 (n := 201) ok dL_law_200 rfl rfl ?_
  refine gl_iload_n 0 (n := 202) ok dL_law_201 rfl rfl ?_
  refine gl_iconst (w := 2) (n := 203) ok dL_law_202 rfl (by decide) ?_
  refine gl_iadd (n := 204) ok dL_law_203 rfl ?_
  refine gl_sld (i + 2) (n := 205) ok dL_law_204 rfl (by rw [ex3]; exact nI_add i 2) (by omega) ?_
  refine gl_callMi (n := 208) (As := [.int (xs (i + 1)), .int (xs (i + 2))]) (rest := [.int r1]) ok (c_X8_floor l u (xs (i + 1)) (xs (i + 2)) T _ h) cal_X8_floor tw_1135 tw_1136 tw_1137 (by decide) (by decide) rfl (Nat.le_of_ble_eq_true rfl) dL_law_205 rfl rfl (fun r2 T1 h => ?_)
  refine gl_icmp_eq (t := 1101) ok h.1 dL_law_208 (by decide) ?_
  exact hk _ _ h.2
set_option maxHeartbeats 4000000 in
set_option maxRecDepth 20000 in
theorem law_1 {l : Launch} {g : ClT} {v : VxT} {u : VmT} {L i : Nat} {xs : Nat → Int32} {x3 : Int32} {S T : Mem} {K : Mem → Mem → Prop} (ok : OkL l g v u L xs) (ex3 : x3 = nI i) (hi : i + 6 ≤ L) (h : w_X7_wave (xs (i + 1)) (xs (i + 2)) (xs (i + 3)) S (fun r1 S1 => w_X8_wave (xs (i + 1)) (xs (i + 2)) (xs (i + 3)) T (fun r2 T1 => r1 = r2 ∧ K S1 T1))) (hk : ∀ S1 T1, K S1 T1 → GL g v u 1101 [(3, .int x3), (2, .ref (u.1 0)), (1, .ref (v.1 0)), (0, .ref g.2.2.2.2.2.2.2.2)] [] S1 T1) : GL g v u 213 [(3, .int x3), (2, .ref (u.1 0)), (1, .ref (v.1 0)), (0, .ref g.2.2.2.2.2.2.2.2)] [] S T := by
  refine gl_aload_n 2 (n := 214) ok dL_law_213 rfl rfl ?_
  refine gl_aload_n 3 (n := 215) ok dL_law_214 rfl rfl ?_
  refine gl_iload_n 0 (n := 216) ok dL_law_215 rfl rfl ?_
  refine gl_iconst (w := 1) (n := 217) ok dL_law_216 rfl (by decide) ?_
  refine gl_iadd (n := 218) ok dL_law_217 rfl ?_
  refine gl_sld (i + 1) (n := 219) ok dL_law_218 rfl (by rw [ex3]; exact nI_add i 1) (by omega) ?_
  refine gl_aload_n 3 (n := 220) ok dL_law_219 rfl rfl ?_
  refine gl_iload_n 0 (n := 221) ok dL_law_220 rfl rfl ?_
  refine gl_iconst (w := 2) (n := 222) ok dL_law_221 rfl (by decide) ?_
  refine gl_iadd (n := 223) ok dL_law_222 rfl ?_
  refine gl_sld (i + 2) (n := 224) ok dL_law_223 rfl (by rw [ex3]; exact nI_add i 2) (by omega) ?_
  refine gl_aload_n 3 (n := 225) ok dL_law_224 rfl rfl ?_
  refine gl_iload_n 0 (n := 226) ok dL_law_225 rfl rfl ?_
  refine gl_iconst (w := 3) (n := 227) ok dL_law_226 rfl (by decide) ?_
  refine gl_iadd (n := 228) ok dL_law_227 rfl ?_
  refine gl_sld (i + 3) (n := 229) ok dL_law_228 rfl (by rw [ex3]; exact nI_add i 3) (by omega) ?_
  refine gl_callXi (n := 232) (As := [.int (xs (i + 1)), .int (xs (i + 2)), .int (xs (i + 3))]) (rest := []) ok (c_X7_wave l v (xs (i + 1)) (xs (i + 2)) (xs (i + 3)) S _ h) cal_X7_wave tw_374 tw_375 tw_376 (by decide) (by decide) rfl (Nat.le_of_ble_eq_true rfl) dL_law_229 rfl rfl (fun r1 S1 h => ?_)
  refine gl_aload_n 1 (n := 233) ok dL_law_232 rfl rfl ?_
  refine gl_aload_n 3 (n := 234) ok dL_law_233 rfl rfl ?_
  refine gl_iload_n 0 (n := 235) ok dL_law_234 rfl rfl ?_
  refine gl_iconst (w := 1) (n := 236) ok dL_law_235 rfl (by decide) ?_
  refine gl_iadd (n := 237) ok dL_law_236 rfl ?_
  refine gl_sld (i + 1) (n := 238) ok dL_law_237 rfl (by rw [ex3]; exact nI_add i 1) (by omega) ?_
  refine gl_aload_n 3 (n := 239) ok dL_law_238 rfl rfl ?_
  refine gl_iload_n 0 (n := 240) ok dL_law_239 rfl rfl ?_
  refine gl_iconst (w := 2) (n := 241) ok dL_law_240 rfl (by decide) ?_
  refine gl_iadd (n := 242) ok dL_law_241 rfl ?_
  refine gl_sld (i + 2) (n := 243) ok dL_law_242 rfl (by rw [ex3]; exact nI_add i 2) (by omega) ?_
  refine gl_aload_n 3 (n := 244) ok dL_law_243 rfl rfl ?_
  refine gl_iload_n 0 (n := 245) ok dL_law_244 rfl rfl ?_
  refine gl_iconst (w := 3) (n := 246) ok dL_law_245 rfl (by decide) ?_
  refine gl_iadd (n := 247) ok dL_law_246 rfl ?_
  refine gl_sld (i + 3) (n := 248) ok dL_law_247 rfl (by rw [ex3]; exact nI_add i 3) (by omega) ?_
  refine gl_callMi (n := 251) (As := [.int (xs (i + 1)), .int (xs (i + 2)), .int (xs (i + 3))]) (rest := [.int r1]) ok (c_X8_wave l u (xs (i + 1)) (xs (i + 2)) (xs (i + 3)) T _ h) cal_X8_wave tw_1140 tw_1141 tw_1142 (by decide) (by decide) rfl (Nat.le_of_ble_eq_true rfl) dL_law_248 rfl rfl (fun r2 T1 h => ?_)
  refine gl_icmp_eq (t := 1101) ok h.1 dL_law_251 (by decide) ?_
  exact hk _ _ h.2
set_option maxHeartbeats 4000000 in
set_option maxRecDepth 20000 in
theorem law_2 {l : Launch} {g : ClT} {v : VxT} {u : VmT} {L i : Nat} {xs : Nat → Int32} {x3 : Int32} {S T : Mem} {K : Mem → Mem → Prop} (ok : OkL l g v u L xs) (ex3 : x3 = nI i) (hi : i + 6 ≤ L) (h : w_X7_leg (xs (i + 1)) (xs (i + 2)) (xs (i + 3)) S (fun r1 S1 => w_X8_leg (xs (i + 1)) (xs (i + 2)) (xs (i + 3)) T (fun r2 T1 => r1 = r2 ∧ K S1 T1))) (hk : ∀ S1 T1, K S1 T1 → GL g v u 1101 [(3, .int x3), (2, .ref (u.1 0)), (1, .ref (v.1 0)), (0, .ref g.2.2.2.2.2.2.2.2)] [] S1 T1) : GL g v u 256 [(3, .int x3), (2, .ref (u.1 0)), (1, .ref (v.1 0)), (0, .ref g.2.2.2.2.2.2.2.2)] [] S T := by
  refine gl_aload_n 2 (n := 257) ok dL_law_256 rfl rfl ?_
  refine gl_aload_n 3 (n := 258) ok dL_law_257 rfl rfl ?_
  refine gl_iload_n 0 (n := 259) ok dL_law_258 rfl rfl ?_
  refine gl_iconst (w := 1) (n := 260) ok dL_law_259 rfl (by decide) ?_
  refine gl_iadd (n := 261) ok dL_law_260 rfl ?_
  refine gl_sld (i + 1) (n := 262) ok dL_law_261 rfl (by rw [ex3]; exact nI_add i 1) (by omega) ?_
  refine gl_aload_n 3 (n := 263) ok dL_law_262 rfl rfl ?_
  refine gl_iload_n 0 (n := 264) ok dL_law_263 rfl rfl ?_
  refine gl_iconst (w := 2) (n := 265) ok dL_law_264 rfl (by decide) ?_
  refine gl_iadd (n := 266) ok dL_law_265 rfl ?_
  refine gl_sld (i + 2) (n := 267) ok dL_law_266 rfl (by rw [ex3]; exact nI_add i 2) (by omega) ?_
  refine gl_aload_n 3 (n := 268) ok dL_law_267 rfl rfl ?_
  refine gl_iload_n 0 (n := 269) ok dL_law_268 rfl rfl ?_
  refine gl_iconst (w := 3) (n := 270) ok dL_law_269 rfl (by decide) ?_
  refine gl_iadd (n := 271) ok dL_law_270 rfl ?_
  refine gl_sld (i + 3) (n := 272) ok dL_law_271 rfl (by rw [ex3]; exact nI_add i 3) (by omega) ?_
  refine gl_callXi (n := 275) (As := [.int (xs (i + 1)), .int (xs (i + 2)), .int (xs (i + 3))]) (rest := []) ok (c_X7_leg l v (xs (i + 1)) (xs (i + 2)) (xs (i + 3)) S _ h) cal_X7_leg tw_378 tw_379 tw_380 (by decide) (by decide) rfl (Nat.le_of_ble_eq_true rfl) dL_law_272 rfl rfl (fun r1 S1 h => ?_)
  refine gl_aload_n 1 (n := 276) ok dL_law_275 rfl rfl ?_
  refine gl_aload_n 3 (n := 277) ok dL_law_276 rfl rfl ?_
  refine gl_iload_n 0 (n := 278) ok dL_law_277 rfl rfl ?_
  refine gl_iconst (w := 1) (n := 279) ok dL_law_278 rfl (by decide) ?_
  refine gl_iadd (n := 280) ok dL_law_279 rfl ?_
  refine gl_sld (i + 1) (n := 281) ok dL_law_280 rfl (by rw [ex3]; exact nI_add i 1) (by omega) ?_
  refine gl_aload_n 3 (n := 282) ok dL_law_281 rfl rfl ?_
  refine gl_iload_n 0 (n := 283) ok dL_law_282 rfl rfl ?_
  refine gl_iconst (w := 2) (n := 284) ok dL_law_283 rfl (by decide) ?_
  refine gl_iadd (n := 285) ok dL_law_284 rfl ?_
  refine gl_sld (i + 2) (n := 286) ok dL_law_285 rfl (by rw [ex3]; exact nI_add i 2) (by omega) ?_
  refine gl_aload_n 3 (n := 287) ok dL_law_286 rfl rfl ?_
  refine gl_iload_n 0 (n := 288) ok dL_law_287 rfl rfl ?_
  refine gl_iconst (w := 3) (n := 289) ok dL_law_288 rfl (by decide) ?_
  refine gl_iadd (n := 290) ok dL_law_289 rfl ?_
  refine gl_sld (i + 3) (n := 291) ok dL_law_290 rfl (by rw [ex3]; exact nI_add i 3) (by omega) ?_
  refine gl_callMi (n := 294) (As := [.int (xs (i + 1)), .int (xs (i + 2)), .int (xs (i + 3))]) (rest := [.int r1]) ok (c_X8_leg l u (xs (i + 1)) (xs (i + 2)) (xs (i + 3)) T _ h) cal_X8_leg tw_1144 tw_1145 tw_1146 (by decide) (by decide) rfl (Nat.le_of_ble_eq_true rfl) dL_law_291 rfl rfl (fun r2 T1 h => ?_)
  refine gl_icmp_eq (t := 1101) ok h.1 dL_law_294 (by decide) ?_
  exact hk _ _ h.2
set_option maxHeartbeats 4000000 in
set_option maxRecDepth 20000 in
theorem law_3 {l : Launch} {g : ClT} {v : VxT} {u : VmT} {L i : Nat} {xs : Nat → Int32} {x3 : Int32} {S T : Mem} {K : Mem → Mem → Prop} (ok : OkL l g v u L xs) (ex3 : x3 = nI i) (hi : i + 6 ≤ L) (h : w_X7_set (xs (i + 1)) (xs (i + 2)) (xs (i + 3)) S (fun r1 S1 => w_X8_set (xs (i + 1)) (xs (i + 2)) (xs (i + 3)) T (fun r2 T1 => r1 = r2 ∧ K S1 T1))) (hk : ∀ S1 T1, K S1 T1 → GL g v u 1101 [(3, .int x3), (2, .ref (u.1 0)), (1, .ref (v.1 0)), (0, .ref g.2.2.2.2.2.2.2.2)] [] S1 T1) : GL g v u 299 [(3, .int x3), (2, .ref (u.1 0)), (1, .ref (v.1 0)), (0, .ref g.2.2.2.2.2.2.2.2)] [] S T := by
  refine gl_aload_n 2 (n := 300) ok dL_law_299 rfl rfl ?_
  refine gl_aload_n 3 (n := 301) ok dL_law_300 rfl rfl ?_
  refine gl_iload_n 0 (n := 302) ok dL_law_301 rfl rfl ?_
  refine gl_iconst (w := 1) (n := 303) ok dL_law_302 rfl (by decide) ?_
  refine gl_iadd (n := 304) ok dL_law_303 rfl ?_
  refine gl_sld (i + 1) (n := 305) ok dL_law_304 rfl (by rw [ex3]; exact nI_add i 1) (by omega) ?_
  refine gl_aload_n 3 (n := 306) ok dL_law_305 rfl rfl ?_
  refine gl_iload_n 0 (n := 307) ok dL_law_306 rfl rfl ?_
  refine gl_iconst (w := 2) (n := 308) ok dL_law_307 rfl (by decide) ?_
  refine gl_iadd (n := 309) ok dL_law_308 rfl ?_
  refine gl_sld (i + 2) (n := 310) ok dL_law_309 rfl (by rw [ex3]; exact nI_add i 2) (by omega) ?_
  refine gl_aload_n 3 (n := 311) ok dL_law_310 rfl rfl ?_
  refine gl_iload_n 0 (n := 312) ok dL_law_311 rfl rfl ?_
  refine gl_iconst (w := 3) (n := 313) ok dL_law_312 rfl (by decide) ?_
  refine gl_iadd (n := 314) ok dL_law_313 rfl ?_
  refine gl_sld (i + 3) (n := 315) ok dL_law_314 rfl (by rw [ex3]; exact nI_add i 3) (by omega) ?_
  refine gl_callXi (n := 318) (As := [.int (xs (i + 1)), .int (xs (i + 2)), .int (xs (i + 3))]) (rest := []) ok (c_X7_set l v (xs (i + 1)) (xs (i + 2)) (xs (i + 3)) S _ h) cal_X7_set tw_388 tw_389 tw_390 (by decide) (by decide) rfl (Nat.le_of_ble_eq_true rfl) dL_law_315 rfl rfl (fun r1 S1 h => ?_)
  refine gl_aload_n 1 (n := 319) ok dL_law_318 rfl rfl ?_
  refine gl_aload_n 3 (n := 320) ok dL_law_319 rfl rfl ?_
  refine gl_iload_n 0 (n := 321) ok dL_law_320 rfl rfl ?_
  refine gl_iconst (w := 1) (n := 322) ok dL_law_321 rfl (by decide) ?_
  refine gl_iadd (n := 323) ok dL_law_322 rfl ?_
  refine gl_sld (i + 1) (n := 324) ok dL_law_323 rfl (by rw [ex3]; exact nI_add i 1) (by omega) ?_
  refine gl_aload_n 3 (n := 325) ok dL_law_324 rfl rfl ?_
  refine gl_iload_n 0 (n := 326) ok dL_law_325 rfl rfl ?_
  refine gl_iconst (w := 2) (n := 327) ok dL_law_326 rfl (by decide) ?_
  refine gl_iadd (n := 328) ok dL_law_327 rfl ?_
  refine gl_sld (i + 2) (n := 329) ok dL_law_328 rfl (by rw [ex3]; exact nI_add i 2) (by omega) ?_
  refine gl_aload_n 3 (n := 330) ok dL_law_329 rfl rfl ?_
  refine gl_iload_n 0 (n := 331) ok dL_law_330 rfl rfl ?_
  refine gl_iconst (w := 3) (n := 332) ok dL_law_331 rfl (by decide) ?_
  refine gl_iadd (n := 333) ok dL_law_332 rfl ?_
  refine gl_sld (i + 3) (n := 334) ok dL_law_333 rfl (by rw [ex3]; exact nI_add i 3) (by omega) ?_
  refine gl_callMi (n := 337) (As := [.int (xs (i + 1)), .int (xs (i + 2)), .int (xs (i + 3))]) (rest := [.int r1]) ok (c_X8_set l u (xs (i + 1)) (xs (i + 2)) (xs (i + 3)) T _ h) cal_X8_set tw_1148 tw_1149 tw_1150 (by decide) (by decide) rfl (Nat.le_of_ble_eq_true rfl) dL_law_334 rfl rfl (fun r2 T1 h => ?_)
  refine gl_icmp_eq (t := 1101) ok h.1 dL_law_337 (by decide) ?_
  exact hk _ _ h.2
set_option maxHeartbeats 4000000 in
set_option maxRecDepth 20000 in
theorem law_4 {l : Launch} {g : ClT} {v : VxT} {u : VmT} {L i : Nat} {xs : Nat → Int32} {x3 : Int32} {S T : Mem} {K : Mem → Mem → Prop} (ok : OkL l g v u L xs) (ex3 : x3 = nI i) (hi : i + 6 ≤ L) (h : w_X7_told (xs (i + 1)) (xs (i + 2)) S (fun r1 S1 => w_X8_told (xs (i + 1)) (xs (i + 2)) T (fun r2 T1 => r1 = r2 ∧ K S1 T1))) (hk : ∀ S1 T1, K S1 T1 → GL g v u 1101 [(3, .int x3), (2, .ref (u.1 0)), (1, .ref (v.1 0)), (0, .ref g.2.2.2.2.2.2.2.2)] [] S1 T1) : GL g v u 342 [(3, .int x3), (2, .ref (u.1 0)), (1, .ref (v.1 0)), (0, .ref g.2.2.2.2.2.2.2.2)] [] S T := by
  refine gl_aload_n 2 (n := 343) ok dL_law_342 rfl rfl ?_
  refine gl_aload_n 3 (n := 344) ok dL_law_343 rfl rfl ?_
  refine gl_iload_n 0 (n := 345) ok dL_law_344 rfl rfl ?_
  refine gl_iconst (w := 1) (n := 346) ok dL_law_345 rfl (by decide) ?_
  refine gl_iadd (n := 347) ok dL_law_346 rfl ?_
  refine gl_sld (i + 1) (n := 348) ok dL_law_347 rfl (by rw [ex3]; exact nI_add i 1) (by omega) ?_
  refine gl_aload_n 3 (n := 349) ok dL_law_348 rfl rfl ?_
  refine gl_iload_n 0 (n := 350) ok dL_law_349 rfl rfl ?_
  refine gl_iconst (w := 2) (n := 351) ok dL_law_350 rfl (by decide) ?_
  refine gl_iadd (n := 352) ok dL_law_351 rfl ?_
  refine gl_sld (i + 2) (n := 353) ok dL_law_352 rfl (by rw [ex3]; exact nI_add i 2) (by omega) ?_
  refine gl_callXi (n := 356) (As := [.int (xs (i + 1)), .int (xs (i + 2))]) (rest := []) ok (c_X7_told l v (xs (i + 1)) (xs (i + 2)) S _ h) cal_X7_told tw_400 tw_401 tw_402 (by decide) (by decide) rfl (Nat.le_of_ble_eq_true rfl) dL_law_353 rfl rfl (fun r1 S1 h => ?_)
  refine gl_aload_n 1 (n := 357) ok dL_law_356 rfl rfl ?_
  refine gl_aload_n 3 (n := 358) ok dL_law_357 rfl rfl ?_
  refine gl_iload_n 0 (n := 359) ok dL_law_358 rfl rfl ?_
  refine gl_iconst (w := 1) (n := 360) ok dL_law_359 rfl (by decide) ?_
  refine gl_iadd (n := 361) ok dL_law_360 rfl ?_
  refine gl_sld (i + 1) (n := 362) ok dL_law_361 rfl (by rw [ex3]; exact nI_add i 1) (by omega) ?_
  refine gl_aload_n 3 (n := 363) ok dL_law_362 rfl rfl ?_
  refine gl_iload_n 0 (n := 364) ok dL_law_363 rfl rfl ?_
  refine gl_iconst (w := 2) (n := 365) ok dL_law_364 rfl (by decide) ?_
  refine gl_iadd (n := 366) ok dL_law_365 rfl ?_
  refine gl_sld (i + 2) (n := 367) ok dL_law_366 rfl (by rw [ex3]; exact nI_add i 2) (by omega) ?_
  refine gl_callMi (n := 370) (As := [.int (xs (i + 1)), .int (xs (i + 2))]) (rest := [.int r1]) ok (c_X8_told l u (xs (i + 1)) (xs (i + 2)) T _ h) cal_X8_told tw_1156 tw_1157 tw_1158 (by decide) (by decide) rfl (Nat.le_of_ble_eq_true rfl) dL_law_367 rfl rfl (fun r2 T1 h => ?_)
  refine gl_icmp_eq (t := 1101) ok h.1 dL_law_370 (by decide) ?_
  exact hk _ _ h.2
set_option maxHeartbeats 4000000 in
set_option maxRecDepth 20000 in
theorem law_5 {l : Launch} {g : ClT} {v : VxT} {u : VmT} {L i : Nat} {xs : Nat → Int32} {x3 : Int32} {S T : Mem} {K : Mem → Mem → Prop} (ok : OkL l g v u L xs) (ex3 : x3 = nI i) (hi : i + 6 ≤ L) (h : w_X7_feed (xs (i + 1)) S (fun r1 S1 => w_X8_feed (xs (i + 1)) T (fun r2 T1 => r1 = r2 ∧ K S1 T1))) (hk : ∀ S1 T1, K S1 T1 → GL g v u 1101 [(3, .int x3), (2, .ref (u.1 0)), (1, .ref (v.1 0)), (0, .ref g.2.2.2.2.2.2.2.2)] [] S1 T1) : GL g v u 375 [(3, .int x3), (2, .ref (u.1 0)), (1, .ref (v.1 0)), (0, .ref g.2.2.2.2.2.2.2.2)] [] S T := by
  refine gl_aload_n 2 (n := 376) ok dL_law_375 rfl rfl ?_
  refine gl_aload_n 3 (n := 377) ok dL_law_376 rfl rfl ?_
  refine gl_iload_n 0 (n := 378) ok dL_law_377 rfl rfl ?_
  refine gl_iconst (w := 1) (n := 379) ok dL_law_378 rfl (by decide) ?_
  refine gl_iadd (n := 380) ok dL_law_379 rfl ?_
  refine gl_sld (i + 1) (n := 381) ok dL_law_380 rfl (by rw [ex3]; exact nI_add i 1) (by omega) ?_
  refine gl_callXi (n := 384) (As := [.int (xs (i + 1))]) (rest := []) ok (c_X7_feed l v (xs (i + 1)) S _ h) cal_X7_feed tw_442 tw_443 tw_444 (by decide) (by decide) rfl (Nat.le_of_ble_eq_true rfl) dL_law_381 rfl rfl (fun r1 S1 h => ?_)
  refine gl_aload_n 1 (n := 385) ok dL_law_384 rfl rfl ?_
  refine gl_aload_n 3 (n := 386) ok dL_law_385 rfl rfl ?_
  refine gl_iload_n 0 (n := 387) ok dL_law_386 rfl rfl ?_
  refine gl_iconst (w := 1) (n := 388) ok dL_law_387 rfl (by decide) ?_
  refine gl_iadd (n := 389) ok dL_law_388 rfl ?_
  refine gl_sld (i + 1) (n := 390) ok dL_law_389 rfl (by rw [ex3]; exact nI_add i 1) (by omega) ?_
  refine gl_callMi (n := 393) (As := [.int (xs (i + 1))]) (rest := [.int r1]) ok (c_X8_feed l u (xs (i + 1)) T _ h) cal_X8_feed tw_978 tw_979 tw_980 (by decide) (by decide) rfl (Nat.le_of_ble_eq_true rfl) dL_law_390 rfl rfl (fun r2 T1 h => ?_)
  refine gl_icmp_eq (t := 1101) ok h.1 dL_law_393 (by decide) ?_
  exact hk _ _ h.2
set_option maxHeartbeats 4000000 in
set_option maxRecDepth 20000 in
theorem law_6 {l : Launch} {g : ClT} {v : VxT} {u : VmT} {L i : Nat} {xs : Nat → Int32} {x3 : Int32} {S T : Mem} {K : Mem → Mem → Prop} (ok : OkL l g v u L xs) (ex3 : x3 = nI i) (hi : i + 6 ≤ L) (h : w_X7_text  S (fun r1 S1 => w_X8_text  T (fun r2 T1 => r1 = r2 ∧ K S1 T1))) (hk : ∀ S1 T1, K S1 T1 → GL g v u 1101 [(3, .int x3), (2, .ref (u.1 0)), (1, .ref (v.1 0)), (0, .ref g.2.2.2.2.2.2.2.2)] [] S1 T1) : GL g v u 398 [(3, .int x3), (2, .ref (u.1 0)), (1, .ref (v.1 0)), (0, .ref g.2.2.2.2.2.2.2.2)] [] S T := by
  refine gl_aload_n 2 (n := 399) ok dL_law_398 rfl rfl ?_
  refine gl_callXi (n := 402) (As := []) (rest := []) ok (c_X7_text l v  S _ h) cal_X7_text tw_446 tw_241 tw_242 (by decide) (by decide) rfl (Nat.le_of_ble_eq_true rfl) dL_law_399 rfl rfl (fun r1 S1 h => ?_)
  refine gl_aload_n 1 (n := 403) ok dL_law_402 rfl rfl ?_
  refine gl_callMi (n := 406) (As := []) (rest := [.int r1]) ok (c_X8_text l u  T _ h) cal_X8_text tw_983 tw_984 tw_985 (by decide) (by decide) rfl (Nat.le_of_ble_eq_true rfl) dL_law_403 rfl rfl (fun r2 T1 h => ?_)
  refine gl_icmp_eq (t := 1101) ok h.1 dL_law_406 (by decide) ?_
  exact hk _ _ h.2
set_option maxHeartbeats 4000000 in
set_option maxRecDepth 20000 in
theorem law_7 {l : Launch} {g : ClT} {v : VxT} {u : VmT} {L i : Nat} {xs : Nat → Int32} {x3 : Int32} {S T : Mem} {K : Mem → Mem → Prop} (ok : OkL l g v u L xs) (ex3 : x3 = nI i) (hi : i + 6 ≤ L) (h : w_X7_force (xs (i + 1)) S (fun r1 S1 => w_X8_force (xs (i + 1)) T (fun r2 T1 => r1 = r2 ∧ K S1 T1))) (hk : ∀ S1 T1, K S1 T1 → GL g v u 1101 [(3, .int x3), (2, .ref (u.1 0)), (1, .ref (v.1 0)), (0, .ref g.2.2.2.2.2.2.2.2)] [] S1 T1) : GL g v u 411 [(3, .int x3), (2, .ref (u.1 0)), (1, .ref (v.1 0)), (0, .ref g.2.2.2.2.2.2.2.2)] [] S T := by
  refine gl_aload_n 2 (n := 412) ok dL_law_411 rfl rfl ?_
  refine gl_aload_n 3 (n := 413) ok dL_law_412 rfl rfl ?_
  refine gl_iload_n 0 (n := 414) ok dL_law_413 rfl rfl ?_
  refine gl_iconst (w := 1) (n := 415) ok dL_law_414 rfl (by decide) ?_
  refine gl_iadd (n := 416) ok dL_law_415 rfl ?_
  refine gl_sld (i + 1) (n := 417) ok dL_law_416 rfl (by rw [ex3]; exact nI_add i 1) (by omega) ?_
  refine gl_callXi (n := 420) (As := [.int (xs (i + 1))]) (rest := []) ok (c_X7_force l v (xs (i + 1)) S _ h) cal_X7_force tw_447 tw_448 tw_449 (by decide) (by decide) rfl (Nat.le_of_ble_eq_true rfl) dL_law_417 rfl rfl (fun r1 S1 h => ?_)
  refine gl_aload_n 1 (n := 421) ok dL_law_420 rfl rfl ?_
  refine gl_aload_n 3 (n := 422) ok dL_law_421 rfl rfl ?_
  refine gl_iload_n 0 (n := 423) ok dL_law_422 rfl rfl ?_
  refine gl_iconst (w := 1) (n := 424) ok dL_law_423 rfl (by decide) ?_
  refine gl_iadd (n := 425) ok dL_law_424 rfl ?_
  refine gl_sld (i + 1) (n := 426) ok dL_law_425 rfl (by rw [ex3]; exact nI_add i 1) (by omega) ?_
  refine gl_callMi (n := 429) (As := [.int (xs (i + 1))]) (rest := [.int r1]) ok (c_X8_force l u (xs (i + 1)) T _ h) cal_X8_force tw_987 tw_988 tw_989 (by decide) (by decide) rfl (Nat.le_of_ble_eq_true rfl) dL_law_426 rfl rfl (fun r2 T1 h => ?_)
  refine gl_icmp_eq (t := 1101) ok h.1 dL_law_429 (by decide) ?_
  exact hk _ _ h.2
set_option maxHeartbeats 4000000 in
set_option maxRecDepth 20000 in
theorem law_8 {l : Launch} {g : ClT} {v : VxT} {u : VmT} {L i : Nat} {xs : Nat → Int32} {x3 : Int32} {S T : Mem} {K : Mem → Mem → Prop} (ok : OkL l g v u L xs) (ex3 : x3 = nI i) (hi : i + 6 ≤ L) (h : w_X7_stands (xs (i + 1)) S (fun r1 S1 => w_X8_stands (xs (i + 1)) T (fun r2 T1 => r1 = r2 ∧ K S1 T1))) (hk : ∀ S1 T1, K S1 T1 → GL g v u 1101 [(3, .int x3), (2, .ref (u.1 0)), (1, .ref (v.1 0)), (0, .ref g.2.2.2.2.2.2.2.2)] [] S1 T1) : GL g v u 434 [(3, .int x3), (2, .ref (u.1 0)), (1, .ref (v.1 0)), (0, .ref g.2.2.2.2.2.2.2.2)] [] S T := by
  refine gl_aload_n 2 (n := 435) ok dL_law_434 rfl rfl ?_
  refine gl_aload_n 3 (n := 436) ok dL_law_435 rfl rfl ?_
  refine gl_iload_n 0 (n := 437) ok dL_law_436 rfl rfl ?_
  refine gl_iconst (w := 1) (n := 438) ok dL_law_437 rfl (by decide) ?_
  refine gl_iadd (n := 439) ok dL_law_438 rfl ?_
  refine gl_sld (i + 1) (n := 440) ok dL_law_439 rfl (by rw [ex3]; exact nI_add i 1) (by omega) ?_
  refine gl_callXi (n := 443) (As := [.int (xs (i + 1))]) (rest := []) ok (c_X7_stands l v (xs (i + 1)) S _ h) cal_X7_stands tw_451 tw_452 tw_453 (by decide) (by decide) rfl (Nat.le_of_ble_eq_true rfl) dL_law_440 rfl rfl (fun r1 S1 h => ?_)
  refine gl_aload_n 1 (n := 444) ok dL_law_443 rfl rfl ?_
  refine gl_aload_n 3 (n := 445) ok dL_law_444 rfl rfl ?_
  refine gl_iload_n 0 (n := 446) ok dL_law_445 rfl rfl ?_
  refine gl_iconst (w := 1) (n := 447) ok dL_law_446 rfl (by decide) ?_
  refine gl_iadd (n := 448) ok dL_law_447 rfl ?_
  refine gl_sld (i + 1) (n := 449) ok dL_law_448 rfl (by rw [ex3]; exact nI_add i 1) (by omega) ?_
  refine gl_callMi (n := 452) (As := [.int (xs (i + 1))]) (rest := [.int r1]) ok (c_X8_stands l u (xs (i + 1)) T _ h) cal_X8_stands tw_991 tw_992 tw_993 (by decide) (by decide) rfl (Nat.le_of_ble_eq_true rfl) dL_law_449 rfl rfl (fun r2 T1 h => ?_)
  refine gl_icmp_eq (t := 1101) ok h.1 dL_law_452 (by decide) ?_
  exact hk _ _ h.2
set_option maxHeartbeats 4000000 in
set_option maxRecDepth 20000 in
theorem law_9 {l : Launch} {g : ClT} {v : VxT} {u : VmT} {L i : Nat} {xs : Nat → Int32} {x3 : Int32} {S T : Mem} {K : Mem → Mem → Prop} (ok : OkL l g v u L xs) (ex3 : x3 = nI i) (hi : i + 6 ≤ L) (h : w_X7_standsAt (xs (i + 1)) (xs (i + 2)) (xs (i + 3)) S (fun r1 S1 => w_X8_standsAt (xs (i + 1)) (xs (i + 2)) (xs (i + 3)) T (fun r2 T1 => r1 = r2 ∧ K S1 T1))) (hk : ∀ S1 T1, K S1 T1 → GL g v u 1101 [(3, .int x3), (2, .ref (u.1 0)), (1, .ref (v.1 0)), (0, .ref g.2.2.2.2.2.2.2.2)] [] S1 T1) : GL g v u 457 [(3, .int x3), (2, .ref (u.1 0)), (1, .ref (v.1 0)), (0, .ref g.2.2.2.2.2.2.2.2)] [] S T := by
  refine gl_aload_n 2 (n := 458) ok dL_law_457 rfl rfl ?_
  refine gl_aload_n 3 (n := 459) ok dL_law_458 rfl rfl ?_
  refine gl_iload_n 0 (n := 460) ok dL_law_459 rfl rfl ?_
  refine gl_iconst (w := 1) (n := 461) ok dL_law_460 rfl (by decide) ?_
  refine gl_iadd (n := 462) ok dL_law_461 rfl ?_
  refine gl_sld (i + 1) (n := 463) ok dL_law_462 rfl (by rw [ex3]; exact nI_add i 1) (by omega) ?_
  refine gl_aload_n 3 (n := 464) ok dL_law_463 rfl rfl ?_
  refine gl_iload_n 0 (n := 465) ok dL_law_464 rfl rfl ?_
  refine gl_iconst (w := 2) (n := 466) ok dL_law_465 rfl (by decide) ?_
  refine gl_iadd (n := 467) ok dL_law_466 rfl ?_
  refine gl_sld (i + 2) (n := 468) ok dL_law_467 rfl (by rw [ex3]; exact nI_add i 2) (by omega) ?_
  refine gl_aload_n 3 (n := 469) ok dL_law_468 rfl rfl ?_
  refine gl_iload_n 0 (n := 470) ok dL_law_469 rfl rfl ?_
  refine gl_iconst (w := 3) (n := 471) ok dL_law_470 rfl (by decide) ?_
  refine gl_iadd (n := 472) ok dL_law_471 rfl ?_
  refine gl_sld (i + 3) (n := 473) ok dL_law_472 rfl (by rw [ex3]; exact nI_add i 3) (by omega) ?_
  refine gl_callXi (n := 476) (As := [.int (xs (i + 1)), .int (xs (i + 2)), .int (xs (i + 3))]) (rest := []) ok (c_X7_standsAt l v (xs (i + 1)) (xs (i + 2)) (xs (i + 3)) S _ h) cal_X7_standsAt tw_540 tw_541 tw_542 (by decide) (by decide) rfl (Nat.le_of_ble_eq_true rfl) dL_law_473 rfl rfl (fun r1 S1 h => ?_)
  refine gl_aload_n 1 (n := 477) ok dL_law_476 rfl rfl ?_
  refine gl_aload_n 3 (n := 478) ok dL_law_477 rfl rfl ?_
  refine gl_iload_n 0 (n := 479) ok dL_law_478 rfl rfl ?_
  refine gl_iconst (w := 1) (n := 480) ok dL_law_479 rfl (by decide) ?_
  refine gl_iadd (n := 481) ok dL_law_480 rfl ?_
  refine gl_sld (i + 1) (n := 482) ok dL_law_481 rfl (by rw [ex3]; exact nI_add i 1) (by omega) ?_
  refine gl_aload_n 3 (n := 483) ok dL_law_482 rfl rfl ?_
  refine gl_iload_n 0 (n := 484) ok dL_law_483 rfl rfl ?_
  refine gl_iconst (w := 2) (n := 485) ok dL_law_484 rfl (by decide) ?_
  refine gl_iadd (n := 486) ok dL_law_485 rfl ?_
  refine gl_sld (i + 2) (n := 487) ok dL_law_486 rfl (by rw [ex3]; exact nI_add i 2) (by omega) ?_
  refine gl_aload_n 3 (n := 488) ok dL_law_487 rfl rfl ?_
  refine gl_iload_n 0 (n := 489) ok dL_law_488 rfl rfl ?_
  refine gl_iconst (w := 3) (n := 490) ok dL_law_489 rfl (by decide) ?_
  refine gl_iadd (n := 491) ok dL_law_490 rfl ?_
  refine gl_sld (i + 3) (n := 492) ok dL_law_491 rfl (by rw [ex3]; exact nI_add i 3) (by omega) ?_
  refine gl_callMi (n := 495) (As := [.int (xs (i + 1)), .int (xs (i + 2)), .int (xs (i + 3))]) (rest := [.int r1]) ok (c_X8_standsAt l u (xs (i + 1)) (xs (i + 2)) (xs (i + 3)) T _ h) cal_X8_standsAt tw_1035 tw_1036 tw_1037 (by decide) (by decide) rfl (Nat.le_of_ble_eq_true rfl) dL_law_492 rfl rfl (fun r2 T1 h => ?_)
  refine gl_icmp_eq (t := 1101) ok h.1 dL_law_495 (by decide) ?_
  exact hk _ _ h.2
set_option maxHeartbeats 4000000 in
set_option maxRecDepth 20000 in
theorem law_10 {l : Launch} {g : ClT} {v : VxT} {u : VmT} {L i : Nat} {xs : Nat → Int32} {x3 : Int32} {S T : Mem} {K : Mem → Mem → Prop} (ok : OkL l g v u L xs) (ex3 : x3 = nI i) (hi : i + 6 ≤ L) (h : w_X7_firm  S (fun r1 S1 => w_X8_firm  T (fun r2 T1 => r1 = r2 ∧ K S1 T1))) (hk : ∀ S1 T1, K S1 T1 → GL g v u 1101 [(3, .int x3), (2, .ref (u.1 0)), (1, .ref (v.1 0)), (0, .ref g.2.2.2.2.2.2.2.2)] [] S1 T1) : GL g v u 500 [(3, .int x3), (2, .ref (u.1 0)), (1, .ref (v.1 0)), (0, .ref g.2.2.2.2.2.2.2.2)] [] S T := by
  refine gl_aload_n 2 (n := 501) ok dL_law_500 rfl rfl ?_
  refine gl_callXi (n := 504) (As := []) (rest := []) ok (c_X7_firm l v  S _ h) cal_X7_firm tw_544 tw_545 tw_546 (by decide) (by decide) rfl (Nat.le_of_ble_eq_true rfl) dL_law_501 rfl rfl (fun r1 S1 h => ?_)
  refine gl_aload_n 1 (n := 505) ok dL_law_504 rfl rfl ?_
  refine gl_callMi (n := 508) (As := []) (rest := [.int r1]) ok (c_X8_firm l u  T _ h) cal_X8_firm tw_1041 tw_1042 tw_1043 (by decide) (by decide) rfl (Nat.le_of_ble_eq_true rfl) dL_law_505 rfl rfl (fun r2 T1 h => ?_)
  refine gl_icmp_eq (t := 1101) ok h.1 dL_law_508 (by decide) ?_
  exact hk _ _ h.2
set_option maxHeartbeats 4000000 in
set_option maxRecDepth 20000 in
theorem law_11 {l : Launch} {g : ClT} {v : VxT} {u : VmT} {L i : Nat} {xs : Nat → Int32} {x3 : Int32} {S T : Mem} {K : Mem → Mem → Prop} (ok : OkL l g v u L xs) (ex3 : x3 = nI i) (hi : i + 6 ≤ L) (h : w_X7_fewest (xs (i + 1)) S (fun r1 S1 => w_X8_fewest (xs (i + 1)) T (fun r2 T1 => r1 = r2 ∧ K S1 T1))) (hk : ∀ S1 T1, K S1 T1 → GL g v u 1101 [(3, .int x3), (2, .ref (u.1 0)), (1, .ref (v.1 0)), (0, .ref g.2.2.2.2.2.2.2.2)] [] S1 T1) : GL g v u 513 [(3, .int x3), (2, .ref (u.1 0)), (1, .ref (v.1 0)), (0, .ref g.2.2.2.2.2.2.2.2)] [] S T := by
  refine gl_aload_n 2 (n := 514) ok dL_law_513 rfl rfl ?_
  refine gl_aload_n 3 (n := 515) ok dL_law_514 rfl rfl ?_
  refine gl_iload_n 0 (n := 516) ok dL_law_515 rfl rfl ?_
  refine gl_iconst (w := 1) (n := 517) ok dL_law_516 rfl (by decide) ?_
  refine gl_iadd (n := 518) ok dL_law_517 rfl ?_
  refine gl_sld (i + 1) (n := 519) ok dL_law_518 rfl (by rw [ex3]; exact nI_add i 1) (by omega) ?_
  refine gl_callXi (n := 522) (As := [.int (xs (i + 1))]) (rest := []) ok (c_X7_fewest l v (xs (i + 1)) S _ h) cal_X7_fewest tw_556 tw_557 tw_558 (by decide) (by decide) rfl (Nat.le_of_ble_eq_true rfl) dL_law_519 rfl rfl (fun r1 S1 h => ?_)
  refine gl_aload_n 1 (n := 523) ok dL_law_522 rfl rfl ?_
  refine gl_aload_n 3 (n := 524) ok dL_law_523 rfl rfl ?_
  refine gl_iload_n 0 (n := 525) ok dL_law_524 rfl rfl ?_
  refine gl_iconst (w := 1) (n := 526) ok dL_law_525 rfl (by decide) ?_
  refine gl_iadd (n := 527) ok dL_law_526 rfl ?_
  refine gl_sld (i + 1) (n := 528) ok dL_law_527 rfl (by rw [ex3]; exact nI_add i 1) (by omega) ?_
  refine gl_callMi (n := 531) (As := [.int (xs (i + 1))]) (rest := [.int r1]) ok (c_X8_fewest l u (xs (i + 1)) T _ h) cal_X8_fewest tw_1053 tw_1054 tw_1055 (by decide) (by decide) rfl (Nat.le_of_ble_eq_true rfl) dL_law_528 rfl rfl (fun r2 T1 h => ?_)
  refine gl_icmp_eq (t := 1101) ok h.1 dL_law_531 (by decide) ?_
  exact hk _ _ h.2
set_option maxHeartbeats 4000000 in
set_option maxRecDepth 20000 in
theorem law_12 {l : Launch} {g : ClT} {v : VxT} {u : VmT} {L i : Nat} {xs : Nat → Int32} {x3 : Int32} {S T : Mem} {K : Mem → Mem → Prop} (ok : OkL l g v u L xs) (ex3 : x3 = nI i) (hi : i + 6 ≤ L) (h : w_X7_feels (xs (i + 1)) S (fun r1 S1 => w_X8_feels (xs (i + 1)) T (fun r2 T1 => r1 = r2 ∧ K S1 T1))) (hk : ∀ S1 T1, K S1 T1 → GL g v u 1101 [(3, .int x3), (2, .ref (u.1 0)), (1, .ref (v.1 0)), (0, .ref g.2.2.2.2.2.2.2.2)] [] S1 T1) : GL g v u 536 [(3, .int x3), (2, .ref (u.1 0)), (1, .ref (v.1 0)), (0, .ref g.2.2.2.2.2.2.2.2)] [] S T := by
  refine gl_aload_n 2 (n := 537) ok dL_law_536 rfl rfl ?_
  refine gl_aload_n 3 (n := 538) ok dL_law_537 rfl rfl ?_
  refine gl_iload_n 0 (n := 539) ok dL_law_538 rfl rfl ?_
  refine gl_iconst (w := 1) (n := 540) ok dL_law_539 rfl (by decide) ?_
  refine gl_iadd (n := 541) ok dL_law_540 rfl ?_
  refine gl_sld (i + 1) (n := 542) ok dL_law_541 rfl (by rw [ex3]; exact nI_add i 1) (by omega) ?_
  refine gl_callXi (n := 545) (As := [.int (xs (i + 1))]) (rest := []) ok (c_X7_feels l v (xs (i + 1)) S _ h) cal_X7_feels tw_561 tw_562 tw_563 (by decide) (by decide) rfl (Nat.le_of_ble_eq_true rfl) dL_law_542 rfl rfl (fun r1 S1 h => ?_)
  refine gl_aload_n 1 (n := 546) ok dL_law_545 rfl rfl ?_
  refine gl_aload_n 3 (n := 547) ok dL_law_546 rfl rfl ?_
  refine gl_iload_n 0 (n := 548) ok dL_law_547 rfl rfl ?_
  refine gl_iconst (w := 1) (n := 549) ok dL_law_548 rfl (by decide) ?_
  refine gl_iadd (n := 550) ok dL_law_549 rfl ?_
  refine gl_sld (i + 1) (n := 551) ok dL_law_550 rfl (by rw [ex3]; exact nI_add i 1) (by omega) ?_
  refine gl_callMi (n := 554) (As := [.int (xs (i + 1))]) (rest := [.int r1]) ok (c_X8_feels l u (xs (i + 1)) T _ h) cal_X8_feels tw_1057 tw_1058 tw_1059 (by decide) (by decide) rfl (Nat.le_of_ble_eq_true rfl) dL_law_551 rfl rfl (fun r2 T1 h => ?_)
  refine gl_icmp_eq (t := 1101) ok h.1 dL_law_554 (by decide) ?_
  exact hk _ _ h.2
set_option maxHeartbeats 4000000 in
set_option maxRecDepth 20000 in
theorem law_13 {l : Launch} {g : ClT} {v : VxT} {u : VmT} {L i : Nat} {xs : Nat → Int32} {x3 : Int32} {S T : Mem} {K : Mem → Mem → Prop} (ok : OkL l g v u L xs) (ex3 : x3 = nI i) (hi : i + 6 ≤ L) (h : w_X7_best (xs (i + 1)) S (fun r1 S1 => w_X8_best (xs (i + 1)) T (fun r2 T1 => r1 = r2 ∧ K S1 T1))) (hk : ∀ S1 T1, K S1 T1 → GL g v u 1101 [(3, .int x3), (2, .ref (u.1 0)), (1, .ref (v.1 0)), (0, .ref g.2.2.2.2.2.2.2.2)] [] S1 T1) : GL g v u 559 [(3, .int x3), (2, .ref (u.1 0)), (1, .ref (v.1 0)), (0, .ref g.2.2.2.2.2.2.2.2)] [] S T := by
  refine gl_aload_n 2 (n := 560) ok dL_law_559 rfl rfl ?_
  refine gl_aload_n 3 (n := 561) ok dL_law_560 rfl rfl ?_
  refine gl_iload_n 0 (n := 562) ok dL_law_561 rfl rfl ?_
  refine gl_iconst (w := 1) (n := 563) ok dL_law_562 rfl (by decide) ?_
  refine gl_iadd (n := 564) ok dL_law_563 rfl ?_
  refine gl_sld (i + 1) (n := 565) ok dL_law_564 rfl (by rw [ex3]; exact nI_add i 1) (by omega) ?_
  refine gl_callXi (n := 568) (As := [.int (xs (i + 1))]) (rest := []) ok (c_X7_best l v (xs (i + 1)) S _ h) cal_X7_best tw_566 tw_567 tw_568 (by decide) (by decide) rfl (Nat.le_of_ble_eq_true rfl) dL_law_565 rfl rfl (fun r1 S1 h => ?_)
  refine gl_aload_n 1 (n := 569) ok dL_law_568 rfl rfl ?_
  refine gl_aload_n 3 (n := 570) ok dL_law_569 rfl rfl ?_
  refine gl_iload_n 0 (n := 571) ok dL_law_570 rfl rfl ?_
  refine gl_iconst (w := 1) (n := 572) ok dL_law_571 rfl (by decide) ?_
  refine gl_iadd (n := 573) ok dL_law_572 rfl ?_
  refine gl_sld (i + 1) (n := 574) ok dL_law_573 rfl (by rw [ex3]; exact nI_add i 1) (by omega) ?_
  refine gl_callMi (n := 577) (As := [.int (xs (i + 1))]) (rest := [.int r1]) ok (c_X8_best l u (xs (i + 1)) T _ h) cal_X8_best tw_1065 tw_1066 tw_1067 (by decide) (by decide) rfl (Nat.le_of_ble_eq_true rfl) dL_law_574 rfl rfl (fun r2 T1 h => ?_)
  refine gl_icmp_eq (t := 1101) ok h.1 dL_law_577 (by decide) ?_
  exact hk _ _ h.2
set_option maxHeartbeats 4000000 in
set_option maxRecDepth 20000 in
theorem law_14 {l : Launch} {g : ClT} {v : VxT} {u : VmT} {L i : Nat} {xs : Nat → Int32} {x3 : Int32} {S T : Mem} {K : Mem → Mem → Prop} (ok : OkL l g v u L xs) (ex3 : x3 = nI i) (hi : i + 6 ≤ L) (h : w_X7_turn (xs (i + 1)) S (fun r1 S1 => w_X8_turn (xs (i + 1)) T (fun r2 T1 => r1 = r2 ∧ K S1 T1))) (hk : ∀ S1 T1, K S1 T1 → GL g v u 1101 [(3, .int x3), (2, .ref (u.1 0)), (1, .ref (v.1 0)), (0, .ref g.2.2.2.2.2.2.2.2)] [] S1 T1) : GL g v u 582 [(3, .int x3), (2, .ref (u.1 0)), (1, .ref (v.1 0)), (0, .ref g.2.2.2.2.2.2.2.2)] [] S T := by
  refine gl_aload_n 2 (n := 583) ok dL_law_582 rfl rfl ?_
  refine gl_aload_n 3 (n := 584) ok dL_law_583 rfl rfl ?_
  refine gl_iload_n 0 (n := 585) ok dL_law_584 rfl rfl ?_
  refine gl_iconst (w := 1) (n := 586) ok dL_law_585 rfl (by decide) ?_
  refine gl_iadd (n := 587) ok dL_law_586 rfl ?_
  refine gl_sld (i + 1) (n := 588) ok dL_law_587 rfl (by rw [ex3]; exact nI_add i 1) (by omega) ?_
  refine gl_callXi (n := 591) (As := [.int (xs (i + 1))]) (rest := []) ok (c_X7_turn l v (xs (i + 1)) S _ h) cal_X7_turn tw_574 tw_575 tw_576 (by decide) (by decide) rfl (Nat.le_of_ble_eq_true rfl) dL_law_588 rfl rfl (fun r1 S1 h => ?_)
  refine gl_aload_n 1 (n := 592) ok dL_law_591 rfl rfl ?_
  refine gl_aload_n 3 (n := 593) ok dL_law_592 rfl rfl ?_
  refine gl_iload_n 0 (n := 594) ok dL_law_593 rfl rfl ?_
  refine gl_iconst (w := 1) (n := 595) ok dL_law_594 rfl (by decide) ?_
  refine gl_iadd (n := 596) ok dL_law_595 rfl ?_
  refine gl_sld (i + 1) (n := 597) ok dL_law_596 rfl (by rw [ex3]; exact nI_add i 1) (by omega) ?_
  refine gl_callMi (n := 600) (As := [.int (xs (i + 1))]) (rest := [.int r1]) ok (c_X8_turn l u (xs (i + 1)) T _ h) cal_X8_turn tw_1070 tw_1071 tw_1072 (by decide) (by decide) rfl (Nat.le_of_ble_eq_true rfl) dL_law_597 rfl rfl (fun r2 T1 h => ?_)
  refine gl_icmp_eq (t := 1101) ok h.1 dL_law_600 (by decide) ?_
  exact hk _ _ h.2
set_option maxHeartbeats 4000000 in
set_option maxRecDepth 20000 in
theorem law_15 {l : Launch} {g : ClT} {v : VxT} {u : VmT} {L i : Nat} {xs : Nat → Int32} {x3 : Int32} {S T : Mem} {K : Mem → Mem → Prop} (ok : OkL l g v u L xs) (ex3 : x3 = nI i) (hi : i + 6 ≤ L) (h : w_X7_wedge  S (fun r1 S1 => w_X8_wedge  T (fun r2 T1 => r1 = r2 ∧ K S1 T1))) (hk : ∀ S1 T1, K S1 T1 → GL g v u 1101 [(3, .int x3), (2, .ref (u.1 0)), (1, .ref (v.1 0)), (0, .ref g.2.2.2.2.2.2.2.2)] [] S1 T1) : GL g v u 605 [(3, .int x3), (2, .ref (u.1 0)), (1, .ref (v.1 0)), (0, .ref g.2.2.2.2.2.2.2.2)] [] S T := by
  refine gl_aload_n 2 (n := 606) ok dL_law_605 rfl rfl ?_
  refine gl_callXi (n := 609) (As := []) (rest := []) ok (c_X7_wedge l v  S _ h) cal_X7_wedge tw_582 tw_583 tw_584 (by decide) (by decide) rfl (Nat.le_of_ble_eq_true rfl) dL_law_606 rfl rfl (fun r1 S1 h => ?_)
  refine gl_aload_n 1 (n := 610) ok dL_law_609 rfl rfl ?_
  refine gl_callMi (n := 613) (As := []) (rest := [.int r1]) ok (c_X8_wedge l u  T _ h) cal_X8_wedge tw_1075 tw_1076 tw_1077 (by decide) (by decide) rfl (Nat.le_of_ble_eq_true rfl) dL_law_610 rfl rfl (fun r2 T1 h => ?_)
  refine gl_icmp_eq (t := 1101) ok h.1 dL_law_613 (by decide) ?_
  exact hk _ _ h.2
set_option maxHeartbeats 4000000 in
set_option maxRecDepth 20000 in
theorem law_16 {l : Launch} {g : ClT} {v : VxT} {u : VmT} {L i : Nat} {xs : Nat → Int32} {x3 : Int32} {S T : Mem} {K : Mem → Mem → Prop} (ok : OkL l g v u L xs) (ex3 : x3 = nI i) (hi : i + 6 ≤ L) (h : w_X7_saw  S (fun r1 S1 => w_X8_saw  T (fun r2 T1 => r1 = r2 ∧ K S1 T1))) (hk : ∀ S1 T1, K S1 T1 → GL g v u 1101 [(3, .int x3), (2, .ref (u.1 0)), (1, .ref (v.1 0)), (0, .ref g.2.2.2.2.2.2.2.2)] [] S1 T1) : GL g v u 618 [(3, .int x3), (2, .ref (u.1 0)), (1, .ref (v.1 0)), (0, .ref g.2.2.2.2.2.2.2.2)] [] S T := by
  refine gl_aload_n 2 (n := 619) ok dL_law_618 rfl rfl ?_
  refine gl_callXi (n := 622) (As := []) (rest := []) ok (c_X7_saw l v  S _ h) cal_X7_saw tw_588 tw_589 tw_590 (by decide) (by decide) rfl (Nat.le_of_ble_eq_true rfl) dL_law_619 rfl rfl (fun r1 S1 h => ?_)
  refine gl_aload_n 1 (n := 623) ok dL_law_622 rfl rfl ?_
  refine gl_callMi (n := 626) (As := []) (rest := [.int r1]) ok (c_X8_saw l u  T _ h) cal_X8_saw tw_1079 tw_1080 tw_1081 (by decide) (by decide) rfl (Nat.le_of_ble_eq_true rfl) dL_law_623 rfl rfl (fun r2 T1 h => ?_)
  refine gl_icmp_eq (t := 1101) ok h.1 dL_law_626 (by decide) ?_
  exact hk _ _ h.2
set_option maxHeartbeats 4000000 in
set_option maxRecDepth 20000 in
theorem law_17 {l : Launch} {g : ClT} {v : VxT} {u : VmT} {L i : Nat} {xs : Nat → Int32} {x3 : Int32} {S T : Mem} {K : Mem → Mem → Prop} (ok : OkL l g v u L xs) (ex3 : x3 = nI i) (hi : i + 6 ≤ L) (h : w_X7_screwed  S (fun r1 S1 => w_X8_screwed  T (fun r2 T1 => r1 = r2 ∧ K S1 T1))) (hk : ∀ S1 T1, K S1 T1 → GL g v u 1101 [(3, .int x3), (2, .ref (u.1 0)), (1, .ref (v.1 0)), (0, .ref g.2.2.2.2.2.2.2.2)] [] S1 T1) : GL g v u 631 [(3, .int x3), (2, .ref (u.1 0)), (1, .ref (v.1 0)), (0, .ref g.2.2.2.2.2.2.2.2)] [] S T := by
  refine gl_aload_n 2 (n := 632) ok dL_law_631 rfl rfl ?_
  refine gl_callXi (n := 635) (As := []) (rest := []) ok (c_X7_screwed l v  S _ h) cal_X7_screwed tw_596 tw_597 tw_598 (by decide) (by decide) rfl (Nat.le_of_ble_eq_true rfl) dL_law_632 rfl rfl (fun r1 S1 h => ?_)
  refine gl_aload_n 1 (n := 636) ok dL_law_635 rfl rfl ?_
  refine gl_callMi (n := 639) (As := []) (rest := [.int r1]) ok (c_X8_screwed l u  T _ h) cal_X8_screwed tw_1083 tw_1084 tw_1085 (by decide) (by decide) rfl (Nat.le_of_ble_eq_true rfl) dL_law_636 rfl rfl (fun r2 T1 h => ?_)
  refine gl_icmp_eq (t := 1101) ok h.1 dL_law_639 (by decide) ?_
  exact hk _ _ h.2
set_option maxHeartbeats 4000000 in
set_option maxRecDepth 20000 in
theorem law_18 {l : Launch} {g : ClT} {v : VxT} {u : VmT} {L i : Nat} {xs : Nat → Int32} {x3 : Int32} {S T : Mem} {K : Mem → Mem → Prop} (ok : OkL l g v u L xs) (ex3 : x3 = nI i) (hi : i + 6 ≤ L) (h : w_X7_blame (xs (i + 1)) S (fun r1 S1 => w_X8_blame (xs (i + 1)) T (fun r2 T1 => r1 = r2 ∧ K S1 T1))) (hk : ∀ S1 T1, K S1 T1 → GL g v u 1101 [(3, .int x3), (2, .ref (u.1 0)), (1, .ref (v.1 0)), (0, .ref g.2.2.2.2.2.2.2.2)] [] S1 T1) : GL g v u 644 [(3, .int x3), (2, .ref (u.1 0)), (1, .ref (v.1 0)), (0, .ref g.2.2.2.2.2.2.2.2)] [] S T := by
  refine gl_aload_n 2 (n := 645) ok dL_law_644 rfl rfl ?_
  refine gl_aload_n 3 (n := 646) ok dL_law_645 rfl rfl ?_
  refine gl_iload_n 0 (n := 647) ok dL_law_646 rfl rfl ?_
  refine gl_iconst (w := 1) (n := 648) ok dL_law_647 rfl (by decide) ?_
  refine gl_iadd (n := 649) ok dL_law_648 rfl ?_
  refine gl_sld (i + 1) (n := 650) ok dL_law_649 rfl (by rw [ex3]; exact nI_add i 1) (by omega) ?_
  refine gl_callXi (n := 653) (As := [.int (xs (i + 1))]) (rest := []) ok (c_X7_blame l v (xs (i + 1)) S _ h) cal_X7_blame tw_628 tw_629 tw_630 (by decide) (by decide) rfl (Nat.le_of_ble_eq_true rfl) dL_law_650 rfl rfl (fun r1 S1 h => ?_)
  refine gl_aload_n 1 (n := 654) ok dL_law_653 rfl rfl ?_
  refine gl_aload_n 3 (n := 655) ok dL_law_654 rfl rfl ?_
  refine gl_iload_n 0 (n := 656) ok dL_law_655 rfl rfl ?_
  refine gl_iconst (w := 1) (n := 657) ok dL_law_656 rfl (by decide) ?_
  refine gl_iadd (n := 658) ok dL_law_657 rfl ?_
  refine gl_sld (i + 1) (n := 659) ok dL_law_658 rfl (by rw [ex3]; exact nI_add i 1) (by omega) ?_
  refine gl_callMi (n := 662) (As := [.int (xs (i + 1))]) (rest := [.int r1]) ok (c_X8_blame l u (xs (i + 1)) T _ h) cal_X8_blame tw_1092 tw_1093 tw_1094 (by decide) (by decide) rfl (Nat.le_of_ble_eq_true rfl) dL_law_659 rfl rfl (fun r2 T1 h => ?_)
  refine gl_icmp_eq (t := 1101) ok h.1 dL_law_662 (by decide) ?_
  exact hk _ _ h.2
set_option maxHeartbeats 4000000 in
set_option maxRecDepth 20000 in
theorem law_19 {l : Launch} {g : ClT} {v : VxT} {u : VmT} {L i : Nat} {xs : Nat → Int32} {x3 : Int32} {S T : Mem} {K : Mem → Mem → Prop} (ok : OkL l g v u L xs) (ex3 : x3 = nI i) (hi : i + 6 ≤ L) (h : w_X7_beside (xs (i + 1)) S (fun r1 S1 => w_X8_beside (xs (i + 1)) T (fun r2 T1 => r1 = r2 ∧ K S1 T1))) (hk : ∀ S1 T1, K S1 T1 → GL g v u 1101 [(3, .int x3), (2, .ref (u.1 0)), (1, .ref (v.1 0)), (0, .ref g.2.2.2.2.2.2.2.2)] [] S1 T1) : GL g v u 667 [(3, .int x3), (2, .ref (u.1 0)), (1, .ref (v.1 0)), (0, .ref g.2.2.2.2.2.2.2.2)] [] S T := by
  refine gl_aload_n 2 (n := 668) ok dL_law_667 rfl rfl ?_
  refine gl_aload_n 3 (n := 669) ok dL_law_668 rfl rfl ?_
  refine gl_iload_n 0 (n := 670) ok dL_law_669 rfl rfl ?_
  refine gl_iconst (w := 1) (n := 671) ok dL_law_670 rfl (by decide) ?_
  refine gl_iadd (n := 672) ok dL_law_671 rfl ?_
  refine gl_sld (i + 1) (n := 673) ok dL_law_672 rfl (by rw [ex3]; exact nI_add i 1) (by omega) ?_
  refine gl_callXi (n := 676) (As := [.int (xs (i + 1))]) (rest := []) ok (c_X7_beside l v (xs (i + 1)) S _ h) cal_X7_beside tw_636 tw_637 tw_638 (by decide) (by decide) rfl (Nat.le_of_ble_eq_true rfl) dL_law_673 rfl rfl (fun r1 S1 h => ?_)
  refine gl_aload_n 1 (n := 677) ok dL_law_676 rfl rfl ?_
  refine gl_aload_n 3 (n := 678) ok dL_law_677 rfl rfl ?_
  refine gl_iload_n 0 (n := 679) ok dL_law_678 rfl rfl ?_
  refine gl_iconst (w := 1) (n := 680) ok dL_law_679 rfl (by decide) ?_
  refine gl_iadd (n := 681) ok dL_law_680 rfl ?_
  refine gl_sld (i + 1) (n := 682) ok dL_law_681 rfl (by rw [ex3]; exact nI_add i 1) (by omega) ?_
  refine gl_callMi (n := 685) (As := [.int (xs (i + 1))]) (rest := [.int r1]) ok (c_X8_beside l u (xs (i + 1)) T _ h) cal_X8_beside tw_1096 tw_1097 tw_1098 (by decide) (by decide) rfl (Nat.le_of_ble_eq_true rfl) dL_law_682 rfl rfl (fun r2 T1 h => ?_)
  refine gl_icmp_eq (t := 1101) ok h.1 dL_law_685 (by decide) ?_
  exact hk _ _ h.2
set_option maxHeartbeats 4000000 in
set_option maxRecDepth 20000 in
theorem law_20 {l : Launch} {g : ClT} {v : VxT} {u : VmT} {L i : Nat} {xs : Nat → Int32} {x3 : Int32} {S T : Mem} {K : Mem → Mem → Prop} (ok : OkL l g v u L xs) (ex3 : x3 = nI i) (hi : i + 6 ≤ L) (h : w_X7_sit  S (fun r1 S1 => w_X8_sit  T (fun r2 T1 => r1 = r2 ∧ K S1 T1))) (hk : ∀ S1 T1, K S1 T1 → GL g v u 1101 [(3, .int x3), (2, .ref (u.1 0)), (1, .ref (v.1 0)), (0, .ref g.2.2.2.2.2.2.2.2)] [] S1 T1) : GL g v u 690 [(3, .int x3), (2, .ref (u.1 0)), (1, .ref (v.1 0)), (0, .ref g.2.2.2.2.2.2.2.2)] [] S T := by
  refine gl_aload_n 2 (n := 691) ok dL_law_690 rfl rfl ?_
  refine gl_callXi (n := 694) (As := []) (rest := []) ok (c_X7_sit l v  S _ h) cal_X7_sit tw_644 tw_645 tw_646 (by decide) (by decide) rfl (Nat.le_of_ble_eq_true rfl) dL_law_691 rfl rfl (fun r1 S1 h => ?_)
  refine gl_aload_n 1 (n := 695) ok dL_law_694 rfl rfl ?_
  refine gl_callMi (n := 698) (As := []) (rest := [.int r1]) ok (c_X8_sit l u  T _ h) cal_X8_sit tw_1103 tw_1104 tw_1105 (by decide) (by decide) rfl (Nat.le_of_ble_eq_true rfl) dL_law_695 rfl rfl (fun r2 T1 h => ?_)
  refine gl_icmp_eq (t := 1101) ok h.1 dL_law_698 (by decide) ?_
  exact hk _ _ h.2
set_option maxHeartbeats 4000000 in
set_option maxRecDepth 20000 in
theorem law_21 {l : Launch} {g : ClT} {v : VxT} {u : VmT} {L i : Nat} {xs : Nat → Int32} {x3 : Int32} {S T : Mem} {K : Mem → Mem → Prop} (ok : OkL l g v u L xs) (ex3 : x3 = nI i) (hi : i + 6 ≤ L) (h : w_X7_judge (xs (i + 1)) S (fun r1 S1 => w_X8_judge (xs (i + 1)) T (fun r2 T1 => r1 = r2 ∧ K S1 T1))) (hk : ∀ S1 T1, K S1 T1 → GL g v u 1101 [(3, .int x3), (2, .ref (u.1 0)), (1, .ref (v.1 0)), (0, .ref g.2.2.2.2.2.2.2.2)] [] S1 T1) : GL g v u 703 [(3, .int x3), (2, .ref (u.1 0)), (1, .ref (v.1 0)), (0, .ref g.2.2.2.2.2.2.2.2)] [] S T := by
  refine gl_aload_n 2 (n := 704) ok dL_law_703 rfl rfl ?_
  refine gl_aload_n 3 (n := 705) ok dL_law_704 rfl rfl ?_
  refine gl_iload_n 0 (n := 706) ok dL_law_705 rfl rfl ?_
  refine gl_iconst (w := 1) (n := 707) ok dL_law_706 rfl (by decide) ?_
  refine gl_iadd (n := 708) ok dL_law_707 rfl ?_
  refine gl_sld (i + 1) (n := 709) ok dL_law_708 rfl (by rw [ex3]; exact nI_add i 1) (by omega) ?_
  refine gl_callXi (n := 712) (As := [.int (xs (i + 1))]) (rest := []) ok (c_X7_judge l v (xs (i + 1)) S _ h) cal_X7_judge tw_648 tw_649 tw_650 (by decide) (by decide) rfl (Nat.le_of_ble_eq_true rfl) dL_law_709 rfl rfl (fun r1 S1 h => ?_)
  refine gl_aload_n 1 (n := 713) ok dL_law_712 rfl rfl ?_
  refine gl_aload_n 3 (n := 714) ok dL_law_713 rfl rfl ?_
  refine gl_iload_n 0 (n := 715) ok dL_law_714 rfl rfl ?_
  refine gl_iconst (w := 1) (n := 716) ok dL_law_715 rfl (by decide) ?_
  refine gl_iadd (n := 717) ok dL_law_716 rfl ?_
  refine gl_sld (i + 1) (n := 718) ok dL_law_717 rfl (by rw [ex3]; exact nI_add i 1) (by omega) ?_
  refine gl_callMi (n := 721) (As := [.int (xs (i + 1))]) (rest := [.int r1]) ok (c_X8_judge l u (xs (i + 1)) T _ h) cal_X8_judge tw_1107 tw_1108 tw_1109 (by decide) (by decide) rfl (Nat.le_of_ble_eq_true rfl) dL_law_718 rfl rfl (fun r2 T1 h => ?_)
  refine gl_icmp_eq (t := 1101) ok h.1 dL_law_721 (by decide) ?_
  exact hk _ _ h.2
set_option maxHeartbeats 4000000 in
set_option maxRecDepth 20000 in
theorem law_22 {l : Launch} {g : ClT} {v : VxT} {u : VmT} {L i : Nat} {xs : Nat → Int32} {x3 : Int32} {S T : Mem} {K : Mem → Mem → Prop} (ok : OkL l g v u L xs) (ex3 : x3 = nI i) (hi : i + 6 ≤ L) (h : w_X7_which (xs (i + 1)) S (fun r1 S1 => w_X8_which (xs (i + 1)) T (fun r2 T1 => r1 = r2 ∧ K S1 T1))) (hk : ∀ S1 T1, K S1 T1 → GL g v u 1101 [(3, .int x3), (2, .ref (u.1 0)), (1, .ref (v.1 0)), (0, .ref g.2.2.2.2.2.2.2.2)] [] S1 T1) : GL g v u 726 [(3, .int x3), (2, .ref (u.1 0)), (1, .ref (v.1 0)), (0, .ref g.2.2.2.2.2.2.2.2)] [] S T := by
  refine gl_aload_n 2 (n := 727) ok dL_law_726 rfl rfl ?_
  refine gl_aload_n 3 (n := 728) ok dL_law_727 rfl rfl ?_
  refine gl_iload_n 0 (n := 729) ok dL_law_728 rfl rfl ?_
  refine gl_iconst (w := 1) (n := 730) ok dL_law_729 rfl (by decide) ?_
  refine gl_iadd (n := 731) ok dL_law_730 rfl ?_
  refine gl_sld (i + 1) (n := 732) ok dL_law_731 rfl (by rw [ex3]; exact nI_add i 1) (by omega) ?_
  refine gl_callXl (n := 735) (As := [.int (xs (i + 1))]) (rest := []) ok (c_X7_which l v (xs (i + 1)) S _ h) cal_X7_which tw_668 tw_669 tw_670 (by decide) (by decide) rfl (Nat.le_of_ble_eq_true rfl) dL_law_732 rfl rfl (fun r1 S1 h => ?_)
  refine gl_aload_n 1 (n := 736) ok dL_law_735 rfl rfl ?_
  refine gl_aload_n 3 (n := 737) ok dL_law_736 rfl rfl ?_
  refine gl_iload_n 0 (n := 738) ok dL_law_737 rfl rfl ?_
  refine gl_iconst (w := 1) (n := 739) ok dL_law_738 rfl (by decide) ?_
  refine gl_iadd (n := 740) ok dL_law_739 rfl ?_
  refine gl_sld (i + 1) (n := 741) ok dL_law_740 rfl (by rw [ex3]; exact nI_add i 1) (by omega) ?_
  refine gl_callMl (n := 744) (As := [.int (xs (i + 1))]) (rest := [.long r1]) ok (c_X8_which l u (xs (i + 1)) T _ h) cal_X8_which tw_1116 tw_1117 tw_1118 (by decide) (by decide) rfl (Nat.le_of_ble_eq_true rfl) dL_law_741 rfl rfl (fun r2 T1 h => ?_)
  refine gl_lcmp (n := 745) ok dL_law_744 rfl ?_
  refine gl_if_eq (t := 1101) ok (by rw [h.1]; simp [lg_cmp]) dL_law_745 (by decide) ?_
  exact hk _ _ h.2
set_option maxHeartbeats 4000000 in
set_option maxRecDepth 20000 in
theorem law_23 {l : Launch} {g : ClT} {v : VxT} {u : VmT} {L i : Nat} {xs : Nat → Int32} {x3 : Int32} {S T : Mem} {K : Mem → Mem → Prop} (ok : OkL l g v u L xs) (ex3 : x3 = nI i) (hi : i + 6 ≤ L) (h : w_X7_drawn (xs (i + 1)) S (fun r1 S1 => w_X8_drawn (xs (i + 1)) T (fun r2 T1 => r1 = r2 ∧ K S1 T1))) (hk : ∀ S1 T1, K S1 T1 → GL g v u 1101 [(3, .int x3), (2, .ref (u.1 0)), (1, .ref (v.1 0)), (0, .ref g.2.2.2.2.2.2.2.2)] [] S1 T1) : GL g v u 750 [(3, .int x3), (2, .ref (u.1 0)), (1, .ref (v.1 0)), (0, .ref g.2.2.2.2.2.2.2.2)] [] S T := by
  refine gl_aload_n 2 (n := 751) ok dL_law_750 rfl rfl ?_
  refine gl_aload_n 3 (n := 752) ok dL_law_751 rfl rfl ?_
  refine gl_iload_n 0 (n := 753) ok dL_law_752 rfl rfl ?_
  refine gl_iconst (w := 1) (n := 754) ok dL_law_753 rfl (by decide) ?_
  refine gl_iadd (n := 755) ok dL_law_754 rfl ?_
  refine gl_sld (i + 1) (n := 756) ok dL_law_755 rfl (by rw [ex3]; exact nI_add i 1) (by omega) ?_
  refine gl_callXi (n := 759) (As := [.int (xs (i + 1))]) (rest := []) ok (c_X7_drawn l v (xs (i + 1)) S _ h) cal_X7_drawn tw_673 tw_674 tw_675 (by decide) (by decide) rfl (Nat.le_of_ble_eq_true rfl) dL_law_756 rfl rfl (fun r1 S1 h => ?_)
  refine gl_aload_n 1 (n := 760) ok dL_law_759 rfl rfl ?_
  refine gl_aload_n 3 (n := 761) ok dL_law_760 rfl rfl ?_
  refine gl_iload_n 0 (n := 762) ok dL_law_761 rfl rfl ?_
  refine gl_iconst (w := 1) (n := 763) ok dL_law_762 rfl (by decide) ?_
  refine gl_iadd (n := 764) ok dL_law_763 rfl ?_
  refine gl_sld (i + 1) (n := 765) ok dL_law_764 rfl (by rw [ex3]; exact nI_add i 1) (by omega) ?_
  refine gl_callMi (n := 768) (As := [.int (xs (i + 1))]) (rest := [.int r1]) ok (c_X8_drawn l u (xs (i + 1)) T _ h) cal_X8_drawn tw_1121 tw_1122 tw_1123 (by decide) (by decide) rfl (Nat.le_of_ble_eq_true rfl) dL_law_765 rfl rfl (fun r2 T1 h => ?_)
  refine gl_icmp_eq (t := 1101) ok h.1 dL_law_768 (by decide) ?_
  exact hk _ _ h.2
set_option maxHeartbeats 4000000 in
set_option maxRecDepth 20000 in
theorem law_24 {l : Launch} {g : ClT} {v : VxT} {u : VmT} {L i : Nat} {xs : Nat → Int32} {x3 : Int32} {S T : Mem} {K : Mem → Mem → Prop} (ok : OkL l g v u L xs) (ex3 : x3 = nI i) (hi : i + 6 ≤ L) (h : w_X7_odds (xs (i + 1)) (xs (i + 2)) (xs (i + 3)) S (fun r1 S1 => w_X8_odds (xs (i + 1)) (xs (i + 2)) (xs (i + 3)) T (fun r2 T1 => r1 = r2 ∧ K S1 T1))) (hk : ∀ S1 T1, K S1 T1 → GL g v u 1101 [(3, .int x3), (2, .ref (u.1 0)), (1, .ref (v.1 0)), (0, .ref g.2.2.2.2.2.2.2.2)] [] S1 T1) : GL g v u 773 [(3, .int x3), (2, .ref (u.1 0)), (1, .ref (v.1 0)), (0, .ref g.2.2.2.2.2.2.2.2)] [] S T := by
  refine gl_aload_n 2 (n := 774) ok dL_law_773 rfl rfl ?_
  refine gl_aload_n 3 (n := 775) ok dL_law_774 rfl rfl ?_
  refine gl_iload_n 0 (n := 776) ok dL_law_775 rfl rfl ?_
  refine gl_iconst (w := 1) (n := 777) ok dL_law_776 rfl (by decide) ?_
  refine gl_iadd (n := 778) ok dL_law_777 rfl ?_
  refine gl_sld (i + 1) (n := 779) ok dL_law_778 rfl (by rw [ex3]; exact nI_add i 1) (by omega) ?_
  refine gl_aload_n 3 (n := 780) ok dL_law_779 rfl rfl ?_
  refine gl_iload_n 0 (n := 781) ok dL_law_780 rfl rfl ?_
  refine gl_iconst (w := 2) (n := 782) ok dL_law_781 rfl (by decide) ?_
  refine gl_iadd (n := 783) ok dL_law_782 rfl ?_
  refine gl_sld (i + 2) (n := 784) ok dL_law_783 rfl (by rw [ex3]; exact nI_add i 2) (by omega) ?_
  refine gl_aload_n 3 (n := 785) ok dL_law_784 rfl rfl ?_
  refine gl_iload_n 0 (n := 786) ok dL_law_785 rfl rfl ?_
  refine gl_iconst (w := 3) (n := 787) ok dL_law_786 rfl (by decide) ?_
  refine gl_iadd (n := 788) ok dL_law_787 rfl ?_
  refine gl_sld (i + 3) (n := 789) ok dL_law_788 rfl (by rw [ex3]; exact nI_add i 3) (by omega) ?_
  refine gl_callXl (n := 792) (As := [.int (xs (i + 1)), .int (xs (i + 2)), .int (xs (i + 3))]) (rest := []) ok (c_X7_odds l v (xs (i + 1)) (xs (i + 2)) (xs (i + 3)) S _ h) cal_X7_odds tw_681 tw_682 tw_683 (by decide) (by decide) rfl (Nat.le_of_ble_eq_true rfl) dL_law_789 rfl rfl (fun r1 S1 h => ?_)
  refine gl_aload_n 1 (n := 793) ok dL_law_792 rfl rfl ?_
  refine gl_aload_n 3 (n := 794) ok dL_law_793 rfl rfl ?_
  refine gl_iload_n 0 (n := 795) ok dL_law_794 rfl rfl ?_
  refine gl_iconst (w := 1) (n := 796) ok dL_law_795 rfl (by decide) ?_
  refine gl_iadd (n := 797) ok dL_law_796 rfl ?_
  refine gl_sld (i + 1) (n := 798) ok dL_law_797 rfl (by rw [ex3]; exact nI_add i 1) (by omega) ?_
  refine gl_aload_n 3 (n := 799) ok dL_law_798 rfl rfl ?_
  refine gl_iload_n 0 (n := 800) ok dL_law_799 rfl rfl ?_
  refine gl_iconst (w := 2) (n := 801) ok dL_law_800 rfl (by decide) ?_
  refine gl_iadd (n := 802) ok dL_law_801 rfl ?_
  refine gl_sld (i + 2) (n := 803) ok dL_law_802 rfl (by rw [ex3]; exact nI_add i 2) (by omega) ?_
  refine gl_aload_n 3 (n := 804) ok dL_law_803 rfl rfl ?_
  refine gl_iload_n 0 (n := 805) ok dL_law_804 rfl rfl ?_
  refine gl_iconst (w := 3) (n := 806) ok dL_law_805 rfl (by decide) ?_
  refine gl_iadd (n := 807) ok dL_law_806 rfl ?_
  refine gl_sld (i + 3) (n := 808) ok dL_law_807 rfl (by rw [ex3]; exact nI_add i 3) (by omega) ?_
  refine gl_callMl (n := 811) (As := [.int (xs (i + 1)), .int (xs (i + 2)), .int (xs (i + 3))]) (rest := [.long r1]) ok (c_X8_odds l u (xs (i + 1)) (xs (i + 2)) (xs (i + 3)) T _ h) cal_X8_odds tw_1130 tw_1131 tw_1132 (by decide) (by decide) rfl (Nat.le_of_ble_eq_true rfl) dL_law_808 rfl rfl (fun r2 T1 h => ?_)
  refine gl_lcmp (n := 812) ok dL_law_811 rfl ?_
  refine gl_if_eq (t := 1101) ok (by rw [h.1]; simp [lg_cmp]) dL_law_812 (by decide) ?_
  exact hk _ _ h.2
set_option maxHeartbeats 4000000 in
set_option maxRecDepth 20000 in
theorem law_25 {l : Launch} {g : ClT} {v : VxT} {u : VmT} {L i : Nat} {xs : Nat → Int32} {x3 : Int32} {S T : Mem} {K : Mem → Mem → Prop} (ok : OkL l g v u L xs) (ex3 : x3 = nI i) (hi : i + 6 ≤ L) (h : w_X7_image  S (fun r1 S1 => w_X8_image  T (fun r2 T1 => r1 = r2 ∧ K S1 T1))) (hk : ∀ S1 T1, K S1 T1 → GL g v u 1101 [(3, .int x3), (2, .ref (u.1 0)), (1, .ref (v.1 0)), (0, .ref g.2.2.2.2.2.2.2.2)] [] S1 T1) : GL g v u 817 [(3, .int x3), (2, .ref (u.1 0)), (1, .ref (v.1 0)), (0, .ref g.2.2.2.2.2.2.2.2)] [] S T := by
  refine gl_aload_n 2 (n := 818) ok dL_law_817 rfl rfl ?_
  refine gl_callXi (n := 821) (As := []) (rest := []) ok (c_X7_image l v  S _ h) cal_X7_image tw_689 tw_690 tw_691 (by decide) (by decide) rfl (Nat.le_of_ble_eq_true rfl) dL_law_818 rfl rfl (fun r1 S1 h => ?_)
  refine gl_aload_n 1 (n := 822) ok dL_law_821 rfl rfl ?_
  refine gl_callMi (n := 825) (As := []) (rest := [.int r1]) ok (c_X8_image l u  T _ h) cal_X8_image tw_1161 tw_1162 tw_1163 (by decide) (by decide) rfl (Nat.le_of_ble_eq_true rfl) dL_law_822 rfl rfl (fun r2 T1 h => ?_)
  refine gl_icmp_eq (t := 1101) ok h.1 dL_law_825 (by decide) ?_
  exact hk _ _ h.2
set_option maxHeartbeats 4000000 in
set_option maxRecDepth 20000 in
theorem law_26 {l : Launch} {g : ClT} {v : VxT} {u : VmT} {L i : Nat} {xs : Nat → Int32} {x3 : Int32} {S T : Mem} {K : Mem → Mem → Prop} (ok : OkL l g v u L xs) (ex3 : x3 = nI i) (hi : i + 6 ≤ L) (h : w_X7_back  S (fun r1 S1 => w_X8_back  T (fun r2 T1 => r1 = r2 ∧ K S1 T1))) (hk : ∀ S1 T1, K S1 T1 → GL g v u 1101 [(3, .int x3), (2, .ref (u.1 0)), (1, .ref (v.1 0)), (0, .ref g.2.2.2.2.2.2.2.2)] [] S1 T1) : GL g v u 830 [(3, .int x3), (2, .ref (u.1 0)), (1, .ref (v.1 0)), (0, .ref g.2.2.2.2.2.2.2.2)] [] S T := by
  refine gl_aload_n 2 (n := 831) ok dL_law_830 rfl rfl ?_
  refine gl_callXi (n := 834) (As := []) (rest := []) ok (c_X7_back l v  S _ h) cal_X7_back tw_698 tw_699 tw_700 (by decide) (by decide) rfl (Nat.le_of_ble_eq_true rfl) dL_law_831 rfl rfl (fun r1 S1 h => ?_)
  refine gl_aload_n 1 (n := 835) ok dL_law_834 rfl rfl ?_
  refine gl_callMi (n := 838) (As := []) (rest := [.int r1]) ok (c_X8_back l u  T _ h) cal_X8_back tw_1173 tw_1174 tw_1175 (by decide) (by decide) rfl (Nat.le_of_ble_eq_true rfl) dL_law_835 rfl rfl (fun r2 T1 h => ?_)
  refine gl_icmp_eq (t := 1101) ok h.1 dL_law_838 (by decide) ?_
  exact hk _ _ h.2
set_option maxHeartbeats 4000000 in
set_option maxRecDepth 20000 in
theorem law_27 {l : Launch} {g : ClT} {v : VxT} {u : VmT} {L i : Nat} {xs : Nat → Int32} {x3 : Int32} {S T : Mem} {K : Mem → Mem → Prop} (ok : OkL l g v u L xs) (ex3 : x3 = nI i) (hi : i + 6 ≤ L) (h : w_X7_count (xs (i + 1)) S (fun r1 S1 => w_X8_count (xs (i + 1)) T (fun r2 T1 => r1 = r2 ∧ K S1 T1))) (hk : ∀ S1 T1, K S1 T1 → GL g v u 1101 [(3, .int x3), (2, .ref (u.1 0)), (1, .ref (v.1 0)), (0, .ref g.2.2.2.2.2.2.2.2)] [] S1 T1) : GL g v u 843 [(3, .int x3), (2, .ref (u.1 0)), (1, .ref (v.1 0)), (0, .ref g.2.2.2.2.2.2.2.2)] [] S T := by
  refine gl_aload_n 2 (n := 844) ok dL_law_843 rfl rfl ?_
  refine gl_aload_n 3 (n := 845) ok dL_law_844 rfl rfl ?_
  refine gl_iload_n 0 (n := 846) ok dL_law_845 rfl rfl ?_
  refine gl_iconst (w := 1) (n := 847) ok dL_law_846 rfl (by decide) ?_
  refine gl_iadd (n := 848) ok dL_law_847 rfl ?_
  refine gl_sld (i + 1) (n := 849) ok dL_law_848 rfl (by rw [ex3]; exact nI_add i 1) (by omega) ?_
  refine gl_callXi (n := 852) (As := [.int (xs (i + 1))]) (rest := []) ok (c_X7_count l v (xs (i + 1)) S _ h) cal_X7_count tw_702 tw_703 tw_704 (by decide) (by decide) rfl (Nat.le_of_ble_eq_true rfl) dL_law_849 rfl rfl (fun r1 S1 h => ?_)
  refine gl_aload_n 1 (n := 853) ok dL_law_852 rfl rfl ?_
  refine gl_aload_n 3 (n := 854) ok dL_law_853 rfl rfl ?_
  refine gl_iload_n 0 (n := 855) ok dL_law_854 rfl rfl ?_
  refine gl_iconst (w := 1) (n := 856) ok dL_law_855 rfl (by decide) ?_
  refine gl_iadd (n := 857) ok dL_law_856 rfl ?_
  refine gl_sld (i + 1) (n := 858) ok dL_law_857 rfl (by rw [ex3]; exact nI_add i 1) (by omega) ?_
  refine gl_callMi (n := 861) (As := [.int (xs (i + 1))]) (rest := [.int r1]) ok (c_X8_count l u (xs (i + 1)) T _ h) cal_X8_count tw_1177 tw_1178 tw_1179 (by decide) (by decide) rfl (Nat.le_of_ble_eq_true rfl) dL_law_858 rfl rfl (fun r2 T1 h => ?_)
  refine gl_icmp_eq (t := 1101) ok h.1 dL_law_861 (by decide) ?_
  exact hk _ _ h.2
set_option maxHeartbeats 4000000 in
set_option maxRecDepth 20000 in
theorem law_28 {l : Launch} {g : ClT} {v : VxT} {u : VmT} {L i : Nat} {xs : Nat → Int32} {x3 : Int32} {S T : Mem} {K : Mem → Mem → Prop} (ok : OkL l g v u L xs) (ex3 : x3 = nI i) (hi : i + 6 ≤ L) (h : w_X7_sheet (xs (i + 1)) (xs (i + 2)) (xs (i + 3)) S (fun r1 S1 => w_X8_sheet (xs (i + 1)) (xs (i + 2)) (xs (i + 3)) T (fun r2 T1 => r1 = r2 ∧ K S1 T1))) (hk : ∀ S1 T1, K S1 T1 → GL g v u 1101 [(3, .int x3), (2, .ref (u.1 0)), (1, .ref (v.1 0)), (0, .ref g.2.2.2.2.2.2.2.2)] [] S1 T1) : GL g v u 866 [(3, .int x3), (2, .ref (u.1 0)), (1, .ref (v.1 0)), (0, .ref g.2.2.2.2.2.2.2.2)] [] S T := by
  refine gl_aload_n 2 (n := 867) ok dL_law_866 rfl rfl ?_
  refine gl_aload_n 3 (n := 868) ok dL_law_867 rfl rfl ?_
  refine gl_iload_n 0 (n := 869) ok dL_law_868 rfl rfl ?_
  refine gl_iconst (w := 1) (n := 870) ok dL_law_869 rfl (by decide) ?_
  refine gl_iadd (n := 871) ok dL_law_870 rfl ?_
  refine gl_sld (i + 1) (n := 872) ok dL_law_871 rfl (by rw [ex3]; exact nI_add i 1) (by omega) ?_
  refine gl_aload_n 3 (n := 873) ok dL_law_872 rfl rfl ?_
  refine gl_iload_n 0 (n := 874) ok dL_law_873 rfl rfl ?_
  refine gl_iconst (w := 2) (n := 875) ok dL_law_874 rfl (by decide) ?_
  refine gl_iadd (n := 876) ok dL_law_875 rfl ?_
  refine gl_sld (i + 2) (n := 877) ok dL_law_876 rfl (by rw [ex3]; exact nI_add i 2) (by omega) ?_
  refine gl_aload_n 3 (n := 878) ok dL_law_877 rfl rfl ?_
  refine gl_iload_n 0 (n := 879) ok dL_law_878 rfl rfl ?_
  refine gl_iconst (w := 3) (n := 880) ok dL_law_879 rfl (by decide) ?_
  refine gl_iadd (n := 881) ok dL_law_880 rfl ?_
  refine gl_sld (i + 3) (n := 882) ok dL_law_881 rfl (by rw [ex3]; exact nI_add i 3) (by omega) ?_
  refine gl_callXi (n := 885) (As := [.int (xs (i + 1)), .int (xs (i + 2)), .int (xs (i + 3))]) (rest := []) ok (c_X7_sheet l v (xs (i + 1)) (xs (i + 2)) (xs (i + 3)) S _ h) cal_X7_sheet tw_706 tw_707 tw_708 (by decide) (by decide) rfl (Nat.le_of_ble_eq_true rfl) dL_law_882 rfl rfl (fun r1 S1 h => ?_)
  refine gl_aload_n 1 (n := 886) ok dL_law_885 rfl rfl ?_
  refine gl_aload_n 3 (n := 887) ok dL_law_886 rfl rfl ?_
  refine gl_iload_n 0 (n := 888) ok dL_law_887 rfl rfl ?_
  refine gl_iconst (w := 1) (n := 889) ok dL_law_888 rfl (by decide) ?_
  refine gl_iadd (n := 890) ok dL_law_889 rfl ?_
  refine gl_sld (i + 1) (n := 891) ok dL_law_890 rfl (by rw [ex3]; exact nI_add i 1) (by omega) ?_
  refine gl_aload_n 3 (n := 892) ok dL_law_891 rfl rfl ?_
  refine gl_iload_n 0 (n := 893) ok dL_law_892 rfl rfl ?_
  refine gl_iconst (w := 2) (n := 894) ok dL_law_893 rfl (by decide) ?_
  refine gl_iadd (n := 895) ok dL_law_894 rfl ?_
  refine gl_sld (i + 2) (n := 896) ok dL_law_895 rfl (by rw [ex3]; exact nI_add i 2) (by omega) ?_
  refine gl_aload_n 3 (n := 897) ok dL_law_896 rfl rfl ?_
  refine gl_iload_n 0 (n := 898) ok dL_law_897 rfl rfl ?_
  refine gl_iconst (w := 3) (n := 899) ok dL_law_898 rfl (by decide) ?_
  refine gl_iadd (n := 900) ok dL_law_899 rfl ?_
  refine gl_sld (i + 3) (n := 901) ok dL_law_900 rfl (by rw [ex3]; exact nI_add i 3) (by omega) ?_
  refine gl_callMi (n := 904) (As := [.int (xs (i + 1)), .int (xs (i + 2)), .int (xs (i + 3))]) (rest := [.int r1]) ok (c_X8_sheet l u (xs (i + 1)) (xs (i + 2)) (xs (i + 3)) T _ h) cal_X8_sheet tw_1181 tw_1182 tw_1183 (by decide) (by decide) rfl (Nat.le_of_ble_eq_true rfl) dL_law_901 rfl rfl (fun r2 T1 h => ?_)
  refine gl_icmp_eq (t := 1101) ok h.1 dL_law_904 (by decide) ?_
  exact hk _ _ h.2
set_option maxHeartbeats 4000000 in
set_option maxRecDepth 20000 in
theorem law_29 {l : Launch} {g : ClT} {v : VxT} {u : VmT} {L i : Nat} {xs : Nat → Int32} {x3 : Int32} {S T : Mem} {K : Mem → Mem → Prop} (ok : OkL l g v u L xs) (ex3 : x3 = nI i) (hi : i + 6 ≤ L) (h : w_X7_cell (xs (i + 1)) (xs (i + 2)) (xs (i + 3)) S (fun r1 S1 => w_X8_cell (xs (i + 1)) (xs (i + 2)) (xs (i + 3)) T (fun r2 T1 => r1 = r2 ∧ K S1 T1))) (hk : ∀ S1 T1, K S1 T1 → GL g v u 1101 [(3, .int x3), (2, .ref (u.1 0)), (1, .ref (v.1 0)), (0, .ref g.2.2.2.2.2.2.2.2)] [] S1 T1) : GL g v u 909 [(3, .int x3), (2, .ref (u.1 0)), (1, .ref (v.1 0)), (0, .ref g.2.2.2.2.2.2.2.2)] [] S T := by
  refine gl_aload_n 2 (n := 910) ok dL_law_909 rfl rfl ?_
  refine gl_aload_n 3 (n := 911) ok dL_law_910 rfl rfl ?_
  refine gl_iload_n 0 (n := 912) ok dL_law_911 rfl rfl ?_
  refine gl_iconst (w := 1) (n := 913) ok dL_law_912 rfl (by decide) ?_
  refine gl_iadd (n := 914) ok dL_law_913 rfl ?_
  refine gl_sld (i + 1) (n := 915) ok dL_law_914 rfl (by rw [ex3]; exact nI_add i 1) (by omega) ?_
  refine gl_aload_n 3 (n := 916) ok dL_law_915 rfl rfl ?_
  refine gl_iload_n 0 (n := 917) ok dL_law_916 rfl rfl ?_
  refine gl_iconst (w := 2) (n := 918) ok dL_law_917 rfl (by decide) ?_
  refine gl_iadd (n := 919) ok dL_law_918 rfl ?_
  refine gl_sld (i + 2) (n := 920) ok dL_law_919 rfl (by rw [ex3]; exact nI_add i 2) (by omega) ?_
  refine gl_aload_n 3 (n := 921) ok dL_law_920 rfl rfl ?_
  refine gl_iload_n 0 (n := 922) ok dL_law_921 rfl rfl ?_
  refine gl_iconst (w := 3) (n := 923) ok dL_law_922 rfl (by decide) ?_
  refine gl_iadd (n := 924) ok dL_law_923 rfl ?_
  refine gl_sld (i + 3) (n := 925) ok dL_law_924 rfl (by rw [ex3]; exact nI_add i 3) (by omega) ?_
  refine gl_callXi (n := 928) (As := [.int (xs (i + 1)), .int (xs (i + 2)), .int (xs (i + 3))]) (rest := []) ok (c_X7_cell l v (xs (i + 1)) (xs (i + 2)) (xs (i + 3)) S _ h) cal_X7_cell tw_719 tw_720 tw_721 (by decide) (by decide) rfl (Nat.le_of_ble_eq_true rfl) dL_law_925 rfl rfl (fun r1 S1 h => ?_)
  refine gl_aload_n 1 (n := 929) ok dL_law_928 rfl rfl ?_
  refine gl_aload_n 3 (n := 930) ok dL_law_929 rfl rfl ?_
  refine gl_iload_n 0 (n := 931) ok dL_law_930 rfl rfl ?_
  refine gl_iconst (w := 1) (n := 932) ok dL_law_931 rfl (by decide) ?_
  refine gl_iadd (n := 933) ok dL_law_932 rfl ?_
  refine gl_sld (i + 1) (n := 934) ok dL_law_933 rfl (by rw [ex3]; exact nI_add i 1) (by omega) ?_
  refine gl_aload_n 3 (n := 935) ok dL_law_934 rfl rfl ?_
  refine gl_iload_n 0 (n := 936) ok dL_law_935 rfl rfl ?_
  refine gl_iconst (w := 2) (n := 937) ok dL_law_936 rfl (by decide) ?_
  refine gl_iadd (n := 938) ok dL_law_937 rfl ?_
  refine gl_sld (i + 2) (n := 939) ok dL_law_938 rfl (by rw [ex3]; exact nI_add i 2) (by omega) ?_
  refine gl_aload_n 3 (n := 940) ok dL_law_939 rfl rfl ?_
  refine gl_iload_n 0 (n := 941) ok dL_law_940 rfl rfl ?_
  refine gl_iconst (w := 3) (n := 942) ok dL_law_941 rfl (by decide) ?_
  refine gl_iadd (n := 943) ok dL_law_942 rfl ?_
  refine gl_sld (i + 3) (n := 944) ok dL_law_943 rfl (by rw [ex3]; exact nI_add i 3) (by omega) ?_
  refine gl_callMi (n := 947) (As := [.int (xs (i + 1)), .int (xs (i + 2)), .int (xs (i + 3))]) (rest := [.int r1]) ok (c_X8_cell l u (xs (i + 1)) (xs (i + 2)) (xs (i + 3)) T _ h) cal_X8_cell tw_1186 tw_1187 tw_1188 (by decide) (by decide) rfl (Nat.le_of_ble_eq_true rfl) dL_law_944 rfl rfl (fun r2 T1 h => ?_)
  refine gl_icmp_eq (t := 1101) ok h.1 dL_law_947 (by decide) ?_
  exact hk _ _ h.2
set_option maxHeartbeats 4000000 in
set_option maxRecDepth 20000 in
theorem law_30 {l : Launch} {g : ClT} {v : VxT} {u : VmT} {L i : Nat} {xs : Nat → Int32} {x3 : Int32} {S T : Mem} {K : Mem → Mem → Prop} (ok : OkL l g v u L xs) (ex3 : x3 = nI i) (hi : i + 6 ≤ L) (h : w_X7_copy (xs (i + 1)) (xs (i + 2)) (xs (i + 3)) (xs (i + 4)) (xs (i + 5)) S (fun r1 S1 => w_X8_copy (xs (i + 1)) (xs (i + 2)) (xs (i + 3)) (xs (i + 4)) (xs (i + 5)) T (fun r2 T1 => r1 = r2 ∧ K S1 T1))) (hk : ∀ S1 T1, K S1 T1 → GL g v u 1101 [(3, .int x3), (2, .ref (u.1 0)), (1, .ref (v.1 0)), (0, .ref g.2.2.2.2.2.2.2.2)] [] S1 T1) : GL g v u 952 [(3, .int x3), (2, .ref (u.1 0)), (1, .ref (v.1 0)), (0, .ref g.2.2.2.2.2.2.2.2)] [] S T := by
  refine gl_aload_n 2 (n := 953) ok dL_law_952 rfl rfl ?_
  refine gl_aload_n 3 (n := 954) ok dL_law_953 rfl rfl ?_
  refine gl_iload_n 0 (n := 955) ok dL_law_954 rfl rfl ?_
  refine gl_iconst (w := 1) (n := 956) ok dL_law_955 rfl (by decide) ?_
  refine gl_iadd (n := 957) ok dL_law_956 rfl ?_
  refine gl_sld (i + 1) (n := 958) ok dL_law_957 rfl (by rw [ex3]; exact nI_add i 1) (by omega) ?_
  refine gl_aload_n 3 (n := 959) ok dL_law_958 rfl rfl ?_
  refine gl_iload_n 0 (n := 960) ok dL_law_959 rfl rfl ?_
  refine gl_iconst (w := 2) (n := 961) ok dL_law_960 rfl (by decide) ?_
  refine gl_iadd (n := 962) ok dL_law_961 rfl ?_
  refine gl_sld (i + 2) (n := 963) ok dL_law_962 rfl (by rw [ex3]; exact nI_add i 2) (by omega) ?_
  refine gl_aload_n 3 (n := 964) ok dL_law_963 rfl rfl ?_
  refine gl_iload_n 0 (n := 965) ok dL_law_964 rfl rfl ?_
  refine gl_iconst (w := 3) (n := 966) ok dL_law_965 rfl (by decide) ?_
  refine gl_iadd (n := 967) ok dL_law_966 rfl ?_
  refine gl_sld (i + 3) (n := 968) ok dL_law_967 rfl (by rw [ex3]; exact nI_add i 3) (by omega) ?_
  refine gl_aload_n 3 (n := 969) ok dL_law_968 rfl rfl ?_
  refine gl_iload_n 0 (n := 970) ok dL_law_969 rfl rfl ?_
  refine gl_iconst (w := 4) (n := 971) ok dL_law_970 rfl (by decide) ?_
  refine gl_iadd (n := 972) ok dL_law_971 rfl ?_
  refine gl_sld (i + 4) (n := 973) ok dL_law_972 rfl (by rw [ex3]; exact nI_add i 4) (by omega) ?_
  refine gl_aload_n 3 (n := 974) ok dL_law_973 rfl rfl ?_
  refine gl_iload_n 0 (n := 975) ok dL_law_974 rfl rfl ?_
  refine gl_iconst (w := 5) (n := 976) ok dL_law_975 rfl (by decide) ?_
  refine gl_iadd (n := 977) ok dL_law_976 rfl ?_
  refine gl_sld (i + 5) (n := 978) ok dL_law_977 rfl (by rw [ex3]; exact nI_add i 5) (by omega) ?_
  refine gl_callXi (n := 981) (As := [.int (xs (i + 1)), .int (xs (i + 2)), .int (xs (i + 3)), .int (xs (i + 4)), .int (xs (i + 5))]) (rest := []) ok (c_X7_copy l v (xs (i + 1)) (xs (i + 2)) (xs (i + 3)) (xs (i + 4)) (xs (i + 5)) S _ h) cal_X7_copy tw_732 tw_733 tw_734 (by decide) (by decide) rfl (Nat.le_of_ble_eq_true rfl) dL_law_978 rfl rfl (fun r1 S1 h => ?_)
  refine gl_aload_n 1 (n := 982) ok dL_law_981 rfl rfl ?_
  refine gl_aload_n 3 (n := 983) ok dL_law_982 rfl rfl ?_
  refine gl_iload_n 0 (n := 984) ok dL_law_983 rfl rfl ?_
  refine gl_iconst (w := 1) (n := 985) ok dL_law_984 rfl (by decide) ?_
  refine gl_iadd (n := 986) ok dL_law_985 rfl ?_
  refine gl_sld (i + 1) (n := 987) ok dL_law_986 rfl (by rw [ex3]; exact nI_add i 1) (by omega) ?_
  refine gl_aload_n 3 (n := 988) ok dL_law_987 rfl rfl ?_
  refine gl_iload_n 0 (n := 989) ok dL_law_988 rfl rfl ?_
  refine gl_iconst (w := 2) (n := 990) ok dL_law_989 rfl (by decide) ?_
  refine gl_iadd (n := 991) ok dL_law_990 rfl ?_
  refine gl_sld (i + 2) (n := 992) ok dL_law_991 rfl (by rw [ex3]; exact nI_add i 2) (by omega) ?_
  refine gl_aload_n 3 (n := 993) ok dL_law_992 rfl rfl ?_
  refine gl_iload_n 0 (n := 994) ok dL_law_993 rfl rfl ?_
  refine gl_iconst (w := 3) (n := 995) ok dL_law_994 rfl (by decide) ?_
  refine gl_iadd (n := 996) ok dL_law_995 rfl ?_
  refine gl_sld (i + 3) (n := 997) ok dL_law_996 rfl (by rw [ex3]; exact nI_add i 3) (by omega) ?_
  refine gl_aload_n 3 (n := 998) ok dL_law_997 rfl rfl ?_
  refine gl_iload_n 0 (n := 999) ok dL_law_998 rfl rfl ?_
  refine gl_iconst (w := 4) (n := 1000) ok dL_law_999 rfl (by decide) ?_
  refine gl_iadd (n := 1001) ok dL_law_1000 rfl ?_
  refine gl_sld (i + 4) (n := 1002) ok dL_law_1001 rfl (by rw [ex3]; exact nI_add i 4) (by omega) ?_
  refine gl_aload_n 3 (n := 1003) ok dL_law_1002 rfl rfl ?_
  refine gl_iload_n 0 (n := 1004) ok dL_law_1003 rfl rfl ?_
  refine gl_iconst (w := 5) (n := 1005) ok dL_law_1004 rfl (by decide) ?_
  refine gl_iadd (n := 1006) ok dL_law_1005 rfl ?_
  refine gl_sld (i + 5) (n := 1007) ok dL_law_1006 rfl (by rw [ex3]; exact nI_add i 5) (by omega) ?_
  refine gl_callMi (n := 1010) (As := [.int (xs (i + 1)), .int (xs (i + 2)), .int (xs (i + 3)), .int (xs (i + 4)), .int (xs (i + 5))]) (rest := [.int r1]) ok (c_X8_copy l u (xs (i + 1)) (xs (i + 2)) (xs (i + 3)) (xs (i + 4)) (xs (i + 5)) T _ h) cal_X8_copy tw_1190 tw_1191 tw_1192 (by decide) (by decide) rfl (Nat.le_of_ble_eq_true rfl) dL_law_1007 rfl rfl (fun r2 T1 h => ?_)
  refine gl_icmp_eq (t := 1101) ok h.1 dL_law_1010 (by decide) ?_
  exact hk _ _ h.2
set_option maxHeartbeats 4000000 in
set_option maxRecDepth 20000 in
theorem law_31 {l : Launch} {g : ClT} {v : VxT} {u : VmT} {L i : Nat} {xs : Nat → Int32} {x3 : Int32} {S T : Mem} {K : Mem → Mem → Prop} (ok : OkL l g v u L xs) (ex3 : x3 = nI i) (hi : i + 6 ≤ L) (h : w_X7_floors (xs (i + 1)) (xs (i + 2)) (xs (i + 3)) (xs (i + 4)) S (fun r1 S1 => w_X8_floors (xs (i + 1)) (xs (i + 2)) (xs (i + 3)) (xs (i + 4)) T (fun r2 T1 => r1 = r2 ∧ K S1 T1))) (hk : ∀ S1 T1, K S1 T1 → GL g v u 1101 [(3, .int x3), (2, .ref (u.1 0)), (1, .ref (v.1 0)), (0, .ref g.2.2.2.2.2.2.2.2)] [] S1 T1) : GL g v u 1015 [(3, .int x3), (2, .ref (u.1 0)), (1, .ref (v.1 0)), (0, .ref g.2.2.2.2.2.2.2.2)] [] S T := by
  refine gl_aload_n 2 (n := 1016) ok dL_law_1015 rfl rfl ?_
  refine gl_aload_n 3 (n := 1017) ok dL_law_1016 rfl rfl ?_
  refine gl_iload_n 0 (n := 1018) ok dL_law_1017 rfl rfl ?_
  refine gl_iconst (w := 1) (n := 1019) ok dL_law_1018 rfl (by decide) ?_
  refine gl_iadd (n := 1020) ok dL_law_1019 rfl ?_
  refine gl_sld (i + 1) (n := 1021) ok dL_law_1020 rfl (by rw [ex3]; exact nI_add i 1) (by omega) ?_
  refine gl_aload_n 3 (n := 1022) ok dL_law_1021 rfl rfl ?_
  refine gl_iload_n 0 (n := 1023) ok dL_law_1022 rfl rfl ?_
  refine gl_iconst (w := 2) (n := 1024) ok dL_law_1023 rfl (by decide) ?_
  refine gl_iadd (n := 1025) ok dL_law_1024 rfl ?_
  refine gl_sld (i + 2) (n := 1026) ok dL_law_1025 rfl (by rw [ex3]; exact nI_add i 2) (by omega) ?_
  refine gl_aload_n 3 (n := 1027) ok dL_law_1026 rfl rfl ?_
  refine gl_iload_n 0 (n := 1028) ok dL_law_1027 rfl rfl ?_
  refine gl_iconst (w := 3) (n := 1029) ok dL_law_1028 rfl (by decide) ?_
  refine gl_iadd (n := 1030) ok dL_law_1029 rfl ?_
  refine gl_sld (i + 3) (n := 1031) ok dL_law_1030 rfl (by rw [ex3]; exact nI_add i 3) (by omega) ?_
  refine gl_aload_n 3 (n := 1032) ok dL_law_1031 rfl rfl ?_
  refine gl_iload_n 0 (n := 1033) ok dL_law_1032 rfl rfl ?_
  refine gl_iconst (w := 4) (n := 1034) ok dL_law_1033 rfl (by decide) ?_
  refine gl_iadd (n := 1035) ok dL_law_1034 rfl ?_
  refine gl_sld (i + 4) (n := 1036) ok dL_law_1035 rfl (by rw [ex3]; exact nI_add i 4) (by omega) ?_
  refine gl_callXi (n := 1039) (As := [.int (xs (i + 1)), .int (xs (i + 2)), .int (xs (i + 3)), .int (xs (i + 4))]) (rest := []) ok (c_X7_floors l v (xs (i + 1)) (xs (i + 2)) (xs (i + 3)) (xs (i + 4)) S _ h) cal_X7_floors tw_741 tw_742 tw_743 (by decide) (by decide) rfl (Nat.le_of_ble_eq_true rfl) dL_law_1036 rfl rfl (fun r1 S1 h => ?_)
  refine gl_aload_n 1 (n := 1040) ok dL_law_1039 rfl rfl ?_
  refine gl_aload_n 3 (n := 1041) ok dL_law_1040 rfl rfl ?_
  refine gl_iload_n 0 (n := 1042) ok dL_law_1041 rfl rfl ?_
  refine gl_iconst (w := 1) (n := 1043) ok dL_law_1042 rfl (by decide) ?_
  refine gl_iadd (n := 1044) ok dL_law_1043 rfl ?_
  refine gl_sld (i + 1) (n := 1045) ok dL_law_1044 rfl (by rw [ex3]; exact nI_add i 1) (by omega) ?_
  refine gl_aload_n 3 (n := 1046) ok dL_law_1045 rfl rfl ?_
  refine gl_iload_n 0 (n := 1047) ok dL_law_1046 rfl rfl ?_
  refine gl_iconst (w := 2) (n := 1048) ok dL_law_1047 rfl (by decide) ?_
  refine gl_iadd (n := 1049) ok dL_law_1048 rfl ?_
  refine gl_sld (i + 2) (n := 1050) ok dL_law_1049 rfl (by rw [ex3]; exact nI_add i 2) (by omega) ?_
  refine gl_aload_n 3 (n := 1051) ok dL_law_1050 rfl rfl ?_
  refine gl_iload_n 0 (n := 1052) ok dL_law_1051 rfl rfl ?_
  refine gl_iconst (w := 3) (n := 1053) ok dL_law_1052 rfl (by decide) ?_
  refine gl_iadd (n := 1054) ok dL_law_1053 rfl ?_
  refine gl_sld (i + 3) (n := 1055) ok dL_law_1054 rfl (by rw [ex3]; exact nI_add i 3) (by omega) ?_
  refine gl_aload_n 3 (n := 1056) ok dL_law_1055 rfl rfl ?_
  refine gl_iload_n 0 (n := 1057) ok dL_law_1056 rfl rfl ?_
  refine gl_iconst (w := 4) (n := 1058) ok dL_law_1057 rfl (by decide) ?_
  refine gl_iadd (n := 1059) ok dL_law_1058 rfl ?_
  refine gl_sld (i + 4) (n := 1060) ok dL_law_1059 rfl (by rw [ex3]; exact nI_add i 4) (by omega) ?_
  refine gl_callMi (n := 1063) (As := [.int (xs (i + 1)), .int (xs (i + 2)), .int (xs (i + 3)), .int (xs (i + 4))]) (rest := [.int r1]) ok (c_X8_floors l u (xs (i + 1)) (xs (i + 2)) (xs (i + 3)) (xs (i + 4)) T _ h) cal_X8_floors tw_1194 tw_1195 tw_1196 (by decide) (by decide) rfl (Nat.le_of_ble_eq_true rfl) dL_law_1060 rfl rfl (fun r2 T1 h => ?_)
  refine gl_icmp_eq (t := 1101) ok h.1 dL_law_1063 (by decide) ?_
  exact hk _ _ h.2
set_option maxHeartbeats 4000000 in
set_option maxRecDepth 20000 in
theorem law_32 {l : Launch} {g : ClT} {v : VxT} {u : VmT} {L i : Nat} {xs : Nat → Int32} {x3 : Int32} {S T : Mem} {K : Mem → Mem → Prop} (ok : OkL l g v u L xs) (ex3 : x3 = nI i) (hi : i + 6 ≤ L) (h : w_X7_taken (xs (i + 1)) (xs (i + 2)) S (fun r1 S1 => w_X8_taken (xs (i + 1)) (xs (i + 2)) T (fun r2 T1 => r1 = r2 ∧ K S1 T1))) (hk : ∀ S1 T1, K S1 T1 → GL g v u 1101 [(3, .int x3), (2, .ref (u.1 0)), (1, .ref (v.1 0)), (0, .ref g.2.2.2.2.2.2.2.2)] [] S1 T1) : GL g v u 1068 [(3, .int x3), (2, .ref (u.1 0)), (1, .ref (v.1 0)), (0, .ref g.2.2.2.2.2.2.2.2)] [] S T := by
  refine gl_aload_n 2 (n := 1069) ok dL_law_1068 rfl rfl ?_
  refine gl_aload_n 3 (n := 1070) ok dL_law_1069 rfl rfl ?_
  refine gl_iload_n 0 (n := 1071) ok dL_law_1070 rfl rfl ?_
  refine gl_iconst (w := 1) (n := 1072) ok dL_law_1071 rfl (by decide) ?_
  refine gl_iadd (n := 1073) ok dL_law_1072 rfl ?_
  refine gl_sld (i + 1) (n := 1074) ok dL_law_1073 rfl (by rw [ex3]; exact nI_add i 1) (by omega) ?_
  refine gl_aload_n 3 (n := 1075) ok dL_law_1074 rfl rfl ?_
  refine gl_iload_n 0 (n := 1076) ok dL_law_1075 rfl rfl ?_
  refine gl_iconst (w := 2) (n := 1077) ok dL_law_1076 rfl (by decide) ?_
  refine gl_iadd (n := 1078) ok dL_law_1077 rfl ?_
  refine gl_sld (i + 2) (n := 1079) ok dL_law_1078 rfl (by rw [ex3]; exact nI_add i 2) (by omega) ?_
  refine gl_callXi (n := 1082) (As := [.int (xs (i + 1)), .int (xs (i + 2))]) (rest := []) ok (c_X7_taken l v (xs (i + 1)) (xs (i + 2)) S _ h) cal_X7_taken tw_746 tw_747 tw_748 (by decide) (by decide) rfl (Nat.le_of_ble_eq_true rfl) dL_law_1079 rfl rfl (fun r1 S1 h => ?_)
  refine gl_aload_n 1 (n := 1083) ok dL_law_1082 rfl rfl ?_
  refine gl_aload_n 3 (n := 1084) ok dL_law_1083 rfl rfl ?_
  refine gl_iload_n 0 (n := 1085) ok dL_law_1084 rfl rfl ?_
  refine gl_iconst (w := 1) (n := 1086) ok dL_law_1085 rfl (by decide) ?_
  refine gl_iadd (n := 1087) ok dL_law_1086 rfl ?_
  refine gl_sld (i + 1) (n := 1088) ok dL_law_1087 rfl (by rw [ex3]; exact nI_add i 1) (by omega) ?_
  refine gl_aload_n 3 (n := 1089) ok dL_law_1088 rfl rfl ?_
  refine gl_iload_n 0 (n := 1090) ok dL_law_1089 rfl rfl ?_
  refine gl_iconst (w := 2) (n := 1091) ok dL_law_1090 rfl (by decide) ?_
  refine gl_iadd (n := 1092) ok dL_law_1091 rfl ?_
  refine gl_sld (i + 2) (n := 1093) ok dL_law_1092 rfl (by rw [ex3]; exact nI_add i 2) (by omega) ?_
  refine gl_callMi (n := 1096) (As := [.int (xs (i + 1)), .int (xs (i + 2))]) (rest := [.int r1]) ok (c_X8_taken l u (xs (i + 1)) (xs (i + 2)) T _ h) cal_X8_taken tw_1199 tw_1200 tw_1201 (by decide) (by decide) rfl (Nat.le_of_ble_eq_true rfl) dL_law_1093 rfl rfl (fun r2 T1 h => ?_)
  refine gl_icmp_eq (t := 1101) ok h.1 dL_law_1096 (by decide) ?_
  exact hk _ _ h.2
set_option maxHeartbeats 4000000 in
set_option maxRecDepth 20000 in
theorem law_sw {l : Launch} {g : ClT} {v : VxT} {u : VmT} {L i : Nat} {xs : Nat → Int32} {x3 k : Int32} {S T : Mem} {K : Mem → Mem → Prop} (ok : OkL l g v u L xs) (ex3 : x3 = nI i) (hi : i + 6 ≤ L) (h : wLaw k (xs (i + 1)) (xs (i + 2)) (xs (i + 3)) (xs (i + 4)) (xs (i + 5)) S T K) (hk : ∀ S1 T1, K S1 T1 → GL g v u 1101 [(3, .int x3), (2, .ref (u.1 0)), (1, .ref (v.1 0)), (0, .ref g.2.2.2.2.2.2.2.2)] [] S1 T1) : GL g v u 33 [(3, .int x3), (2, .ref (u.1 0)), (1, .ref (v.1 0)), (0, .ref g.2.2.2.2.2.2.2.2)] [.int k] S T := by
  unfold wLaw at h
  obtain ⟨h0, h1, h2, h3, h4, h5, h6, h7, h8, h9, h10, h11, h12, h13, h14, h15, h16, h17, h18, h19, h20, h21, h22, h23, h24, h25, h26, h27, h28, h29, h30, h31, h32, hd⟩ := h
  by_cases e0 : k = 0
  · exact gl_tsIn (off := 147) (t := 180) ok dL_law_33 (by rw [e0]; decide) (by rw [e0]; decide) (by rw [e0]; rfl) (by decide) (law_0 ok ex3 hi (h0 e0) hk)
  by_cases e1 : k = 1
  · exact gl_tsIn (off := 180) (t := 213) ok dL_law_33 (by rw [e1]; decide) (by rw [e1]; decide) (by rw [e1]; rfl) (by decide) (law_1 ok ex3 hi (h1 e1) hk)
  by_cases e2 : k = 2
  · exact gl_tsIn (off := 223) (t := 256) ok dL_law_33 (by rw [e2]; decide) (by rw [e2]; decide) (by rw [e2]; rfl) (by decide) (law_2 ok ex3 hi (h2 e2) hk)
  by_cases e3 : k = 3
  · exact gl_tsIn (off := 266) (t := 299) ok dL_law_33 (by rw [e3]; decide) (by rw [e3]; decide) (by rw [e3]; rfl) (by decide) (law_3 ok ex3 hi (h3 e3) hk)
  by_cases e4 : k = 4
  · exact gl_tsIn (off := 309) (t := 342) ok dL_law_33 (by rw [e4]; decide) (by rw [e4]; decide) (by rw [e4]; rfl) (by decide) (law_4 ok ex3 hi (h4 e4) hk)
  by_cases e5 : k = 5
  · exact gl_tsIn (off := 342) (t := 375) ok dL_law_33 (by rw [e5]; decide) (by rw [e5]; decide) (by rw [e5]; rfl) (by decide) (law_5 ok ex3 hi (h5 e5) hk)
  by_cases e6 : k = 6
  · exact gl_tsIn (off := 365) (t := 398) ok dL_law_33 (by rw [e6]; decide) (by rw [e6]; decide) (by rw [e6]; rfl) (by decide) (law_6 ok ex3 hi (h6 e6) hk)
  by_cases e7 : k = 7
  · exact gl_tsIn (off := 378) (t := 411) ok dL_law_33 (by rw [e7]; decide) (by rw [e7]; decide) (by rw [e7]; rfl) (by decide) (law_7 ok ex3 hi (h7 e7) hk)
  by_cases e8 : k = 8
  · exact gl_tsIn (off := 401) (t := 434) ok dL_law_33 (by rw [e8]; decide) (by rw [e8]; decide) (by rw [e8]; rfl) (by decide) (law_8 ok ex3 hi (h8 e8) hk)
  by_cases e9 : k = 9
  · exact gl_tsIn (off := 424) (t := 457) ok dL_law_33 (by rw [e9]; decide) (by rw [e9]; decide) (by rw [e9]; rfl) (by decide) (law_9 ok ex3 hi (h9 e9) hk)
  by_cases e10 : k = 10
  · exact gl_tsIn (off := 467) (t := 500) ok dL_law_33 (by rw [e10]; decide) (by rw [e10]; decide) (by rw [e10]; rfl) (by decide) (law_10 ok ex3 hi (h10 e10) hk)
  by_cases e11 : k = 11
  · exact gl_tsIn (off := 480) (t := 513) ok dL_law_33 (by rw [e11]; decide) (by rw [e11]; decide) (by rw [e11]; rfl) (by decide) (law_11 ok ex3 hi (h11 e11) hk)
  by_cases e12 : k = 12
  · exact gl_tsIn (off := 503) (t := 536) ok dL_law_33 (by rw [e12]; decide) (by rw [e12]; decide) (by rw [e12]; rfl) (by decide) (law_12 ok ex3 hi (h12 e12) hk)
  by_cases e13 : k = 13
  · exact gl_tsIn (off := 526) (t := 559) ok dL_law_33 (by rw [e13]; decide) (by rw [e13]; decide) (by rw [e13]; rfl) (by decide) (law_13 ok ex3 hi (h13 e13) hk)
  by_cases e14 : k = 14
  · exact gl_tsIn (off := 549) (t := 582) ok dL_law_33 (by rw [e14]; decide) (by rw [e14]; decide) (by rw [e14]; rfl) (by decide) (law_14 ok ex3 hi (h14 e14) hk)
  by_cases e15 : k = 15
  · exact gl_tsIn (off := 572) (t := 605) ok dL_law_33 (by rw [e15]; decide) (by rw [e15]; decide) (by rw [e15]; rfl) (by decide) (law_15 ok ex3 hi (h15 e15) hk)
  by_cases e16 : k = 16
  · exact gl_tsIn (off := 585) (t := 618) ok dL_law_33 (by rw [e16]; decide) (by rw [e16]; decide) (by rw [e16]; rfl) (by decide) (law_16 ok ex3 hi (h16 e16) hk)
  by_cases e17 : k = 17
  · exact gl_tsIn (off := 598) (t := 631) ok dL_law_33 (by rw [e17]; decide) (by rw [e17]; decide) (by rw [e17]; rfl) (by decide) (law_17 ok ex3 hi (h17 e17) hk)
  by_cases e18 : k = 18
  · exact gl_tsIn (off := 611) (t := 644) ok dL_law_33 (by rw [e18]; decide) (by rw [e18]; decide) (by rw [e18]; rfl) (by decide) (law_18 ok ex3 hi (h18 e18) hk)
  by_cases e19 : k = 19
  · exact gl_tsIn (off := 634) (t := 667) ok dL_law_33 (by rw [e19]; decide) (by rw [e19]; decide) (by rw [e19]; rfl) (by decide) (law_19 ok ex3 hi (h19 e19) hk)
  by_cases e20 : k = 20
  · exact gl_tsIn (off := 657) (t := 690) ok dL_law_33 (by rw [e20]; decide) (by rw [e20]; decide) (by rw [e20]; rfl) (by decide) (law_20 ok ex3 hi (h20 e20) hk)
  by_cases e21 : k = 21
  · exact gl_tsIn (off := 670) (t := 703) ok dL_law_33 (by rw [e21]; decide) (by rw [e21]; decide) (by rw [e21]; rfl) (by decide) (law_21 ok ex3 hi (h21 e21) hk)
  by_cases e22 : k = 22
  · exact gl_tsIn (off := 693) (t := 726) ok dL_law_33 (by rw [e22]; decide) (by rw [e22]; decide) (by rw [e22]; rfl) (by decide) (law_22 ok ex3 hi (h22 e22) hk)
  by_cases e23 : k = 23
  · exact gl_tsIn (off := 717) (t := 750) ok dL_law_33 (by rw [e23]; decide) (by rw [e23]; decide) (by rw [e23]; rfl) (by decide) (law_23 ok ex3 hi (h23 e23) hk)
  by_cases e24 : k = 24
  · exact gl_tsIn (off := 740) (t := 773) ok dL_law_33 (by rw [e24]; decide) (by rw [e24]; decide) (by rw [e24]; rfl) (by decide) (law_24 ok ex3 hi (h24 e24) hk)
  by_cases e25 : k = 25
  · exact gl_tsIn (off := 784) (t := 817) ok dL_law_33 (by rw [e25]; decide) (by rw [e25]; decide) (by rw [e25]; rfl) (by decide) (law_25 ok ex3 hi (h25 e25) hk)
  by_cases e26 : k = 26
  · exact gl_tsIn (off := 797) (t := 830) ok dL_law_33 (by rw [e26]; decide) (by rw [e26]; decide) (by rw [e26]; rfl) (by decide) (law_26 ok ex3 hi (h26 e26) hk)
  by_cases e27 : k = 27
  · exact gl_tsIn (off := 810) (t := 843) ok dL_law_33 (by rw [e27]; decide) (by rw [e27]; decide) (by rw [e27]; rfl) (by decide) (law_27 ok ex3 hi (h27 e27) hk)
  by_cases e28 : k = 28
  · exact gl_tsIn (off := 833) (t := 866) ok dL_law_33 (by rw [e28]; decide) (by rw [e28]; decide) (by rw [e28]; rfl) (by decide) (law_28 ok ex3 hi (h28 e28) hk)
  by_cases e29 : k = 29
  · exact gl_tsIn (off := 876) (t := 909) ok dL_law_33 (by rw [e29]; decide) (by rw [e29]; decide) (by rw [e29]; rfl) (by decide) (law_29 ok ex3 hi (h29 e29) hk)
  by_cases e30 : k = 30
  · exact gl_tsIn (off := 919) (t := 952) ok dL_law_33 (by rw [e30]; decide) (by rw [e30]; decide) (by rw [e30]; rfl) (by decide) (law_30 ok ex3 hi (h30 e30) hk)
  by_cases e31 : k = 31
  · exact gl_tsIn (off := 982) (t := 1015) ok dL_law_33 (by rw [e31]; decide) (by rw [e31]; decide) (by rw [e31]; rfl) (by decide) (law_31 ok ex3 hi (h31 e31) hk)
  by_cases e32 : k = 32
  · exact gl_tsIn (off := 1035) (t := 1068) ok dL_law_33 (by rw [e32]; decide) (by rw [e32]; decide) (by rw [e32]; rfl) (by decide) (law_32 ok ex3 hi (h32 e32) hk)
  have hout : k.toInt < 0 ∨ 32 < k.toInt := by have q0 := lv_neT (a := 0) e0 rfl; have q1 := lv_neT (a := 1) e1 rfl; have q2 := lv_neT (a := 2) e2 rfl; have q3 := lv_neT (a := 3) e3 rfl; have q4 := lv_neT (a := 4) e4 rfl; have q5 := lv_neT (a := 5) e5 rfl; have q6 := lv_neT (a := 6) e6 rfl; have q7 := lv_neT (a := 7) e7 rfl; have q8 := lv_neT (a := 8) e8 rfl; have q9 := lv_neT (a := 9) e9 rfl; have q10 := lv_neT (a := 10) e10 rfl; have q11 := lv_neT (a := 11) e11 rfl; have q12 := lv_neT (a := 12) e12 rfl; have q13 := lv_neT (a := 13) e13 rfl; have q14 := lv_neT (a := 14) e14 rfl; have q15 := lv_neT (a := 15) e15 rfl; have q16 := lv_neT (a := 16) e16 rfl; have q17 := lv_neT (a := 17) e17 rfl; have q18 := lv_neT (a := 18) e18 rfl; have q19 := lv_neT (a := 19) e19 rfl; have q20 := lv_neT (a := 20) e20 rfl; have q21 := lv_neT (a := 21) e21 rfl; have q22 := lv_neT (a := 22) e22 rfl; have q23 := lv_neT (a := 23) e23 rfl; have q24 := lv_neT (a := 24) e24 rfl; have q25 := lv_neT (a := 25) e25 rfl; have q26 := lv_neT (a := 26) e26 rfl; have q27 := lv_neT (a := 27) e27 rfl; have q28 := lv_neT (a := 28) e28 rfl; have q29 := lv_neT (a := 29) e29 rfl; have q30 := lv_neT (a := 30) e30 rfl; have q31 := lv_neT (a := 31) e31 rfl; have q32 := lv_neT (a := 32) e32 rfl; omega
  exact gl_tsOut (t := 1101) ok dL_law_33 hout (by decide) (hk _ _ (hd hout))
set_option maxHeartbeats 4000000 in
set_option maxRecDepth 20000 in
theorem law_loop {l : Launch} {g : ClT} {v : VxT} {u : VmT} {L : Nat} {xs : Nat → Int32} {R : Mem → Mem → Prop} (ok : OkL l g v u L xs) (hR : ∀ S T, R S T → ∀ k a1 a2 a3 a4 a5, wLaw k a1 a2 a3 a4 a5 S T R) : ∀ (n i : Nat) (x3 : Int32) (S T : Mem), x3 = nI i → i ≤ L → L - i < n → R S T → GL g v u 18 [(3, .int x3), (2, .ref (u.1 0)), (1, .ref (v.1 0)), (0, .ref g.2.2.2.2.2.2.2.2)] [] S T := by
  intro n
  induction n with
  | zero => intro i x3 S T _ _ h; omega
  | succ n ih =>
    intro i x3 S T ex3 hiL hn hr
    have hL : L ≤ 384 := by
      obtain ⟨p, l', e, s, m, below, meth, cD, b⟩ := g
      exact ok.2.2.2.2.2.2.2.2.2.2.2.2.2.2.2.2.2.2
    refine gl_iload_n 0 (n := 19) ok dL_law_18 rfl rfl ?_
    refine gl_aload_n 3 (n := 20) ok dL_law_19 rfl rfl ?_
    refine gl_slen (n := 21) ok dL_law_20 rfl ?_
    refine gl_bipush (w := 6) (n := 23) ok dL_law_21 rfl (by decide) ?_
    refine gl_isub (n := 24) ok dL_law_23 rfl ?_
    have e6 : (nI L - 6).toInt = (L : Int) - 6 := pk_sub_toInt (b := 6) (by omega) (by omega)
    have ei : x3.toInt = (i : Int) := by rw [ex3]; exact nI_toInt (by omega)
    refine gl_icmp_gt (t := 1107) (n := 27) ok dL_law_24 (by decide) rfl (fun e => ?_) (fun e => ?_)
    · refine gl_iconst (w := 1) (n := 1108) ok dL_law_1107 rfl (by decide) ?_
      exact gl_ret ok dL_law_1108
    · have hi : i + 6 ≤ L := by
        rw [Int32.lt_iff_toInt_lt, e6, ei] at e
        omega
      refine gl_aload_n 3 (n := 28) ok dL_law_27 rfl rfl ?_
      refine gl_iload_n 0 (n := 29) ok dL_law_28 rfl rfl ?_
      refine gl_sld i (n := 30) ok dL_law_29 rfl ex3 (by omega) ?_
      refine gl_bipush (w := 63) (n := 32) ok dL_law_30 rfl (by decide) ?_
      refine gl_iand (n := 33) ok dL_law_32 rfl ?_
      refine law_sw ok ex3 hi (hR S T hr _ _ _ _ _ _) (fun S1 T1 hr1 => ?_)
      obtain ⟨z, ez⟩ : ∃ y : Int32, y = x3 + 6 := ⟨_, rfl⟩
      refine gl_iinc 0 [(3, .int z), (2, .ref (u.1 0)), (1, .ref (v.1 0)), (0, .ref g.2.2.2.2.2.2.2.2)] (w := z) (n := 1104) ok dL_law_1101 rfl rfl (by rw [ez]; rfl) (by decide) rfl ?_
      refine gl_goto (t := 18) ok dL_law_1104 (by decide) ?_
      exact ih (i + 6) z S1 T1 (by rw [ez, ex3]; exact nI_add i 6) hi (by omega) hr1
