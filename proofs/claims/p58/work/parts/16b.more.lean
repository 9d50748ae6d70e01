/-! calls on a receiver of a subclass, of a superclass's own method, on texts of both kinds; clones -/
theorem am_selP {C : String} {y z : MethodName} {s : State} {args : Array Value} {n : Nat} (hy : y.cls ≠ "java/lang/invoke/MethodHandle" ∧ y.cls ≠ "java/lang/invoke/VarHandle")
    (hins : (Cond.instantiable C n).before args s = true) (hpriv : (Cond.privateMethod y).before args s = true) (hinst : (Cond.instanceMethod y).before args s = true) (hz : (Cond.selects C z z).before args s = true) (hzy : z.cls = y.cls) :
    (Cond.selects C y y).before args s = true := by
  obtain ⟨c, k, hc, hk, -, hniab, -, -⟩ := Cond.instantiable_spec hins
  obtain ⟨mk, methM, hnamed, hmethM, -, -⟩ := Cond.instanceMethod_spec hinst
  have hfound : s.methodFound? y.cls y.name y.desc = some mk := State.methodFound?_of_named hnamed hy
  have hsel : selectMethod {} s.vm c mk = .method mk := selectMethod_private hmethM (Cond.privateMethod_at hpriv mk methM hnamed hmethM)
  obtain ⟨c2, r2, m2, q1, q2, q3, q4, kP, hkP, hkPi⟩ := Cond.selects_spec hz
  have e1 := findClass_of_methodNamed hnamed
  have e2 := findClass_of_methodNamed q3
  rw [hzy, e1] at e2
  have e3 : mk.cls = m2.cls := Option.some.inj e2
  rw [← e3] at hkP
  simp only [Cond.before, Cond.holds, Cond.value, hc, hfound, hnamed, hsel, hkP]
  simp
  exact hkPi
def i_or (n : Nat) (A B : Ins) : Ins := fun fr h => match fr.2.2.drop n with
  | Sum.inr (Sum.inl (0, _)) :: _ => A fr h
  | _ => B fr h
theorem s_or {y pc n : Nat} {A B : Ins} (hA : Snd y pc A) (hB : Snd y pc B) : Snd y pc (i_or n A B) := by
  intro x C fr h hpc ha
  have e : i_or n A B fr h = A fr h ∨ i_or n A B fr h = B fr h := by
    unfold i_or
    split
    · exact Or.inl rfl
    · exact Or.inr rfl
  rcases e with e | e
  · rw [e] at ha ⊢
    exact hA x C fr h hpc ha
  · rw [e] at ha ⊢
    exact hB x C fr h hpc ha
theorem s_callG {y pc y' n c index : Nat} {nm : String} (hd : decode (am_mi y).2.1 pc = .ok (.invokevirtual index, 3)) (hC : am_okC y' n) (hf : (am_mi y').2.2.2.2.2 = false) (hc : ((am_cl[c]?).map fun q => q.1) = some nm ∨ (am_cl[c]? = none ∧ am_wC c = nm)) (hl : Cond.methodLink (am_mi y).1.cls index (am_mi y').1 ∈ lw_tbl) (hi : Cond.instanceMethod (am_mi y').1 ∈ lw_tbl) (hs : Cond.selects nm (am_mi y').1 (am_mi y').1 ∈ lw_tbl) : Snd y pc (i_call y' n c) := by
  intro x C fr h hpc ha
  obtain ⟨pc', ls, st0⟩ := fr
  obtain rfl : pc' = pc := hpc
  unfold i_call at ha ⊢
  dsimp only at ha ⊢
  split at ha
  · rename_i a b st hdrop
    split at ha
    · rename_i c' fs hSe
      split at ha
      · rename_i hcc hble
        have hcc2 : c' = c := Nat.eq_of_beq_eq_true hcc
        subst hcc2
        intro o' h' m1 m2 m3 m4 hd1 hM hR hX H locs cells slots lsC hp
        have hcb := am_callB C hC hf hl hd1 (hN h' - hN h) (hL h' - hL h)
        have hroom := am_room C hp m1 m2 m3 m4
        have hi2 := C.wa hi rfl
        have hs2 := C.wa hs rfl
        have hcat := am_cats (xK x) C.fmt st hble
        refine am_run hp m1 m2 (as := Sum.inr (Sum.inl (a, b)) :: (st0.take n).reverse) (st := st) ?_ hR hX
        intro p l e R s m args below meth c e1
        obtain ⟨k, o, hE, ⟨d, n9, sl0⟩, p2, l2, e2, R2, s2, m2', args2, below2, meth2, c2⟩ := x
        cases e1
        obtain ⟨cellB, r1, r2, r3, r4⟩ := am_recv C.2.2.1 hp.1 hSe
        obtain ⟨hlen, hst⟩ := am_stk (k := k) st0 st n _ hdrop
        have hcls : s2.vm.findClass nm = some cellB.cls := by
          rcases hc with h1 | ⟨h1, h2⟩
          · obtain ⟨q, hq1, hq2⟩ := Option.map_eq_some_iff.mp h1
            rw [← hq2]
            exact r3 q hq1
          · rw [← h2]
            exact r4 h1
        exact vx_runV (Ts := am_WA) (own := (am_mi y).1.cls) (C := nm) (b := am_adr k a b) (As := ((st0.take n).reverse).map (am_cv k)) ⟨C.1.1, C.1.2.1, C.1.2.2.1, C.1.2.2.2.1, C.2.1⟩ hM ⟨hcb, hi2, hs2⟩ ⟨am_blind, ⟨cellB, r1, r2, hcls⟩, fun U hU hW => ⟨rfl, by rw [hU]; exact hp.1, STAT.moved hW C.2.2.1⟩⟩ rfl hlen hp.2.2.2.2.1.1 hst (am_sum hcat) hd hroom
      · exact absurd ha.1 id
    · exact absurd ha.1 id
  · exact absurd ha.1 id
theorem s_callP {y pc y' n c index : Nat} {nm : String} (hd : decode (am_mi y).2.1 pc = .ok (.invokevirtual index, 3)) (hC : am_okC y' n) (hf : (am_mi y').2.2.2.2.2 = false) (hc : ((am_cl[c]?).map fun q => q.1) = some nm ∨ (am_cl[c]? = none ∧ am_wC c = nm)) (hl : Cond.methodLink (am_mi y).1.cls index (am_mi y').1 ∈ lw_tbl) (hi : Cond.instanceMethod (am_mi y').1 ∈ lw_tbl) (hs : Cond.selects nm (am_mi y').1 (am_mi y').1 ∈ am_nest) : Snd y pc (i_call y' n c) := by
  intro x C fr h hpc ha
  obtain ⟨pc', ls, st0⟩ := fr
  obtain rfl : pc' = pc := hpc
  unfold i_call at ha ⊢
  dsimp only at ha ⊢
  split at ha
  · rename_i a b st hdrop
    split at ha
    · rename_i c' fs hSe
      split at ha
      · rename_i hcc hble
        have hcc2 : c' = c := Nat.eq_of_beq_eq_true hcc
        subst hcc2
        intro o' h' m1 m2 m3 m4 hd1 hM hR hX H locs cells slots lsC hp
        have hcb := am_callB C hC hf hl hd1 (hN h' - hN h) (hL h' - hL h)
        have hroom := am_room C hp m1 m2 m3 m4
        have hi2 := C.wa hi rfl
        have hs2 : (Cond.selects nm (am_mi y').1 (am_mi y').1).before x.2.2.2.2.2.2.2.2.2.2.1 (xS x) = true := by
          obtain ⟨k, o, hE, ⟨d, n9, sl0⟩, p, l, e, R, s, m, args, below, meth, c⟩ := x
          exact va_Nw.use rfl (C.2.2.1.2.2.2.2.2.2.2.1 _ hs)
        have hcat := am_cats (xK x) C.fmt st hble
        refine am_run hp m1 m2 (as := Sum.inr (Sum.inl (a, b)) :: (st0.take n).reverse) (st := st) ?_ hR hX
        intro p l e R s m args below meth c e1
        obtain ⟨k, o, hE, ⟨d, n9, sl0⟩, p2, l2, e2, R2, s2, m2', args2, below2, meth2, c2⟩ := x
        cases e1
        obtain ⟨cellB, r1, r2, r3, r4⟩ := am_recv C.2.2.1 hp.1 hSe
        obtain ⟨hlen, hst⟩ := am_stk (k := k) st0 st n _ hdrop
        have hcls : s2.vm.findClass nm = some cellB.cls := by
          rcases hc with h1 | ⟨h1, h2⟩
          · obtain ⟨q, hq1, hq2⟩ := Option.map_eq_some_iff.mp h1
            rw [← hq2]
            exact r3 q hq1
          · rw [← h2]
            exact r4 h1
        exact vx_runV (Ts := am_WA) (own := (am_mi y).1.cls) (C := nm) (b := am_adr k a b) (As := ((st0.take n).reverse).map (am_cv k)) ⟨C.1.1, C.1.2.1, C.1.2.2.1, C.1.2.2.2.1, C.2.1⟩ hM ⟨hcb, hi2, hs2⟩ ⟨am_blind, ⟨cellB, r1, r2, hcls⟩, fun U hU hW => ⟨rfl, by rw [hU]; exact hp.1, STAT.moved hW C.2.2.1⟩⟩ rfl hlen hp.2.2.2.2.1.1 hst (am_sum hcat) hd hroom
      · exact absurd ha.1 id
    · exact absurd ha.1 id
  · exact absurd ha.1 id
theorem s_callO {y pc y' n c index : Nat} {nm owner : String} {xn : MethodName} {b0 : ByteArray} {m0 : Nat} {r0 : Option FieldType} (hd : decode (am_mi y).2.1 pc = .ok (.invokevirtual index, 3)) (hC : am_okC y' n) (hf : (am_mi y').2.2.2.2.2 = false) (hc : ((am_cl[c]?).map fun q => q.1) = some nm ∨ (am_cl[c]? = none ∧ am_wC c = nm)) (hl : Cond.methodLink (am_mi y).1.cls index xn ∈ lw_tbl) (hsm : Cond.sameMethod xn.cls owner xn.name xn.desc ∈ lw_tbl) (hi0 : Cond.instanceMethod ⟨owner, xn.name, xn.desc⟩ ∈ lw_tbl) (hc0 : Cond.code ⟨owner, xn.name, xn.desc⟩ b0 m0 r0 ∈ lw_tbl) (how : owner ≠ "java/lang/invoke/MethodHandle" ∧ owner ≠ "java/lang/invoke/VarHandle") (hdx : xn.desc = (am_mi y').1.desc) (hi : Cond.instanceMethod (am_mi y').1 ∈ lw_tbl) (hs : Cond.selects nm xn (am_mi y').1 ∈ lw_tbl) : Snd y pc (i_call y' n c) := by
  intro x C fr h hpc ha
  obtain ⟨pc', ls, st0⟩ := fr
  obtain rfl : pc' = pc := hpc
  unfold i_call at ha ⊢
  dsimp only at ha ⊢
  split at ha
  · rename_i a b st hdrop
    split at ha
    · rename_i c' fs hSe
      split at ha
      · rename_i hcc hble
        have hcc2 : c' = c := Nat.eq_of_beq_eq_true hcc
        subst hcc2
        intro o' h' m1 m2 m3 m4 hd1 hM hR hX H locs cells slots lsC hp
        obtain ⟨c1, c2, c3, c4⟩ := am_callC C hC hd1 (hN h' - hN h) (hL h' - hL h)
        have hl2 := C.wa hl rfl
        have hsm2 := C.wa hsm rfl
        have hi02 := C.wa hi0 rfl
        have hc02 := C.wa hc0 rfl
        have hini := C.wa hC.2.1 rfl
        have hcw : am_cw (am_mi y') = Cond.code (am_mi y').1 (am_mi y').2.1 (am_mi y').2.2.1 (am_mi y').2.2.2.1 := by
          unfold am_cw
          rw [hf]
          rfl
        rw [hcw] at c3
        have hroom := am_room C hp m1 m2 m3 m4
        have hi2 := C.wa hi rfl
        have hs2 := C.wa hs rfl
        have hcat := am_cats (xK x) C.fmt st hble
        refine am_run hp m1 m2 (as := Sum.inr (Sum.inl (a, b)) :: (st0.take n).reverse) (st := st) ?_ hR hX
        intro p l e R s m args below meth c e1
        obtain ⟨k, o, hE, ⟨d, n9, sl0⟩, p2, l2, e2, R2, s2, m2', args2, below2, meth2, c2'⟩ := x
        cases e1
        obtain ⟨cellB, r1, r2, r3, r4⟩ := am_recv C.2.2.1 hp.1 hSe
        obtain ⟨hlen, hst⟩ := am_stk (k := k) st0 st n _ hdrop
        have hcls : s2.vm.findClass nm = some cellB.cls := by
          rcases hc with h1 | ⟨h1, h2⟩
          · obtain ⟨q, hq1, hq2⟩ := Option.map_eq_some_iff.mp h1
            rw [← hq2]
            exact r3 q hq1
          · rw [← h2]
            exact r4 h1
        exact vx_runU (Ts := am_WA) (own := (am_mi y).1.cls) (C := nm) (owner := owner) (x := xn) (b := am_adr k a b) (As := ((st0.take n).reverse).map (am_cv k)) ⟨C.1.1, C.1.2.1, C.1.2.2.1, C.1.2.2.2.1, C.2.1⟩ hM ⟨⟨rfl, rfl, c1.1, c1.2, c2, by rw [← hcw]; exact List.mem_cons_self⟩, c3, hini, how, (by rw [hdx]; exact c4), hl2, hsm2, va_Decl.of hi02 hc02, hs2, hi2⟩ ⟨am_blind, ⟨cellB, r1, r2, hcls⟩, fun U hU hW => ⟨rfl, by rw [hU]; exact hp.1, STAT.moved hW C.2.2.1⟩⟩ rfl hlen hp.2.2.2.2.1.1 hst (am_sum hcat) hd hroom
      · exact absurd ha.1 id
    · exact absurd ha.1 id
  · exact absurd ha.1 id
theorem s_callSup {y pc y' n c index : Nat} {nm : String} (hd : decode (am_mi y).2.1 pc = .ok (.invokespecial index, 3)) (hC : am_okC y' n) (hf : (am_mi y').2.2.2.2.2 = false) (hc : ((am_cl[c]?).map fun q => q.1) = some nm) (hl : Cond.methodLink (am_mi y).1.cls index (am_mi y').1 ∈ lw_tbl) (hi : Cond.instanceMethod (am_mi y').1 ∈ lw_tbl) (hsm : Cond.sameMethod (am_mi y').1.cls (am_mi y').1.cls (am_mi y').1.name (am_mi y').1.desc ∈ lw_tbl) (hsp : Cond.superclass (am_mi y).1.cls (am_mi y').1.cls ∈ lw_tbl) (hno : (am_mi y').1.name ≠ "<init>") (hc90 : c < 11) : Snd y pc (i_call y' n c) := by
  intro x C fr h hpc ha
  obtain ⟨pc', ls, st0⟩ := fr
  obtain rfl : pc' = pc := hpc
  unfold i_call at ha ⊢
  dsimp only at ha ⊢
  split at ha
  · rename_i a b st hdrop
    split at ha
    · rename_i c' fs hSe
      split at ha
      · rename_i hcc hble
        have hcc2 : c' = c := Nat.eq_of_beq_eq_true hcc
        subst hcc2
        intro o' h' m1 m2 m3 m4 hd1 hM hR hX H locs cells slots lsC hp
        obtain ⟨c1, c2, c3, c4⟩ := am_callC C hC hd1 (hN h' - hN h) (hL h' - hL h)
        have hl2 := C.wa hl rfl
        have hsm2 := C.wa hsm rfl
        have hsp2 := C.wa hsp rfl
        have hini := C.wa hC.2.1 rfl
        have hcw : am_cw (am_mi y') = Cond.code (am_mi y').1 (am_mi y').2.1 (am_mi y').2.2.1 (am_mi y').2.2.2.1 := by
          unfold am_cw
          rw [hf]
          rfl
        rw [hcw] at c3
        have hroom := am_room C hp m1 m2 m3 m4
        have hi2 := C.wa hi rfl
        have hcat := am_cats (xK x) C.fmt st hble
        refine am_run hp m1 m2 (as := Sum.inr (Sum.inl (a, b)) :: (st0.take n).reverse) (st := st) ?_ hR hX
        intro p l e R s m args below meth c e1
        obtain ⟨k, o, hE, ⟨d, n9, sl0⟩, p2, l2, e2, R2, s2, m2', args2, below2, meth2, c2'⟩ := x
        cases e1
        obtain ⟨cellB, r1, r2, r3, r4⟩ := am_recv C.2.2.1 hp.1 hSe
        obtain ⟨hlen, hst⟩ := am_stk (k := k) st0 st n _ hdrop
        obtain ⟨q, hq1, hq2⟩ := Option.map_eq_some_iff.mp hc
        have hcls : s2.vm.findClass nm = some cellB.cls := by
          rw [← hq2]
          exact r3 q hq1
        have hat : ClassAt s2 nm cellB.cls := by
          have h9 := (C.2.2.1.1 c' _ hq1).2
          have e9 : cellB.cls = k.2.2.1 c' := Option.some.inj ((r3 q hq1).symm.trans h9.1)
          rw [e9, ← hq2]
          exact h9
        exact vx_runSU (Ts := am_WA) (own := (am_mi y).1.cls) (C := nm) (b := am_adr k a b) (As := ((st0.take n).reverse).map (am_cv k)) hat ⟨C.1.1, C.1.2.1, C.1.2.2.1, C.1.2.2.2.1, C.2.1⟩ hM ⟨⟨rfl, rfl, c1.1, c1.2, c2, by rw [← hcw]; exact List.mem_cons_self⟩, hl2, hsm2, hsp2, hi2, hini, c3, hno, c4⟩ ⟨am_blind, ⟨cellB, r1, r2, hcls⟩, fun U hU hW => ⟨rfl, by rw [hU]; exact hp.1, STAT.moved hW C.2.2.1⟩⟩ rfl hlen hp.2.2.2.2.1.1 hst (am_sum hcat) hd hroom
      · exact absurd ha.1 id
    · exact absurd ha.1 id
  · exact absurd ha.1 id
/-- a row of bytes cloned -/
def i_clone (nx : Nat) : Ins := fun fr h => match fr.2.2 with
  | Sum.inr (Sum.inl (a, b)) :: st => (match Nat.ble st.length 4, hS h a b with
    | true, some (Sum.inl (7, n, _)) => goC (∀ j, j < n → fits .byte (.int (hI h a b j)) = true) nx fr.2.1 (Sum.inr (Sum.inl (am_al (hN h))) :: st)
      (upS (hS h) (am_al (hN h)).1 (am_al (hN h)).2 (some (Sum.inl (7, n, fun _ => aN))), (hN h + 1, hL h + n), upA (hI h) (am_al (hN h)).1 (am_al (hN h)).2 (hI h a b), h.2.2.2)
    | _, _ => stuck)
  | _ => stuck
theorem s_clone {y pc nx index : Nat} (hd : decode (am_mi y).2.1 pc = .ok (.invokevirtual index, 3)) (hl : Cond.methodLink (am_mi y).1.cls index ⟨"[B", "clone", "()Ljava/lang/Object;"⟩ ∈ lw_tbl) (hsm : Cond.sameMethod "[B" "java/lang/Object" "clone" "()Ljava/lang/Object;" ∈ lw_tbl) (hnt : Cond.native ⟨"java/lang/Object", "clone", "()Ljava/lang/Object;"⟩ ∈ lw_tbl) (hin : Cond.instanceMethod ⟨"java/lang/Object", "clone", "()Ljava/lang/Object;"⟩ ∈ lw_tbl)
    (hse : Cond.selects "[B" ⟨"[B", "clone", "()Ljava/lang/Object;"⟩ ⟨"java/lang/Object", "clone", "()Ljava/lang/Object;"⟩ ∈ lw_tbl) (hn : pc + 3 = nx) : Snd y pc (i_clone nx) := by
  subst hn
  intro x C fr h hpc ha
  obtain ⟨pc', ls, st⟩ := fr
  obtain rfl : pc' = pc := hpc
  unfold i_clone at ha ⊢
  dsimp only at ha ⊢
  split at ha
  · rename_i a b st'
    split at ha
    · rename_i n g hble hSe
      have hfit := ha.1
      refine ⟨⟨Nat.le_succ _, Nat.le_add_right _ _⟩, fun hm1 hm2 K H locs cells slots lsC hp => ?_⟩
      have w1 := C.wa hl rfl
      have w2 := C.wa hsm rfl
      have w3 := C.wa hnt rfl
      have w4 := C.wa hin rfl
      have w5 := C.wa hse rfl
      have hcat := am_cats (xK x) C.fmt st' hble
      obtain ⟨k, o, hE, ⟨d, n0, sl0⟩, p, l, e, R, s, m, args, below, meth, co⟩ := x
      have hr1 := C.2.2.2.2.1.2.2.1
      have hr2 := C.2.2.2.2.1.2.2.2
      have hq1 : cells + n0 = hN h := hp.2.2.1
      have hq2 : slots + sl0 = hL h := hp.2.2.2.1
      have hm1' : hN h + 1 ≤ hN hE := hm1
      have hm2' : hL h + n ≤ hL hE := hm2
      have hR1 : d + 16 ≤ R.frames := C.2.2.2.2.1.1
      have hR2 : 45 * d + 400 ≤ R.locals := C.2.2.2.2.1.2.1
      have hc : ((st'.map (am_cv k)).map fun v => v.category).sum ≤ 8 := hcat
      rcases am_arr C.2.2.1 hp.1 hSe with ⟨h1, h2, h3, h4⟩ | ⟨h1, -⟩
      · have hcell : H[am_adr k a b]? = some (arrV (k.2.2.2.2.1 7) n (fun j => .int (hI h a b j))) := h3
        have hsB := C.2.2.1.2.1 7 (by omega)
        have hnm : s.vm.findClass "[B" = some (k.2.2.2.2.1 7) := hsB.2
        obtain ⟨-, kS, hkS, compS, hkindS⟩ := h4 0 (fun _ => .null)
        have hcs : va_Nw (.castable "[B" "java/lang/Cloneable") s := C.2.2.1.2.2.2.2.2.2.2.1 _ (by decide +kernel)
        obtain ⟨c0, t0', f1, f2, f3⟩ := Cond.castable_spec (va_Nw.use (A := args) rfl hcs)
        cases hnm.symm.trans f1
        intro T hT X
        have hcellT : T.heap[am_adr k a b]? = some (arrV (k.2.2.2.2.1 7) n (fun j => .int (hI h a b j))) := by rw [hT]; exact hcell
        obtain ⟨-, kA, hkA, comp, hkind⟩ := State.isArrayOf_alike X.warmed.alike (h4 0 (fun _ => .null))
        obtain ⟨vm', X', stp⟩ := X.cloneArray C.1.1 C.1.2.2.2.1 w1 w2 w3 w4 w5 (a := am_adr k a b) (cell := arrV (k.2.2.2.2.1 7) n (fun j => .int (hI h a b j))) hcellT (fun _ h => by cases h) (fun h => by cases h) hnm f2 f3
          (fun i v hv => by
            have hi : i < n := by
              have := (Array.getElem?_eq_some_iff.mp hv).1
              rw [arrV_size] at this
              exact this
            rw [arrV_read _ _ hi] at hv
            cases hv
            have hk' : T.vm.classes[k.2.2.2.2.1 7]? = some kA := hkA
            have h9 := hfit i hi
            have h8 : am_ty 7 = .byte := rfl
            rw [h8] at hkind
            simpa [State.fitsSlot, State.slotType?, hk', hkind, arrV] using h9)
          (g := F0 m pc' lsC (.ref (am_adr k a b) :: st'.map (am_cv k))) rfl (hp.2.2.2.2.1.1.trans C.1.2.2.1.symm) rfl (by rw [C.1.2.1]; exact hd) (by omega) (by show 2 * 0 + _ + 14 ≤ _; omega) (by omega) (by rw [arrV_size]; omega) (hloader := Vm.clonesLoader_of_array hkS hkindS)
        have hcE : ({ cls := (arrV (k.2.2.2.2.1 7) n (fun j => Value.int (hI h a b j))).cls, slots := (arrV (k.2.2.2.2.1 7) n (fun j => Value.int (hI h a b j))).slots } : Cell) = arrV (k.2.2.2.2.1 7) n (fun j => .int (hI h a b j)) := rfl
        rw [hcE, arrV_size] at X'
        rw [hcE] at stp
        generalize hH1 : H.push (arrV (k.2.2.2.2.1 7) n (fun j => Value.int (hI h a b j))) = H1
        have z1 : H1.size = H.size + 1 := by rw [← hH1, Array.size_push]
        have e1 : H1[H.size]? = some (arrV (k.2.2.2.2.1 7) n (fun j => .int (hI h a b j))) := by rw [← hH1, Array.getElem?_push_size]
        have o1 : ∀ q : Nat, q < H.size → H1[q]? = H[q]? := fun q hq => by rw [← hH1, Array.getElem?_push, if_neg (Nat.ne_of_lt hq)]
        have eadr : am_adr k (am_al (hN h)).1 (am_al (hN h)).2 = H.size := by rw [am_adr_al, hp.1.1]
        have hheap : ((T.setVm vm').pushCell (arrV (k.2.2.2.2.1 7) n (fun j => Value.int (hI h a b j)))).heap = H1 := by rw [← hH1, ← hT]; rfl
        have K2 := K H1 locs (cells + 1) (slots + n) lsC ⟨?_, hp.2.1, by show cells + 1 + n0 = hN h + 1; omega, by show slots + n + sl0 = hL h + n; omega, hp.2.2.2.2⟩
        · obtain ⟨t, a1, b1⟩ := K2 _ hheap X'
          refine ⟨t, stp t ?_, b1⟩
          have e9 : T.heap.size = am_adr k (am_al (hN h)).1 (am_al (hN h)).2 := by rw [eadr, hT]
          rw [e9]
          exact a1
        · refine hp.1.new (a := (am_al (hN h)).1) (b := (am_al (hN h)).2) rfl z1 o1 rfl (fun _ _ z => upS_ne z) (fun _ _ _ z => congrFun (upA_ne z) _) (fun _ _ _ _ => rfl) (fun _ _ _ _ => rfl) ?_
          show am_cell _ _ _ _ (upS (hS h) _ _ _ _ _) H1
          rw [upS_self]
          refine ⟨by omega, ?_⟩
          rw [eadr, e1]
          congr 2
          funext j
          show Value.int (hI h a b j) = .int (upA (hI h) _ _ (hI h a b) _ _ j)
          rw [upA_self]
      · omega
    · exact absurd ha.1 id
  · exact absurd ha.1 id
/-- a cast of a row of bytes -/
def i_chkB (nx : Nat) : Ins := fun fr h => match fr.2.2 with
  | Sum.inr (Sum.inl (a, b)) :: st => (match hS h a b with
    | some (Sum.inl (7, _, _)) => go nx fr.2.1 (Sum.inr (Sum.inl (a, b)) :: st) h
    | _ => stuck)
  | _ => stuck
theorem s_chkB {y pc nx index : Nat} (hd : decode (am_mi y).2.1 pc = .ok (.checkcast index, 3)) (hl : Cond.classLink (am_mi y).1.cls index "[B" ∈ lw_tbl) (hn : pc + 3 = nx) : Snd y pc (i_chkB nx) := by
  subst hn
  intro x C fr h hpc ha
  obtain ⟨pc', ls, st⟩ := fr
  obtain rfl : pc' = pc := hpc
  unfold i_chkB at ha ⊢
  dsimp only at ha ⊢
  split at ha
  · rename_i a b st'
    split at ha
    · rename_i n g hSe
      refine ⟨⟨Nat.le_refl _, Nat.le_refl _⟩, fun hm1 hm2 K H locs cells slots lsC hp => ?_⟩
      have K2 := K H locs cells slots lsC hp
      have w1 := C.wa hl rfl
      obtain ⟨k, o, hE, ⟨d, n0, sl0⟩, p, l, e, R, s, m, args, below, meth, co⟩ := x
      rcases am_arr C.2.2.1 hp.1 hSe with ⟨h1, h2, h3, h4⟩ | ⟨h1, -⟩
      · have hcell : H[am_adr k a b]? = some (arrV (k.2.2.2.2.1 7) n (fun j => .int (hI h a b j))) := h3
        have hnm : s.vm.findClass "[B" = some (k.2.2.2.2.1 7) := (C.2.2.1.2.1 7 (by omega)).2
        intro T hT X
        obtain ⟨vm', X', stp⟩ := X.checkcastYes C.1.1 C.1.2.2.2.1 w1 (by rw [hT]; exact hcell) rfl hnm (am_asg _ _) (g := F0 m pc' lsC (.ref (am_adr k a b) :: st'.map (am_cv k))) rfl rfl (by rw [C.1.2.1]; exact hd)
        obtain ⟨t, a1, b1⟩ := K2 _ (by rw [← hT]; rfl) X'
        exact ⟨t, stp t a1, b1⟩
      · omega
    · exact absurd ha.1 id
  · exact absurd ha.1 id
