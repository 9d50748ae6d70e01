/-! calls -/
set_option maxRecDepth 4000 in
theorem am_rm_le {z d L : Nat} (h1 : z ≤ 26) (h2 : 45 * d + 400 ≤ L) (h3 : 1 ≤ d) : 8 + (z + 11) + (45 * (d - 1) + 400) ≤ L := by
  obtain ⟨d', rfl⟩ : ∃ d', d = d' + 1 := ⟨d - 1, (Nat.succ_pred_eq_of_pos h3).symm⟩
  rw [Nat.add_sub_cancel]
  have h4 : 45 * (d' + 1) = 45 * d' + 45 := Nat.mul_succ 45 d'
  rw [h4] at h2
  have h5 : 8 + (26 + 11) + (45 * d' + 400) = 45 * d' + 45 + 400 := (Nat.add_comm 45 (45 * d' + 400)).trans (Nat.add_right_comm (45 * d') 400 45)
  exact Nat.le_trans (Nat.add_le_add_right (Nat.add_le_add_left (Nat.add_le_add_right h1 11) 8) (45 * d' + 400)) (Nat.le_trans (Nat.le_of_eq h5) h2)
def am_okC (y n : Nat) : Prop := am_cw (am_mi y) ∈ lw_tbl ∧ Cond.initialized (am_mi y).1.cls ∈ lw_tbl ∧ (am_mi y).2.2.1 ≤ 26 ∧ plainName (am_mi y).1.cls = true ∧ ((am_mi y).1.cls ≠ "java/lang/invoke/MethodHandle" ∧ (am_mi y).1.cls ≠ "java/lang/invoke/VarHandle") ∧ (parseMethodDescriptor (am_mi y).1.desc).map (fun d => d.parameters.length) = some n
theorem am_cw_good (q : MI) : goodWord (am_cw q) = true := by
  unfold am_cw
  cases q.2.2.2.2.2 <;> rfl
theorem am_goodWs {y : Nat} (h : am_cw (am_mi y) ∈ lw_tbl) : GoodIn am_WA (am_ws y) := by
  intro w hw
  rcases List.mem_cons.mp hw with rfl | hw
  · exact ⟨am_inWA h (am_cw_good _), good_of_word (am_cw_good _)⟩
  · exact am_goodWA w hw
theorem am_ret_app {k : C0} (r : Option AV) (st : List AV) : (r.map (am_cv k)).toList ++ st.map (am_cv k) = (r.toList ++ st).map (am_cv k) := by cases r <;> rfl
/-- what a call gives, and what is owed behind it -/
theorem am_run {x : CX} {y : Nat} {as st0 st : List AV} {ls : List (Option AV)} {pc : Nat} {h h' : AH} {o' : Out} {H : Heap} {locs : List Loc} {cells slots : Nat} {lsC : Array Slot} (hp : PT x y ls h H locs cells slots lsC) (h1 : hN h ≤ hN h') (h2 : hL h ≤ hL h')
    (hr : ∀ (p : Program) (l : Launch) (e : Env) (R : Room) (s : State) (m : MethodId) (args : Array Value) (below : List Frame) (meth : Method) (c : Code), (x.2.2.2.2.1, x.2.2.2.2.2.1, x.2.2.2.2.2.2.1, x.2.2.2.2.2.2.2.1, xS x, xM x, x.2.2.2.2.2.2.2.2.2.2) = (p, l, e, R, s, m, (args, below, meth, c)) →
      vx_Run p l e R s m args below meth c H locs cells slots (hN h' - hN h) (hL h' - hL h) (F0 m pc lsC (st0.map (am_cv (xK x)))) (st.map (am_cv (xK x))) (QcA (xK x) o' h' (as.map (am_cv (xK x))).toArray) (XcA (xK x) o' h') (frA (xK x)))
    (hR : ∀ r, o' = Sum.inl r → Wk x y (pc + 3, ls, r.toList ++ st) h') (hX : ∀ j, o' = Sum.inr j → Wx x y (pc, ls, st) j h') : WX x H locs cells slots (F0 (xM x) pc lsC (st0.map (am_cv (xK x)))) := by
  obtain ⟨k, o, hE, ⟨d, n9, sl0⟩, p, l, e, R, s, m, args, below, meth, c⟩ := x
  have hr2 := hr p l e R s m args below meth c rfl
  have hq1 : cells + n9 = hN h := hp.2.2.1
  have hq2 : slots + sl0 = hL h := hp.2.2.2.1
  intro T hT X
  rcases hr2 T hT X with ⟨v, st₀, t, T', L, h0, X', hLs, e1, e2, ⟨r, ho, hv, hDy⟩, stp⟩ | ⟨q, st₀, t, T', L, E, ce, h0, X', hLs, e1, e2, ⟨j, ho, hj, hEj, hDy⟩, hce, hcv, hcl, stp⟩
  · have hv2 : v = r.map (am_cv k) := Outcome.returned.inj hv
    subst hv2
    have K2 := hR r ho T'.heap (locs ++ L) (cells + (hN h' - hN h)) (slots + (hL h' - hL h)) lsC ⟨by rw [e1]; exact hDy, fun z hz => by
      rcases List.mem_append.mp hz with h8 | h8
      · exact hp.2.1 z h8
      · exact hLs z h8, by show cells + (hN h' - hN h) + n9 = hN h'; omega, by show slots + (hL h' - hL h) + sl0 = hL h'; omega, hp.2.2.2.2⟩
    obtain ⟨t2, a1, b1⟩ := K2 T' rfl X'
    refine ⟨t2, stp t2 ?_, b1⟩
    have e9 : (r.map (am_cv k)).toList ++ st.map (am_cv k) = (r.toList ++ st).map (am_cv k) := am_ret_app r st
    dsimp only [xK]
    rw [e9]
    exact a1
  · subst hEj
    have K2 := hX j ho T'.heap (locs ++ L) (cells + (hN h' - hN h)) (slots + (hL h' - hL h)) lsC q ce ⟨by rw [e1]; exact hDy, fun z hz => by
      rcases List.mem_append.mp hz with h8 | h8
      · exact hp.2.1 z h8
      · exact hLs z h8, by show cells + (hN h' - hN h) + n9 = hN h'; omega, by show slots + (hL h' - hL h) + sl0 = hL h'; omega, hp.2.2.2.2⟩ (by rw [e1]; exact hce) hcv hcl
    obtain ⟨t2, a1, b1⟩ := K2 T' rfl X'
    exact ⟨t2, stp.trans a1, b1⟩
/-- a receiver's class -/
theorem am_recv {k : C0} {s : State} (S : STAT k s) {h : AH} {H : Heap} (D : DYN k h H) {a b c : Nat} {fs : List AV} (e : hS h a b = some (Sum.inr (c, fs))) : ∃ cell : Cell, H[am_adr k a b]? = some cell ∧ cell.vm.isStatics = false ∧ ((∀ q, am_cl[c]? = some q → s.vm.findClass q.1 = some cell.cls) ∧ (am_cl[c]? = none → s.vm.findClass (am_wC c) = some cell.cls)) := by
  by_cases ha : a = 0
  · subst ha
    have h1 := S.2.2.1 b
    rw [← D.2.2.1 b, e] at h1
    obtain ⟨hc, ⟨cell, e1, e2, e3, e4⟩, -⟩ := h1
    have hlt : k.2.1 b < (kH k).size := (Array.getElem?_eq_some_iff.mp e1).1
    refine ⟨cell, (D.2.1 _ hlt).trans e1, e2, fun q hq => ?_, fun _ => e3⟩
    have := (List.getElem?_eq_some_iff.mp hq).1
    have e : am_cl.length = 11 := rfl
    omega
  · obtain ⟨-, hcell⟩ := D.2.2.2 a b ha (by rw [e]; exact fun z => by cases z)
    rw [e] at hcell
    obtain ⟨r, h1, h2, cell, g1, g2, g3, g4⟩ := hcell
    refine ⟨cell, g1, by rw [g3]; rfl, fun q hq => ?_, fun hq => ?_⟩
    · have hr : r = q := Option.some.inj (h1.symm.trans hq)
      subst hr
      rw [g2]
      exact (S.1 c _ hq).2.1
    · rw [hq] at h1; cases h1
def i_call (y' n c : Nat) : Ins := fun fr h => match fr.2.2.drop n with
  | Sum.inr (Sum.inl (a, b)) :: st => (match hS h a b with
    | some (Sum.inr (c', _)) => (match Nat.beq c' c, Nat.ble st.length 4 with
      | true, true => ([], Sum.inr (Sum.inl (y', Sum.inr (Sum.inl (a, b)) :: (fr.2.2.take n).reverse, (fr.1, fr.2.1, st))))
      | _, _ => stuck)
    | _ => stuck)
  | _ => stuck
def i_calls (y' n : Nat) : Ins := fun fr h => match Nat.ble n fr.2.2.length, Nat.ble (fr.2.2.drop n).length 4 with
  | true, true => ([], Sum.inr (Sum.inl (y', (fr.2.2.take n).reverse, (fr.1, fr.2.1, fr.2.2.drop n))))
  | _, _ => stuck
def i_calli (y' n : Nat) : Ins := fun fr h => match fr.2.2.drop n with
  | Sum.inr (Sum.inl (a, b)) :: st => (match Nat.ble st.length 4 with
      | true => ([], Sum.inr (Sum.inl (y', Sum.inr (Sum.inl (a, b)) :: (fr.2.2.take n).reverse, (fr.1, fr.2.1, st))))
      | _ => stuck)
  | _ => stuck
theorem am_blind {k : C0} {as : List AV} {h : AH} : FrameBlind (fun v U => v = (as.map (am_cv k)).toArray ∧ DYN k h U.heap ∧ STAT k U) := by
  intro a U g mk ⟨h1, h2, h3⟩
  exact ⟨h1, h2, STAT.moved (State.WarmedH.refl U) h3⟩
theorem am_callD {x : CX} {y y' n : Nat} (C : CT x y) (hC1 : am_cw (am_mi y') ∈ lw_tbl) (hC2 : (am_mi y').2.2.1 ≤ 26) (hC3 : (parseMethodDescriptor (am_mi y').1.desc).map (fun d => d.parameters.length) = some n) (hd : 1 ≤ x.2.2.2.1.1) (mc ms : Nat) :
    ((am_rm (x.2.2.2.1.1 - 1) mc ms).frames + 1 ≤ x.2.2.2.2.2.2.2.1.frames ∧ 8 + ((am_mi y').2.2.1 + 11) + (am_rm (x.2.2.2.1.1 - 1) mc ms).locals ≤ x.2.2.2.2.2.2.2.1.locals) ∧
    (∀ w ∈ am_ws y', ∀ (a' : Array Value) (U : State), (xS x).WarmedH U.vm → w.before a' U = true) ∧ (am_cw (am_mi y')).before x.2.2.2.2.2.2.2.2.2.2.1 (xS x) = true ∧
    (∀ sig, parseMethodDescriptor (am_mi y').1.desc = some sig → n = sig.parameters.length) := by
  have hw2 := C.wa hC1 (am_cw_good _)
  obtain ⟨k, o, hE, ⟨d, n9, sl0⟩, p, l, e, R, s, m, args, below, meth, c⟩ := x
  have hR1 : d + 16 ≤ R.frames := C.2.2.2.2.1.1
  have hR2 : 45 * d + 400 ≤ R.locals := C.2.2.2.2.1.2.1
  have hd1 : 1 ≤ d := hd
  refine ⟨⟨?_, ?_⟩, pay_in C.2.1 (am_goodWs hC1), hw2, fun sig h => ?_⟩
  · show d - 1 + 16 + 1 ≤ R.frames
    omega
  · have h9 := hC2
    show 8 + ((am_mi y').2.2.1 + 11) + (45 * (d - 1) + 400) ≤ R.locals
    exact am_rm_le h9 hR2 hd1
  · have h2 := hC3
    rw [h] at h2
    exact (Option.some.inj h2).symm
theorem am_callC {x : CX} {y y' n : Nat} (C : CT x y) (hC : am_okC y' n) (hd : 1 ≤ x.2.2.2.1.1) (mc ms : Nat) :
    ((am_rm (x.2.2.2.1.1 - 1) mc ms).frames + 1 ≤ x.2.2.2.2.2.2.2.1.frames ∧ 8 + ((am_mi y').2.2.1 + 11) + (am_rm (x.2.2.2.1.1 - 1) mc ms).locals ≤ x.2.2.2.2.2.2.2.1.locals) ∧
    (∀ w ∈ am_ws y', ∀ (a' : Array Value) (U : State), (xS x).WarmedH U.vm → w.before a' U = true) ∧ (am_cw (am_mi y')).before x.2.2.2.2.2.2.2.2.2.2.1 (xS x) = true ∧
    (∀ sig, parseMethodDescriptor (am_mi y').1.desc = some sig → n = sig.parameters.length) := am_callD C hC.1 hC.2.2.1 hC.2.2.2.2.2 hd mc ms
theorem am_callB {x : CX} {y y' n index : Nat} (C : CT x y) (hC : am_okC y' n) (hf : (am_mi y').2.2.2.2.2 = false) (hl : Cond.methodLink (am_mi y).1.cls index (am_mi y').1 ∈ lw_tbl) (hd : 1 ≤ x.2.2.2.1.1) (mc ms : Nat) :
    CallB x.2.2.2.2.2.2.2.1 (xS x) x.2.2.2.2.2.2.2.2.2.2.1 (am_mi y).1.cls index (am_mi y').1 (am_mi y').2.1 (am_mi y').2.2.1 (am_mi y').2.2.2.1 (am_ws y') (am_rm (x.2.2.2.1.1 - 1) mc ms) mc ms n := by
  have hl2 := C.wa hl rfl
  have hi2 := C.wa hC.2.1 rfl
  obtain ⟨k, o, hE, ⟨d, n9, sl0⟩, p, l, e, R, s, m, args, below, meth, c⟩ := x
  have hR1 : d + 16 ≤ R.frames := C.2.2.2.2.1.1
  have hR2 : 45 * d + 400 ≤ R.locals := C.2.2.2.2.1.2.1
  have hd1 : 1 ≤ d := hd
  refine callB_of n C.2.1 (am_goodWs hC.1) (ws' := am_WA) ?_ rfl rfl hi2 hl2 ⟨hC.2.2.2.2.1.1, hC.2.2.2.2.1.2, hC.2.2.2.2.2⟩ ⟨?_, ?_⟩
  · unfold am_ws am_cw
    rw [hf]
    rfl
  · show d - 1 + 16 + 1 ≤ R.frames
    omega
  · have h9 := hC.2.2.1
    show 8 + ((am_mi y').2.2.1 + 11) + (45 * (d - 1) + 400) ≤ R.locals
    exact am_rm_le h9 hR2 hd1
theorem am_room {x : CX} {y : Nat} {ls : List (Option AV)} {h h' : AH} {H : Heap} {locs : List Loc} {cells slots : Nat} {lsC : Array Slot} (C : CT x y) (hp : PT x y ls h H locs cells slots lsC) (h1 : hN h ≤ hN h') (h2 : hL h ≤ hL h') (h3 : hN h' ≤ hN x.2.2.1) (h4 : hL h' ≤ hL x.2.2.1) : cells + (hN h' - hN h) ≤ x.2.2.2.2.2.2.2.1.cells ∧ slots + (hL h' - hL h) ≤ x.2.2.2.2.2.2.2.1.slots := by
  obtain ⟨k, o, hE, ⟨d, n9, sl0⟩, p, l, e, R, s, m, args, below, meth, c⟩ := x
  have hr1 := C.2.2.2.2.1.2.2.1
  have hr2 := C.2.2.2.2.1.2.2.2
  have hq1 : cells + n9 = hN h := hp.2.2.1
  have hq2 : slots + sl0 = hL h := hp.2.2.2.1
  have h3' : hN h' ≤ hN hE := h3
  have h4' : hL h' ≤ hL hE := h4
  exact ⟨show cells + (hN h' - hN h) ≤ R.cells by omega, show slots + (hL h' - hL h) ≤ R.slots by omega⟩

theorem am_stk {k : C0} (st0 st : List AV) (n : Nat) (v : AV) (h : st0.drop n = v :: st) : (((st0.take n).reverse).map (am_cv k)).length = n ∧ st0.map (am_cv k) = (((st0.take n).reverse).map (am_cv k)).reverse ++ am_cv k v :: st.map (am_cv k) := by
  constructor
  · rw [List.length_map, List.length_reverse, List.length_take]
    have h2 := congrArg List.length h
    rw [List.length_drop] at h2
    simp at h2
    omega
  · rw [List.map_reverse, List.reverse_reverse]
    conv => lhs; rw [← List.take_append_drop n st0, h]
    rw [List.map_append]
    rfl
theorem am_sum {k : C0} {x : List AV} (h : ((x.map (am_cv k)).map fun v => v.category).sum ≤ 8) : 2 * 0 + ((x.map (am_cv k)).map fun v => v.category).sum ≤ 8 := by omega
theorem s_call {y pc y' n c index : Nat} {nm : String} (hd : decode (am_mi y).2.1 pc = .ok (.invokevirtual index, 3)) (hC : am_okC y' n) (hf : (am_mi y').2.2.2.2.2 = false) (hc : ((am_cl[c]?).map fun q => q.1) = some nm ∨ (am_cl[c]? = none ∧ am_wC c = nm)) (hq : nm = (am_mi y').1.cls) (hl : Cond.methodLink (am_mi y).1.cls index (am_mi y').1 ∈ lw_tbl) (hi : Cond.instanceMethod (am_mi y').1 ∈ lw_tbl) (hs : Cond.selects (am_mi y').1.cls (am_mi y').1 (am_mi y').1 ∈ lw_tbl) : Snd y pc (i_call y' n c) := by
  subst hq
  intro x C fr h hpc ha
  obtain ⟨pc', ls, st0⟩ := fr
  obtain rfl : pc' = pc := hpc
  unfold i_call at ha ⊢
  dsimp only at ha ⊢
  split at ha
  · rename_i a b st hdrop
    split at ha
    · rename_i c' fs hSe
      split at ha
      · rename_i hcc hble
        have hcc2 : c' = c := Nat.eq_of_beq_eq_true hcc
        subst hcc2
        intro o' h' m1 m2 m3 m4 hd1 hM hR hX H locs cells slots lsC hp
        have hcb := am_callB C hC hf hl hd1 (hN h' - hN h) (hL h' - hL h)
        have hroom := am_room C hp m1 m2 m3 m4
        have hi2 := C.wa hi rfl
        have hs2 := C.wa hs rfl
        have hcat := am_cats (xK x) C.fmt st hble
        refine am_run hp m1 m2 (as := Sum.inr (Sum.inl (a, b)) :: (st0.take n).reverse) (st := st) ?_ hR hX
        intro p l e R s m args below meth c e1
        obtain ⟨k, o, hE, ⟨d, n9, sl0⟩, p2, l2, e2, R2, s2, m2', args2, below2, meth2, c2⟩ := x
        cases e1
        obtain ⟨cellB, r1, r2, r3, r4⟩ := am_recv C.2.2.1 hp.1 hSe
        obtain ⟨hlen, hst⟩ := am_stk (k := k) st0 st n _ hdrop
        have hcls : s2.vm.findClass (am_mi y').1.cls = some cellB.cls := by
          rcases hc with h1 | ⟨h1, h2⟩
          · obtain ⟨q, hq1, hq2⟩ := Option.map_eq_some_iff.mp h1
            rw [← hq2]
            exact r3 q hq1
          · rw [← h2]
            exact r4 h1
        exact vx_runV (Ts := am_WA) (own := (am_mi y).1.cls) (C := (am_mi y').1.cls) (b := am_adr k a b) (As := ((st0.take n).reverse).map (am_cv k)) ⟨C.1.1, C.1.2.1, C.1.2.2.1, C.1.2.2.2.1, C.2.1⟩ hM ⟨hcb, hi2, hs2⟩ ⟨am_blind, ⟨cellB, r1, r2, hcls⟩, fun U hU hW => ⟨rfl, by rw [hU]; exact hp.1, STAT.moved hW C.2.2.1⟩⟩ rfl hlen hp.2.2.2.2.1.1 hst (am_sum hcat) hd hroom
      · exact absurd ha.1 id
    · exact absurd ha.1 id
  · exact absurd ha.1 id
theorem am_stkS {k : C0} (st0 : List AV) (n : Nat) (h : n ≤ st0.length) : (((st0.take n).reverse).map (am_cv k)).length = n ∧ st0.map (am_cv k) = (((st0.take n).reverse).map (am_cv k)).reverse ++ (st0.drop n).map (am_cv k) := by
  constructor
  · rw [List.length_map, List.length_reverse, List.length_take]
    omega
  · rw [List.map_reverse, List.reverse_reverse, ← List.map_append, List.take_append_drop]
theorem s_calls {y pc y' n index : Nat} (hd : decode (am_mi y).2.1 pc = .ok (.invokestatic index, 3)) (hC : am_okC y' n) (hf : (am_mi y').2.2.2.2.2 = false) (hl : Cond.methodLink (am_mi y).1.cls index (am_mi y').1 ∈ lw_tbl) (hs : Cond.static (am_mi y').1 ∈ lw_tbl) : Snd y pc (i_calls y' n) := by
  intro x C fr h hpc ha
  obtain ⟨pc', ls, st0⟩ := fr
  obtain rfl : pc' = pc := hpc
  unfold i_calls at ha ⊢
  dsimp only at ha ⊢
  split at ha
  · rename_i hle hble
    intro o' h' m1 m2 m3 m4 hd1 hM hR hX H locs cells slots lsC hp
    have hcb := am_callB C hC hf hl hd1 (hN h' - hN h) (hL h' - hL h)
    have hroom := am_room C hp m1 m2 m3 m4
    have hs2 := C.wa hs rfl
    have hcat := am_cats (xK x) C.fmt (st0.drop n) hble
    refine am_run hp m1 m2 (as := (st0.take n).reverse) (st := st0.drop n) ?_ hR hX
    intro p l e R s m args below meth c e1
    obtain ⟨k, o, hE, ⟨d, n9, sl0⟩, p2, l2, e2, R2, s2, m2', args2, below2, meth2, c2⟩ := x
    cases e1
    obtain ⟨hlen, hst⟩ := am_stkS (k := k) st0 n (Nat.le_of_ble_eq_true hle)
    exact vx_runS (Ts := am_WA) (own := (am_mi y).1.cls) (As := ((st0.take n).reverse).map (am_cv k)) ⟨C.1.1, C.1.2.1, C.1.2.2.1, C.1.2.2.2.1, C.2.1⟩ hM ⟨hcb, hs2⟩ ⟨am_blind, fun U hU hW => ⟨rfl, by rw [hU]; exact hp.1, STAT.moved hW C.2.2.1⟩⟩ rfl hlen hp.2.2.2.2.1.1 hst (am_sum hcat) hd hroom
  · exact absurd ha.1 id
theorem s_callsX {y pc y' n index : Nat} (hd : decode (am_mi y).2.1 pc = .ok (.invokestatic index, 3)) (hC : am_okC y' n) (hf : (am_mi y').2.2.2.2.2 = true) (hl : Cond.methodLink (am_mi y).1.cls index (am_mi y').1 ∈ lw_tbl) (hs : Cond.static (am_mi y').1 ∈ lw_tbl) : Snd y pc (i_calls y' n) := by
  intro x C fr h hpc ha
  obtain ⟨pc', ls, st0⟩ := fr
  obtain rfl : pc' = pc := hpc
  unfold i_calls at ha ⊢
  dsimp only at ha ⊢
  split at ha
  · rename_i hle hble
    intro o' h' m1 m2 m3 m4 hd1 hM hR hX H locs cells slots lsC hp
    obtain ⟨c1, c2, c3, c4⟩ := am_callC C hC hd1 (hN h' - hN h) (hL h' - hL h)
    have hroom := am_room C hp m1 m2 m3 m4
    have hs2 := C.wa hs rfl
    have hl2 := C.wa hl rfl
    have hi2 := C.wa hC.2.1 rfl
    have hcat := am_cats (xK x) C.fmt (st0.drop n) hble
    have hcw : am_cw (am_mi y') = Cond.codeWith (am_mi y').1 (am_mi y').2.1 (am_mi y').2.2.1 (am_mi y').2.2.2.1 (am_mi y').2.2.2.2.1 := by
      unfold am_cw
      rw [hf]
      rfl
    rw [hcw] at c3
    refine am_run hp m1 m2 (as := (st0.take n).reverse) (st := st0.drop n) ?_ hR hX
    intro p l e R s m args below meth c e1
    obtain ⟨k, o, hE, ⟨d, n9, sl0⟩, p2, l2, e2, R2, s2, m2', args2, below2, meth2, c2'⟩ := x
    cases e1
    obtain ⟨hlen, hst⟩ := am_stkS (k := k) st0 n (Nat.le_of_ble_eq_true hle)
    exact vx_runSX (Ts := am_WA) (own := (am_mi y).1.cls) (As := ((st0.take n).reverse).map (am_cv k)) ⟨C.1.1, C.1.2.1, C.1.2.2.1, C.1.2.2.2.1, C.2.1⟩ hM ⟨⟨rfl, rfl, c1.1, c1.2, c2, by rw [← hcw]; exact List.mem_cons_self⟩, c3, hi2, hC.2.2.2.2.1, c4, hl2, hs2⟩ ⟨am_blind, fun U hU hW => ⟨rfl, by rw [hU]; exact hp.1, STAT.moved hW C.2.2.1⟩⟩ rfl hlen hp.2.2.2.2.1.1 hst (am_sum hcat) hd hroom
  · exact absurd ha.1 id
theorem s_calli {y pc y' n index : Nat} (hd : decode (am_mi y).2.1 pc = .ok (.invokespecial index, 3)) (hC : am_okC y' n) (hf : (am_mi y').2.2.2.2.2 = false) (hr : (am_mi y').2.2.2.1 = none ∧ (am_mi y').1.name = "<init>") (hl : Cond.methodLink (am_mi y).1.cls index (am_mi y').1 ∈ lw_tbl) (hi : Cond.instanceMethod (am_mi y').1 ∈ lw_tbl) : Snd y pc (i_calli y' n) := by
  intro x C fr h hpc ha
  obtain ⟨pc', ls, st0⟩ := fr
  obtain rfl : pc' = pc := hpc
  unfold i_calli at ha ⊢
  dsimp only at ha ⊢
  split at ha
  · rename_i a b st hdrop
    split at ha
    · rename_i hble
      intro o' h' m1 m2 m3 m4 hd1 hM hR hX H locs cells slots lsC hp
      have hcb := am_callB C hC hf hl hd1 (hN h' - hN h) (hL h' - hL h)
      rw [hr.1] at hcb
      have hroom := am_room C hp m1 m2 m3 m4
      have hi2 := C.wa hi rfl
      have hcat := am_cats (xK x) C.fmt st hble
      refine am_run hp m1 m2 (as := Sum.inr (Sum.inl (a, b)) :: (st0.take n).reverse) (st := st) ?_ hR hX
      intro p l e R s m args below meth c e1
      obtain ⟨k, o, hE, ⟨d, n9, sl0⟩, p2, l2, e2, R2, s2, m2', args2, below2, meth2, c2⟩ := x
      cases e1
      obtain ⟨hlen, hst⟩ := am_stk (k := k) st0 st n _ hdrop
      exact vx_runI (Ts := am_WA) (own := (am_mi y).1.cls) (b := am_adr k a b) (As := ((st0.take n).reverse).map (am_cv k)) ⟨C.1.1, C.1.2.1, C.1.2.2.1, C.1.2.2.2.1, C.2.1⟩ hM ⟨hcb, hr.2, hi2⟩ ⟨am_blind, fun U hU hW => ⟨rfl, by rw [hU]; exact hp.1, STAT.moved hW C.2.2.1⟩⟩ rfl hlen hp.2.2.2.2.1.1 hst (am_sum hcat) hd hroom
    · exact absurd ha.1 id
  · exact absurd ha.1 id
theorem s_callin {y pc y' n index : Nat} {host : String} (hd : decode (am_mi y).2.1 pc = .ok (.invokespecial index, 3)) (hC : am_okC y' n) (hf : (am_mi y').2.2.2.2.2 = false) (hr : (am_mi y').2.2.2.1 = none ∧ (am_mi y').1.name = "<init>") (hl : Cond.methodLinkNest (am_mi y).1.cls index (am_mi y').1 host ∈ am_nest) (hi : Cond.instanceMethod (am_mi y').1 ∈ lw_tbl) : Snd y pc (i_calli y' n) := by
  intro x C fr h hpc ha
  obtain ⟨pc', ls, st0⟩ := fr
  obtain rfl : pc' = pc := hpc
  unfold i_calli at ha ⊢
  dsimp only at ha ⊢
  split at ha
  · rename_i a b st hdrop
    split at ha
    · rename_i hble
      intro o' h' m1 m2 m3 m4 hd1 hM hR hX H locs cells slots lsC hp
      obtain ⟨c1, c2, c3, c4⟩ := am_callC C hC hd1 (hN h' - hN h) (hL h' - hL h)
      have hroom := am_room C hp m1 m2 m3 m4
      have hi2 := C.wa hi rfl
      have hini := C.wa hC.2.1 rfl
      have hcat := am_cats (xK x) C.fmt st hble
      have hcw : am_cw (am_mi y') = Cond.code (am_mi y').1 (am_mi y').2.1 (am_mi y').2.2.1 none := by
        unfold am_cw
        rw [hf, hr.1]
        rfl
      rw [hcw] at c3
      refine am_run hp m1 m2 (as := Sum.inr (Sum.inl (a, b)) :: (st0.take n).reverse) (st := st) ?_ hR hX
      intro p l e R s m args below meth c e1
      obtain ⟨k, o, hE, ⟨d, n9, sl0⟩, p2, l2, e2, R2, s2, m2', args2, below2, meth2, c2'⟩ := x
      cases e1
      obtain ⟨hlen, hst⟩ := am_stk (k := k) st0 st n _ hdrop
      have hlk : va_Nw (Cond.methodLinkNest (am_mi y).1.cls index (am_mi y').1 host) s2 := C.2.2.1.2.2.2.2.2.2.2.1 _ hl
      exact vx_runIN (Ts := am_WA) (own := (am_mi y).1.cls) (b := am_adr k a b) (As := ((st0.take n).reverse).map (am_cv k)) ⟨C.1.1, C.1.2.1, C.1.2.2.1, C.1.2.2.2.1, C.2.1⟩ hM ⟨⟨⟨rfl, rfl, c1.1, c1.2, c2, by rw [← hcw]; exact List.mem_cons_self⟩, c3, hini, hC.2.2.2.2.1, c4, va_Nw.use rfl hlk⟩, hr.2, hi2⟩ ⟨am_blind, fun U hU hW => ⟨rfl, by rw [hU]; exact hp.1, STAT.moved hW C.2.2.1⟩⟩ rfl hlen hp.2.2.2.2.1.1 hst (am_sum hcat) hd hroom
    · exact absurd ha.1 id
  · exact absurd ha.1 id
abbrev am_ordX : MethodName := ⟨"SmokeRelay$Kind", "ordinal", "()I"⟩
