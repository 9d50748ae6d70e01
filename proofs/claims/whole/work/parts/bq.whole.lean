/-! from the small machine's run to the law's walk -/
theorem dyn_0 {k : C0} {L : Nat} {xs : Nat → Int32} {J : (Nat → Nat → Nat → Int64) × (Nat → Nat → Nat → UInt64)} (hk : k.1 = (L, xs)) : DYN k (CH L xs J oE 0 0 Z0) (kH k) := by
  refine ⟨rfl, fun _ _ => rfl, fun b => ?_, fun a b ha hn => absurd ?_ hn⟩
  · rw [hk]
    rfl
  · show cutS L xs 0 a b = none
    unfold cutS
    have h1 : Nat.beq a 0 = false := beq_no ha
    have h2 : Nat.blt (am_ix a b) 0 = false := by
      cases q : Nat.blt (am_ix a b) 0 with
      | false => rfl
      | true => exact absurd (Nat.blt_eq.mp q) (Nat.not_lt_zero _)
    rw [h1, h2]
    rfl
theorem whole_go {p : Program} {e : Env} {s : State} {m : MethodId} {below : List Frame} {meth : Method} {c : Code} {l : Launch} {b L : Nat} {xs : Nat → Int32} (hlen : L ≤ 2048) (k : C0) (hk : k.1 = (L, xs)) (hH : kH k = s.heap) (hb : k.2.1 0 = b) (St : STAT k s) (hn : k.2.2.2.2.2.2 = .null ∨ ∃ a, k.2.2.2.2.2.2 = .ref a) (hst : l.stackTraces = false)
    (hexec : p.tables.exec = Jvm.exec) (hcode : c.code = (am_mi 307).2.1) (hml : c.maxLocals = (am_mi 307).2.2.1) (hown : s.vm.findClass (am_mi 307).1.cls = some m.cls) (hret : meth.sig.returnType = (am_mi 307).2.2.2.1) (hlocks : meth.locks = false) (htab : c.exceptionTable.toList = tableOf (am_mi 307).2.2.2.2.1) (hname : meth.name = (am_mi 307).1.name)
    (hts : ∀ w ∈ am_WA, w.before #[Value.ref b] s = true) :
    ∃ hE : AH, hN hE ≤ room_1.cells ∧ hL hE ≤ room_1.slots ∧ W p l e room_1 s m #[Value.ref b] below meth c s.heap [] 0 0 (vx_MQ below (QcA k (Sum.inl (some (aI (iI 1)))) hE) (XcA k (Sum.inl (some (aI (iI 1)))) hE) #[Value.ref b] s (hN hE - 0) (hL hE - 0) (frA k)) (entryFrame m ([Value.ref b] : List Value).toArray 9) := by
  obtain ⟨q, V, ⟨u1, u2⟩, hr⟩ := law_all (L := L) (xs := xs) (J := ((fun _ _ _ => 0), (fun _ _ _ => 0))) (sl := 0) (d := 0) hlen
  refine ⟨HM q V, Nat.le_trans u1 (by decide), Nat.le_trans u2 (by decide), ?_⟩
  obtain ⟨f, hf⟩ := RUN_iff.mp hr
  have hCT : CT (k, Sum.inl (some (aI (iI 1))), HM q V, (14, 0, 0), p, l, e, room_1, s, m, #[Value.ref b], below, meth, c) 307 := by
    refine ⟨⟨hexec, hcode, hml, hown, hret, hlocks, htab, hname⟩, hts, St, hst, ⟨by decide, by decide, ?_, ?_⟩, by rw [hH]; rfl, fun q _ => by rw [hH]⟩
    · exact Nat.le_trans u1 (by decide)
    · exact Nat.le_trans u2 (by decide)
  have hw := (am_snd (fun y _ pc => am_all y pc) f (k, Sum.inl (some (aI (iI 1))), HM q V, (14, 0, 0), p, l, e, room_1, s, m, #[Value.ref b], below, meth, c) 307 (am_en 307 [aR 0 0]) (CH L xs ((fun _ _ _ => 0), (fun _ _ _ => 0)) oE 0 0 Z0) hCT (by decide) hf).2
  have hD : DYN k (CH L xs ((fun _ _ _ => 0), (fun _ _ _ => 0)) oE 0 0 Z0) s.heap := by
    rw [← hH]
    exact dyn_0 hk
  have := hw s.heap [] 0 0 ((lg_sl (([aR 0 0] : List AV).map (am_cv k)) ++ List.replicate ((am_mi 307).2.2.1 - (lg_sl (([aR 0 0] : List AV).map (am_cv k))).length) Slot.unset).toArray) ⟨hD, fun z hz => absurd hz List.not_mem_nil, rfl, rfl, FR.entry k hn rfl⟩
  rw [lg_entry_eq]
  have e : ([aR 0 0] : List AV).map (am_cv k) = [Value.ref b] := by
    show [Value.ref (k.2.1 0)] = _
    rw [hb]
  rw [e] at this
  exact this
/-- what the walk's end says -/
theorem whole_end {s t : State} {below : List Frame} {b : Nat} {k : C0} {hE : AH} (hH : kH k = s.heap) (h1 : hN hE ≤ room_1.cells) (h2 : hL hE ≤ room_1.slots) (h : vx_MQ below (QcA k (Sum.inl (some (aI (iI 1)))) hE) (XcA k (Sum.inl (some (aI (iI 1)))) hE) #[Value.ref b] s (hN hE - 0) (hL hE - 0) (frA k) t) :
    ∃ o, t.status = .running ∧ Ended t below o ∧ o = .returned (some (.int 1)) ∧ s.WarmedH t.vm ∧ s.sameButNew ({ t with vm := s.vm } : State) [] room_1.cells room_1.slots := by
  obtain ⟨o, a1, a2, a3⟩ := h
  refine ⟨o, a1, a2, ?_⟩
  rcases a3 with ⟨⟨r, e1, e2, -⟩, Lc, hF, hfree⟩ | ⟨z, -, E, ce, Lc, ⟨x, hx, -⟩, -⟩
  · cases e1
    have eo : o = .returned (some (.int 1)) := e2
    obtain ⟨f1, f2, f3⟩ := hF
    obtain ⟨g1, g2, g3, g4, g5, g6⟩ := f3
    refine ⟨eo, f2, g1, g2, by omega, g4, by omega, fun a c ha => ?_⟩
    obtain ⟨c', k1, k2, k3, k4⟩ := g6 a c ha
    refine ⟨c', k1, k2, k3, fun i _ => k4 i (fun hi => ?_)⟩
    have hb : (kH k).size ≤ a := hfree _ hi
    have hs : a < s.heap.size := (Array.getElem?_eq_some_iff.mp ha).1
    rw [hH] at hb
    exact absurd hs (Nat.not_lt.mpr hb)
  · cases hx
