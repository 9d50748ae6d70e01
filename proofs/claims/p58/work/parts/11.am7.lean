/-! new arrays of references, copies, Math, Object.<init> -/
/-- t = 4: rows, empty; t = 6: kinds, kept as numbers -/
def i_anewa (t N nx : Nat) : Ins := fun fr h => match fr.2.2 with
  | Sum.inl v :: st => goC (v = nI N) nx fr.2.1 (Sum.inr (Sum.inl (am_al (hN h))) :: st)
    (upS (hS h) (am_al (hN h)).1 (am_al (hN h)).2 (some (Sum.inl (t, N, fun _ => aN))), (hN h + 1, hL h + N), upA (hI h) (am_al (hN h)).1 (am_al (hN h)).2 (fun _ => 0), h.2.2.2)
  | _ => stuck
theorem s_anewa {y pc nx N t index : Nat} {cn : String} (hd : decode (am_mi y).2.1 pc = .ok (.anewarray index, 3)) (ht : am_ty t = .object cn) (ht2 : t = 4 ∨ t = 6) (hN' : N < 2 ^ 31 ∧ N * 4 ≤ 536870912) (hw : Cond.classLink (am_mi y).1.cls index cn ∈ lw_tbl) (hn : pc + 3 = nx) : Snd y pc (i_anewa t N nx) := by
  subst hn
  intro x C fr h hpc ha
  obtain ⟨pc', ls, st⟩ := fr
  obtain rfl : pc' = pc := hpc
  unfold i_anewa at ha ⊢
  dsimp only at ha ⊢
  split at ha
  · rename_i v st'
    obtain rfl : v = nI N := ha.1
    refine ⟨⟨Nat.le_succ _, Nat.le_add_right _ _⟩, fun hm1 hm2 K H locs cells slots lsC hp => ?_⟩
    have hw := C.wa hw rfl
    obtain ⟨k, o, hE, ⟨d, n0, sl0⟩, p, l, e, R, s, m, args, below, meth, co⟩ := x
    have hr1 := C.2.2.2.2.1.2.2.1
    have hr2 := C.2.2.2.2.1.2.2.2
    have hq1 : cells + n0 = hN h := hp.2.2.1
    have hq2 : slots + sl0 = hL h := hp.2.2.2.1
    have hm1' : hN h + 1 ≤ hN hE := hm1
    have hm2' : hL h + N ≤ hL hE := hm2
    have hcl := nI_clamp hN'.1
    have hover : va_AO cn s := by
      rcases ht2 with rfl | rfl
      · have e1 : cn = "SmokeRelay$Row" := by cases ht; rfl
        rw [e1]; exact C.2.2.1.2.2.2.2.2.2.2.2.1.1
      · have e1 : cn = "SmokeRelay$Kind" := by cases ht; rfl
        rw [e1]; exact C.2.2.1.2.2.2.2.2.2.2.2.1.2.1
    refine W.anew C.1.1 C.1.2.1 C.1.2.2.2.1 hw (va_AO.use hover) rfl hd rfl (nI_pos hN'.1) (by rw [hcl]; exact hN'.2) (by omega) (by rw [hcl]; omega) fun cA kA comp f1 f2 f3 f4 => ?_
    rw [hcl]
    generalize hH1 : H.push ({ cls := cA, slots := Array.replicate N .null, vm := .none } : Cell) = H1
    have z1 : H1.size = H.size + 1 := by rw [← hH1, Array.size_push]
    have e1 : H1[H.size]? = some (arrV cA N (fun _ => .null)) := by rw [← hH1, Array.getElem?_push_size, ← arrV_new]
    have o1 : ∀ q : Nat, q < H.size → H1[q]? = H[q]? := fun q hq => by rw [← hH1, Array.getElem?_push, if_neg (Nat.ne_of_lt hq)]
    have eadr : am_adr k (am_al (hN h)).1 (am_al (hN h)).2 = H.size := by rw [am_adr_al, hp.1.1]
    have hcA : cA = k.2.2.2.2.1 t := by
      have h1 := (C.2.2.1.2.1 t (by omega)).2
      rw [ht] at h1
      obtain ⟨kA', comp', g1, g2, g3, g4⟩ := h1
      exact Option.some.inj (f1.symm.trans g4)
    have K2 := K H1 locs (cells + 1) (slots + N) lsC ⟨?_, hp.2.1, by show cells + 1 + n0 = hN h + 1; omega, by show slots + N + sl0 = hL h + N; omega, hp.2.2.2.2⟩
    · have K3 : WX (k, o, hE, (d, n0, sl0), p, l, e, R, s, m, args, below, meth, co) H1 locs (cells + 1) (slots + N) (F0 m (pc' + 3) lsC (.ref (am_adr k (am_al (hN h)).1 (am_al (hN h)).2) :: st'.map (am_cv k))) := K2
      rw [eadr] at K3
      exact K3
    · refine hp.1.new (a := (am_al (hN h)).1) (b := (am_al (hN h)).2) rfl z1 o1 rfl (fun _ _ z => upS_ne z) (fun _ _ _ z => congrFun (upA_ne z) _) (fun _ _ _ _ => rfl) (fun _ _ _ _ => rfl) ?_
      show am_cell _ _ _ _ (upS (hS h) _ _ _ _ _) H1
      rw [upS_self]
      refine ⟨by omega, ?_⟩
      rw [eadr, e1, hcA]
      congr 2
      funext j
      rcases ht2 with rfl | rfl
      · rfl
      · show Value.null = am_cv k (am_kv (upA (hI h) _ _ (fun _ => 0) _ _ j))
        rw [upA_self]
        rfl
  · exact absurd ha.1 id
theorem arrV_ext (c : ClassId) (N : Nat) {f g : Nat → Value} (h : ∀ j, j < N → f j = g j) : arrV c N f = arrV c N g := by
  unfold arrV
  congr 1
  apply Array.ext
  · simp
  · intro i h1 h2
    simp at h1 ⊢
    exact h i h1
/-- rows of numbers under one row of references; the inner rows' kind of token is kr -/
def i_mna (N M kr nx : Nat) : Ins := fun fr h => match fr.2.2 with
  | Sum.inl v :: Sum.inl u :: st => goC (v = nI M ∧ u = nI N ∧ (∀ i, i < N → am_al (hN h + 1 + i) = (kr, i)) ∧ (am_al (hN h)).1 ≠ kr) nx fr.2.1 (Sum.inr (Sum.inl (am_al (hN h))) :: st)
    ((fun a b => if a = kr ∧ b < N then some (Sum.inl (0, M, fun _ => aN)) else upS (hS h) (am_al (hN h)).1 (am_al (hN h)).2 (some (Sum.inl (5, N, fun i => aR kr i))) a b), (hN h + 1 + N, hL h + N + N * M), (fun a b j => if a = kr ∧ b < N then 0 else hI h a b j), h.2.2.2)
  | _ => stuck
theorem s_mna {y pc nx N M kr index : Nat} (hd : decode (am_mi y).2.1 pc = .ok (.multianewarray index 2, 4)) (hN' : N < 2 ^ 20 ∧ M < 2 ^ 20) (hw : Cond.classLink (am_mi y).1.cls index ("[" ++ (FieldType.array .int).toString) ∈ lw_tbl) (hw2 : Cond.arrayClass .int ∈ lw_tbl) (hn : pc + 4 = nx) : Snd y pc (i_mna N M kr nx) := by
  subst hn
  intro x C fr h hpc ha
  obtain ⟨pc', ls, st⟩ := fr
  obtain rfl : pc' = pc := hpc
  unfold i_mna at ha ⊢
  dsimp only at ha ⊢
  split at ha
  · rename_i v u st'
    obtain ⟨rfl, rfl, hal, hkr⟩ := ha.1
    refine ⟨⟨by show hN h ≤ hN h + 1 + N; omega, by show hL h ≤ hL h + N + N * M; omega⟩, fun hm1 hm2 K H locs cells slots lsC hp => ?_⟩
    have hw := C.wa hw rfl
    have hw2 := C.wa hw2 rfl
    obtain ⟨k, o, hE, ⟨d, n0, sl0⟩, p, l, e, R, s, m, args, below, meth, co⟩ := x
    have hr1 := C.2.2.2.2.1.2.2.1
    have hr2 := C.2.2.2.2.1.2.2.2
    have hq1 : cells + n0 = hN h := hp.2.2.1
    have hq2 : slots + sl0 = hL h := hp.2.2.2.1
    have hm1' : hN h + 1 + N ≤ hN hE := hm1
    have hm2' : hL h + N + N * M ≤ hL hE := hm2
    have hcN : (nI N).toNatClampNeg = N := nI_clamp (by omega)
    have hcM : (nI M).toNatClampNeg = M := nI_clamp (by omega)
    intro T hT X
    have hcb : componentBytes .int = 4 := rfl
    obtain ⟨vm₁, cA, comp, hWm, fA, fC, hO, hIn, X', step⟩ := Stand.multianewarray2F X C.1.1 C.1.2.2.2.1 hw (ty := .int) C.2.2.1.2.2.2.2.2.2.2.2.1.2.2 hw2 (g := F0 m pc' lsC (.int (nI M) :: .int (nI N) :: st'.map (am_cv k))) rfl (by rw [C.1.2.1]; exact hd) rfl (nI_pos (by omega)) (nI_pos (by omega)) (by rw [hcN]; omega) (by rw [hcM, hcb]; omega) (by rw [hcM]; omega) rfl rfl (by rw [hcN]; omega) (by rw [hcN, hcM]; omega)
    rw [hcN, hcM] at X' step
    generalize hF : Jvm.Free.Multi.fill (T.setVm vm₁) cA comp N M (defaultValue .int) N = F at X' step
    have hTh : (T.setVm vm₁).heap = H := hT
    obtain ⟨f1, f2, -, -⟩ := Jvm.Free.Multi.fill_facts (T.setVm vm₁) cA comp N M (defaultValue .int) N
    rw [hF, hTh] at f1 f2
    have hold : ∀ z : Nat, z < H.size → F.heap[z]? = H[z]? := fun z hz => by
      have := Jvm.Free.Multi.fill_old (T.setVm vm₁) cA comp N M (defaultValue .int) (a := z) (by rw [hTh]; exact hz) N
      rw [hF, hTh] at this
      exact this
    have hrow : ∀ j : Nat, j < N → F.heap[H.size + 1 + j]? = some (arrV comp M (fun _ => .int 0)) := fun j hj => by
      have := Jvm.Free.Multi.fill_inner (T.setVm vm₁) cA comp N M (defaultValue .int) N j hj
      rw [hF, hTh] at this
      rw [this]
      show some ({ cls := comp, slots := Array.replicate M (.int 0), vm := .none } : Cell) = _
      rw [arrV_new]
    have hout : ∀ i, Jvm.Free.Multi.outerC cA N H.size i = arrV cA N (fun j => if j < i then .ref (H.size + 1 + j) else .null) := by
      intro i
      induction i with
      | zero =>
        show ({ cls := cA, slots := Array.replicate N .null, vm := .none } : Cell) = _
        rw [arrV_new]
        congr 1
      | succ i ih =>
        show (Jvm.Free.Multi.outerC cA N H.size i).setSlot i (.ref (H.size + 1 + i)) = _
        rw [ih, arrV_store]
        congr 1
        funext j
        unfold updV
        by_cases e : j = i
        · subst e
          simp
        · by_cases h : j < i
          · simp [e, h, Nat.lt_succ_of_lt h]
          · simp [e, h, show ¬ j < i + 1 by omega]
    rw [hout] at f2
    have hsz : H.size = (kH k).size + hN h := hp.1.1
    have eadr : am_adr k (am_al (hN h)).1 (am_al (hN h)).2 = H.size := by rw [am_adr_al, hp.1.1]
    have eadr2 : ∀ i, i < N → am_adr k kr i = H.size + 1 + i := by
      intro i hi
      have h1 : am_adr k kr i = (kH k).size + (hN h + 1 + i) := by
        have h0 := am_adr_al k (hN h + 1 + i)
        rw [hal i hi] at h0
        exact h0
      rw [h1, hsz]
      omega
    have hcA : cA = k.2.2.2.2.1 5 := Option.some.inj (fA.symm.trans (C.2.2.1.2.1 5 (by omega)).2)
    have hcC : comp = k.2.2.2.2.1 0 := Option.some.inj (fC.symm.trans (C.2.2.1.2.1 0 (by omega)).2)
    have K2 := K F.heap locs (cells + 1 + N) (slots + N + N * M) lsC ⟨?_, hp.2.1, by show cells + 1 + N + n0 = hN h + 1 + N; omega, by show slots + N + N * M + sl0 = hL h + N + N * M; omega, hp.2.2.2.2⟩
    · obtain ⟨t, a1, b1⟩ := K2 F rfl X'
      refine ⟨t, step t ?_, b1⟩
      have e9 : T.heap.size = am_adr k (am_al (hN h)).1 (am_al (hN h)).2 := by rw [eadr, hT]
      rw [e9]
      exact a1
    · have hnewok : ∀ i, i < N → (am_ix kr i < hN h + 1 + N ∧ am_al (am_ix kr i) = (kr, i)) := by
        intro i hi
        have h1 : am_ix kr i = hN h + 1 + i := by
          have h0 := am_ix_al (hN h + 1 + i)
          rw [hal i hi] at h0
          exact h0
        exact ⟨by omega, by rw [h1]; exact hal i hi⟩
      refine ⟨by rw [f1, hsz]; show _ = (kH k).size + (hN h + 1 + N); omega, fun q hq => ?_, fun b' => ?_, fun a' b' ha' hs' => ?_⟩
      · rw [hold q (by rw [hsz]; exact Nat.lt_of_lt_of_le hq (Nat.le_add_right _ _))]
        exact hp.1.2.1 q hq
      · have hkr0 : ¬ (0 = kr ∧ b' < N) := by
          rintro ⟨rfl, hb⟩
          have := am_al_pos (hN h + 1 + b')
          rw [hal b' hb] at this
          exact this rfl
        show (if 0 = kr ∧ b' < N then _ else upS (hS h) _ _ _ 0 b') = _
        rw [if_neg hkr0, upS_ne (fun q => am_al_pos (hN h) q.1.symm)]
        exact hp.1.2.2.1 b'
      · show (am_ix a' b' < hN h + 1 + N ∧ am_al (am_ix a' b') = (a', b')) ∧ am_cell k _ a' b' (if a' = kr ∧ b' < N then _ else upS (hS h) _ _ _ a' b') F.heap
        have hs'' : (if a' = kr ∧ b' < N then some (Sum.inl (0, M, fun _ => aN)) else upS (hS h) (am_al (hN h)).1 (am_al (hN h)).2 (some (Sum.inl (5, N, fun i => aR kr i))) a' b') ≠ none := hs'
        by_cases e : a' = kr ∧ b' < N
        · obtain ⟨rfl, hb⟩ := e
          refine ⟨hnewok b' hb, ?_⟩
          rw [if_pos ⟨rfl, hb⟩]
          refine ⟨by omega, ?_⟩
          rw [eadr2 b' hb, hrow b' hb, hcC]
          congr 2
          funext j
          show Value.int 0 = .int (if a' = a' ∧ b' < N then 0 else hI h a' b' j)
          rw [if_pos ⟨rfl, hb⟩]
        · rw [if_neg e] at hs'' ⊢
          by_cases e2 : a' = (am_al (hN h)).1 ∧ b' = (am_al (hN h)).2
          · obtain ⟨e3, e4⟩ := e2
            have e5 : am_ix a' b' = hN h := by rw [e3, e4]; exact am_ix_al _
            refine ⟨⟨by omega, by rw [e5, e3, e4]⟩, ?_⟩
            rw [e3, e4, upS_self]
            refine ⟨by omega, ?_⟩
            rw [eadr, f2, hcA]
            congr 1
            refine arrV_ext _ _ fun j hj => ?_
            rw [if_pos hj]
            show Value.ref (H.size + 1 + j) = .ref (am_adr k kr j)
            rw [eadr2 j hj]
          · rw [upS_ne e2] at hs'' ⊢
            obtain ⟨q1, q2⟩ := hp.1.2.2.2 a' b' ha' hs''
            refine ⟨⟨Nat.lt_of_lt_of_le q1.1 (by omega), q1.2⟩, am_cell_keep q2 (hold _ ?_) (fun j => if_neg e) (fun _ => rfl) (fun _ => rfl)⟩
            rw [am_adr_pos ha', hsz]
            have q3 : am_ix a' b' < hN h := q1.1
            omega
  · exact absurd ha.1 id
