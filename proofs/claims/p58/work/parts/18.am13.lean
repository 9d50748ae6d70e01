/-! what a run says of the walk -/
theorem am_okT_at {y : Nat} (hy : y < 400) : plainName (am_mi y).1.cls = true ∧ ((am_mi y).2.2.2.2.2 = true ∨ am_hh y = []) ∧ ∀ z ∈ am_hh y, am_cti z.2.2.2 < 6 ∧ (am_mi y).1.cls = "SmokeRelayLaw" ∧ z.2.2.2 ≠ 0 ∧ am_dbl y = false := by
  have h := am_okT_all y hy
  simp only [am_okT, Bool.and_eq_true, Bool.or_eq_true, List.isEmpty_iff] at h
  refine ⟨h.1.1, h.1.2, fun z hz => ?_⟩
  have h2 := List.all_eq_true.mp h.2 z hz
  simp only [Bool.and_eq_true, decide_eq_true_eq, Bool.not_eq_true'] at h2
  obtain ⟨⟨⟨h3, h4⟩, h5⟩, h6⟩ := h2
  refine ⟨by simpa [Nat.blt_eq] using h3, h4, fun e => ?_, h6⟩
  rw [e] at h5
  cases h5
theorem am_hd_none {hh : List (Nat × Nat × Nat × Nat)} {pc j : Nat} (h : am_hd hh pc j = none) : ∀ z ∈ hh, covers (⟨z.1, z.2.1, z.2.2.1, z.2.2.2⟩ : ExceptionTableEntry) pc = false ∨ am_cti z.2.2.2 ≠ j := by
  intro z hz
  unfold am_hd at h
  rw [Option.map_eq_none_iff] at h
  have h1 := List.find?_eq_none.mp h z hz
  by_cases h2 : am_cti z.2.2.2 = j
  · left
    have e2 : Nat.beq (am_cti z.2.2.2) j = true := Nat.beq_eq.mpr h2
    simp only [e2, Bool.and_true, Bool.and_eq_true, Nat.ble_eq, Nat.blt_eq] at h1
    simp only [covers]
    by_cases a1 : z.1 ≤ pc
    · have a2 : ¬ pc < z.2.1 := fun a2 => h1 ⟨a1, a2⟩
      simp [a2]
    · simp [a1]
  · exact Or.inr h2
theorem am_hd_some {hh : List (Nat × Nat × Nat × Nat)} {pc j hp : Nat} (h : am_hd hh pc j = some hp) : ∃ pre z suf, hh = pre ++ z :: suf ∧ z.2.2.1 = hp ∧ covers (⟨z.1, z.2.1, z.2.2.1, z.2.2.2⟩ : ExceptionTableEntry) pc = true ∧ am_cti z.2.2.2 = j ∧ ∀ w ∈ pre, covers (⟨w.1, w.2.1, w.2.2.1, w.2.2.2⟩ : ExceptionTableEntry) pc = false ∨ am_cti w.2.2.2 ≠ j := by
  unfold am_hd at h
  obtain ⟨z, h1, h2⟩ := Option.map_eq_some_iff.mp h
  obtain ⟨h3, pre, suf, h4, h5⟩ := List.find?_eq_some_iff_append.mp h1
  simp only [Bool.and_eq_true, Nat.ble_eq, Nat.blt_eq, Nat.beq_eq] at h3
  refine ⟨pre, z, suf, h4, h2, ?_, h3.2.2, fun w hw => ?_⟩
  · simp [covers, h3.1, h3.2.1]
  · refine am_hd_none (hh := pre) ?_ w hw
    unfold am_hd
    rw [Option.map_eq_none_iff]
    refine List.find?_eq_none.mpr fun v hv => ?_
    have h6 := h5 v hv
    intro h7
    rw [h7] at h6
    cases h6
theorem am_prop {x : CX} {y j : Nat} {fr : Fr} {h : AH} (C : CT x y) (hy : y < 400) (hj : j < 6) (hn : am_hd (am_hh y) fr.1 j = none) (ho : x.2.1 = Sum.inr j) (hE : x.2.2.1 = h) : Wx x y fr j h := by
  intro H locs cells slots lsC q ce hp hcell hv hcl
  obtain ⟨t1, t2, t3⟩ := am_okT_at hy
  obtain ⟨k, o, hE', ⟨d, n9, sl0⟩, p, l, e, R, s, m, args, below, meth, c⟩ := x
  cases ho
  cases hE
  have hq1 : cells + n9 = hN hE' := hp.2.2.1
  have hq2 : slots + sl0 = hL hE' := hp.2.2.2.1
  have hown : s.vm.findClass (am_mi y).1.cls = some m.cls := C.1.2.2.2.1
  have htab : c.exceptionTable.toList = tableOf (am_mi y).2.2.2.2.1 := C.1.2.2.2.2.2.2.1
  have hnc : ∀ a b, a < 6 → b < 5 → a ≠ b → va_Nc (am_exn a) (am_exn b) s := C.2.2.1.2.2.2.2.2.2.2.2.2.1
  refine vx_outP (own := (am_mi y).1.cls) hown C.1.2.2.2.2.2.1 (fun z hz => ?_) hcell hv hcl (fun t ht _ => ⟨j, rfl, hj, rfl, by rw [ht]; exact hp.1⟩) hp.2.1 (by omega) (by omega)
  rw [htab] at hz
  obtain ⟨w, w1, rfl⟩ := List.mem_map.mp hz
  rcases am_hd_none hn w w1 with h9 | h9
  · exact Or.inl h9
  · obtain ⟨a1, a2, a3, -⟩ := t3 w w1
    refine Or.inr ⟨a3, am_exn (am_cti w.2.2.2), ?_, hnc j _ hj (am_cti_5 a1) (fun z => h9 z.symm)⟩
    have hw := C.wa (am_ctl _ (am_cti_lt a1) a1).1 rfl
    rw [a2]
    exact hw
theorem am_hx_ok {cc : ByteArray} {hp i nx : Nat} (h : am_hx cc hp = some (i, nx)) : (decode cc hp = .ok (.astore i, 2) ∧ nx = hp + 2) ∨ ∃ n : Fin 4, decode cc hp = .ok (.astore_n n, 1) ∧ (n : Nat) = i ∧ nx = hp + 1 := by
  unfold am_hx at h
  split at h
  · rename_i i' e
    cases h
    exact Or.inl ⟨e, rfl⟩
  · rename_i i' e
    cases h
    exact Or.inr ⟨i', e, rfl, rfl⟩
  · cases h
theorem am_okw_of {y : Nat} (h : am_dbl y = false) (i : Nat) : am_okw (am_w2 y) i = true := by
  cases i with
  | zero => rfl
  | succ i =>
    show (!(am_w2 y i)) = true
    rw [am_dbl_no h]
    rfl
theorem FR.drop1 {k : C0} {nL : Nat} {dbl : Nat → Bool} {lsC lsC' : Array Slot} {ls : List (Option AV)} (h : FR k nL dbl lsC ls) (hk : k.2.2.2.2.2.2 = .null ∨ ∃ a, k.2.2.2.2.2.2 = .ref a) {i : Nat} {v : Value} (hi : am_okw dbl i = true) (hn : i < nL)
    (h2 : lv_has lsC' nL ((i, v) :: (am_toL k 0 ls).filter (fun q => !(q.1 == i) && !(q.1 + 1 == i && q.2.category == 2)))) : FR k nL dbl lsC' (ls.set i none) := by
  obtain ⟨-, hlen, hc⟩ := h
  refine ⟨⟨h2.1, h2.2.1, fun q hq => ?_⟩, by rw [List.length_set]; exact hlen, fun j w hj hw => ?_⟩
  · obtain ⟨w, -, hw1, hw2⟩ := (am_toL_mem k _ 0 q).mp hq
    rw [Nat.sub_zero] at hw1
    by_cases e : q.1 = i
    · rw [e, List.getElem?_set_self (by rw [hlen]; exact hn)] at hw1
      simp at hw1
    · rw [List.getElem?_set_ne (fun z => e z.symm)] at hw1
      refine h2.2.2 q (List.mem_cons_of_mem _ (List.mem_filter.mpr ⟨(am_toL_mem k ls 0 q).mpr ⟨w, Nat.zero_le _, hw1, hw2⟩, ?_⟩))
      have e1 : (q.1 == i) = false := by simpa using e
      rw [e1]
      by_cases e2 : q.1 + 1 = i
      · have hcat : am_c2 w = false := by
          cases hcw : am_c2 w with
          | false => rfl
          | true =>
            obtain ⟨d1, d2⟩ := hc q.1 w hw1 hcw
            subst e2
            exact absurd hi (am_okw_no d1)
        rw [hw2, am_cv_cat k hk w, hcat]
        simp
      · simp [e2]
  · by_cases e : j = i
    · subst e
      rw [List.getElem?_set_self (by rw [hlen]; exact hn)] at hj
      simp at hj
    · rw [List.getElem?_set_ne (fun z => e z.symm)] at hj
      exact hc j w hj hw
theorem am_caught {x : CX} {y j hp0 : Nat} {fr fr' : Fr} {h : AH} (C : CT x y) (hy : y < 400) (hj : j < 6) (hn : am_hd (am_hh y) fr.1 j = some hp0) (hf : am_cat y fr hp0 = some fr') (K : Wk x y fr' h) : Wx x y fr j h := by
  intro H locs cells slots lsC q ce hp hcell hv hcl
  obtain ⟨t1, t2, t3⟩ := am_okT_at hy
  have hfmt := C.fmt
  have hlkAll := fun ct (h1 : am_cti ct < 6) => C.wa (am_ctl ct (am_cti_lt h1) h1).1 rfl
  obtain ⟨k, o, hE', ⟨d, n9, sl0⟩, p, l, e, R, s, m, args, below, meth, c⟩ := x
  have hown : s.vm.findClass (am_mi y).1.cls = some m.cls := C.1.2.2.2.1
  have htab : c.exceptionTable.toList = tableOf (am_mi y).2.2.2.2.1 := C.1.2.2.2.2.2.2.1
  have hnc : ∀ a b, a < 6 → b < 5 → a ≠ b → va_Nc (am_exn a) (am_exn b) s := C.2.2.1.2.2.2.2.2.2.2.2.2.1
  obtain ⟨pre, z, suf, g1, g2, g3, g4, g5⟩ := am_hd_some hn
  have hz : z ∈ am_hh y := by rw [g1]; exact List.mem_append_right _ List.mem_cons_self
  obtain ⟨a1, a2, a3, a4⟩ := t3 z hz
  rw [a2] at hown
  have hcst : va_Nw (Cond.castable (am_exn (am_cti z.2.2.2)) (am_exn (am_cti z.2.2.2))) s := C.2.2.1.2.2.2.2.2.2.2.1 _ (am_ctl _ (am_cti_lt a1) a1).2
  have hcst2 := va_Nw.use (A := args) rfl hcst
  rw [g4] at hcst2
  have hlk := hlkAll _ a1
  rw [g4] at hlk
  unfold am_cat at hf
  cases hxx : am_hx (am_mi y).2.1 hp0 with
  | none => rw [hxx] at hf; cases hf
  | some q9 =>
    obtain ⟨i, nx⟩ := q9
    rw [hxx] at hf
    dsimp only at hf
    cases hb : Nat.blt i (am_mi y).2.2.1 with
    | false => rw [hb] at hf; cases hf
    | true =>
      rw [hb] at hf
      cases hf
      have hil : i < (am_mi y).2.2.1 := by simpa [Nat.blt_eq] using hb
      refine vx_catch (own := "SmokeRelayLaw") (name := am_exn j) (E := am_exn j) hown (tableOf pre) ⟨z.1, z.2.1, z.2.2.1, z.2.2.2⟩ (tableOf suf) ?_ ?_ g3 a3 hlk hcst2 hcell hv hcl ?_
      · rw [htab]
        show tableOf (am_hh y) = _
        rw [g1]
        unfold tableOf
        rw [List.map_append, List.map_cons]
      · intro w hw
        obtain ⟨w0, w1, rfl⟩ := List.mem_map.mp hw
        rcases g5 w0 w1 with h9 | h9
        · exact Or.inl h9
        · obtain ⟨b1, b2, b3, -⟩ := t3 w0 (by rw [g1]; exact List.mem_append_left _ w1)
          exact Or.inr ⟨b3, am_exn (am_cti w0.2.2.2), hlkAll _ b1, hnc j _ hj (am_cti_5 b1) (fun z => h9 z.symm)⟩
      · rw [g2]
        have K2 := fun lsC' h2 => K H locs cells slots lsC' ⟨hp.1, hp.2.1, hp.2.2.1, hp.2.2.2.1, FR.drop1 (v := .ref q) hp.2.2.2.2 hfmt (i := i) (am_okw_of a4 i) hil h2⟩
        rcases am_hx_ok hxx with ⟨e1, rfl⟩ | ⟨n, e1, e2, rfl⟩
        · exact lv_astore C.1.1 C.1.2.1 e1 hp.2.2.2.2.1 hil rfl K2
        · exact lv_astore_n C.1.1 C.1.2.1 e1 e2 hp.2.2.2.2.1 hil rfl K2
theorem am_met {k : C0} {l : Launch} {d y : Nat} {as : List AV} {h h' : AH} {o : Out} (hl : l.stackTraces = false) (hy : y < 400) (ha : am_aok y as = true)
    (K : ∀ x : CX, CT x y → x.1 = k → x.2.1 = o → x.2.2.1 = h' → x.2.2.2.1 = (d, hN h, hL h) → Wk x y (am_en y as) h) : MetA k l d y as h o h' := by
  obtain ⟨t1, t2, -⟩ := am_okT_at hy
  have key : ∀ p e s m args below meth c s₁, BodyLoose p l (am_mi y).1 (headSpec (am_ws y) (am_rm d (hN h' - hN h) (hL h' - hL h))) (am_mi y).2.1 (am_mi y).2.2.1 (am_mi y).2.2.2.1 e s m args below meth c s₁ → c.maxLocals = (am_mi y).2.2.1 → c.exceptionTable.toList = tableOf (am_hh y) → (args = (as.map (am_cv k)).toArray ∧ DYN k h s.heap ∧ STAT k s) →
      W p l e (headSpec (am_ws y) (am_rm d (hN h' - hN h) (hL h' - hL h))).room s m args below meth c s.heap [] 0 0 (vx_MQ below (QcA k o h') (XcA k o h') args s (hN h' - hN h) (hL h' - hL h) (frA k)) (entryFrame m args (am_mi y).2.2.1) := by
    intro p e s m args below meth c s₁ B hml htab hP
    obtain ⟨e1, hDy, hSt⟩ := hP
    have hts := atoms_spec (ws := am_ws y) B.pre
    have hown : s.vm.findClass (am_mi y).1.cls = some m.cls := findClass_of_methodNamed B.named
    have hname : meth.name = (am_mi y).1.name := (name_of_methodNamed B.named B.method).1
    have hCT : CT (k, o, h', (d, hN h, hL h), p, l, e, am_rm d (hN h' - hN h) (hL h' - hL h), s, m, args, below, meth, c) y := by
      refine ⟨⟨B.exec, B.bytes, hml, hown, B.returns, B.notSynchronized, htab, hname⟩, fun w hw => hts w (List.mem_cons_of_mem _ hw), hSt, hl, ⟨Nat.le_refl _, Nat.le_refl _, ?_, ?_⟩, hDy.1, hDy.2.1⟩
      · show hN h' ≤ (hN h' - hN h) + hN h
        omega
      · show hL h' ≤ (hL h' - hL h) + hL h
        omega
    have hW := K _ hCT rfl rfl rfl rfl s.heap [] 0 0 ((lg_sl (as.map (am_cv k)) ++ List.replicate ((am_mi y).2.2.1 - (lg_sl (as.map (am_cv k))).length) Slot.unset).toArray)
      ⟨hDy, fun z hz => absurd hz List.not_mem_nil, Nat.zero_add _, Nat.zero_add _, FR.entry k hCT.fmt ha⟩
    subst e1
    rw [lg_entry_eq]
    exact hW
  cases hf : (am_mi y).2.2.2.2.2 with
  | false =>
    have hnil : am_hh y = [] := t2.resolve_left (by rw [hf]; exact fun z => by cases z)
    refine vx_ofW (cc := (am_mi y).2.1) (maxL := (am_mi y).2.2.1) (ret := (am_mi y).2.2.2.1) (ws' := am_WA) t1 ?_ fun p e s m args below meth c s₁ B hml ht hP => key p e s m args below meth c s₁ B hml ?_ hP
    · unfold am_ws am_cw
      rw [hf]
      rfl
    · rw [hnil]
      show _ = []
      exact List.eq_nil_iff_forall_not_mem.mpr fun z hz => ht z hz
  | true =>
    have hws : am_ws y = Cond.codeWith (am_mi y).1 (am_mi y).2.1 (am_mi y).2.2.1 (am_mi y).2.2.2.1 (am_hh y) :: am_WA := by
      unfold am_ws am_cw
      rw [hf]
      rfl
    refine vx_ofWH (cc := (am_mi y).2.1) (maxL := (am_mi y).2.2.1) (ret := (am_mi y).2.2.2.1) (hh := am_hh y) (ws' := am_WA) t1 hws fun p e s m args below meth c s₁ B hml hP => key p e s m args below meth c s₁ B hml ?_ hP
    have hts := atoms_spec (ws := am_ws y) B.pre
    exact vx_table (x := (am_mi y).1) B (hts (Cond.codeWith (am_mi y).1 (am_mi y).2.1 (am_mi y).2.2.1 (am_mi y).2.2.2.1 (am_hh y)) (by rw [hws]; exact List.mem_cons_self))
/-- a run that ends says the walk's end -/
theorem am_snd {cd : Nat → Nat → Ins} (hA : ∀ y, y < 400 → ∀ pc, Snd y pc (cd y pc)) : ∀ (f : Nat) (x : CX) (y : Nat) (fr : Fr) (h : AH), CT x y → y < 400 → am_run1 cd f x.2.2.2.1.1 y fr h = some (x.2.1, x.2.2.1) → (hN h ≤ hN x.2.2.1 ∧ hL h ≤ hL x.2.2.1) ∧ Wk x y fr h := by
  intro f
  induction f with
  | zero => intro x y fr h _ _ hr; cases hr
  | succ f ih =>
    intro x y fr h C hy hr
    unfold am_run1 at hr
    split at hr
    · rename_i hall
      have hS := hA y hy fr.1 x C fr h rfl hall
      split at hr
      · rename_i q hq
        rw [hq] at hS
        obtain ⟨g1, g2⟩ := hS
        obtain ⟨i1, i2⟩ := ih x y q.1 q.2 C hy hr
        exact ⟨⟨Nat.le_trans g1.1 i1.1, Nat.le_trans g1.2 i1.2⟩, g2 i1.1 i1.2 i2⟩
      · rename_i q hq
        rw [hq] at hS
        split at hr
        · rename_i d' hd' hok
          split at hr
          · rename_i o' h' hcal
            split at hr
            · rename_i hmono
              simp only [Bool.and_eq_true, Nat.ble_eq] at hmono
              have hy' : q.1 < 400 := by
                simp only [am_aok, Bool.and_eq_true, Nat.blt_eq] at hok
                exact hok.1
              have hl : x.2.2.2.2.2.1.stackTraces = false := by
                obtain ⟨k, o, hE', ⟨d, n9, sl0⟩, p, l, e, R, s, m, args, below, meth, c⟩ := x
                exact C.2.2.2.1
              have hM : MetA (xK x) x.2.2.2.2.2.1 (x.2.2.2.1.1 - 1) q.1 q.2.1 h o' h' := by
                refine am_met hl hy' hok fun x' C' e1 e2 e3 e4 => ?_
                have e5 : x'.2.2.2.1.1 = d' := by rw [e4]; show x.2.2.2.1.1 - 1 = d'; rw [hd']; rfl
                exact (ih x' q.1 _ h C' hy' (by rw [e5, e2, e3]; exact hcal)).2
              have hd3 : x.2.2.2.1.1 = d' + 1 := hd'
              have hd1 : 1 ≤ x.2.2.2.1.1 := by rw [hd']; exact Nat.succ_le_succ (Nat.zero_le _)
              split at hr
              · rename_i r
                rw [← hd3] at hr
                obtain ⟨i1, i2⟩ := ih x y _ h' C hy hr
                refine ⟨⟨Nat.le_trans hmono.1 i1.1, Nat.le_trans hmono.2 i1.2⟩, hS _ h' hmono.1 hmono.2 i1.1 i1.2 hd1 hM (fun r' e => ?_) (fun j e => by cases e)⟩
                cases e
                exact i2
              · rename_i j
                split at hr
                · rename_i hj hn
                  have hj6 : j < 6 := by simpa [Nat.blt_eq] using hj
                  obtain ⟨ho, hh⟩ := Prod.mk.inj (Option.some.inj hr)
                  refine ⟨⟨by rw [← hh]; exact hmono.1, by rw [← hh]; exact hmono.2⟩, hS _ h' hmono.1 hmono.2 (by rw [← hh]; exact Nat.le_refl _) (by rw [← hh]; exact Nat.le_refl _) hd1 hM (fun r' e => by cases e) (fun j' e => ?_)⟩
                  cases e
                  exact am_prop C hy hj6 hn ho.symm hh.symm
                · rename_i hp hj hn
                  have hj6 : j < 6 := by simpa [Nat.blt_eq] using hj
                  split at hr
                  · rename_i fr' hfr
                    rw [← hd3] at hr
                    obtain ⟨i1, i2⟩ := ih x y _ h' C hy hr
                    refine ⟨⟨Nat.le_trans hmono.1 i1.1, Nat.le_trans hmono.2 i1.2⟩, hS _ h' hmono.1 hmono.2 i1.1 i1.2 hd1 hM (fun r' e => by cases e) (fun j' e => ?_)⟩
                    cases e
                    exact am_caught C hy hj6 hn hfr i2
                  · cases hr
                · cases hr
            · cases hr
          · cases hr
        · cases hr
      · rename_i q hq
        rw [hq] at hS
        have hr2 : q = (x.2.1, x.2.2.1) := Option.some.inj hr
        rw [hr2] at hS
        exact ⟨hS.1, hS.2 rfl rfl⟩
      · cases hr
    · cases hr
/-! places -/
def i_stk : Ins := fun _ _ => stuck
theorem s_stk {y pc : Nat} : Snd y pc i_stk := fun _ _ _ _ _ ha => absurd ha.1 id
theorem snd_leaf {y k : Nat} {ins : Ins} (h : Snd y k ins) {pc : Nat} : Snd y pc (cond (Nat.beq pc k) ins i_stk) := by
  cases e : Nat.beq pc k with
  | true =>
    have e2 : pc = k := Nat.eq_of_beq_eq_true e
    subst e2
    exact h
  | false => exact s_stk
theorem snd_node {y pc : Nat} {b : Bool} {A B : Ins} (h1 : Snd y pc A) (h2 : Snd y pc B) : Snd y pc (cond b A B) := by
  cases b
  · exact h2
  · exact h1
abbrev am_okI (_ : Int32) : Prop := True
def am_okZ (v : Int32) : Prop := v = 0 ∨ v = 1
def am_okCh (v : Int32) : Prop := narrow .char (.int v) = .int v
theorem am_okI_n (v : Int32) (_ : am_okI v) : narrow .int (.int v) = .int v := rfl
theorem am_okZ_n (v : Int32) (h : am_okZ v) : narrow .boolean (.int v) = .int v := by
  rcases h with rfl | rfl <;> rfl
theorem am_okCh_n (v : Int32) (h : am_okCh v) : narrow .char (.int v) = .int v := h
theorem am_okI_f (v : Int32) (_ : am_okI v) : narrow .int (.int v) = .int v ∧ fits .int (.int v) = true := ⟨rfl, rfl⟩
theorem am_okZ_f (v : Int32) (h : am_okZ v) : narrow .boolean (.int v) = .int v ∧ fits .boolean (.int v) = true := by
  rcases h with rfl | rfl <;> exact ⟨rfl, rfl⟩
