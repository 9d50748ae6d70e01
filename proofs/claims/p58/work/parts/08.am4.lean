/-! fields of what was there at the start, statics, writes of fields -/
theorem DYN.old {k : C0} {h : AH} {H : Heap} (D : DYN k h H) : ∀ a : Nat, a < (kH k).size → ¬ frA k a → H[a]? = (kH k)[a]? := fun a ha _ => D.2.1 a ha
def i_getw (c j nx : Nat) : Ins := fun fr h => match fr.2.2 with
  | Sum.inr (Sum.inl (0, b)) :: st => (match hS h 0 b with
    | some (Sum.inr (c', fs)) => (match Nat.beq c' c with
      | true => go nx fr.2.1 (fs.getD j aN :: st) h
      | false => stuck)
    | _ => stuck)
  | _ => stuck
theorem s_getw {y pc nx c j index : Nat} (hd : decode (am_mi y).2.1 pc = .ok (.getfield index, 3)) (hj : j < 2) (hw : Cond.fieldLink (am_mi y).1.cls index (am_wF c j).1 (am_wF c j).2.1 (am_wF c j).2.2 ∈ lw_tbl) (hn : pc + 3 = nx) : Snd y pc (i_getw c j nx) := by
  subst hn
  intro x C fr h hpc ha
  obtain ⟨pc', ls, st⟩ := fr
  obtain rfl : pc' = pc := hpc
  unfold i_getw at ha ⊢
  dsimp only at ha ⊢
  split at ha
  · rename_i b st'
    split at ha
    · rename_i c' fs hSe
      split at ha
      · rename_i hcc
        have hcc2 : c' = c := Nat.eq_of_beq_eq_true hcc
        subst hcc2
        refine ⟨⟨Nat.le_refl _, Nat.le_refl _⟩, fun _ _ K H locs cells slots lsC hp => ?_⟩
        have K2 := K H locs cells slots lsC hp
        have hwl := C.wa hw rfl
        obtain ⟨k, o, hE, ⟨d, n0, sl0⟩, p, l, e, R, s, m, args, below, meth, c⟩ := x
        have h1 := C.2.2.1.2.2.1 b
        rw [← hp.1.2.2.1 b, hSe] at h1
        obtain ⟨cf, kk, i, f, cell, e1, e2, e3, e4, e5, e6⟩ := h1.2.2 j hj
        refine W.getf C.1.1 C.1.2.1 C.1.2.2.2.1 hwl e1 e2 ?_ e4 e5 rfl rfl hd K2
        show H[(am_adr k 0 b)]? = some cell
        have hlt : k.2.1 b < (kH k).size := (Array.getElem?_eq_some_iff.mp e3).1
        exact (hp.1.2.1 _ hlt).trans e3
      · exact absurd ha.1 id
    · exact absurd ha.1 id
  · exact absurd ha.1 id
/-- a static that is read -/
theorem s_gets {y pc nx j index : Nat} (hd : decode (am_mi y).2.1 pc = .ok (.getstatic index, 3)) (hj : j < 6) (hw : Cond.fieldLink (am_mi y).1.cls index (am_st j).1 (am_st j).2.1 (am_st j).2.2.1 ∈ lw_tbl) (hn : pc + 3 = nx) : Snd y pc (i_push (am_st j).2.2.2 nx) := by
  subst hn
  intro x C fr h hpc ha
  obtain ⟨pc', ls, st⟩ := fr
  obtain rfl : pc' = pc := hpc
  refine ⟨⟨Nat.le_refl _, Nat.le_refl _⟩, fun _ _ K H locs cells slots lsC hp => ?_⟩
  have K2 := K H locs cells slots lsC hp
  have hwl := C.wa hw rfl
  obtain ⟨k, o, hE, ⟨d, n0, sl0⟩, p, l, e, R, s, m, args, below, meth, c⟩ := x
  obtain ⟨cf, kf, fi, f, a, cell, h1, h2, h3, h4, h5, h6, h7, h8⟩ := C.2.2.1.2.2.2.1 j hj
  refine W.gets C.1.1 C.1.2.1 C.1.2.2.2.1 hwl h1 h2 h3 h4 (cell₁ := cell) ?_ (fun z => by rw [z] at h6; cases h6) h7 rfl hd K2
  have hlt : a < (kH k).size := (Array.getElem?_eq_some_iff.mp h5).1
  exact (hp.1.2.1 _ hlt).trans h5
theorem s_ldcs {y pc nx index : Nat} {q : String × Nat × String × Nat} (hd : decode (am_mi y).2.1 pc = .ok (.ldc index, 2)) (hq : q ∈ am_str) (he : q.1 = (am_mi y).1.cls ∧ q.2.1 = index) (hn : pc + 2 = nx) : Snd y pc (i_push (aR 0 q.2.2.2) nx) := by
  subst hn
  intro x C fr h hpc ha
  obtain ⟨pc', ls, st⟩ := fr
  obtain rfl : pc' = pc := hpc
  refine ⟨⟨Nat.le_refl _, Nat.le_refl _⟩, fun _ _ K H locs cells slots lsC hp => ?_⟩
  have K2 := K H locs cells slots lsC hp
  obtain ⟨k, o, hE, ⟨d, n0, sl0⟩, p, l, e, R, s, m, args, below, meth, c⟩ := x
  have hr := C.2.2.1.2.2.2.2.1 q hq
  rw [he.1, he.2] at hr
  exact va_ldcS C.1.1 C.1.2.1 C.1.2.2.2.1 hr hd K2
theorem s_ldcsw {y pc nx index : Nat} {q : String × Nat × String × Nat} (hd : decode (am_mi y).2.1 pc = .ok (.ldc_w index, 3)) (hq : q ∈ am_str) (he : q.1 = (am_mi y).1.cls ∧ q.2.1 = index) (hn : pc + 3 = nx) : Snd y pc (i_push (aR 0 q.2.2.2) nx) := by
  subst hn
  intro x C fr h hpc ha
  obtain ⟨pc', ls, st⟩ := fr
  obtain rfl : pc' = pc := hpc
  refine ⟨⟨Nat.le_refl _, Nat.le_refl _⟩, fun _ _ K H locs cells slots lsC hp => ?_⟩
  have K2 := K H locs cells slots lsC hp
  obtain ⟨k, o, hE, ⟨d, n0, sl0⟩, p, l, e, R, s, m, args, below, meth, c⟩ := x
  have hr := C.2.2.1.2.2.2.2.1 q hq
  rw [he.1, he.2] at hr
  intro T hT X
  obtain ⟨t, a1, b1⟩ := K2 T hT X
  exact ⟨t, X.ldcStringW C.1.1 C.1.2.2.2.1 hr.1 hr.2 (g := F0 m pc' lsC (st.map (am_cv k))) rfl (by rw [C.1.2.1]; exact hd) t a1, b1⟩
/-- writes of fields: a number (within a type), a reference -/
def i_putfi (c j : Nat) (ok : Int32 → Prop) (nx : Nat) : Ins := fun fr h => match fr.2.2 with
  | Sum.inl v :: Sum.inr (Sum.inl (a, b)) :: st => (match hS h a b with
    | some (Sum.inr (c', fs)) => (match Nat.beq c' c, fs.getD j aN with
      | true, Sum.inl _ => goC (ok v) nx fr.2.1 st (h.1, h.2.1, upI (hI h) a b j v, h.2.2.2)
      | _, _ => stuck)
    | _ => stuck)
  | _ => stuck
def i_putfr (c j nx : Nat) : Ins := fun fr h => match fr.2.2 with
  | Sum.inr (Sum.inl q) :: Sum.inr (Sum.inl (a, b)) :: st => (match hS h a b with
    | some (Sum.inr (c', fs)) => (match Nat.beq c' c with
      | true => go nx fr.2.1 st (upS (hS h) a b (some (Sum.inr (c', fs.set j (Sum.inr (Sum.inl q))))), h.2)
      | _ => stuck)
    | _ => stuck)
  | _ => stuck
theorem am_fld_set (h : AH) (a b j : Nat) (fs : List AV) (v : Int32) {w : Int32} (hf : fs.getD j aN = Sum.inl w) (i : Nat) : am_fld (h.1, h.2.1, upI (hI h) a b j v, h.2.2.2) a b fs i = if i = j then aI v else am_fld h a b fs i := by
  unfold am_fld
  by_cases e : i = j
  · subst e
    rw [if_pos rfl, hf]
    show aI (upI (hI h) a b i v a b i) = aI v
    rw [upI, if_pos ⟨rfl, rfl, rfl⟩]
  · rw [if_neg e]
    have e2 : upI (hI h) a b j v a b i = hI h a b i := if_neg (fun q => e q.2.2)
    rcases fs.getD i aN with w' | w'
    · show aI (upI (hI h) a b j v a b i) = aI (hI h a b i)
      rw [e2]
    · rfl
/-- the world behind a write of a field -/
theorem am_put {x : CX} {y c j index pc : Nat} {q : vw_C} (C : CT x y) (hc : am_cl[c]? = some q) (hj : j < q.2.2) (hwl : (Cond.fieldLink (am_mi y).1.cls index (q.2.1 j).1 (q.2.1 j).2.1 (q.2.1 j).2.2.1).before x.2.2.2.2.2.2.2.2.2.2.1 (xS x) = true)
    (hfin : (q.2.1 j).2.2.2 = false ∨ ((am_mi y).1.name = "<init>" ∧ (q.2.1 j).1 = (am_mi y).1.cls)) (hd : decode (am_mi y).2.1 pc = .ok (.putfield index, 3)) {h : AH} {H : Heap} {a b : Nat} {fs : List AV} (hSe : hS h a b = some (Sum.inr (c, fs))) (D : DYN (xK x) h H) {v : Value} (hv : narrow (am_ft c j) v = v ∧ fits (am_ft c j) v = true)
    {locs : List Loc} {cells slots : Nat} {lsC : Array Slot} {rest : List Value} (hlocs : ∀ z ∈ locs, (kH (xK x)).size ≤ z.base)
    (K : ∀ (H' : Heap) (locs' : List Loc), H'.size = H.size → (∀ z, z ≠ am_adr (xK x) a b → H'[z]? = H[z]?) → t_OB (am_adr (xK x) a b) ((xK x).2.2.1 c) q.2.2 ((xK x).2.2.2.1 c) H' (fun i => if i = j then v else am_cv (xK x) (am_fld h a b fs i)) → (∀ z ∈ locs', (kH (xK x)).size ≤ z.base) → WX x H' locs' cells slots (F0 (xM x) (pc + 3) lsC rest)) :
    WX x H locs cells slots (F0 (xM x) pc lsC (v :: .ref (am_adr (xK x) a b) :: rest)) := by
  obtain ⟨k, o, hE, ⟨d, n0, sl0⟩, p, l, e, R, s, m, args, below, meth, co⟩ := x
  have hc10 : c < 90 := by
    have := (List.getElem?_eq_some_iff.mp hc).1
    have e : am_cl.length = 11 := rfl
    omega
  have ha0 : a ≠ 0 := D.notpre C.2.2.1 hSe (Or.inr ⟨_, _, rfl, hc10⟩)
  obtain ⟨hix, hcell⟩ := D.2.2.2 a b ha0 (by rw [hSe]; exact fun z => by cases z)
  rw [hSe] at hcell
  obtain ⟨r, h1, h2, cell, g1, g2, g3, g4⟩ := hcell
  have hr : r = q := Option.some.inj (h1.symm.trans hc)
  subst hr
  obtain ⟨hSl, hfc, kC, hkC, hkind⟩ := C.2.2.1.1 c _ hc
  obtain ⟨cf, kf, fi, f, hi, hsl⟩ := hSl j hj
  have hlay := C.2.1 _ (am_uws c _ hc _ (u_in_lay hj))
  have hst := (u_facts hfc hkC (u_lays C.2.1 (am_uws c _ hc) hj) hi).1
  have hty := am_ft_ok c _ hc j hj
  have hap : ∀ i, i < r.2.2 → i ≠ j → k.2.2.2.1 c i ≠ k.2.2.2.1 c j := by
    intro i hi' hne
    obtain ⟨_, _, _, fa, hia, ea⟩ := hSl i hi'
    rw [← ea, ← hsl]
    refine u_apart (u_lays C.2.1 (am_uws c _ hc) hi') (u_lays C.2.1 (am_uws c _ hc) hj) hia hi ?_
    rw [(State.fieldFound?_type hia (am_ft_ok c _ hc i hi')).1, (State.fieldFound?_type hi hty).1]
    exact am_ft_nm c _ hc i hi' j hj hne
  have fin : ∀ H' : Heap, H'[am_adr k a b]? = some (cell.setSlot f.slot v) → H'.size = H.size → (∀ z, z ≠ am_adr k a b → H'[z]? = H[z]?) → WX (k, o, hE, (d, n0, sl0), p, l, e, R, s, m, args, below, meth, co) H' (locs ++ [⟨am_adr k a b, f.slot⟩]) cells slots (F0 m (pc + 3) lsC rest) := by
    intro H' e1 e2 e3
    refine K H' _ e2 e3 ⟨_, e1, g2, g3, fun i hi' => ?_⟩ (fun z hz => ?_)
    · show (cell.slots.setIfInBounds f.slot v)[k.2.2.2.1 c i]? = some (if i = j then v else am_cv k (am_fld h a b fs i))
      by_cases hij : i = j
      · subst hij
        rw [if_pos rfl, ← hsl]
        have hlt : f.slot < cell.slots.size := by rw [hsl]; exact k2_hasslot (g4 i hi')
        rw [Array.getElem?_setIfInBounds_self, if_pos hlt]
      · rw [if_neg hij]
        rw [hsl, Array.getElem?_setIfInBounds_ne (fun z => hap i hi' hij z.symm)]
        exact g4 i hi'
    · rcases List.mem_append.mp hz with h8 | h8
      · exact hlocs z h8
      · rw [List.mem_singleton.mp h8]
        show (kH k).size ≤ am_adr k a b
        rw [am_adr_pos ha0]
        omega
  unfold u_lay at hlay
  rcases Bool.eq_false_or_eq_true (r.2.1 j).2.2.2 with hf | hf
  · rw [if_pos hf] at hlay
    have hin : (am_mi y).1.name = "<init>" ∧ (r.2.1 j).1 = (am_mi y).1.cls := by
      rcases hfin with z | z
      · rw [hf] at z; cases z
      · exact z
    have hown := C.1.2.2.2.1
    have hcf : m.cls = cf := by
      obtain ⟨_, _, c', _, _, _, -, -, hf', -, -, -, hown2, -⟩ := Cond.laysFinal_spec hlay
      have e1 : c' = cf := by have := hi.symm.trans hf'; simp at this; exact this.1.symm
      rw [hin.2] at hown2
      rw [← e1]; exact Option.some.inj (hown.symm.trans hown2)
    have h6 := u_fits hfc hkC hkind (Or.inr hlay) hi hty hv.1 hv.2
    exact W.putFinK C.1.1 C.1.2.1 C.1.2.2.2.1 hwl hi hst hcf (C.1.2.2.2.2.2.2.2.trans hin.1) (by rw [g2]; exact h6) g1 g3 (by rw [hsl]; exact k2_hasslot (g4 j hj)) rfl rfl hd fin
  · rw [if_neg (by rw [hf]; decide)] at hlay
    have h6 := u_store hfc hkC hkind hlay hi hty hv.1 hv.2
    exact W.putK C.1.1 C.1.2.1 (f := f) ⟨C.1.2.2.2.1, hwl, ⟨_, _, _, hi⟩, hst⟩ (by rw [g2]; exact h6) g1 g3 (by rw [hsl]; exact k2_hasslot (g4 j hj)) rfl rfl hd fin
theorem s_putfi {y pc nx c j index : Nat} {q : vw_C} {ok : Int32 → Prop} (hd : decode (am_mi y).2.1 pc = .ok (.putfield index, 3)) (hc : am_cl[c]? = some q) (hj : j < q.2.2) (hw : Cond.fieldLink (am_mi y).1.cls index (q.2.1 j).1 (q.2.1 j).2.1 (q.2.1 j).2.2.1 ∈ lw_tbl)
    (hfin : (q.2.1 j).2.2.2 = false ∨ ((am_mi y).1.name = "<init>" ∧ (q.2.1 j).1 = (am_mi y).1.cls)) (hok : ∀ v, ok v → narrow (am_ft c j) (.int v) = .int v ∧ fits (am_ft c j) (.int v) = true) (hn : pc + 3 = nx) : Snd y pc (i_putfi c j ok nx) := by
  subst hn
  intro x C fr h hpc ha
  obtain ⟨pc', ls, st⟩ := fr
  obtain rfl : pc' = pc := hpc
  unfold i_putfi at ha ⊢
  dsimp only at ha ⊢
  split at ha
  · rename_i v a b st'
    split at ha
    · rename_i c' fs hSe
      split at ha
      · rename_i w hcc hfw
        have hcc2 : c' = c := Nat.eq_of_beq_eq_true hcc
        subst hcc2
        refine ⟨⟨Nat.le_refl _, Nat.le_refl _⟩, fun _ _ K H locs cells slots lsC hp => ?_⟩
        have hc10 : c' < 90 := by
          have := (List.getElem?_eq_some_iff.mp hc).1
          have e : am_cl.length = 11 := rfl
          omega
        have ha0 : a ≠ 0 := by
          obtain ⟨k, o, hE, ⟨d, n0, sl0⟩, p, l, e, R, s, m, args, below, meth, co⟩ := x
          exact hp.1.notpre C.2.2.1 hSe (Or.inr ⟨_, _, rfl, hc10⟩)
        obtain ⟨hix, hcell⟩ := hp.1.2.2.2 a b ha0 (by rw [hSe]; exact fun z => by cases z)
        rw [hSe] at hcell
        obtain ⟨r, h1, h2, -⟩ := hcell
        refine am_put C hc hj (C.wa hw rfl) hfin hd hSe hp.1 (hok v ha.1) hp.2.1 (fun H' locs' e2 e3 e4 e5 => ?_)
        refine K H' locs' cells slots lsC ⟨?_, e5, hp.2.2.1, hp.2.2.2.1, hp.2.2.2.2⟩
        refine hp.1.upd ha0 (by rw [hSe]; exact fun z => by cases z) e2 e3 rfl (fun _ _ _ => rfl) (fun _ _ _ z => upI_ne z) (fun _ _ _ _ => rfl) (fun _ _ _ _ => rfl) ?_
        show am_cell _ _ a b (hS h a b) H'
        rw [hSe]
        refine ⟨r, h1, h2, ?_⟩
        have hr : r = q := Option.some.inj (h1.symm.trans hc)
        rw [hr]
        refine e4.to (fun i _ => ?_)
        rw [am_fld_set h a b j fs v hfw i]
        by_cases hij : i = j
        · rw [if_pos hij, if_pos hij]
          rfl
        · rw [if_neg hij, if_neg hij]
      · exact absurd ha.1 id
    · exact absurd ha.1 id
  · exact absurd ha.1 id
theorem s_putfr {y pc nx c j index : Nat} {q : vw_C} (hd : decode (am_mi y).2.1 pc = .ok (.putfield index, 3)) (hc : am_cl[c]? = some q) (hj : j < q.2.2) (hw : Cond.fieldLink (am_mi y).1.cls index (q.2.1 j).1 (q.2.1 j).2.1 (q.2.1 j).2.2.1 ∈ lw_tbl)
    (hfin : (q.2.1 j).2.2.2 = false ∨ ((am_mi y).1.name = "<init>" ∧ (q.2.1 j).1 = (am_mi y).1.cls)) (hok : ∀ a, narrow (am_ft c j) (.ref a) = .ref a ∧ fits (am_ft c j) (.ref a) = true) (hn : pc + 3 = nx) : Snd y pc (i_putfr c j nx) := by
  subst hn
  intro x C fr h hpc ha
  obtain ⟨pc', ls, st⟩ := fr
  obtain rfl : pc' = pc := hpc
  unfold i_putfr at ha ⊢
  dsimp only at ha ⊢
  split at ha
  · rename_i v a b st'
    split at ha
    · rename_i c' fs hSe
      split at ha
      · rename_i hcc
        have hcc2 : c' = c := Nat.eq_of_beq_eq_true hcc
        subst hcc2
        refine ⟨⟨Nat.le_refl _, Nat.le_refl _⟩, fun _ _ K H locs cells slots lsC hp => ?_⟩
        have hc10 : c' < 90 := by
          have := (List.getElem?_eq_some_iff.mp hc).1
          have e : am_cl.length = 11 := rfl
          omega
        have ha0 : a ≠ 0 := by
          obtain ⟨k, o, hE, ⟨d, n0, sl0⟩, p, l, e, R, s, m, args, below, meth, co⟩ := x
          exact hp.1.notpre C.2.2.1 hSe (Or.inr ⟨_, _, rfl, hc10⟩)
        obtain ⟨hix, hcell⟩ := hp.1.2.2.2 a b ha0 (by rw [hSe]; exact fun z => by cases z)
        rw [hSe] at hcell
        obtain ⟨r, h1, h2, -⟩ := hcell
        refine am_put C hc hj (C.wa hw rfl) hfin hd hSe hp.1 (hok _) hp.2.1 (fun H' locs' e2 e3 e4 e5 => ?_)
        refine K H' locs' cells slots lsC ⟨?_, e5, hp.2.2.1, hp.2.2.2.1, hp.2.2.2.2⟩
        refine hp.1.upd ha0 (by rw [hSe]; exact fun z => by cases z) e2 e3 rfl (fun _ _ z => upS_ne z) (fun _ _ _ _ => rfl) (fun _ _ _ _ => rfl) (fun _ _ _ _ => rfl) ?_
        show am_cell _ _ a b (upS (hS h) a b _ a b) H'
        rw [upS_self]
        have hr : r = q := Option.some.inj (h1.symm.trans hc)
        have hjl : j < fs.length := by rw [h2, hr]; exact hj
        refine ⟨r, h1, by rw [List.length_set]; exact h2, ?_⟩
        rw [hr]
        refine e4.to (fun i _ => ?_)
        unfold am_fld
        by_cases hij : i = j
        · subst hij
          rw [if_pos rfl, List.getD_eq_getElem?_getD, List.getElem?_set_self hjl]
          rfl
        · rw [if_neg hij, List.getD_eq_getElem?_getD, List.getD_eq_getElem?_getD, List.getElem?_set_ne (fun z => hij z.symm)]
      · exact absurd ha.1 id
    · exact absurd ha.1 id
  · exact absurd ha.1 id
