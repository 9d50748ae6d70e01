/-! copies of rows of numbers, Math, Object.<init> -/
def i_acpy (nx : Nat) : Ins := fun fr h => match fr.2.2 with
  | Sum.inl n :: Sum.inl dp :: Sum.inr (Sum.inl (a, b)) :: Sum.inl sp :: Sum.inr (Sum.inl (a0, b0)) :: st => (match Nat.ble st.length 4, hS h a b, hS h a0 b0 with
    | true, some (Sum.inl (0, n1, _)), some (Sum.inl (0, n0, _)) => goC (¬ sp < 0 ∧ ¬ dp < 0 ∧ ¬ n < 0 ∧ sp.toNatClampNeg + n.toNatClampNeg ≤ n0 ∧ dp.toNatClampNeg + n.toNatClampNeg ≤ n1) nx fr.2.1 st
        (h.1, h.2.1, upA (hI h) a b (va_cpy (hI h a0 b0) (hI h a b) sp.toNatClampNeg dp.toNatClampNeg n.toNatClampNeg), h.2.2.2)
    | _, _, _ => stuck)
  | _ => stuck
theorem am_cats (k : C0) (hk : k.2.2.2.2.2.2 = .null ∨ ∃ a, k.2.2.2.2.2.2 = .ref a) (st : List AV) (h : Nat.ble st.length 4 = true) : ((st.map (am_cv k)).map fun v => v.category).sum ≤ 8 := by
  have h1 : st.length ≤ 4 := Nat.le_of_ble_eq_true h
  have key : ∀ l : List AV, ((l.map (am_cv k)).map fun v => v.category).sum ≤ 2 * l.length := by
    intro l
    induction l with
    | nil => exact Nat.le_refl _
    | cons v l ih =>
      simp only [List.map_cons, List.sum_cons, List.length_cons]
      have : (am_cv k v).category ≤ 2 := by
        rw [am_cv_cat k hk v]
        split <;> omega
      omega
  have := key st
  omega
theorem s_acpy {y pc nx index : Nat} (hd : decode (am_mi y).2.1 pc = .ok (.invokestatic index, 3)) (hw1 : Cond.methodLink (am_mi y).1.cls index arraycopyName ∈ lw_tbl) (hw2 : Cond.native arraycopyName ∈ lw_tbl) (hw3 : Cond.static arraycopyName ∈ lw_tbl) (hw4 : Cond.initialized "java/lang/System" ∈ lw_tbl) (hn : pc + 3 = nx) : Snd y pc (i_acpy nx) := by
  subst hn
  intro x C fr h hpc ha
  obtain ⟨pc', ls, st⟩ := fr
  obtain rfl : pc' = pc := hpc
  unfold i_acpy at ha ⊢
  dsimp only at ha ⊢
  split at ha
  · rename_i n dp a b sp a0 b0 st'
    split at ha
    · rename_i n1 g1 n0 g0 hble hSd hSs
      obtain ⟨h1, h2, h3, h4, h5⟩ := ha.1
      refine ⟨⟨Nat.le_refl _, Nat.le_refl _⟩, fun _ _ K H locs cells slots lsC hp => ?_⟩
      have hw1 := C.wa hw1 rfl
      have hw2 := C.wa hw2 rfl
      have hw3 := C.wa hw3 rfl
      have hw4 := C.wa hw4 rfl
      have hcat := am_cats (xK x) C.fmt st' hble
      obtain ⟨k, o, hE, ⟨d, n9, sl0⟩, p, l, e, R, s, m, args, below, meth, c⟩ := x
      rcases am_arr C.2.2.1 hp.1 hSd with ⟨d1, d2, d3, d4⟩ | ⟨d1, -⟩
      · rcases am_arr C.2.2.1 hp.1 hSs with ⟨s1, s2, s3, s4⟩ | ⟨s1, -⟩
        · have nn : ∀ z : Int32, ¬ z < 0 → z.toInt = (z.toNatClampNeg : Int) := by
            intro z hz
            have hz0 : (0 : Int) ≤ z.toInt := by
              have := Int32.not_lt.mp hz
              simpa using Int32.le_iff_toInt_le.mp this
            show z.toInt = ((z.toInt.toNat : Nat) : Int)
            omega
          intro T hT X
          have d3' : H[am_adr k a b]? = some (arrV (k.2.2.2.2.1 0) n1 (fun j => .int (hI h a b j))) := d3
          have s3' : H[am_adr k a0 b0]? = some (arrV (k.2.2.2.2.1 0) n0 (fun j => .int (hI h a0 b0 j))) := s3
          obtain ⟨-, k0, hk0, cm0, hkk0⟩ := s4 n0 (fun j => .int (hI h a0 b0 j))
          obtain ⟨-, k1, hk1, cm1, hkk1⟩ := d4 n1 (fun j => .int (hI h a b j))
          have hR1 : d + 16 ≤ R.frames := C.2.2.2.2.1.1
          have hR2 : 45 * d + 400 ≤ R.locals := C.2.2.2.2.1.2.1
          have hfw : nativeFrameWords "java/lang/System" "arraycopy" 5 + 11 ≤ 300 := by decide +kernel
          obtain ⟨vm', X', step⟩ := X.arraycopy C.1.1 C.1.2.2.2.1 hw1 hw2 hw3 hw4 (src := am_adr k a0 b0) (dst := am_adr k a b) (cs := arrV (k.2.2.2.2.1 0) n0 (fun j => .int (hI h a0 b0 j))) (cd := arrV (k.2.2.2.2.1 0) n1 (fun j => .int (hI h a b j))) (srcPos := sp) (destPos := dp) (n := n) (by rw [hT]; exact s3') (by rw [hT]; exact d3')
            (fun _ h => by cases h) (fun _ h => by cases h) (fun h => by cases h) (fun h => by cases h) hk0 hk1 hkk0 hkk1 (by decide) h1 h2 h3
            (by rw [nn sp h1, nn n h3, arrV_size]; omega)
            (by rw [nn dp h2, nn n h3, arrV_size]; omega)
            (fun vm₁ _ i hi => by
              have e : (arrV (k.2.2.2.2.1 0) n0 (fun j => .int (hI h a0 b0 j))).slots.getD (sp.toNatClampNeg + i) .null = .int (hI h a0 b0 (sp.toNatClampNeg + i)) := by
                rw [Array.getD_eq_getD_getElem?, arrV_read _ _ (by omega)]
                rfl
              rw [e]
              exact ⟨rfl, trivial⟩)
            (g := F0 m pc' lsC (.int n :: .int dp :: .ref (am_adr k a b) :: .int sp :: .ref (am_adr k a0 b0) :: st'.map (am_cv k))) rfl (hp.2.2.2.2.1.1.trans C.1.2.2.1.symm) (rest := st'.map (am_cv k)) rfl (by rw [C.1.2.1]; exact hd) (by omega) (by have hc : ((st'.map (am_cv k)).map fun v => v.category).sum ≤ 8 := hcat; show 2 * 0 + _ + _ ≤ _; omega)
          have e1 : copied (arrV (k.2.2.2.2.1 0) n0 (fun j => .int (hI h a0 b0 j))) (arrV (k.2.2.2.2.1 0) n1 (fun j => .int (hI h a b j))) sp dp n = arrV (k.2.2.2.2.1 0) n1 (fun j => .int (va_cpy (hI h a0 b0) (hI h a b) sp.toNatClampNeg dp.toNatClampNeg n.toNatClampNeg j)) := va_copied (fun z => .int z) _ _ (hI h a0 b0) (hI h a b) h4
          rw [e1] at X' step
          have hl : am_adr k a b < H.size := (Array.getElem?_eq_some_iff.mp d3').1
          generalize hcell : arrV (k.2.2.2.2.1 0) n1 (fun j => .int (va_cpy (hI h a0 b0) (hI h a b) sp.toNatClampNeg dp.toNatClampNeg n.toNatClampNeg j)) = cell at X' step
          have hheap : ((T.setVm vm').setCell (am_adr k a b) cell).heap = H.setIfInBounds (am_adr k a b) cell := by rw [← hT]; rfl
          have oq : ∀ q : Nat, q ≠ am_adr k a b → (H.setIfInBounds (am_adr k a b) cell)[q]? = H[q]? := fun q hq => by simp [Array.getElem?_setIfInBounds, Ne.symm hq]
          have hset : (H.setIfInBounds (am_adr k a b) cell)[am_adr k a b]? = some cell := by simp [Array.getElem?_setIfInBounds, hl]
          have K2 := K (H.setIfInBounds (am_adr k a b) cell) (locs ++ (((arrV (k.2.2.2.2.1 0) n0 fun j => Value.int (hI h a0 b0 j)).stretch sp.toNatClampNeg n.toNatClampNeg).zipIdx).map fun (q : Value × Nat) => ⟨am_adr k a b, dp.toNatClampNeg + q.2⟩) cells slots lsC ⟨?_, ?_, hp.2.2.1, hp.2.2.2.1, hp.2.2.2.2⟩
          · obtain ⟨t, a1, b1⟩ := K2 _ hheap X'
            exact ⟨t, step t a1, b1⟩
          · refine hp.1.upd d2 (by rw [hSd]; exact fun z => by cases z) (by simp) oq rfl (fun _ _ _ => rfl) (fun _ _ _ z => congrFun (upA_ne z) _) (fun _ _ _ _ => rfl) (fun _ _ _ _ => rfl) ?_
            show am_cell _ _ a b (hS h a b) _
            rw [hSd]
            refine ⟨by omega, ?_⟩
            rw [hset, ← hcell]
            congr 2
            funext j
            show Value.int _ = .int (upA (hI h) a b _ a b j)
            rw [upA_self]
          · intro z hz
            rcases List.mem_append.mp hz with h8 | h8
            · exact hp.2.1 z h8
            · obtain ⟨w, -, hw⟩ := List.mem_map.mp h8
              rw [← hw]
              show (kH k).size ≤ am_adr k a b
              rw [am_adr_pos d2]
              omega
        · omega
      · omega
    · exact absurd ha.1 id
  · exact absurd ha.1 id
def am_int (v : AV) : Int32 := match v with
  | Sum.inl x => x
  | _ => 0
/-- copies of bytes: out of a made row, out of a row of the start -/
def i_acpyB (nx : Nat) : Ins := fun fr h => match fr.2.2 with
  | Sum.inl n :: Sum.inl dp :: Sum.inr (Sum.inl (a, b)) :: Sum.inl sp :: Sum.inr (Sum.inl (a0, b0)) :: st => (match Nat.ble st.length 4, hS h a b, hS h a0 b0 with
    | true, some (Sum.inl (7, n1, _)), some (Sum.inl (7, n0, _)) => goC ((∀ j, j < n0 → fits .byte (.int (hI h a0 b0 j)) = true) ∧ ¬ sp < 0 ∧ ¬ dp < 0 ∧ ¬ n < 0 ∧ sp.toNatClampNeg + n.toNatClampNeg ≤ n0 ∧ dp.toNatClampNeg + n.toNatClampNeg ≤ n1) nx fr.2.1 st
        (h.1, h.2.1, upA (hI h) a b (va_cpy (hI h a0 b0) (hI h a b) sp.toNatClampNeg dp.toNatClampNeg n.toNatClampNeg), h.2.2.2)
    | true, some (Sum.inl (7, n1, _)), some (Sum.inl (10, n0, g)) => goC ((∀ j, j < n0 → g j = aI (am_int (g j)) ∧ fits .byte (.int (am_int (g j))) = true) ∧ ¬ sp < 0 ∧ ¬ dp < 0 ∧ ¬ n < 0 ∧ sp.toNatClampNeg + n.toNatClampNeg ≤ n0 ∧ dp.toNatClampNeg + n.toNatClampNeg ≤ n1) nx fr.2.1 st
        (h.1, h.2.1, upA (hI h) a b (va_cpy (fun j => am_int (g j)) (hI h a b) sp.toNatClampNeg dp.toNatClampNeg n.toNatClampNeg), h.2.2.2)
    | _, _, _ => stuck)
  | _ => stuck
theorem am_acpyB {x : CX} {y pc index : Nat} (C : CT x y) (hd : decode (am_mi y).2.1 pc = .ok (.invokestatic index, 3)) (hw1 : (Cond.methodLink (am_mi y).1.cls index arraycopyName).before x.2.2.2.2.2.2.2.2.2.2.1 (xS x) = true) (hw2 : (Cond.native arraycopyName).before x.2.2.2.2.2.2.2.2.2.2.1 (xS x) = true) (hw3 : (Cond.static arraycopyName).before x.2.2.2.2.2.2.2.2.2.2.1 (xS x) = true) (hw4 : (Cond.initialized "java/lang/System").before x.2.2.2.2.2.2.2.2.2.2.1 (xS x) = true)
    {h : AH} {H : Heap} {locs : List Loc} {cells slots : Nat} {lsC : Array Slot} {ls : List (Option AV)} {st : List AV} (hp : PT x y ls h H locs cells slots lsC) {a b src n1 n0 : Nat} {g1 : Nat → AV} {f : Nat → Int32} {n dp sp : Int32} (hSd : hS h a b = some (Sum.inl (7, n1, g1))) (hble : Nat.ble st.length 4 = true)
    (hsrc : ∃ cs : Cell, H[src]? = some cs ∧ (xS x).isArrayOf cs .byte ∧ cs.vm ≠ .unknown ∧ n0 ≤ cs.slots.size ∧ ∀ j, j < n0 → cs.slots[j]? = some (.int (f j))) (hfit : ∀ j, j < n0 → fits .byte (.int (f j)) = true)
    (h1 : ¬ sp < 0) (h2 : ¬ dp < 0) (h3 : ¬ n < 0) (h4 : sp.toNatClampNeg + n.toNatClampNeg ≤ n0) (h5 : dp.toNatClampNeg + n.toNatClampNeg ≤ n1)
    (K : Wk x y (pc + 3, ls, st) (h.1, h.2.1, upA (hI h) a b (va_cpy f (hI h a b) sp.toNatClampNeg dp.toNatClampNeg n.toNatClampNeg), h.2.2.2)) :
    WX x H locs cells slots (F0 (xM x) pc lsC (.int n :: .int dp :: .ref (am_adr (xK x) a b) :: .int sp :: .ref src :: st.map (am_cv (xK x)))) := by
  have hcat := am_cats (xK x) C.fmt st hble
  obtain ⟨k, o, hE, ⟨d, n9, sl0⟩, p, l, e, R, s, m, args, below, meth, c⟩ := x
  rcases am_arr C.2.2.1 hp.1 hSd with ⟨d1, d2, d3, d4⟩ | ⟨d1, -⟩
  · have nn : ∀ z : Int32, ¬ z < 0 → z.toInt = (z.toNatClampNeg : Int) := by
      intro z hz
      have hz0 : (0 : Int) ≤ z.toInt := by
        have := Int32.not_lt.mp hz
        simpa using Int32.le_iff_toInt_le.mp this
      show z.toInt = ((z.toInt.toNat : Nat) : Int)
      omega
    obtain ⟨cs, s3, s4, s5, s6, s7⟩ := hsrc
    obtain ⟨hs6, k0, hk0, cm0, hkk0⟩ := s4
    intro T hT X
    have d3' : H[am_adr k a b]? = some (arrV (k.2.2.2.2.1 7) n1 (fun j => .int (hI h a b j))) := d3
    obtain ⟨-, k1, hk1, cm1, hkk1⟩ := d4 n1 (fun j => .int (hI h a b j))
    have hR1 : d + 16 ≤ R.frames := C.2.2.2.2.1.1
    have hR2 : 45 * d + 400 ≤ R.locals := C.2.2.2.2.1.2.1
    have hfw : nativeFrameWords "java/lang/System" "arraycopy" 5 + 11 ≤ 300 := by decide +kernel
    obtain ⟨vm', X', step⟩ := X.arraycopy C.1.1 C.1.2.2.2.1 hw1 hw2 hw3 hw4 (src := src) (dst := am_adr k a b) (cs := cs) (cd := arrV (k.2.2.2.2.1 7) n1 (fun j => .int (hI h a b j))) (srcPos := sp) (destPos := dp) (n := n) (by rw [hT]; exact s3) (by rw [hT]; exact d3')
      hs6 (fun _ h => by cases h) s5 (fun h => by cases h) hk0 hk1 hkk0 hkk1 (by simp [refKind, am_ty]) h1 h2 h3
      (by rw [nn sp h1, nn n h3]; omega)
      (by rw [nn dp h2, nn n h3, arrV_size]; omega)
      (fun vm₁ _ i hi => by
        have e : cs.slots.getD (sp.toNatClampNeg + i) .null = .int (f (sp.toNatClampNeg + i)) := by
          rw [Array.getD_eq_getD_getElem?, s7 _ (by omega)]
          rfl
        refine ⟨?_, ?_⟩
        · rw [e]
          exact hfit _ (by omega)
        · rw [e]
          exact trivial)
      (g := F0 m pc lsC (.int n :: .int dp :: .ref (am_adr k a b) :: .int sp :: .ref src :: st.map (am_cv k))) rfl (hp.2.2.2.2.1.1.trans C.1.2.2.1.symm) (rest := st.map (am_cv k)) rfl (by rw [C.1.2.1]; exact hd) (by omega) (by have hc : ((st.map (am_cv k)).map fun v => v.category).sum ≤ 8 := hcat; show 2 * 0 + _ + _ ≤ _; omega)
    have e1 : copied cs (arrV (k.2.2.2.2.1 7) n1 (fun j => .int (hI h a b j))) sp dp n = arrV (k.2.2.2.2.1 7) n1 (fun j => .int (va_cpy f (hI h a b) sp.toNatClampNeg dp.toNatClampNeg n.toNatClampNeg j)) := va_copiedX (fun z => .int z) cs _ f (hI h a b) s7 h4
    rw [e1] at X' step
    have hl : am_adr k a b < H.size := (Array.getElem?_eq_some_iff.mp d3').1
    generalize hcell : arrV (k.2.2.2.2.1 7) n1 (fun j => .int (va_cpy f (hI h a b) sp.toNatClampNeg dp.toNatClampNeg n.toNatClampNeg j)) = cell at X' step
    have hheap : ((T.setVm vm').setCell (am_adr k a b) cell).heap = H.setIfInBounds (am_adr k a b) cell := by rw [← hT]; rfl
    have oq : ∀ q : Nat, q ≠ am_adr k a b → (H.setIfInBounds (am_adr k a b) cell)[q]? = H[q]? := fun q hq => by simp [Array.getElem?_setIfInBounds, Ne.symm hq]
    have hset : (H.setIfInBounds (am_adr k a b) cell)[am_adr k a b]? = some cell := by simp [Array.getElem?_setIfInBounds, hl]
    have K2 := K (H.setIfInBounds (am_adr k a b) cell) (locs ++ ((cs.stretch sp.toNatClampNeg n.toNatClampNeg).zipIdx).map fun (q : Value × Nat) => ⟨am_adr k a b, dp.toNatClampNeg + q.2⟩) cells slots lsC ⟨?_, ?_, hp.2.2.1, hp.2.2.2.1, hp.2.2.2.2⟩
    · obtain ⟨t, a1, b1⟩ := K2 _ hheap X'
      exact ⟨t, step t a1, b1⟩
    · refine hp.1.upd d2 (by rw [hSd]; exact fun z => by cases z) (by simp) oq rfl (fun _ _ _ => rfl) (fun _ _ _ z => congrFun (upA_ne z) _) (fun _ _ _ _ => rfl) (fun _ _ _ _ => rfl) ?_
      show am_cell _ _ a b (hS h a b) _
      rw [hSd]
      refine ⟨by omega, ?_⟩
      rw [hset, ← hcell]
      congr 2
      funext j
      show Value.int _ = .int (upA (hI h) a b _ a b j)
      rw [upA_self]
    · intro z hz
      rcases List.mem_append.mp hz with h8 | h8
      · exact hp.2.1 z h8
      · obtain ⟨w, -, hw⟩ := List.mem_map.mp h8
        rw [← hw]
        show (kH k).size ≤ am_adr k a b
        rw [am_adr_pos d2]
        omega
  · omega
theorem s_acpyB {y pc nx index : Nat} (hd : decode (am_mi y).2.1 pc = .ok (.invokestatic index, 3)) (hw1 : Cond.methodLink (am_mi y).1.cls index arraycopyName ∈ lw_tbl) (hw2 : Cond.native arraycopyName ∈ lw_tbl) (hw3 : Cond.static arraycopyName ∈ lw_tbl) (hw4 : Cond.initialized "java/lang/System" ∈ lw_tbl) (hn : pc + 3 = nx) : Snd y pc (i_acpyB nx) := by
  subst hn
  intro x C fr h hpc ha
  obtain ⟨pc', ls, st⟩ := fr
  obtain rfl : pc' = pc := hpc
  unfold i_acpyB at ha ⊢
  dsimp only at ha ⊢
  split at ha
  · rename_i n dp a b sp a0 b0 st'
    split at ha
    · rename_i n1 g1 n0 g0 hble hSd hSs
      obtain ⟨hf, h1, h2, h3, h4, h5⟩ := ha.1
      refine ⟨⟨Nat.le_refl _, Nat.le_refl _⟩, fun _ _ K H locs cells slots lsC hp => ?_⟩
      refine am_acpyB C hd (C.wa hw1 rfl) (C.wa hw2 rfl) (C.wa hw3 rfl) (C.wa hw4 rfl) hp (st := st') hSd hble ?_ hf h1 h2 h3 h4 h5 K
      obtain ⟨k, o, hE, ⟨d, n9, sl0⟩, p, l, e, R, s, m, args, below, meth, c⟩ := x
      rcases am_arr C.2.2.1 hp.1 hSs with ⟨s1, s2, s3, s4⟩ | ⟨s1, -⟩
      · exact ⟨_, s3, s4 n0 _, (fun z => by cases z), by rw [arrV_size]; exact Nat.le_refl _, fun j hj => by rw [arrV_read _ _ hj]; rfl⟩
      · omega
    · rename_i n1 g1 n0 g0 hble hSd hSs
      obtain ⟨hf, h1, h2, h3, h4, h5⟩ := ha.1
      refine ⟨⟨Nat.le_refl _, Nat.le_refl _⟩, fun _ _ K H locs cells slots lsC hp => ?_⟩
      refine am_acpyB C hd (C.wa hw1 rfl) (C.wa hw2 rfl) (C.wa hw3 rfl) (C.wa hw4 rfl) hp (st := st') (n0 := n0) hSd hble ?_ (fun j hj => (hf j hj).2) h1 h2 h3 h4 h5 K
      obtain ⟨k, o, hE, ⟨d, n9, sl0⟩, p, l, e, R, s, m, args, below, meth, c⟩ := x
      rcases am_arr C.2.2.1 hp.1 hSs with ⟨s1, -⟩ | ⟨s1, cell, e1, e2, e3, e4, e5, e6⟩
      · omega
      · exact ⟨cell, e1, e2, e3, e4, fun j hj => by rw [e6 j hj, (hf j hj).1]; rfl⟩
    · exact absurd ha.1 id
  · exact absurd ha.1 id
/-- Math.min, Math.max, Math.abs -/
def i_m2 (f : Int32 → Int32 → Int32) (nx : Nat) : Ins := fun fr h => match fr.2.2 with
  | Sum.inl b :: Sum.inl a :: st => (match Nat.ble st.length 4 with
    | true => go nx fr.2.1 (aI (f a b) :: st) h
    | false => stuck)
  | _ => stuck
def i_m1 (f : Int32 → Int32) (nx : Nat) : Ins := fun fr h => match fr.2.2 with
  | Sum.inl a :: st => (match Nat.ble st.length 4 with
    | true => go nx fr.2.1 (aI (f a) :: st) h
    | false => stuck)
  | _ => stuck
theorem PT.le {x : CX} {y : Nat} {ls : List (Option AV)} {h : AH} {H : Heap} {locs : List Loc} {cells slots : Nat} {lsC : Array Slot} (C : CT x y) (hp : PT x y ls h H locs cells slots lsC) (h1 : hN h ≤ hN x.2.2.1) (h2 : hL h ≤ hL x.2.2.1) : cells ≤ x.2.2.2.2.2.2.2.1.cells ∧ slots ≤ x.2.2.2.2.2.2.2.1.slots := by
  obtain ⟨k, o, hE, ⟨d, n9, sl0⟩, p, l, e, R, s, m, args, below, meth, c⟩ := x
  have hr1 := C.2.2.2.2.1.2.2.1
  have hr2 := C.2.2.2.2.1.2.2.2
  have hq1 : cells + n9 = hN h := hp.2.2.1
  have hq2 : slots + sl0 = hL h := hp.2.2.2.1
  have h1' : hN h ≤ hN hE := h1
  have h2' : hL h ≤ hL hE := h2
  exact ⟨show cells ≤ R.cells by omega, show slots ≤ R.slots by omega⟩
theorem s_min {y pc nx index : Nat} (hd : decode (am_mi y).2.1 pc = .ok (.invokestatic index, 3)) (hw1 : Cond.methodLink (am_mi y).1.cls index Lib.Math.min.name ∈ lw_tbl) (hw2 : Cond.static Lib.Math.min.name ∈ lw_tbl) (hw3 : Cond.initialized "java/lang/Math" ∈ lw_tbl) (hw4 : Cond.code Lib.Math.min.name Lib.Math.min.code 2 (some .int) ∈ lw_tbl) (hn : pc + 3 = nx) : Snd y pc (i_m2 (fun a b => if b < a then b else a) nx) := by
  subst hn
  intro x C fr h hpc ha
  obtain ⟨pc', ls, st⟩ := fr
  obtain rfl : pc' = pc := hpc
  unfold i_m2 at ha ⊢
  dsimp only at ha ⊢
  split at ha
  · split at ha
    · rename_i b a st' _ hble
      refine ⟨⟨Nat.le_refl _, Nat.le_refl _⟩, fun hm1 hm2 K H locs cells slots lsC hp => ?_⟩
      have K2 := K H locs cells slots lsC hp
      have hw1 := C.wa hw1 rfl
      have hw2 := C.wa hw2 rfl
      have hw3 := C.wa hw3 rfl
      have hw4 := C.wa hw4 rfl
      have hcat := am_cats (xK x) C.fmt st' hble
      have hle := hp.le C hm1 hm2
      obtain ⟨k, o, hE, ⟨d, n9, sl0⟩, p, l, e, R, s, m, args, below, meth, c⟩ := x
      have hR1 : d + 16 ≤ R.frames := C.2.2.2.2.1.1
      have hR2 : 45 * d + 400 ≤ R.locals := C.2.2.2.2.1.2.1
      have hc : ((st'.map (am_cv k)).map fun v => v.category).sum ≤ 8 := hcat
      have hle1 : cells ≤ R.cells := hle.1
      have hle2 : slots ≤ R.slots := hle.2
      have g1 : 1 ≤ R.frames := by omega
      have g2 : ((st'.map (am_cv k)).map fun v => v.category).sum + 13 ≤ R.locals := by omega
      exact va_mmin C.1.1 C.1.2.1 (C.1.2.2.1.trans hp.2.2.2.2.1.1.symm) C.1.2.2.2.1 hw1 hw2 hw3 hw4 g1 g2 hle1 hle2 hd K2
    · exact absurd ha.1 id
  · exact absurd ha.1 id
theorem s_max {y pc nx index : Nat} (hd : decode (am_mi y).2.1 pc = .ok (.invokestatic index, 3)) (hw1 : Cond.methodLink (am_mi y).1.cls index Lib.Math.max.name ∈ lw_tbl) (hw2 : Cond.static Lib.Math.max.name ∈ lw_tbl) (hw3 : Cond.initialized "java/lang/Math" ∈ lw_tbl) (hw4 : Cond.code Lib.Math.max.name Lib.Math.max.code 2 (some .int) ∈ lw_tbl) (hn : pc + 3 = nx) : Snd y pc (i_m2 (fun a b => if a < b then b else a) nx) := by
  subst hn
  intro x C fr h hpc ha
  obtain ⟨pc', ls, st⟩ := fr
  obtain rfl : pc' = pc := hpc
  unfold i_m2 at ha ⊢
  dsimp only at ha ⊢
  split at ha
  · split at ha
    · rename_i b a st' _ hble
      refine ⟨⟨Nat.le_refl _, Nat.le_refl _⟩, fun hm1 hm2 K H locs cells slots lsC hp => ?_⟩
      have K2 := K H locs cells slots lsC hp
      have hw1 := C.wa hw1 rfl
      have hw2 := C.wa hw2 rfl
      have hw3 := C.wa hw3 rfl
      have hw4 := C.wa hw4 rfl
      have hcat := am_cats (xK x) C.fmt st' hble
      have hle := hp.le C hm1 hm2
      obtain ⟨k, o, hE, ⟨d, n9, sl0⟩, p, l, e, R, s, m, args, below, meth, c⟩ := x
      have hR1 : d + 16 ≤ R.frames := C.2.2.2.2.1.1
      have hR2 : 45 * d + 400 ≤ R.locals := C.2.2.2.2.1.2.1
      have hc : ((st'.map (am_cv k)).map fun v => v.category).sum ≤ 8 := hcat
      have hle1 : cells ≤ R.cells := hle.1
      have hle2 : slots ≤ R.slots := hle.2
      have g1 : 1 ≤ R.frames := by omega
      have g2 : ((st'.map (am_cv k)).map fun v => v.category).sum + 13 ≤ R.locals := by omega
      exact va_mmax C.1.1 C.1.2.1 (C.1.2.2.1.trans hp.2.2.2.2.1.1.symm) C.1.2.2.2.1 hw1 hw2 hw3 hw4 g1 g2 hle1 hle2 hd K2
    · exact absurd ha.1 id
  · exact absurd ha.1 id
theorem s_abs {y pc nx index : Nat} (hd : decode (am_mi y).2.1 pc = .ok (.invokestatic index, 3)) (hw1 : Cond.methodLink (am_mi y).1.cls index Lib.Math.abs.name ∈ lw_tbl) (hw2 : Cond.static Lib.Math.abs.name ∈ lw_tbl) (hw3 : Cond.initialized "java/lang/Math" ∈ lw_tbl) (hw4 : Cond.code Lib.Math.abs.name Lib.Math.abs.code 1 (some .int) ∈ lw_tbl) (hn : pc + 3 = nx) : Snd y pc (i_m1 (fun a => if 0 ≤ a then a else 0 - a) nx) := by
  subst hn
  intro x C fr h hpc ha
  obtain ⟨pc', ls, st⟩ := fr
  obtain rfl : pc' = pc := hpc
  unfold i_m1 at ha ⊢
  dsimp only at ha ⊢
  split at ha
  · split at ha
    · rename_i a st' _ hble
      refine ⟨⟨Nat.le_refl _, Nat.le_refl _⟩, fun hm1 hm2 K H locs cells slots lsC hp => ?_⟩
      have K2 := K H locs cells slots lsC hp
      have hw1 := C.wa hw1 rfl
      have hw2 := C.wa hw2 rfl
      have hw3 := C.wa hw3 rfl
      have hw4 := C.wa hw4 rfl
      have hcat := am_cats (xK x) C.fmt st' hble
      have hle := hp.le C hm1 hm2
      obtain ⟨k, o, hE, ⟨d, n9, sl0⟩, p, l, e, R, s, m, args, below, meth, c⟩ := x
      have hR1 : d + 16 ≤ R.frames := C.2.2.2.2.1.1
      have hR2 : 45 * d + 400 ≤ R.locals := C.2.2.2.2.1.2.1
      have hc : ((st'.map (am_cv k)).map fun v => v.category).sum ≤ 8 := hcat
      have hle1 : cells ≤ R.cells := hle.1
      have hle2 : slots ≤ R.slots := hle.2
      have g1 : 1 ≤ R.frames := by omega
      have g2 : ((st'.map (am_cv k)).map fun v => v.category).sum + 13 ≤ R.locals := by omega
      exact va_mabs C.1.1 C.1.2.1 (C.1.2.2.1.trans hp.2.2.2.2.1.1.symm) C.1.2.2.2.1 hw1 hw2 hw3 hw4 g1 g2 hle1 hle2 hd K2
    · exact absurd ha.1 id
  · exact absurd ha.1 id
def i_oinit (nx : Nat) : Ins := fun fr h => match fr.2.2 with
  | Sum.inr (Sum.inl _) :: st => (match Nat.ble st.length 4 with
    | true => go nx fr.2.1 st h
    | false => stuck)
  | _ => stuck
theorem s_oinit {y pc nx index : Nat} (hd : decode (am_mi y).2.1 pc = .ok (.invokespecial index, 3)) (hw1 : Cond.methodLink (am_mi y).1.cls index Lib.objectInit ∈ lw_tbl) (hw2 : Cond.instanceMethod Lib.objectInit ∈ lw_tbl) (hw3 : Cond.code Lib.objectInit ⟨#[0xb1]⟩ 1 none ∈ lw_tbl) (hn : pc + 3 = nx) : Snd y pc (i_oinit nx) := by
  subst hn
  intro x C fr h hpc ha
  obtain ⟨pc', ls, st⟩ := fr
  obtain rfl : pc' = pc := hpc
  unfold i_oinit at ha ⊢
  dsimp only at ha ⊢
  split at ha
  · split at ha
    · rename_i q st' _ hble
      refine ⟨⟨Nat.le_refl _, Nat.le_refl _⟩, fun hm1 hm2 K H locs cells slots lsC hp => ?_⟩
      have K2 := K H locs cells slots lsC hp
      have hw1 := C.wa hw1 rfl
      have hw2 := C.wa hw2 rfl
      have hw3 := C.wa hw3 rfl
      have hcat := am_cats (xK x) C.fmt st' hble
      obtain ⟨k, o, hE, ⟨d, n9, sl0⟩, p, l, e, R, s, m, args, below, meth, c⟩ := x
      have hR1 : d + 16 ≤ R.frames := C.2.2.2.2.1.1
      have hR2 : 45 * d + 400 ≤ R.locals := C.2.2.2.2.1.2.1
      have hc : ((st'.map (am_cv k)).map fun v => v.category).sum ≤ 8 := hcat
      exact W.objInit C.1.1 C.1.2.1 C.1.2.2.2.1 hw1 hw2 hw3 rfl (hp.2.2.2.2.1.1.trans C.1.2.2.1.symm) rfl hd (by omega) (by show 2 * 0 + _ + 12 ≤ _; omega) K2
    · exact absurd ha.1 id
  · exact absurd ha.1 id
