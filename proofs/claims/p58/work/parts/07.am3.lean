/-! the heap: what a write, a new cell keeps -/
def upI (I : Nat → Nat → Nat → Int32) (a b j : Nat) (v : Int32) : Nat → Nat → Nat → Int32 := fun a' b' j' => if a' = a ∧ b' = b ∧ j' = j then v else I a' b' j'
def upJ (I : Nat → Nat → Nat → Int64) (a b j : Nat) (v : Int64) : Nat → Nat → Nat → Int64 := fun a' b' j' => if a' = a ∧ b' = b ∧ j' = j then v else I a' b' j'
def upD (I : Nat → Nat → Nat → UInt64) (a b j : Nat) (v : UInt64) : Nat → Nat → Nat → UInt64 := fun a' b' j' => if a' = a ∧ b' = b ∧ j' = j then v else I a' b' j'
def upS (S : Nat → Nat → SC) (a b : Nat) (v : SC) : Nat → Nat → SC := fun a' b' => if a' = a ∧ b' = b then v else S a' b'
def upA {α : Type} (I : Nat → Nat → Nat → α) (a b : Nat) (f : Nat → α) : Nat → Nat → Nat → α := fun a' b' => if a' = a ∧ b' = b then f else I a' b'
theorem upI_ne {I : Nat → Nat → Nat → Int32} {a b j : Nat} {v : Int32} {a' b' j' : Nat} (h : ¬ (a' = a ∧ b' = b)) : upI I a b j v a' b' j' = I a' b' j' := if_neg (fun q => h ⟨q.1, q.2.1⟩)
theorem upJ_ne {I : Nat → Nat → Nat → Int64} {a b j : Nat} {v : Int64} {a' b' j' : Nat} (h : ¬ (a' = a ∧ b' = b)) : upJ I a b j v a' b' j' = I a' b' j' := if_neg (fun q => h ⟨q.1, q.2.1⟩)
theorem upD_ne {I : Nat → Nat → Nat → UInt64} {a b j : Nat} {v : UInt64} {a' b' j' : Nat} (h : ¬ (a' = a ∧ b' = b)) : upD I a b j v a' b' j' = I a' b' j' := if_neg (fun q => h ⟨q.1, q.2.1⟩)
theorem upS_ne {S : Nat → Nat → SC} {a b : Nat} {v : SC} {a' b' : Nat} (h : ¬ (a' = a ∧ b' = b)) : upS S a b v a' b' = S a' b' := if_neg h
theorem upS_self {S : Nat → Nat → SC} {a b : Nat} {v : SC} : upS S a b v a b = v := if_pos ⟨rfl, rfl⟩
theorem upA_ne {α : Type} {I : Nat → Nat → Nat → α} {a b : Nat} {f : Nat → α} {a' b' : Nat} (h : ¬ (a' = a ∧ b' = b)) : upA I a b f a' b' = I a' b' := if_neg h
theorem upA_self {α : Type} {I : Nat → Nat → Nat → α} {a b : Nat} {f : Nat → α} : upA I a b f a b = f := if_pos ⟨rfl, rfl⟩
theorem am_adr_pos {k : C0} {a b : Nat} (h : a ≠ 0) : am_adr k a b = (kH k).size + am_ix a b := by
  unfold am_adr
  rw [show Nat.beq a 0 = false from by cases a with | zero => exact absurd rfl h | succ n => rfl]
  rfl
theorem am_cell_keep {k : C0} {h h' : AH} {a b : Nat} {sc : SC} {H H' : Heap} (hc : am_cell k h a b sc H) (e : H'[am_adr k a b]? = H[am_adr k a b]?)
    (eI : ∀ j, hI h' a b j = hI h a b j) (eJ : ∀ j, hJ h' a b j = hJ h a b j) (eD : ∀ j, hD h' a b j = hD h a b j) : am_cell k h' a b sc H' := by
  rcases sc with _ | ⟨t, n, g⟩ | ⟨c, fs⟩
  · trivial
  · refine ⟨hc.1, ?_⟩
    have e2 : am_ent k h' a b t g = am_ent k h a b t g := by
      funext j
      unfold am_ent
      rw [eI, eJ, eD]
    rw [e2, e]
    exact hc.2
  · obtain ⟨r, h1, h2, h3⟩ := hc
    refine ⟨r, h1, h2, ?_⟩
    have e2 : (fun j => am_cv k (am_fld h' a b fs j)) = (fun j => am_cv k (am_fld h a b fs j)) := by
      funext j
      unfold am_fld
      rw [eI]
    show t_OB _ _ _ _ _ (fun j => am_cv k (am_fld h' a b fs j))
    rw [e2]
    exact h3.kept e
theorem DYN.inj {k : C0} {h : AH} {H : Heap} (D : DYN k h H) {a b a' b' : Nat} (ha : a ≠ 0) (ha' : a' ≠ 0) (h1 : hS h a b ≠ none) (h2 : hS h a' b' ≠ none) (e : am_adr k a b = am_adr k a' b') : a = a' ∧ b = b' := by
  rw [am_adr_pos ha, am_adr_pos ha'] at e
  have e1 : am_ix a b = am_ix a' b' := by omega
  have q1 := (D.2.2.2 a b ha h1).1.2
  have q2 := (D.2.2.2 a' b' ha' h2).1.2
  rw [e1, q2] at q1
  exact ⟨(congrArg Prod.fst q1).symm, (congrArg Prod.snd q1).symm⟩
/-- one cell is written -/
theorem DYN.upd {k : C0} {h h' : AH} {H H' : Heap} (D : DYN k h H) {a b : Nat} (ha : a ≠ 0) (hs : hS h a b ≠ none) (z : H'.size = H.size) (oq : ∀ q, q ≠ am_adr k a b → H'[q]? = H[q]?) (hn : hN h' = hN h)
    (eS : ∀ a' b', ¬ (a' = a ∧ b' = b) → hS h' a' b' = hS h a' b') (eI : ∀ a' b' j, ¬ (a' = a ∧ b' = b) → hI h' a' b' j = hI h a' b' j) (eJ : ∀ a' b' j, ¬ (a' = a ∧ b' = b) → hJ h' a' b' j = hJ h a' b' j) (eD : ∀ a' b' j, ¬ (a' = a ∧ b' = b) → hD h' a' b' j = hD h a' b' j)
    (hc : am_cell k h' a b (hS h' a b) H') : DYN k h' H' := by
  refine ⟨by rw [z, hn]; exact D.1, fun q hq => ?_, fun b' => ?_, fun a' b' ha' hs' => ?_⟩
  · rw [oq q (by rw [am_adr_pos ha]; omega)]
    exact D.2.1 q hq
  · rw [eS 0 b' (fun q => ha q.1.symm)]
    exact D.2.2.1 b'
  · by_cases e : a' = a ∧ b' = b
    · obtain ⟨rfl, rfl⟩ := e
      refine ⟨?_, hc⟩
      rw [hn]
      exact (D.2.2.2 a' b' ha hs).1
    · have hs2 : hS h a' b' ≠ none := by rw [← eS a' b' e]; exact hs'
      obtain ⟨q1, q2⟩ := D.2.2.2 a' b' ha' hs2
      refine ⟨by rw [hn]; exact q1, ?_⟩
      rw [eS a' b' e]
      exact am_cell_keep q2 (oq _ (fun q => e (D.inj ha' ha hs2 hs q))) (fun j => eI a' b' j e) (fun j => eJ a' b' j e) (fun j => eD a' b' j e)
theorem am_al_pos (n : Nat) : (am_al n).1 ≠ 0 := by
  by_cases h : am_n0 ≤ n
  · have e : am_al n = (46, n) := by unfold am_al; rw [show Nat.ble 136 n = true from Nat.ble_eq.mpr h]; rfl
    rw [e]; show (46 : Nat) ≠ 0; decide
  · have key : ∀ j, j < am_n0 → (am_al j).1 ≠ 0 := by decide +kernel
    exact key n (by omega)
theorem DYN.free {k : C0} {h : AH} {H : Heap} (D : DYN k h H) {m : Nat} (hm : hN h ≤ m) : hS h (am_al m).1 (am_al m).2 = none := by
  cases e : hS h (am_al m).1 (am_al m).2 with
  | none => rfl
  | some v =>
    have q := (D.2.2.2 _ _ (am_al_pos m) (by rw [e]; exact fun z => by cases z)).1.1
    rw [am_ix_al] at q
    omega
/-- one cell is made -/
theorem DYN.new {k : C0} {h h' : AH} {H H' : Heap} (D : DYN k h H) {a b : Nat} (hab : am_al (hN h) = (a, b)) (z : H'.size = H.size + 1) (oq : ∀ q, q < H.size → H'[q]? = H[q]?) (hn : hN h' = hN h + 1)
    (eS : ∀ a' b', ¬ (a' = a ∧ b' = b) → hS h' a' b' = hS h a' b') (eI : ∀ a' b' j, ¬ (a' = a ∧ b' = b) → hI h' a' b' j = hI h a' b' j) (eJ : ∀ a' b' j, ¬ (a' = a ∧ b' = b) → hJ h' a' b' j = hJ h a' b' j) (eD : ∀ a' b' j, ¬ (a' = a ∧ b' = b) → hD h' a' b' j = hD h a' b' j)
    (hc : am_cell k h' a b (hS h' a b) H') : DYN k h' H' := by
  have ha : a ≠ 0 := by have := am_al_pos (hN h); rw [hab] at this; exact this
  have hix : am_ix a b = hN h := by have := am_ix_al (hN h); rw [hab] at this; exact this
  refine ⟨by rw [z, hn, D.1]; omega, fun q hq => ?_, fun b' => ?_, fun a' b' ha' hs' => ?_⟩
  · rw [oq q (by rw [D.1]; omega)]
    exact D.2.1 q hq
  · rw [eS 0 b' (fun q => ha q.1.symm)]
    exact D.2.2.1 b'
  · by_cases e : a' = a ∧ b' = b
    · obtain ⟨rfl, rfl⟩ := e
      refine ⟨⟨by rw [hn, hix]; omega, by rw [hix]; exact hab⟩, hc⟩
    · have hs2 : hS h a' b' ≠ none := by rw [← eS a' b' e]; exact hs'
      obtain ⟨q1, q2⟩ := D.2.2.2 a' b' ha' hs2
      refine ⟨⟨by rw [hn]; omega, q1.2⟩, ?_⟩
      rw [eS a' b' e]
      refine am_cell_keep q2 (oq _ ?_) (fun j => eI a' b' j e) (fun j => eJ a' b' j e) (fun j => eD a' b' j e)
      rw [am_adr_pos ha', D.1]
      omega
/-! the classes' words -/
theorem am_uws : ∀ (c : Nat) (q : vw_C), am_cl[c]? = some q → ∀ w ∈ u_ws q.1 q.2.1 q.2.2, w ∈ am_WA := by
  have key : am_cl.all (fun q => (u_ws q.1 q.2.1 q.2.2).all (fun w => decide (w ∈ lw_tbl) && goodWord w)) = true := by decide +kernel
  intro c q hq w hw
  have h1 := List.all_eq_true.mp key q (List.mem_of_getElem? hq)
  have h2 := List.all_eq_true.mp h1 w hw
  simp only [Bool.and_eq_true, decide_eq_true_eq] at h2
  exact am_inWA h2.1 h2.2
/-- the fields' types by their classes -/
def am_ft (c : Nat) : Nat → FieldType := match c with
  | 0 => am_ft0
  | 1 => am_ft1
  | 2 => am_ft2
  | 3 => am_ft3
  | 4 => am_ft4
  | 5 => am_ft5
  | 6 => am_ft6
  | 7 => am_ft7
  | 8 => am_ft8
  | 9 => am_ft9
  | _ => am_ft10
theorem am_ft_ok : ∀ (c : Nat) (q : vw_C), am_cl[c]? = some q → ∀ j, j < q.2.2 → parseFieldDescriptor (q.2.1 j).2.2.1 = some (am_ft c j) := by
  have key : ∀ c, c < 11 → ∀ j, j < ((am_cl[c]?).getD ("", am_T0, 0)).2.2 → parseFieldDescriptor ((((am_cl[c]?).getD ("", am_T0, 0)).2.1 j).2.2.1) = some (am_ft c j) := by decide +kernel
  intro c q hq j hj
  have hc : c < 11 := (List.getElem?_eq_some_iff.mp hq).1
  have := key c hc j (by rw [hq]; exact hj)
  rw [hq] at this
  exact this
theorem am_ft_nm : ∀ (c : Nat) (q : vw_C), am_cl[c]? = some q → ∀ i, i < q.2.2 → ∀ j, j < q.2.2 → i ≠ j → (q.2.1 i).2.1 ≠ (q.2.1 j).2.1 := by
  have key : ∀ c, c < 11 → ∀ i, i < ((am_cl[c]?).getD ("", am_T0, 0)).2.2 → ∀ j, j < ((am_cl[c]?).getD ("", am_T0, 0)).2.2 → i ≠ j → (((am_cl[c]?).getD ("", am_T0, 0)).2.1 i).2.1 ≠ (((am_cl[c]?).getD ("", am_T0, 0)).2.1 j).2.1 := by decide +kernel
  intro c q hq i hi j hj hij
  have hc : c < 11 := (List.getElem?_eq_some_iff.mp hq).1
  have := key c hc i (by rw [hq]; exact hi) j (by rw [hq]; exact hj) hij
  rw [hq] at this
  exact this
/-- a cell of a class of the program isn't one that was there at the start -/
theorem DYN.notpre {k : C0} {h : AH} {H : Heap} {s : State} (D : DYN k h H) (S : STAT k s) {a b : Nat} {sc : (Nat × Nat × (Nat → AV)) ⊕ (Nat × List AV)} (e : hS h a b = some sc) (hc : (∃ t n g, sc = Sum.inl (t, n, g) ∧ t < 8) ∨ ∃ c fs, sc = Sum.inr (c, fs) ∧ c < 90) : a ≠ 0 := by
  rintro rfl
  have h1 := S.2.2.1 b
  rw [← D.2.2.1 b, e] at h1
  rcases hc with ⟨t, n, g, rfl, ht⟩ | ⟨c, fs, rfl, hc⟩
  · rcases h1.1 with q | q | q <;> omega
  · rcases h1.1 with q | q <;> omega
/-! fields -/
def i_getf (c j nx : Nat) : Ins := fun fr h => match fr.2.2 with
  | Sum.inr (Sum.inl (a, b)) :: st => (match hS h a b with
    | some (Sum.inr (c', fs)) => (match Nat.beq c' c with
      | true => go nx fr.2.1 (am_fld h a b fs j :: st) h
      | false => stuck)
    | _ => stuck)
  | _ => stuck
theorem s_getf {y pc nx c j index : Nat} {q : vw_C} (hd : decode (am_mi y).2.1 pc = .ok (.getfield index, 3)) (hc : am_cl[c]? = some q) (hj : j < q.2.2) (hw : Cond.fieldLink (am_mi y).1.cls index (q.2.1 j).1 (q.2.1 j).2.1 (q.2.1 j).2.2.1 ∈ lw_tbl) (hn : pc + 3 = nx) : Snd y pc (i_getf c j nx) := by
  subst hn
  intro x C fr h hpc ha
  obtain ⟨pc', ls, st⟩ := fr
  obtain rfl : pc' = pc := hpc
  unfold i_getf at ha ⊢
  dsimp only at ha ⊢
  split at ha
  · rename_i a b st'
    split at ha
    · rename_i c' fs hSe
      split at ha
      · rename_i hcc
        have hcc2 : c' = c := Nat.eq_of_beq_eq_true hcc
        subst hcc2
        refine ⟨⟨Nat.le_refl _, Nat.le_refl _⟩, fun _ _ K H locs cells slots lsC hp => ?_⟩
        have K2 := K H locs cells slots lsC hp
        have hwl := C.wa hw rfl
        obtain ⟨k, o, hE, ⟨d, n0, sl0⟩, p, l, e, R, s, m, args, below, meth, c⟩ := x
        have hc10 : c' < 90 := by
          have := (List.getElem?_eq_some_iff.mp hc).1
          have e : am_cl.length = 11 := rfl
          omega
        have ha0 : a ≠ 0 := hp.1.notpre C.2.2.1 hSe (Or.inr ⟨_, _, rfl, hc10⟩)
        obtain ⟨-, hcell⟩ := hp.1.2.2.2 a b ha0 (by rw [hSe]; exact fun z => by cases z)
        rw [hSe] at hcell
        obtain ⟨r, h1, h2, cell, g1, g2, g3, g4⟩ := hcell
        have hr : r = q := Option.some.inj (h1.symm.trans hc)
        subst hr
        obtain ⟨hSl, hfc, kC, hkC, hkind⟩ := C.2.2.1.1 c' _ hc
        obtain ⟨cf, kf, fi, f, hi, hsl⟩ := hSl j hj
        refine W.getf C.1.1 C.1.2.1 C.1.2.2.2.1 hwl hi (u_facts hfc hkC (u_lays C.2.1 (am_uws c' _ hc) hj) hi).1 g1 (by rw [g3]; exact fun h => by cases h) (v := am_cv k (am_fld h a b fs j)) ?_ rfl rfl hd K2
        rw [hsl, g4 j hj]
      · exact absurd ha.1 id
    · exact absurd ha.1 id
  · exact absurd ha.1 id
