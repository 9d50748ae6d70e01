/-! ends of a method -/
theorem WX.mono {x : CX} {H : Heap} {locs : List Loc} {cells slots : Nat} {g : JFrame} {p l e R s m args below meth c} (hx : (x.2.2.2.2.1, x.2.2.2.2.2.1, x.2.2.2.2.2.2.1, x.2.2.2.2.2.2.2.1, xS x, xM x, x.2.2.2.2.2.2.2.2.2.2) = (p, l, e, R, s, m, (args, below, meth, c))) (k : W p l e R s m args below meth c H locs cells slots (vx_MQ below (QcA (xK x) x.2.1 x.2.2.1) (XcA (xK x) x.2.1 x.2.2.1) args s (hN x.2.2.1 - x.2.2.2.1.2.1) (hL x.2.2.1 - x.2.2.2.1.2.2) (frA (xK x))) g) : WX x H locs cells slots g := by
  obtain ⟨k0, o, hE, ⟨d, n9, sl0⟩, p, l, e, R, s, m, args, below, meth, c⟩ := x
  cases hx
  exact k
def i_ret : Ins := fun fr h => match fr.2.2 with
  | [] => ([], Sum.inr (Sum.inr (Sum.inl (Sum.inl none, h))))
  | _ => stuck
def i_iret (ok : Int32 → Prop) : Ins := fun fr h => match fr.2.2 with
  | [Sum.inl v] => ([ok v], Sum.inr (Sum.inr (Sum.inl (Sum.inl (some (aI v)), h))))
  | _ => stuck
def i_fret : Ins := fun fr h => match fr.2.2 with
  | [Sum.inr (Sum.inr (Sum.inr (Sum.inl v)))] => ([], Sum.inr (Sum.inr (Sum.inl (Sum.inl (some (aF v)), h))))
  | _ => stuck
def i_dret : Ins := fun fr h => match fr.2.2 with
  | [Sum.inr (Sum.inr (Sum.inr (Sum.inr (Sum.inl v))))] => ([], Sum.inr (Sum.inr (Sum.inl (Sum.inl (some (aD v)), h))))
  | _ => stuck
def i_aret : Ins := fun fr h => match fr.2.2 with
  | [v] => ([am_rf v = true], Sum.inr (Sum.inr (Sum.inl (Sum.inl (some v), h))))
  | _ => stuck
/-- an end forgets the cells that were made since there were n1 -/
def am_forget (n1 : Nat) (S : Nat → Nat → SC) : Nat → Nat → SC := fun a b => match Nat.beq a 0, Nat.ble n1 (am_ix a b) with
  | false, true => none
  | _, _ => S a b
def i_iretF (ok : Int32 → Prop) (n1 : Nat) : Ins := fun fr h => match fr.2.2 with
  | [Sum.inl v] => ([ok v], Sum.inr (Sum.inr (Sum.inl (Sum.inl (some (aI v)), (am_forget n1 (hS h), h.2)))))
  | _ => stuck
theorem DYN.forget {k : C0} {h : AH} {H : Heap} (D : DYN k h H) (n1 : Nat) : DYN k (am_forget n1 (hS h), h.2) H := by
  refine ⟨D.1, D.2.1, fun b => ?_, fun a b ha hs => ?_⟩
  · exact D.2.2.1 b
  · have e0 : Nat.beq a 0 = false := by cases a with | zero => exact absurd rfl ha | succ n => rfl
    have hs' : am_forget n1 (hS h) a b ≠ none := hs
    show (am_ix a b < hN h ∧ am_al (am_ix a b) = (a, b)) ∧ am_cell k _ a b (am_forget n1 (hS h) a b) H
    unfold am_forget at hs' ⊢
    rw [e0] at hs' ⊢
    cases eb : Nat.ble n1 (am_ix a b) with
    | true =>
      rw [eb] at hs'
      exact absurd rfl hs'
    | false =>
      rw [eb] at hs'
      obtain ⟨q1, q2⟩ := D.2.2.2 a b ha hs'
      exact ⟨q1, am_cell_keep q2 rfl (fun _ => rfl) (fun _ => rfl) (fun _ => rfl)⟩
/-- what an end owes, out of the kit's rows -/
theorem am_end {x : CX} {y : Nat} (C : CT x y) {ls : List (Option AV)} {h : AH} {H : Heap} {locs : List Loc} {cells slots : Nat} {lsC : Array Slot} (hp : PT x y ls h H locs cells slots lsC) {g : JFrame} {r : Option AV} {S' : Nat → Nat → SC} (hD : DYN (xK x) (S', h.2) H) (ho : Sum.inl r = x.2.1) (hh : (S', h.2) = x.2.2.1)
    (row : ∀ (p : Program) (l : Launch) (e : Env) (R : Room) (s : State) (m : MethodId) (args : Array Value) (below : List Frame) (meth : Method) (c : Code) (Qc : Array Value → State → Outcome → State → Prop) (free : Addr → Prop), p = x.2.2.2.2.1 → m = xM x → c.code = (am_mi y).2.1 → p.tables.exec = Jvm.exec → meth.sig.returnType = (am_mi y).2.2.2.1 → meth.locks = false → (∀ t : State, t.heap = H → s.WarmedH t.vm → Qc args s (.returned (r.map (am_cv (xK x)))) t) → (∀ z ∈ locs, free z.base) → W p l e R s m args below meth c H locs cells slots (MQ below Qc args s cells slots free) g) :
    WX x H locs cells slots g := by
  obtain ⟨k, o, hE, ⟨d, n9, sl0⟩, p, l, e, R, s, m, args, below, meth, c⟩ := x
  cases ho
  cases hh
  have hq1 : cells + n9 = h.2.1.1 := hp.2.2.1
  have hq2 : slots + sl0 = h.2.1.2 := hp.2.2.2.1
  show W p l e R s m args below meth c H locs cells slots (vx_MQ below (QcA k (Sum.inl r) (S', h.2)) (XcA k (Sum.inl r) (S', h.2)) args s (h.2.1.1 - n9) (h.2.1.2 - sl0) (frA k)) g
  rw [show h.2.1.1 - n9 = cells by omega, show h.2.1.2 - sl0 = slots by omega]
  exact vx_ret (row p l e R s m args below meth c _ _ rfl rfl C.1.2.1 C.1.1 C.1.2.2.2.2.1 C.1.2.2.2.2.2.1 (fun t ht _ => ⟨r, rfl, rfl, by rw [ht]; exact hD⟩) hp.2.1)
theorem s_ret {y pc : Nat} (hd : decode (am_mi y).2.1 pc = .ok (.return_, 1)) (hr : (am_mi y).2.2.2.1 = none) : Snd y pc i_ret := by
  intro x C fr h hpc ha
  obtain ⟨pc', ls, st⟩ := fr
  obtain rfl : pc' = pc := hpc
  unfold i_ret at ha ⊢
  dsimp only at ha ⊢
  split at ha
  · refine ⟨⟨Nat.le_refl _, Nat.le_refl _⟩, fun ho hh H locs cells slots lsC hp => ?_⟩
    refine am_end C hp (S' := h.1) (r := none) hp.1 ho hh fun p l e R s m args below meth c Qc free e1 e2 e3 e4 e5 e6 e7 e8 => ?_
    subst e2
    exact W.vret e4 e3 (e5.trans hr) e7 e8 hd e6
  · exact absurd ha.1 id
theorem s_iret {y pc : Nat} {ty : FieldType} {ok : Int32 → Prop} (hd : decode (am_mi y).2.1 pc = .ok (.ireturn, 1)) (hr : (am_mi y).2.2.2.1 = some ty) (hok : ∀ v, ok v → narrow ty (.int v) = .int v) : Snd y pc (i_iret ok) := by
  intro x C fr h hpc ha
  obtain ⟨pc', ls, st⟩ := fr
  obtain rfl : pc' = pc := hpc
  unfold i_iret at ha ⊢
  dsimp only at ha ⊢
  split at ha
  · rename_i v
    refine ⟨⟨Nat.le_refl _, Nat.le_refl _⟩, fun ho hh H locs cells slots lsC hp => ?_⟩
    refine am_end C hp (S' := h.1) (r := some (aI v)) hp.1 ho hh fun p l e R s m args below meth c Qc free e1 e2 e3 e4 e5 e6 e7 e8 => ?_
    subst e2
    exact W.zret e4 e3 (e5.trans hr) (hok v ha.1) e7 e8 hd e6
  · exact absurd ha.1 id
theorem s_iretF {y pc n1 : Nat} {ty : FieldType} {ok : Int32 → Prop} (hd : decode (am_mi y).2.1 pc = .ok (.ireturn, 1)) (hr : (am_mi y).2.2.2.1 = some ty) (hok : ∀ v, ok v → narrow ty (.int v) = .int v) : Snd y pc (i_iretF ok n1) := by
  intro x C fr h hpc ha
  obtain ⟨pc', ls, st⟩ := fr
  obtain rfl : pc' = pc := hpc
  unfold i_iretF at ha ⊢
  dsimp only at ha ⊢
  split at ha
  · rename_i v
    refine ⟨⟨Nat.le_refl _, Nat.le_refl _⟩, fun ho hh H locs cells slots lsC hp => ?_⟩
    refine am_end C hp (S' := am_forget n1 (hS h)) (r := some (aI v)) (hp.1.forget n1) ho hh fun p l e R s m args below meth c Qc free e1 e2 e3 e4 e5 e6 e7 e8 => ?_
    subst e2
    exact W.zret e4 e3 (e5.trans hr) (hok v ha.1) e7 e8 hd e6
  · exact absurd ha.1 id
def i_lret : Ins := fun fr h => match fr.2.2 with
  | [Sum.inr (Sum.inr (Sum.inl v))] => ([], Sum.inr (Sum.inr (Sum.inl (Sum.inl (some (aL v)), h))))
  | _ => stuck
theorem s_lret {y pc : Nat} (hd : decode (am_mi y).2.1 pc = .ok (.lreturn, 1)) (hr : (am_mi y).2.2.2.1 = some .long) : Snd y pc i_lret := by
  intro x C fr h hpc ha
  obtain ⟨pc', ls, st⟩ := fr
  obtain rfl : pc' = pc := hpc
  unfold i_lret at ha ⊢
  dsimp only at ha ⊢
  split at ha
  · rename_i v
    refine ⟨⟨Nat.le_refl _, Nat.le_refl _⟩, fun ho hh H locs cells slots lsC hp => ?_⟩
    refine am_end C hp (S' := h.1) (r := some (aL v)) hp.1 ho hh fun p l e R s m args below meth c Qc free e1 e2 e3 e4 e5 e6 e7 e8 => ?_
    subst e2
    exact W.lret e4 e3 (e5.trans hr) e7 e8 hd e6
  · exact absurd ha.1 id
theorem s_fret {y pc : Nat} (hd : decode (am_mi y).2.1 pc = .ok (.freturn, 1)) (hr : (am_mi y).2.2.2.1 = some .float) : Snd y pc i_fret := by
  intro x C fr h hpc ha
  obtain ⟨pc', ls, st⟩ := fr
  obtain rfl : pc' = pc := hpc
  unfold i_fret at ha ⊢
  dsimp only at ha ⊢
  split at ha
  · rename_i v
    refine ⟨⟨Nat.le_refl _, Nat.le_refl _⟩, fun ho hh H locs cells slots lsC hp => ?_⟩
    refine am_end C hp (S' := h.1) (r := some (aF v)) hp.1 ho hh fun p l e R s m args below meth c Qc free e1 e2 e3 e4 e5 e6 e7 e8 => ?_
    subst e2
    exact W.fret e4 e3 (e5.trans hr) e7 e8 hd e6
  · exact absurd ha.1 id
theorem s_dret {y pc : Nat} (hd : decode (am_mi y).2.1 pc = .ok (.dreturn, 1)) (hr : (am_mi y).2.2.2.1 = some .double) : Snd y pc i_dret := by
  intro x C fr h hpc ha
  obtain ⟨pc', ls, st⟩ := fr
  obtain rfl : pc' = pc := hpc
  unfold i_dret at ha ⊢
  dsimp only at ha ⊢
  split at ha
  · rename_i v
    refine ⟨⟨Nat.le_refl _, Nat.le_refl _⟩, fun ho hh H locs cells slots lsC hp => ?_⟩
    refine am_end C hp (S' := h.1) (r := some (aD v)) hp.1 ho hh fun p l e R s m args below meth c Qc free e1 e2 e3 e4 e5 e6 e7 e8 => ?_
    subst e2
    exact W.dret e4 e3 (e5.trans hr) e7 e8 hd e6
  · exact absurd ha.1 id
theorem s_aret {y pc : Nat} {ty : FieldType} (hd : decode (am_mi y).2.1 pc = .ok (.areturn, 1)) (hr : (am_mi y).2.2.2.1 = some ty) (hrt : (∃ n, ty = .object n) ∨ ∃ t, ty = .array t) : Snd y pc i_aret := by
  intro x C fr h hpc ha
  obtain ⟨pc', ls, st⟩ := fr
  obtain rfl : pc' = pc := hpc
  unfold i_aret at ha ⊢
  dsimp only at ha ⊢
  split at ha
  · rename_i v
    refine ⟨⟨Nat.le_refl _, Nat.le_refl _⟩, fun ho hh H locs cells slots lsC hp => ?_⟩
    have hv := am_cv_rf (xK x) C.fmt v ha.1
    refine am_end C hp (S' := h.1) (r := some v) hp.1 ho hh fun p l e R s m args below meth c Qc free e1 e2 e3 e4 e5 e6 e7 e8 => ?_
    subst e2
    exact W.aret e4 e3 (e5.trans hr) hrt hv e7 e8 hd e6
  · exact absurd ha.1 id
/-! 'throw new E("text")', all in one -/
def i_throw (j : Nat) : Ins := fun fr h => match Nat.ble fr.2.2.length 4 with
  | true => ([], Sum.inr (Sum.inr (Sum.inl (Sum.inr j, (h.1, (hN h + 1, hL h + 6), h.2.2)))))
  | false => stuck
theorem DYN.junk {k : C0} {h : AH} {H H' : Heap} (D : DYN k h H) (m sl : Nat) (hz : H'.size = H.size + m) (ho : ∀ q, q < H.size → H'[q]? = H[q]?) : DYN k (h.1, (hN h + m, sl), h.2.2) H' := by
  refine ⟨by rw [hz, D.1]; show _ = (kH k).size + (hN h + m); omega, fun q hq => ?_, D.2.2.1, fun a b ha hs => ?_⟩
  · rw [ho q (by rw [D.1]; omega)]
    exact D.2.1 q hq
  · obtain ⟨q1, q2⟩ := D.2.2.2 a b ha hs
    refine ⟨⟨by show _ < hN h + m; omega, q1.2⟩, am_cell_keep q2 (ho _ ?_) (fun _ => rfl) (fun _ => rfl) (fun _ => rfl)⟩
    rw [am_adr_pos ha, D.1]
    omega
