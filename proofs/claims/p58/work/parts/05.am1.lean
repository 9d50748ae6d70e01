/-! the judgements: a frame of the small machine stands for the walk of a concrete one -/
def QcA (k : C0) (o : Out) (hE : AH) : Array Value → State → Outcome → State → Prop := fun _ _ oc t => ∃ r : Option AV, o = Sum.inl r ∧ oc = .returned (r.map (am_cv k)) ∧ DYN k hE t.heap
def XcA (k : C0) (o : Out) (hE : AH) : String → State → State → Prop := fun E _ t => ∃ x : Nat, o = Sum.inr x ∧ x < 6 ∧ E = am_exn x ∧ DYN k hE t.heap
def am_rm (d mc ms : Nat) : Room := { frames := d + 16, cells := mc, slots := ms, locals := 45 * d + 400 }
def am_ws (y : Nat) : List Cond := am_cw (am_mi y) :: am_WA
def MetA (k : C0) (l : Launch) (d y : Nat) (as : List AV) (h : AH) (o : Out) (h' : AH) : Prop :=
  vx_Met l (am_mi y).1 (am_ws y) (am_rm d (hN h' - hN h) (hL h' - hL h)) (fun v U => v = (as.map (am_cv k)).toArray ∧ DYN k h U.heap ∧ STAT k U) (QcA k o h') (XcA k o h') (hN h' - hN h) (hL h' - hL h) (frA k)
abbrev CX : Type := C0 × Out × AH × (Nat × Nat × Nat) × Program × Launch × Env × Room × State × MethodId × Array Value × List Frame × Method × Code
def CT (x : CX) (y : Nat) : Prop := match x with
  | (k, o, hE, (d, n0, sl0), p, l, e, R, s, m, args, below, meth, c) =>
    (p.tables.exec = Jvm.exec ∧ c.code = (am_mi y).2.1 ∧ c.maxLocals = (am_mi y).2.2.1 ∧ s.vm.findClass (am_mi y).1.cls = some m.cls ∧ meth.sig.returnType = (am_mi y).2.2.2.1 ∧ meth.locks = false ∧ c.exceptionTable.toList = tableOf (am_mi y).2.2.2.2.1 ∧ meth.name = (am_mi y).1.name) ∧
    (∀ w ∈ am_WA, w.before args s = true) ∧ STAT k s ∧ l.stackTraces = false ∧
    (d + 16 ≤ R.frames ∧ 45 * d + 400 ≤ R.locals ∧ hN hE ≤ R.cells + n0 ∧ hL hE ≤ R.slots + sl0) ∧ (s.heap.size = (kH k).size + n0 ∧ ∀ q, q < (kH k).size → s.heap[q]? = (kH k)[q]?)
def WX (x : CX) (H : Heap) (locs : List Loc) (cells slots : Nat) (g : JFrame) : Prop := match x with
  | (k, o, hE, (_, n0, sl0), p, l, e, R, s, m, args, below, meth, c) => W p l e R s m args below meth c H locs cells slots (vx_MQ below (QcA k o hE) (XcA k o hE) args s (hN hE - n0) (hL hE - sl0) (frA k)) g
def WXx (x : CX) (H : Heap) (locs : List Loc) (cells slots : Nat) (g : JFrame) (q : Addr) : Prop := match x with
  | (k, o, hE, (_, n0, sl0), p, l, e, R, s, m, args, below, meth, c) => vx_W p l e R s m args below meth c H locs cells slots (vx_MQ below (QcA k o hE) (XcA k o hE) args s (hN hE - n0) (hL hE - sl0) (frA k)) g q
abbrev xK (x : CX) : C0 := x.1
abbrev xS (x : CX) : State := x.2.2.2.2.2.2.2.2.1
abbrev xM (x : CX) : MethodId := x.2.2.2.2.2.2.2.2.2.1
/-- what the frame needs of the heap at a point of the walk -/
def PT (x : CX) (y : Nat) (ls : List (Option AV)) (h : AH) (H : Heap) (locs : List Loc) (cells slots : Nat) (lsC : Array Slot) : Prop :=
  DYN (xK x) h H ∧ (∀ z ∈ locs, (kH (xK x)).size ≤ z.base) ∧ cells + x.2.2.2.1.2.1 = hN h ∧ slots + x.2.2.2.1.2.2 = hL h ∧ FR (xK x) (am_mi y).2.2.1 (am_w2 y) lsC ls
def Wk (x : CX) (y : Nat) (fr : Fr) (h : AH) : Prop := ∀ (H : Heap) (locs : List Loc) (cells slots : Nat) (lsC : Array Slot),
  PT x y fr.2.1 h H locs cells slots lsC → WX x H locs cells slots (F0 (xM x) fr.1 lsC (fr.2.2.map (am_cv (xK x))))
def Wx (x : CX) (y : Nat) (fr : Fr) (j : Nat) (h : AH) : Prop := ∀ (H : Heap) (locs : List Loc) (cells slots : Nat) (lsC : Array Slot) (q : Addr) (ce : Cell),
  PT x y fr.2.1 h H locs cells slots lsC → H[q]? = some ce → ce.vm = .none → (xS x).vm.findClass (am_exn j) = some ce.cls → WXx x H locs cells slots (F0 (xM x) fr.1 lsC (fr.2.2.map (am_cv (xK x)))) q
def allP : List Prop → Prop
  | [] => True
  | c :: t => c ∧ allP t
def GoodA (x : CX) (y : Nat) (fr : Fr) (h : AH) (act : Act) : Prop := match act with
  | Sum.inl q => (hN h ≤ hN q.2 ∧ hL h ≤ hL q.2) ∧ (hN q.2 ≤ hN x.2.2.1 → hL q.2 ≤ hL x.2.2.1 → Wk x y q.1 q.2 → Wk x y fr h)
  | Sum.inr (Sum.inl q) => ∀ (o' : Out) (h' : AH), hN h ≤ hN h' → hL h ≤ hL h' → hN h' ≤ hN x.2.2.1 → hL h' ≤ hL x.2.2.1 → 1 ≤ x.2.2.2.1.1 → MetA (xK x) x.2.2.2.2.2.1 (x.2.2.2.1.1 - 1) q.1 q.2.1 h o' h' →
      (∀ r, o' = Sum.inl r → Wk x y (q.2.2.1 + 3, q.2.2.2.1, r.toList ++ q.2.2.2.2) h') → (∀ j, o' = Sum.inr j → Wx x y q.2.2 j h') → Wk x y fr h
  | Sum.inr (Sum.inr (Sum.inl q)) => (hN h ≤ hN q.2 ∧ hL h ≤ hL q.2) ∧ (q.1 = x.2.1 → q.2 = x.2.2.1 → Wk x y fr h)
  | Sum.inr (Sum.inr (Sum.inr _)) => True
/-- an instruction of the small machine is right at this place of the method -/
def Snd (y pc : Nat) (ins : Ins) : Prop := ∀ x : CX, CT x y → ∀ (fr : Fr) (h : AH), fr.1 = pc → allP (ins fr h).1 → GoodA x y fr h (ins fr h).2
abbrev go (pc : Nat) (ls : List (Option AV)) (st : List AV) (h : AH) : List Prop × Act := ([], Sum.inl ((pc, ls, st), h))
abbrev goC (c : Prop) (pc : Nat) (ls : List (Option AV)) (st : List AV) (h : AH) : List Prop × Act := ([c], Sum.inl ((pc, ls, st), h))
abbrev stuck : List Prop × Act := ([False], Sum.inr (Sum.inr (Sum.inr ())))
theorem CT.fmt {x : CX} {y : Nat} (h : CT x y) : (xK x).2.2.2.2.2.2 = .null ∨ ∃ a, (xK x).2.2.2.2.2.2 = .ref a := by
  obtain ⟨k, o, hE, ⟨d, n0, sl0⟩, p, l, e, R, s, m, args, below, meth, c⟩ := x
  obtain ⟨-, -, hS, -⟩ := h
  exact hS.2.2.2.2.2.2.2.2.2.2
theorem CT.wa {x : CX} {y : Nat} (h : CT x y) {w : Cond} (h1 : w ∈ lw_tbl) (g : goodWord w = true) : w.before x.2.2.2.2.2.2.2.2.2.2.1 (xS x) = true := by
  obtain ⟨k, o, hE, ⟨d, n0, sl0⟩, p, l, e, R, s, m, args, below, meth, c⟩ := x
  exact h.2.1 w (am_inWA h1 g)
/-! pushes of constants -/
def i_push (v : AV) (nx : Nat) : Ins := fun fr h => go nx fr.2.1 (v :: fr.2.2) h
theorem snd_push {y pc nx : Nat} {v : AV} (row : ∀ x : CX, CT x y → ∀ H locs cells slots lsC rest, WX x H locs cells slots (F0 (xM x) nx lsC (am_cv (xK x) v :: rest)) → WX x H locs cells slots (F0 (xM x) pc lsC rest)) : Snd y pc (i_push v nx) := by
  intro x C fr h hpc _
  obtain ⟨pc', ls, st⟩ := fr
  obtain rfl : pc' = pc := hpc
  exact ⟨⟨Nat.le_refl _, Nat.le_refl _⟩, fun _ _ K H locs cells slots lsC hp => row x C H locs cells slots lsC _ (K H locs cells slots lsC hp)⟩
theorem s_iconst {y pc nx : Nat} {n : Int} {v : Int32} (hd : decode (am_mi y).2.1 pc = .ok (.iconst n, 1)) (hv : Int32.ofInt n = v) (hn : pc + 1 = nx) : Snd y pc (i_push (aI v) nx) := by
  subst hn
  refine snd_push fun x C H locs cells slots lsC rest K => ?_
  obtain ⟨k, o, hE, ⟨d, n0, sl0⟩, p, l, e, R, s, m, args, below, meth, c⟩ := x
  exact lv_iconst C.1.1 C.1.2.1 hd hv K
theorem s_bipush {y pc nx : Nat} {n : Int} {v : Int32} (hd : decode (am_mi y).2.1 pc = .ok (.bipush n, 2)) (hv : (Int8.ofInt n).toInt32 = v) (hn : pc + 2 = nx) : Snd y pc (i_push (aI v) nx) := by
  subst hn
  refine snd_push fun x C H locs cells slots lsC rest K => ?_
  obtain ⟨k, o, hE, ⟨d, n0, sl0⟩, p, l, e, R, s, m, args, below, meth, c⟩ := x
  exact lv_bipush C.1.1 C.1.2.1 hd hv K
theorem s_sipush {y pc nx : Nat} {n : Int} {v : Int32} (hd : decode (am_mi y).2.1 pc = .ok (.sipush n, 3)) (hv : (Int16.ofInt n).toInt32 = v) (hn : pc + 3 = nx) : Snd y pc (i_push (aI v) nx) := by
  subst hn
  refine snd_push fun x C H locs cells slots lsC rest K => ?_
  obtain ⟨k, o, hE, ⟨d, n0, sl0⟩, p, l, e, R, s, m, args, below, meth, c⟩ := x
  exact lv_sipush C.1.1 C.1.2.1 hd hv K
theorem s_lconst {y pc nx : Nat} {n : Fin 2} {v : Int64} (hd : decode (am_mi y).2.1 pc = .ok (.lconst n, 1)) (hv : Int64.ofNat (n : Nat) = v) (hn : pc + 1 = nx) : Snd y pc (i_push (aL v) nx) := by
  subst hn
  refine snd_push fun x C H locs cells slots lsC rest K => ?_
  obtain ⟨k, o, hE, ⟨d, n0, sl0⟩, p, l, e, R, s, m, args, below, meth, c⟩ := x
  exact lv_lconst C.1.1 C.1.2.1 hd hv K
theorem s_fconst0 {y pc nx : Nat} (hd : decode (am_mi y).2.1 pc = .ok (.fconst 0, 1)) (hn : pc + 1 = nx) : Snd y pc (i_push (aF FP.fconst0) nx) := by
  subst hn
  refine snd_push fun x C H locs cells slots lsC rest K => ?_
  obtain ⟨k, o, hE, ⟨d, n0, sl0⟩, p, l, e, R, s, m, args, below, meth, c⟩ := x
  exact lv_fconst0 C.1.1 C.1.2.1 hd K
theorem s_dconst0 {y pc nx : Nat} (hd : decode (am_mi y).2.1 pc = .ok (.dconst 0, 1)) (hn : pc + 1 = nx) : Snd y pc (i_push (aD FP.dconst0) nx) := by
  subst hn
  refine snd_push fun x C H locs cells slots lsC rest K => ?_
  obtain ⟨k, o, hE, ⟨d, n0, sl0⟩, p, l, e, R, s, m, args, below, meth, c⟩ := x
  exact lv_dconst0 C.1.1 C.1.2.1 hd K
theorem s_null {y pc nx : Nat} (hd : decode (am_mi y).2.1 pc = .ok (.aconst_null, 1)) (hn : pc + 1 = nx) : Snd y pc (i_push aN nx) := by
  subst hn
  refine snd_push fun x C H locs cells slots lsC rest K => ?_
  obtain ⟨k, o, hE, ⟨d, n0, sl0⟩, p, l, e, R, s, m, args, below, meth, c⟩ := x
  exact lv_null C.1.1 C.1.2.1 hd K
theorem s_ldc {y pc nx index : Nat} {v : Int32} (hd : decode (am_mi y).2.1 pc = .ok (.ldc index, 2)) (hw : Cond.constant (am_mi y).1.cls index v ∈ lw_tbl) (hn : pc + 2 = nx) : Snd y pc (i_push (aI v) nx) := by
  subst hn
  refine snd_push fun x C H locs cells slots lsC rest K => ?_
  have hw := C.wa hw rfl
  obtain ⟨k, o, hE, ⟨d, n0, sl0⟩, p, l, e, R, s, m, args, below, meth, c⟩ := x
  exact lv_ldc C.1.1 C.1.2.1 C.1.2.2.2.1 hw hd K
theorem s_ldcw {y pc nx index : Nat} {v : Int32} (hd : decode (am_mi y).2.1 pc = .ok (.ldc_w index, 3)) (hw : Cond.constant (am_mi y).1.cls index v ∈ lw_tbl) (hn : pc + 3 = nx) : Snd y pc (i_push (aI v) nx) := by
  subst hn
  refine snd_push fun x C H locs cells slots lsC rest K => ?_
  have hw := C.wa hw rfl
  obtain ⟨k, o, hE, ⟨d, n0, sl0⟩, p, l, e, R, s, m, args, below, meth, c⟩ := x
  exact lv_ldcw C.1.1 C.1.2.1 C.1.2.2.2.1 hw hd K
/-! loads -/
def i_iload (i nx : Nat) : Ins := fun fr h => match fr.2.1[i]? with
  | some (some (Sum.inl x)) => go nx fr.2.1 (aI x :: fr.2.2) h
  | _ => stuck
def i_fload (i nx : Nat) : Ins := fun fr h => match fr.2.1[i]? with
  | some (some (Sum.inr (Sum.inr (Sum.inr (Sum.inl x))))) => go nx fr.2.1 (aF x :: fr.2.2) h
  | _ => stuck
def i_dload (i nx : Nat) : Ins := fun fr h => match fr.2.1[i]? with
  | some (some (Sum.inr (Sum.inr (Sum.inr (Sum.inr (Sum.inl x)))))) => go nx fr.2.1 (aD x :: fr.2.2) h
  | _ => stuck
def i_aload (i nx : Nat) : Ins := fun fr h => match fr.2.1[i]? with
  | some (some (Sum.inr (Sum.inl q))) => go nx fr.2.1 (Sum.inr (Sum.inl q) :: fr.2.2) h
  | some (some v) => goC (am_rf v = true) nx fr.2.1 (v :: fr.2.2) h
  | _ => stuck
theorem snd_iload {y pc i nx : Nat} (row : ∀ x : CX, CT x y → ∀ H locs cells slots (lsC : Array Slot) rest v, lsC[i]? = some (.val (.int v)) → WX x H locs cells slots (F0 (xM x) nx lsC (.int v :: rest)) → WX x H locs cells slots (F0 (xM x) pc lsC rest)) : Snd y pc (i_iload i nx) := by
  intro x C fr h hpc ha
  obtain ⟨pc', ls, st⟩ := fr
  obtain rfl : pc' = pc := hpc
  unfold i_iload at ha ⊢
  dsimp only at ha ⊢
  split at ha
  · rename_i v hv
    exact ⟨⟨Nat.le_refl _, Nat.le_refl _⟩, fun _ _ K H locs cells slots lsC hp => row x C H locs cells slots lsC _ v (FR.at hp.2.2.2.2 hv) (K H locs cells slots lsC hp)⟩
  · exact absurd ha.1 id
theorem s_iload_n {y pc nx i : Nat} {k : Fin 4} (hd : decode (am_mi y).2.1 pc = .ok (.iload_n k, 1)) (hi : (k : Nat) = i) (hn : pc + 1 = nx) : Snd y pc (i_iload i nx) := by
  subst hn
  refine snd_iload fun x C H locs cells slots lsC rest v hv K => ?_
  obtain ⟨k, o, hE, ⟨d, n0, sl0⟩, p, l, e, R, s, m, args, below, meth, c⟩ := x
  exact lv_iload_n C.1.1 C.1.2.1 hd hi hv K
theorem s_iload {y pc nx i : Nat} (hd : decode (am_mi y).2.1 pc = .ok (.iload i, 2)) (hn : pc + 2 = nx) : Snd y pc (i_iload i nx) := by
  subst hn
  refine snd_iload fun x C H locs cells slots lsC rest v hv K => ?_
  obtain ⟨k, o, hE, ⟨d, n0, sl0⟩, p, l, e, R, s, m, args, below, meth, c⟩ := x
  exact lv_iload C.1.1 C.1.2.1 hd hv K
theorem s_fload {y pc nx i : Nat} (hd : decode (am_mi y).2.1 pc = .ok (.fload i, 2)) (hn : pc + 2 = nx) : Snd y pc (i_fload i nx) := by
  subst hn
  intro x C fr h hpc ha
  obtain ⟨pc', ls, st⟩ := fr
  obtain rfl : pc' = pc := hpc
  unfold i_fload at ha ⊢
  dsimp only at ha ⊢
  split at ha
  · rename_i v hv
    refine ⟨⟨Nat.le_refl _, Nat.le_refl _⟩, fun _ _ K H locs cells slots lsC hp => ?_⟩
    have h1 := FR.at hp.2.2.2.2 hv
    have h2 := K H locs cells slots lsC hp
    obtain ⟨k, o, hE, ⟨d, n0, sl0⟩, p, l, e, R, s, m, args, below, meth, c⟩ := x
    exact lv_fload C.1.1 C.1.2.1 hd h1 h2
  · exact absurd ha.1 id
theorem s_dload {y pc nx i : Nat} (hd : decode (am_mi y).2.1 pc = .ok (.dload i, 2)) (hn : pc + 2 = nx) : Snd y pc (i_dload i nx) := by
  subst hn
  intro x C fr h hpc ha
  obtain ⟨pc', ls, st⟩ := fr
  obtain rfl : pc' = pc := hpc
  unfold i_dload at ha ⊢
  dsimp only at ha ⊢
  split at ha
  · rename_i v hv
    refine ⟨⟨Nat.le_refl _, Nat.le_refl _⟩, fun _ _ K H locs cells slots lsC hp => ?_⟩
    have h1 := FR.at hp.2.2.2.2 hv
    have h2 := K H locs cells slots lsC hp
    obtain ⟨k, o, hE, ⟨d, n0, sl0⟩, p, l, e, R, s, m, args, below, meth, c⟩ := x
    exact lv_dload C.1.1 C.1.2.1 hd h1 h2
  · exact absurd ha.1 id
theorem snd_aload {y pc i nx : Nat} (row : ∀ x : CX, CT x y → ∀ H locs cells slots (lsC : Array Slot) rest v, (v = .null ∨ ∃ a, v = .ref a) → lsC[i]? = some (.val v) → WX x H locs cells slots (F0 (xM x) nx lsC (v :: rest)) → WX x H locs cells slots (F0 (xM x) pc lsC rest)) : Snd y pc (i_aload i nx) := by
  intro x C fr h hpc ha
  obtain ⟨pc', ls, st⟩ := fr
  obtain rfl : pc' = pc := hpc
  unfold i_aload at ha ⊢
  dsimp only at ha ⊢
  split at ha
  · rename_i q hv
    exact ⟨⟨Nat.le_refl _, Nat.le_refl _⟩, fun _ _ K H locs cells slots lsC hp => row x C H locs cells slots lsC _ _ (Or.inr ⟨_, rfl⟩) (FR.at hp.2.2.2.2 hv) (K H locs cells slots lsC hp)⟩
  · rename_i v _ hv
    exact ⟨⟨Nat.le_refl _, Nat.le_refl _⟩, fun _ _ K H locs cells slots lsC hp => row x C H locs cells slots lsC _ _ (am_cv_rf _ C.fmt v ha.1) (FR.at hp.2.2.2.2 hv) (K H locs cells slots lsC hp)⟩
  · exact absurd ha.1 id
theorem s_aload_n {y pc nx i : Nat} {k : Fin 4} (hd : decode (am_mi y).2.1 pc = .ok (.aload_n k, 1)) (hi : (k : Nat) = i) (hn : pc + 1 = nx) : Snd y pc (i_aload i nx) := by
  subst hn
  refine snd_aload fun x C H locs cells slots lsC rest v hr hv K => ?_
  obtain ⟨k, o, hE, ⟨d, n0, sl0⟩, p, l, e, R, s, m, args, below, meth, c⟩ := x
  rcases hr with rfl | ⟨a, rfl⟩
  · exact lv_aload_nN C.1.1 C.1.2.1 hd hi hv K
  · exact lv_aload_n C.1.1 C.1.2.1 hd hi hv K
theorem s_aload {y pc nx i : Nat} (hd : decode (am_mi y).2.1 pc = .ok (.aload i, 2)) (hn : pc + 2 = nx) : Snd y pc (i_aload i nx) := by
  subst hn
  refine snd_aload fun x C H locs cells slots lsC rest v hr hv K => ?_
  obtain ⟨k, o, hE, ⟨d, n0, sl0⟩, p, l, e, R, s, m, args, below, meth, c⟩ := x
  rcases hr with rfl | ⟨a, rfl⟩
  · exact lv_aloadN C.1.1 C.1.2.1 hd hv K
  · exact lv_aload C.1.1 C.1.2.1 hd hv K
/-! stores -/
def i_store (i nx : Nat) : Ins := fun fr h => match fr.2.2 with
  | Sum.inl x :: st => go nx (fr.2.1.set i (some (aI x))) st h
  | _ => stuck
def i_fstore (i nx : Nat) : Ins := fun fr h => match fr.2.2 with
  | Sum.inr (Sum.inr (Sum.inr (Sum.inl x))) :: st => go nx (fr.2.1.set i (some (aF x))) st h
  | _ => stuck
def i_dstore (i nx : Nat) : Ins := fun fr h => match fr.2.2 with
  | Sum.inr (Sum.inr (Sum.inr (Sum.inr (Sum.inl x)))) :: st => go nx ((fr.2.1.set i (some (aD x))).set (i + 1) none) st h
  | _ => stuck
def i_astore (i nx : Nat) : Ins := fun fr h => match fr.2.2 with
  | Sum.inr (Sum.inl q) :: st => go nx (fr.2.1.set i (some (Sum.inr (Sum.inl q)))) st h
  | v :: st => goC (am_rf v = true) nx (fr.2.1.set i (some v)) st h
  | _ => stuck
theorem snd_store {y pc i nx : Nat} (hs : am_ok2 y i = true ∧ i < (am_mi y).2.2.1)
    (row : ∀ x : CX, CT x y → ∀ H locs cells slots (lsC : Array Slot) rest v lv, lv_has lsC (am_mi y).2.2.1 lv → (∀ lsC', lv_has lsC' (am_mi y).2.2.1 ((i, Value.int v) :: lv.filter (fun q => !(q.1 == i) && !(q.1 + 1 == i && q.2.category == 2))) → WX x H locs cells slots (F0 (xM x) nx lsC' rest)) → WX x H locs cells slots (F0 (xM x) pc lsC (.int v :: rest))) : Snd y pc (i_store i nx) := by
  intro x C fr h hpc ha
  obtain ⟨pc', ls, st⟩ := fr
  obtain rfl : pc' = pc := hpc
  unfold i_store at ha ⊢
  dsimp only at ha ⊢
  split at ha
  · rename_i v st'
    exact ⟨⟨Nat.le_refl _, Nat.le_refl _⟩, fun _ _ K H locs cells slots lsC hp => row x C H locs cells slots lsC _ v _ hp.2.2.2.2.1 (fun lsC' h2 => K H locs cells slots lsC' ⟨hp.1, hp.2.1, hp.2.2.1, hp.2.2.2.1, FR.st1 hp.2.2.2.2 C.fmt (v := aI v) rfl hs.1 hs.2 h2⟩)⟩
  · exact absurd ha.1 id
theorem s_istore_n {y pc nx i : Nat} {k : Fin 4} (hd : decode (am_mi y).2.1 pc = .ok (.istore_n k, 1)) (hi : (k : Nat) = i) (hs : am_ok2 y i = true ∧ i < (am_mi y).2.2.1) (hn : pc + 1 = nx) : Snd y pc (i_store i nx) := by
  subst hn
  refine snd_store hs fun x C H locs cells slots lsC rest v lv hl K => ?_
  obtain ⟨k, o, hE, ⟨d, n0, sl0⟩, p, l, e, R, s, m, args, below, meth, c⟩ := x
  exact lv_istore_n C.1.1 C.1.2.1 hd hi hl hs.2 rfl K
theorem s_istore {y pc nx i : Nat} (hd : decode (am_mi y).2.1 pc = .ok (.istore i, 2)) (hs : am_ok2 y i = true ∧ i < (am_mi y).2.2.1) (hn : pc + 2 = nx) : Snd y pc (i_store i nx) := by
  subst hn
  refine snd_store hs fun x C H locs cells slots lsC rest v lv hl K => ?_
  obtain ⟨k, o, hE, ⟨d, n0, sl0⟩, p, l, e, R, s, m, args, below, meth, c⟩ := x
  exact lv_istore C.1.1 C.1.2.1 hd hl hs.2 rfl K
theorem s_fstore {y pc nx i : Nat} (hd : decode (am_mi y).2.1 pc = .ok (.fstore i, 2)) (hs : am_ok2 y i = true ∧ i < (am_mi y).2.2.1) (hn : pc + 2 = nx) : Snd y pc (i_fstore i nx) := by
  subst hn
  intro x C fr h hpc ha
  obtain ⟨pc', ls, st⟩ := fr
  obtain rfl : pc' = pc := hpc
  unfold i_fstore at ha ⊢
  dsimp only at ha ⊢
  split at ha
  · rename_i v st'
    refine ⟨⟨Nat.le_refl _, Nat.le_refl _⟩, fun _ _ K H locs cells slots lsC hp => ?_⟩
    have h2 := fun lsC' h2 => K H locs cells slots lsC' ⟨hp.1, hp.2.1, hp.2.2.1, hp.2.2.2.1, FR.st1 hp.2.2.2.2 C.fmt (v := aF v) rfl hs.1 hs.2 h2⟩
    obtain ⟨k, o, hE, ⟨d, n0, sl0⟩, p, l, e, R, s, m, args, below, meth, c⟩ := x
    exact lv_fstore C.1.1 C.1.2.1 hd hp.2.2.2.2.1 hs.2 rfl h2
  · exact absurd ha.1 id
theorem s_dstore {y pc nx i : Nat} (hd : decode (am_mi y).2.1 pc = .ok (.dstore i, 2)) (hs : am_ok2 y i = true ∧ i + 1 < (am_mi y).2.2.1) (hw2 : am_w2 y i = true) (hn : pc + 2 = nx) : Snd y pc (i_dstore i nx) := by
  subst hn
  intro x C fr h hpc ha
  obtain ⟨pc', ls, st⟩ := fr
  obtain rfl : pc' = pc := hpc
  unfold i_dstore at ha ⊢
  dsimp only at ha ⊢
  split at ha
  · rename_i v st'
    refine ⟨⟨Nat.le_refl _, Nat.le_refl _⟩, fun _ _ K H locs cells slots lsC hp => ?_⟩
    have hF := hp.2.2.2.2
    have h2 := fun lsC' h2 => K H locs cells slots lsC' ⟨hp.1, hp.2.1, hp.2.2.1, hp.2.2.2.1, FR.st2 hF (v := aD v) rfl hw2 hs.1 hs.2 h2 C.fmt⟩
    obtain ⟨k, o, hE, ⟨d, n0, sl0⟩, p, l, e, R, s, m, args, below, meth, c⟩ := x
    exact lv_dstore C.1.1 C.1.2.1 hd hp.2.2.2.2.1 hs.2 rfl h2
  · exact absurd ha.1 id
def i_lload (i nx : Nat) : Ins := fun fr h => match fr.2.1[i]? with
  | some (some (Sum.inr (Sum.inr (Sum.inl x)))) => go nx fr.2.1 (aL x :: fr.2.2) h
  | _ => stuck
def i_lstore (i nx : Nat) : Ins := fun fr h => match fr.2.2 with
  | Sum.inr (Sum.inr (Sum.inl x)) :: st => go nx ((fr.2.1.set i (some (aL x))).set (i + 1) none) st h
  | _ => stuck
theorem s_lstore {y pc nx i : Nat} (hd : decode (am_mi y).2.1 pc = .ok (.lstore i, 2)) (hs : am_ok2 y i = true ∧ i + 1 < (am_mi y).2.2.1) (hw2 : am_w2 y i = true) (hn : pc + 2 = nx) : Snd y pc (i_lstore i nx) := by
  subst hn
  intro x C fr h hpc ha
  obtain ⟨pc', ls, st⟩ := fr
  obtain rfl : pc' = pc := hpc
  unfold i_lstore at ha ⊢
  dsimp only at ha ⊢
  split at ha
  · rename_i v st'
    refine ⟨⟨Nat.le_refl _, Nat.le_refl _⟩, fun _ _ K H locs cells slots lsC hp => ?_⟩
    have hF := hp.2.2.2.2
    have h2 := fun lsC' h2 => K H locs cells slots lsC' ⟨hp.1, hp.2.1, hp.2.2.1, hp.2.2.2.1, FR.st2 hF (v := aL v) rfl hw2 hs.1 hs.2 h2 C.fmt⟩
    obtain ⟨k, o, hE, ⟨d, n0, sl0⟩, p, l, e, R, s, m, args, below, meth, c⟩ := x
    exact lv_lstore C.1.1 C.1.2.1 hd hp.2.2.2.2.1 hs.2 rfl h2
  · exact absurd ha.1 id
theorem s_lstore_n {y pc nx i : Nat} {q : Fin 4} (hd : decode (am_mi y).2.1 pc = .ok (.lstore_n q, 1)) (hi : (q : Nat) = i) (hs : am_ok2 y i = true ∧ i + 1 < (am_mi y).2.2.1) (hw2 : am_w2 y i = true) (hn : pc + 1 = nx) : Snd y pc (i_lstore i nx) := by
  subst hn
  intro x C fr h hpc ha
  obtain ⟨pc', ls, st⟩ := fr
  obtain rfl : pc' = pc := hpc
  unfold i_lstore at ha ⊢
  dsimp only at ha ⊢
  split at ha
  · rename_i v st'
    refine ⟨⟨Nat.le_refl _, Nat.le_refl _⟩, fun _ _ K H locs cells slots lsC hp => ?_⟩
    have hF := hp.2.2.2.2
    have h2 := fun lsC' h2 => K H locs cells slots lsC' ⟨hp.1, hp.2.1, hp.2.2.1, hp.2.2.2.1, FR.st2 hF (v := aL v) rfl hw2 hs.1 hs.2 h2 C.fmt⟩
    obtain ⟨k, o, hE, ⟨d, n0, sl0⟩, p, l, e, R, s, m, args, below, meth, c⟩ := x
    exact lv_lstore_n C.1.1 C.1.2.1 hd hi hp.2.2.2.2.1 hs.2 rfl h2
  · exact absurd ha.1 id
theorem s_lload {y pc nx i : Nat} (hd : decode (am_mi y).2.1 pc = .ok (.lload i, 2)) (hn : pc + 2 = nx) : Snd y pc (i_lload i nx) := by
  subst hn
  intro x C fr h hpc ha
  obtain ⟨pc', ls, st⟩ := fr
  obtain rfl : pc' = pc := hpc
  unfold i_lload at ha ⊢
  dsimp only at ha ⊢
  split at ha
  · rename_i v hv
    refine ⟨⟨Nat.le_refl _, Nat.le_refl _⟩, fun _ _ K H locs cells slots lsC hp => ?_⟩
    have h1 := FR.at hp.2.2.2.2 hv
    have h2 := K H locs cells slots lsC hp
    obtain ⟨k, o, hE, ⟨d, n0, sl0⟩, p, l, e, R, s, m, args, below, meth, c⟩ := x
    exact lv_lload C.1.1 C.1.2.1 hd h1 h2
  · exact absurd ha.1 id
theorem s_lload_n {y pc nx i : Nat} {q : Fin 4} (hd : decode (am_mi y).2.1 pc = .ok (.lload_n q, 1)) (hi : (q : Nat) = i) (hn : pc + 1 = nx) : Snd y pc (i_lload i nx) := by
  subst hn
  intro x C fr h hpc ha
  obtain ⟨pc', ls, st⟩ := fr
  obtain rfl : pc' = pc := hpc
  unfold i_lload at ha ⊢
  dsimp only at ha ⊢
  split at ha
  · rename_i v hv
    refine ⟨⟨Nat.le_refl _, Nat.le_refl _⟩, fun _ _ K H locs cells slots lsC hp => ?_⟩
    have h1 := FR.at hp.2.2.2.2 hv
    have h2 := K H locs cells slots lsC hp
    obtain ⟨k, o, hE, ⟨d, n0, sl0⟩, p, l, e, R, s, m, args, below, meth, c⟩ := x
    exact lv_lload_n C.1.1 C.1.2.1 hd hi h1 h2
  · exact absurd ha.1 id
theorem snd_astore {y pc i nx : Nat} (hs : am_ok2 y i = true ∧ i < (am_mi y).2.2.1)
    (row : ∀ x : CX, CT x y → ∀ H locs cells slots (lsC : Array Slot) rest v lv, (v = .null ∨ ∃ a, v = .ref a) → lv_has lsC (am_mi y).2.2.1 lv → (∀ lsC', lv_has lsC' (am_mi y).2.2.1 ((i, v) :: lv.filter (fun q => !(q.1 == i) && !(q.1 + 1 == i && q.2.category == 2))) → WX x H locs cells slots (F0 (xM x) nx lsC' rest)) → WX x H locs cells slots (F0 (xM x) pc lsC (v :: rest))) : Snd y pc (i_astore i nx) := by
  intro x C fr h hpc ha
  obtain ⟨pc', ls, st⟩ := fr
  obtain rfl : pc' = pc := hpc
  unfold i_astore at ha ⊢
  dsimp only at ha ⊢
  split at ha
  · rename_i q st'
    exact ⟨⟨Nat.le_refl _, Nat.le_refl _⟩, fun _ _ K H locs cells slots lsC hp => row x C H locs cells slots lsC _ _ _ (Or.inr ⟨_, rfl⟩) hp.2.2.2.2.1 (fun lsC' h2 => K H locs cells slots lsC' ⟨hp.1, hp.2.1, hp.2.2.1, hp.2.2.2.1, FR.st1 hp.2.2.2.2 C.fmt (v := Sum.inr (Sum.inl q)) rfl hs.1 hs.2 h2⟩)⟩
  · rename_i v st' _
    have hc : am_c2 v = false := by
      have h1 : am_rf v = true := ha.1
      rcases v with x | q | x | x | x | x
      · cases h1
      · rfl
      · cases h1
      · cases h1
      · cases h1
      · rfl
    exact ⟨⟨Nat.le_refl _, Nat.le_refl _⟩, fun _ _ K H locs cells slots lsC hp => row x C H locs cells slots lsC _ _ _ (am_cv_rf _ C.fmt v ha.1) hp.2.2.2.2.1 (fun lsC' h2 => K H locs cells slots lsC' ⟨hp.1, hp.2.1, hp.2.2.1, hp.2.2.2.1, FR.st1 hp.2.2.2.2 C.fmt (v := v) hc hs.1 hs.2 h2⟩)⟩
  · exact absurd ha.1 id
theorem s_astore_n {y pc nx i : Nat} {k : Fin 4} (hd : decode (am_mi y).2.1 pc = .ok (.astore_n k, 1)) (hi : (k : Nat) = i) (hs : am_ok2 y i = true ∧ i < (am_mi y).2.2.1) (hn : pc + 1 = nx) : Snd y pc (i_astore i nx) := by
  subst hn
  refine snd_astore hs fun x C H locs cells slots lsC rest v lv hr hl K => ?_
  obtain ⟨k, o, hE, ⟨d, n0, sl0⟩, p, l, e, R, s, m, args, below, meth, c⟩ := x
  rcases hr with rfl | ⟨a, rfl⟩
  · exact lv_astore_nN C.1.1 C.1.2.1 hd hi hl hs.2 rfl K
  · exact lv_astore_n C.1.1 C.1.2.1 hd hi hl hs.2 rfl K
theorem s_astore {y pc nx i : Nat} (hd : decode (am_mi y).2.1 pc = .ok (.astore i, 2)) (hs : am_ok2 y i = true ∧ i < (am_mi y).2.2.1) (hn : pc + 2 = nx) : Snd y pc (i_astore i nx) := by
  subst hn
  refine snd_astore hs fun x C H locs cells slots lsC rest v lv hr hl K => ?_
  obtain ⟨k, o, hE, ⟨d, n0, sl0⟩, p, l, e, R, s, m, args, below, meth, c⟩ := x
  rcases hr with rfl | ⟨a, rfl⟩
  · exact lv_astoreN C.1.1 C.1.2.1 hd hl hs.2 rfl K
  · exact lv_astore C.1.1 C.1.2.1 hd hl hs.2 rfl K
def i_iinc (i : Nat) (n : Int32) (nx : Nat) : Ins := fun fr h => match fr.2.1[i]? with
  | some (some (Sum.inl x)) => go nx (fr.2.1.set i (some (aI (x + n)))) fr.2.2 h
  | _ => stuck
theorem s_iinc {y pc nx i : Nat} {n : Int} {n' : Int32} (hd : decode (am_mi y).2.1 pc = .ok (.iinc i n, 3)) (he : Int32.ofInt n = n') (hs : am_ok2 y i = true ∧ i < (am_mi y).2.2.1) (hn : pc + 3 = nx) : Snd y pc (i_iinc i n' nx) := by
  subst hn
  subst he
  intro x C fr h hpc ha
  obtain ⟨pc', ls, st⟩ := fr
  obtain rfl : pc' = pc := hpc
  unfold i_iinc at ha ⊢
  dsimp only at ha ⊢
  split at ha
  · rename_i v hv
    refine ⟨⟨Nat.le_refl _, Nat.le_refl _⟩, fun _ _ K H locs cells slots lsC hp => ?_⟩
    have h2 := fun lsC' h2 => K H locs cells slots lsC' ⟨hp.1, hp.2.1, hp.2.2.1, hp.2.2.2.1, FR.st1 hp.2.2.2.2 C.fmt (v := aI (v + Int32.ofInt n)) rfl hs.1 hs.2 h2⟩
    have h3 : (i, Value.int v) ∈ am_toL (xK x) 0 ls := (am_toL_mem _ ls 0 _).mpr ⟨aI v, Nat.zero_le _, hv, rfl⟩
    obtain ⟨j, hj⟩ := List.getElem?_of_mem h3
    obtain ⟨k, o, hE, ⟨d, n0, sl0⟩, p, l, e, R, s, m, args, below, meth, c⟩ := x
    exact lv_iinc C.1.1 C.1.2.1 hd hp.2.2.2.2.1 hj rfl hs.2 rfl h2
  · exact absurd ha.1 id
theorem s_ldc2w {y pc nx index : Nat} {v : Int64} (hd : decode (am_mi y).2.1 pc = .ok (.ldc2_w index, 3)) (hw : Cond.constantLong (am_mi y).1.cls index v ∈ lw_tbl) (hn : pc + 3 = nx) : Snd y pc (i_push (aL v) nx) := by
  subst hn
  refine snd_push fun x C H locs cells slots lsC rest K => ?_
  have hw := C.wa hw rfl
  obtain ⟨k, o, hE, ⟨d, n0, sl0⟩, p, l, e, R, s, m, args, below, meth, c⟩ := x
  exact lv_ldc2 C.1.1 C.1.2.1 C.1.2.2.2.1 hw hd K
