/-! numbers, branches, the stack -/
def i_bin (f : Int32 → Int32 → Int32) (nx : Nat) : Ins := fun fr h => match fr.2.2 with
  | Sum.inl b :: Sum.inl a :: st => go nx fr.2.1 (aI (f a b) :: st) h
  | _ => stuck
theorem snd_bin {y pc nx : Nat} {f : Int32 → Int32 → Int32} (row : ∀ x : CX, CT x y → ∀ H locs cells slots (lsC : Array Slot) rest a b, WX x H locs cells slots (F0 (xM x) nx lsC (.int (f a b) :: rest)) → WX x H locs cells slots (F0 (xM x) pc lsC (.int b :: .int a :: rest))) : Snd y pc (i_bin f nx) := by
  intro x C fr h hpc ha
  obtain ⟨pc', ls, st⟩ := fr
  obtain rfl : pc' = pc := hpc
  unfold i_bin at ha ⊢
  dsimp only at ha ⊢
  split at ha
  · exact ⟨⟨Nat.le_refl _, Nat.le_refl _⟩, fun _ _ K H locs cells slots lsC hp => row x C H locs cells slots lsC _ _ _ (K H locs cells slots lsC hp)⟩
  · exact absurd ha.1 id
/-- a divisor, not 0 -/
def i_div (f : Int32 → Int32 → Int32) (nx : Nat) : Ins := fun fr h => match fr.2.2 with
  | Sum.inl b :: Sum.inl a :: st => goC (¬ b = 0) nx fr.2.1 (aI (f a b) :: st) h
  | _ => stuck
theorem snd_div {y pc nx : Nat} {f : Int32 → Int32 → Int32} (row : ∀ x : CX, CT x y → ∀ H locs cells slots (lsC : Array Slot) rest a b, ¬ b = 0 → WX x H locs cells slots (F0 (xM x) nx lsC (.int (f a b) :: rest)) → WX x H locs cells slots (F0 (xM x) pc lsC (.int b :: .int a :: rest))) : Snd y pc (i_div f nx) := by
  intro x C fr h hpc ha
  obtain ⟨pc', ls, st⟩ := fr
  obtain rfl : pc' = pc := hpc
  unfold i_div at ha ⊢
  dsimp only at ha ⊢
  split at ha
  · exact ⟨⟨Nat.le_refl _, Nat.le_refl _⟩, fun _ _ K H locs cells slots lsC hp => row x C H locs cells slots lsC _ _ _ ha.1 (K H locs cells slots lsC hp)⟩
  · exact absurd ha.1 id
def i_un (f : Int32 → Int32) (nx : Nat) : Ins := fun fr h => match fr.2.2 with
  | Sum.inl a :: st => go nx fr.2.1 (aI (f a) :: st) h
  | _ => stuck
theorem snd_un {y pc nx : Nat} {f : Int32 → Int32} (row : ∀ x : CX, CT x y → ∀ H locs cells slots (lsC : Array Slot) rest a, WX x H locs cells slots (F0 (xM x) nx lsC (.int (f a) :: rest)) → WX x H locs cells slots (F0 (xM x) pc lsC (.int a :: rest))) : Snd y pc (i_un f nx) := by
  intro x C fr h hpc ha
  obtain ⟨pc', ls, st⟩ := fr
  obtain rfl : pc' = pc := hpc
  unfold i_un at ha ⊢
  dsimp only at ha ⊢
  split at ha
  · exact ⟨⟨Nat.le_refl _, Nat.le_refl _⟩, fun _ _ K H locs cells slots lsC hp => row x C H locs cells slots lsC _ _ (K H locs cells slots lsC hp)⟩
  · exact absurd ha.1 id
theorem s_iadd {y pc nx : Nat} (hd : decode (am_mi y).2.1 pc = .ok (.iadd, 1)) (hn : pc + 1 = nx) : Snd y pc (i_bin (fun a b => a + b) nx) := by
  subst hn
  refine snd_bin fun x C H locs cells slots lsC rest a b K => ?_
  obtain ⟨k, o, hE, ⟨d, n0, sl0⟩, p, l, e, R, s, m, args, below, meth, c⟩ := x
  exact lv_iadd C.1.1 C.1.2.1 hd K
theorem s_isub {y pc nx : Nat} (hd : decode (am_mi y).2.1 pc = .ok (.isub, 1)) (hn : pc + 1 = nx) : Snd y pc (i_bin (fun a b => a - b) nx) := by
  subst hn
  refine snd_bin fun x C H locs cells slots lsC rest a b K => ?_
  obtain ⟨k, o, hE, ⟨d, n0, sl0⟩, p, l, e, R, s, m, args, below, meth, c⟩ := x
  exact lv_isub C.1.1 C.1.2.1 hd K
theorem s_imul {y pc nx : Nat} (hd : decode (am_mi y).2.1 pc = .ok (.imul, 1)) (hn : pc + 1 = nx) : Snd y pc (i_bin (fun a b => a * b) nx) := by
  subst hn
  refine snd_bin fun x C H locs cells slots lsC rest a b K => ?_
  obtain ⟨k, o, hE, ⟨d, n0, sl0⟩, p, l, e, R, s, m, args, below, meth, c⟩ := x
  exact lv_imul C.1.1 C.1.2.1 hd K
theorem s_iand {y pc nx : Nat} (hd : decode (am_mi y).2.1 pc = .ok (.iand, 1)) (hn : pc + 1 = nx) : Snd y pc (i_bin (fun a b => a &&& b) nx) := by
  subst hn
  refine snd_bin fun x C H locs cells slots lsC rest a b K => ?_
  obtain ⟨k, o, hE, ⟨d, n0, sl0⟩, p, l, e, R, s, m, args, below, meth, c⟩ := x
  exact lv_iand C.1.1 C.1.2.1 hd K
theorem s_ior {y pc nx : Nat} (hd : decode (am_mi y).2.1 pc = .ok (.ior, 1)) (hn : pc + 1 = nx) : Snd y pc (i_bin (fun a b => a ||| b) nx) := by
  subst hn
  refine snd_bin fun x C H locs cells slots lsC rest a b K => ?_
  obtain ⟨k, o, hE, ⟨d, n0, sl0⟩, p, l, e, R, s, m, args, below, meth, c⟩ := x
  exact lv_ior C.1.1 C.1.2.1 hd K
theorem s_ixor {y pc nx : Nat} (hd : decode (am_mi y).2.1 pc = .ok (.ixor, 1)) (hn : pc + 1 = nx) : Snd y pc (i_bin (fun a b => a ^^^ b) nx) := by
  subst hn
  refine snd_bin fun x C H locs cells slots lsC rest a b K => ?_
  obtain ⟨k, o, hE, ⟨d, n0, sl0⟩, p, l, e, R, s, m, args, below, meth, c⟩ := x
  exact lv_ixor C.1.1 C.1.2.1 hd K
theorem s_ishl {y pc nx : Nat} (hd : decode (am_mi y).2.1 pc = .ok (.ishl, 1)) (hn : pc + 1 = nx) : Snd y pc (i_bin (fun a b => a <<< (b &&& 31)) nx) := by
  subst hn
  refine snd_bin fun x C H locs cells slots lsC rest a b K => ?_
  obtain ⟨k, o, hE, ⟨d, n0, sl0⟩, p, l, e, R, s, m, args, below, meth, c⟩ := x
  exact lv_ishl C.1.1 C.1.2.1 hd K
theorem s_ishr {y pc nx : Nat} (hd : decode (am_mi y).2.1 pc = .ok (.ishr, 1)) (hn : pc + 1 = nx) : Snd y pc (i_bin (fun a b => a >>> (b &&& 31)) nx) := by
  subst hn
  refine snd_bin fun x C H locs cells slots lsC rest a b K => ?_
  obtain ⟨k, o, hE, ⟨d, n0, sl0⟩, p, l, e, R, s, m, args, below, meth, c⟩ := x
  exact lv_ishr C.1.1 C.1.2.1 hd K
theorem s_iushr {y pc nx : Nat} (hd : decode (am_mi y).2.1 pc = .ok (.iushr, 1)) (hn : pc + 1 = nx) : Snd y pc (i_bin (fun a b => (a.toUInt32 >>> (b.toUInt32 &&& Int32.toUInt32 31)).toInt32) nx) := by
  subst hn
  refine snd_bin fun x C H locs cells slots lsC rest a b K => ?_
  obtain ⟨k, o, hE, ⟨d, n0, sl0⟩, p, l, e, R, s, m, args, below, meth, c⟩ := x
  exact lv_iushr C.1.1 C.1.2.1 hd rfl K
theorem s_idiv {y pc nx : Nat} (hd : decode (am_mi y).2.1 pc = .ok (.idiv, 1)) (hn : pc + 1 = nx) : Snd y pc (i_div (fun a b => a / b) nx) := by
  subst hn
  refine snd_div fun x C H locs cells slots lsC rest a b hb K => ?_
  obtain ⟨k, o, hE, ⟨d, n0, sl0⟩, p, l, e, R, s, m, args, below, meth, c⟩ := x
  exact lv_idiv C.1.1 C.1.2.1 hd hb K
theorem s_irem {y pc nx : Nat} (hd : decode (am_mi y).2.1 pc = .ok (.irem, 1)) (hn : pc + 1 = nx) : Snd y pc (i_div (fun a b => a - a / b * b) nx) := by
  subst hn
  refine snd_div fun x C H locs cells slots lsC rest a b hb K => ?_
  obtain ⟨k, o, hE, ⟨d, n0, sl0⟩, p, l, e, R, s, m, args, below, meth, c⟩ := x
  exact lv_irem C.1.1 C.1.2.1 hd hb K
theorem s_ineg {y pc nx : Nat} (hd : decode (am_mi y).2.1 pc = .ok (.ineg, 1)) (hn : pc + 1 = nx) : Snd y pc (i_un (fun a => -a) nx) := by
  subst hn
  refine snd_un fun x C H locs cells slots lsC rest a K => ?_
  obtain ⟨k, o, hE, ⟨d, n0, sl0⟩, p, l, e, R, s, m, args, below, meth, c⟩ := x
  exact lv_ineg C.1.1 C.1.2.1 hd K
theorem s_i2c {y pc nx : Nat} (hd : decode (am_mi y).2.1 pc = .ok (.i2c, 1)) (hn : pc + 1 = nx) : Snd y pc (i_un (fun a => (a.toUInt32 % 65536).toInt32) nx) := by
  subst hn
  refine snd_un fun x C H locs cells slots lsC rest a K => ?_
  obtain ⟨k, o, hE, ⟨d, n0, sl0⟩, p, l, e, R, s, m, args, below, meth, c⟩ := x
  exact lv_i2c C.1.1 C.1.2.1 hd rfl K
def i_i2l (nx : Nat) : Ins := fun fr h => match fr.2.2 with
  | Sum.inl a :: st => go nx fr.2.1 (aL a.toInt64 :: st) h
  | _ => stuck
theorem s_i2l {y pc nx : Nat} (hd : decode (am_mi y).2.1 pc = .ok (.i2l, 1)) (hn : pc + 1 = nx) : Snd y pc (i_i2l nx) := by
  subst hn
  intro x C fr h hpc ha
  obtain ⟨pc', ls, st⟩ := fr
  obtain rfl : pc' = pc := hpc
  unfold i_i2l at ha ⊢
  dsimp only at ha ⊢
  split at ha
  · refine ⟨⟨Nat.le_refl _, Nat.le_refl _⟩, fun _ _ K H locs cells slots lsC hp => ?_⟩
    have K2 := K H locs cells slots lsC hp
    obtain ⟨k, o, hE, ⟨d, n0, sl0⟩, p, l, e, R, s, m, args, below, meth, c⟩ := x
    exact lv_i2l C.1.1 C.1.2.1 hd rfl K2
  · exact absurd ha.1 id
def i_i2f (nx : Nat) : Ins := fun fr h => match fr.2.2 with
  | Sum.inl a :: st => go nx fr.2.1 (aF (FP.i2f a) :: st) h
  | _ => stuck
theorem s_i2f {y pc nx : Nat} (hd : decode (am_mi y).2.1 pc = .ok (.i2f, 1)) (hn : pc + 1 = nx) : Snd y pc (i_i2f nx) := by
  subst hn
  intro x C fr h hpc ha
  obtain ⟨pc', ls, st⟩ := fr
  obtain rfl : pc' = pc := hpc
  unfold i_i2f at ha ⊢
  dsimp only at ha ⊢
  split at ha
  · refine ⟨⟨Nat.le_refl _, Nat.le_refl _⟩, fun _ _ K H locs cells slots lsC hp => ?_⟩
    have K2 := K H locs cells slots lsC hp
    obtain ⟨k, o, hE, ⟨d, n0, sl0⟩, p, l, e, R, s, m, args, below, meth, c⟩ := x
    exact lv_i2f C.1.1 C.1.2.1 hd K2
  · exact absurd ha.1 id
def i_i2d (nx : Nat) : Ins := fun fr h => match fr.2.2 with
  | Sum.inl a :: st => go nx fr.2.1 (aD (FP.i2d a) :: st) h
  | _ => stuck
theorem s_i2d {y pc nx : Nat} (hd : decode (am_mi y).2.1 pc = .ok (.i2d, 1)) (hn : pc + 1 = nx) : Snd y pc (i_i2d nx) := by
  subst hn
  intro x C fr h hpc ha
  obtain ⟨pc', ls, st⟩ := fr
  obtain rfl : pc' = pc := hpc
  unfold i_i2d at ha ⊢
  dsimp only at ha ⊢
  split at ha
  · refine ⟨⟨Nat.le_refl _, Nat.le_refl _⟩, fun _ _ K H locs cells slots lsC hp => ?_⟩
    have K2 := K H locs cells slots lsC hp
    obtain ⟨k, o, hE, ⟨d, n0, sl0⟩, p, l, e, R, s, m, args, below, meth, c⟩ := x
    exact lv_i2d C.1.1 C.1.2.1 hd K2
  · exact absurd ha.1 id
def i_f2d (nx : Nat) : Ins := fun fr h => match fr.2.2 with
  | Sum.inr (Sum.inr (Sum.inr (Sum.inl a))) :: st => goC (vf_n64 (FP.f2d a)) nx fr.2.1 (aD (FP.f2d a) :: st) h
  | _ => stuck
theorem s_f2d {y pc nx : Nat} (hd : decode (am_mi y).2.1 pc = .ok (.f2d, 1)) (hn : pc + 1 = nx) : Snd y pc (i_f2d nx) := by
  subst hn
  intro x C fr h hpc ha
  obtain ⟨pc', ls, st⟩ := fr
  obtain rfl : pc' = pc := hpc
  unfold i_f2d at ha ⊢
  dsimp only at ha ⊢
  split at ha
  · refine ⟨⟨Nat.le_refl _, Nat.le_refl _⟩, fun _ _ K H locs cells slots lsC hp => ?_⟩
    have K2 := K H locs cells slots lsC hp
    obtain ⟨k, o, hE, ⟨d, n0, sl0⟩, p, l, e, R, s, m, args, below, meth, c⟩ := x
    exact lv_f2d C.1.1 C.1.2.1 hd ha.1 K2
  · exact absurd ha.1 id
def i_fdiv (nx : Nat) : Ins := fun fr h => match fr.2.2 with
  | Sum.inr (Sum.inr (Sum.inr (Sum.inl b))) :: Sum.inr (Sum.inr (Sum.inr (Sum.inl a))) :: st => goC (vf_n32 (FP.fdiv a b)) nx fr.2.1 (aF (FP.fdiv a b) :: st) h
  | _ => stuck
theorem s_fdiv {y pc nx : Nat} (hd : decode (am_mi y).2.1 pc = .ok (.fdiv, 1)) (hn : pc + 1 = nx) : Snd y pc (i_fdiv nx) := by
  subst hn
  intro x C fr h hpc ha
  obtain ⟨pc', ls, st⟩ := fr
  obtain rfl : pc' = pc := hpc
  unfold i_fdiv at ha ⊢
  dsimp only at ha ⊢
  split at ha
  · refine ⟨⟨Nat.le_refl _, Nat.le_refl _⟩, fun _ _ K H locs cells slots lsC hp => ?_⟩
    have K2 := K H locs cells slots lsC hp
    obtain ⟨k, o, hE, ⟨d, n0, sl0⟩, p, l, e, R, s, m, args, below, meth, c⟩ := x
    exact lv_fdiv C.1.1 C.1.2.1 hd ha.1 K2
  · exact absurd ha.1 id
def i_ddiv (nx : Nat) : Ins := fun fr h => match fr.2.2 with
  | Sum.inr (Sum.inr (Sum.inr (Sum.inr (Sum.inl b)))) :: Sum.inr (Sum.inr (Sum.inr (Sum.inr (Sum.inl a)))) :: st => goC (vf_n64 (FP.ddiv a b)) nx fr.2.1 (aD (FP.ddiv a b) :: st) h
  | _ => stuck
theorem s_ddiv {y pc nx : Nat} (hd : decode (am_mi y).2.1 pc = .ok (.ddiv, 1)) (hn : pc + 1 = nx) : Snd y pc (i_ddiv nx) := by
  subst hn
  intro x C fr h hpc ha
  obtain ⟨pc', ls, st⟩ := fr
  obtain rfl : pc' = pc := hpc
  unfold i_ddiv at ha ⊢
  dsimp only at ha ⊢
  split at ha
  · refine ⟨⟨Nat.le_refl _, Nat.le_refl _⟩, fun _ _ K H locs cells slots lsC hp => ?_⟩
    have K2 := K H locs cells slots lsC hp
    obtain ⟨k, o, hE, ⟨d, n0, sl0⟩, p, l, e, R, s, m, args, below, meth, c⟩ := x
    exact lv_ddiv C.1.1 C.1.2.1 hd ha.1 K2
  · exact absurd ha.1 id
def i_lcmp (nx : Nat) : Ins := fun fr h => match fr.2.2 with
  | Sum.inr (Sum.inr (Sum.inl b)) :: Sum.inr (Sum.inr (Sum.inl a)) :: st => go nx fr.2.1 (aI (lg_cmp a b) :: st) h
  | _ => stuck
theorem s_lcmp {y pc nx : Nat} (hd : decode (am_mi y).2.1 pc = .ok (.lcmp, 1)) (hn : pc + 1 = nx) : Snd y pc (i_lcmp nx) := by
  subst hn
  intro x C fr h hpc ha
  obtain ⟨pc', ls, st⟩ := fr
  obtain rfl : pc' = pc := hpc
  unfold i_lcmp at ha ⊢
  dsimp only at ha ⊢
  split at ha
  · refine ⟨⟨Nat.le_refl _, Nat.le_refl _⟩, fun _ _ K H locs cells slots lsC hp => ?_⟩
    have K2 := K H locs cells slots lsC hp
    obtain ⟨k, o, hE, ⟨d, n0, sl0⟩, p, l, e, R, s, m, args, below, meth, c⟩ := x
    exact W.lcmp C.1.1 C.1.2.1 hd K2
  · exact absurd ha.1 id
def i_fcmp (op : CmpOp) (nx : Nat) : Ins := fun fr h => match fr.2.2 with
  | Sum.inr (Sum.inr (Sum.inr (Sum.inl b))) :: Sum.inr (Sum.inr (Sum.inr (Sum.inl a))) :: st => go nx fr.2.1 (aI (Op.cmpValue (FP.fcmp a b) op) :: st) h
  | _ => stuck
theorem s_fcmp {y pc nx : Nat} {op : CmpOp} (hd : decode (am_mi y).2.1 pc = .ok (.fcmp op, 1)) (hn : pc + 1 = nx) : Snd y pc (i_fcmp op nx) := by
  subst hn
  intro x C fr h hpc ha
  obtain ⟨pc', ls, st⟩ := fr
  obtain rfl : pc' = pc := hpc
  unfold i_fcmp at ha ⊢
  dsimp only at ha ⊢
  split at ha
  · refine ⟨⟨Nat.le_refl _, Nat.le_refl _⟩, fun _ _ K H locs cells slots lsC hp => ?_⟩
    have K2 := K H locs cells slots lsC hp
    obtain ⟨k, o, hE, ⟨d, n0, sl0⟩, p, l, e, R, s, m, args, below, meth, c⟩ := x
    exact lv_fcmp C.1.1 C.1.2.1 hd K2
  · exact absurd ha.1 id
def i_dcmp (op : CmpOp) (nx : Nat) : Ins := fun fr h => match fr.2.2 with
  | Sum.inr (Sum.inr (Sum.inr (Sum.inr (Sum.inl b)))) :: Sum.inr (Sum.inr (Sum.inr (Sum.inr (Sum.inl a)))) :: st => go nx fr.2.1 (aI (Op.cmpValue (FP.dcmp a b) op) :: st) h
  | _ => stuck
theorem s_dcmp {y pc nx : Nat} {op : CmpOp} (hd : decode (am_mi y).2.1 pc = .ok (.dcmp op, 1)) (hn : pc + 1 = nx) : Snd y pc (i_dcmp op nx) := by
  subst hn
  intro x C fr h hpc ha
  obtain ⟨pc', ls, st⟩ := fr
  obtain rfl : pc' = pc := hpc
  unfold i_dcmp at ha ⊢
  dsimp only at ha ⊢
  split at ha
  · refine ⟨⟨Nat.le_refl _, Nat.le_refl _⟩, fun _ _ K H locs cells slots lsC hp => ?_⟩
    have K2 := K H locs cells slots lsC hp
    obtain ⟨k, o, hE, ⟨d, n0, sl0⟩, p, l, e, R, s, m, args, below, meth, c⟩ := x
    exact lv_dcmp C.1.1 C.1.2.1 hd K2
  · exact absurd ha.1 id
/-- any value of one word -/
def am_c1 (v : AV) : Prop := am_c2 v = false
def i_dup (nx : Nat) : Ins := fun fr h => match fr.2.2 with
  | Sum.inl a :: st => go nx fr.2.1 (aI a :: aI a :: st) h
  | Sum.inr (Sum.inl q) :: st => go nx fr.2.1 (Sum.inr (Sum.inl q) :: Sum.inr (Sum.inl q) :: st) h
  | _ => stuck
theorem s_dup {y pc nx : Nat} (hd : decode (am_mi y).2.1 pc = .ok (.dup, 1)) (hn : pc + 1 = nx) : Snd y pc (i_dup nx) := by
  subst hn
  intro x C fr h hpc ha
  obtain ⟨pc', ls, st⟩ := fr
  obtain rfl : pc' = pc := hpc
  unfold i_dup at ha ⊢
  dsimp only at ha ⊢
  split at ha
  · refine ⟨⟨Nat.le_refl _, Nat.le_refl _⟩, fun _ _ K H locs cells slots lsC hp => ?_⟩
    have K2 := K H locs cells slots lsC hp
    obtain ⟨k, o, hE, ⟨d, n0, sl0⟩, p, l, e, R, s, m, args, below, meth, c⟩ := x
    exact lv_dup C.1.1 C.1.2.1 hd rfl K2
  · refine ⟨⟨Nat.le_refl _, Nat.le_refl _⟩, fun _ _ K H locs cells slots lsC hp => ?_⟩
    have K2 := K H locs cells slots lsC hp
    obtain ⟨k, o, hE, ⟨d, n0, sl0⟩, p, l, e, R, s, m, args, below, meth, c⟩ := x
    exact lv_dup C.1.1 C.1.2.1 hd rfl K2
  · exact absurd ha.1 id
def i_dup_x1 (nx : Nat) : Ins := fun fr h => match fr.2.2 with
  | Sum.inl a :: Sum.inr (Sum.inl q) :: st => go nx fr.2.1 (aI a :: Sum.inr (Sum.inl q) :: aI a :: st) h
  | _ => stuck
theorem s_dup_x1 {y pc nx : Nat} (hd : decode (am_mi y).2.1 pc = .ok (.dup_x1, 1)) (hn : pc + 1 = nx) : Snd y pc (i_dup_x1 nx) := by
  subst hn
  intro x C fr h hpc ha
  obtain ⟨pc', ls, st⟩ := fr
  obtain rfl : pc' = pc := hpc
  unfold i_dup_x1 at ha ⊢
  dsimp only at ha ⊢
  split at ha
  · refine ⟨⟨Nat.le_refl _, Nat.le_refl _⟩, fun _ _ K H locs cells slots lsC hp => ?_⟩
    have K2 := K H locs cells slots lsC hp
    obtain ⟨k, o, hE, ⟨d, n0, sl0⟩, p, l, e, R, s, m, args, below, meth, c⟩ := x
    exact lv_dup_x1 C.1.1 C.1.2.1 hd rfl rfl K2
  · exact absurd ha.1 id
def i_dup2 (nx : Nat) : Ins := fun fr h => match fr.2.2 with
  | Sum.inl a :: Sum.inr (Sum.inl q) :: st => go nx fr.2.1 (aI a :: Sum.inr (Sum.inl q) :: aI a :: Sum.inr (Sum.inl q) :: st) h
  | _ => stuck
theorem s_dup2 {y pc nx : Nat} (hd : decode (am_mi y).2.1 pc = .ok (.dup2, 1)) (hn : pc + 1 = nx) : Snd y pc (i_dup2 nx) := by
  subst hn
  intro x C fr h hpc ha
  obtain ⟨pc', ls, st⟩ := fr
  obtain rfl : pc' = pc := hpc
  unfold i_dup2 at ha ⊢
  dsimp only at ha ⊢
  split at ha
  · refine ⟨⟨Nat.le_refl _, Nat.le_refl _⟩, fun _ _ K H locs cells slots lsC hp => ?_⟩
    have K2 := K H locs cells slots lsC hp
    obtain ⟨k, o, hE, ⟨d, n0, sl0⟩, p, l, e, R, s, m, args, below, meth, c⟩ := x
    exact lv_dup2_11 C.1.1 C.1.2.1 hd rfl rfl K2
  · exact absurd ha.1 id
def i_pop (nx : Nat) : Ins := fun fr h => match fr.2.2 with
  | Sum.inl _ :: st => go nx fr.2.1 st h
  | Sum.inr (Sum.inl _) :: st => go nx fr.2.1 st h
  | _ => stuck
theorem s_pop {y pc nx : Nat} (hd : decode (am_mi y).2.1 pc = .ok (.pop, 1)) (hn : pc + 1 = nx) : Snd y pc (i_pop nx) := by
  subst hn
  intro x C fr h hpc ha
  obtain ⟨pc', ls, st⟩ := fr
  obtain rfl : pc' = pc := hpc
  unfold i_pop at ha ⊢
  dsimp only at ha ⊢
  split at ha
  · refine ⟨⟨Nat.le_refl _, Nat.le_refl _⟩, fun _ _ K H locs cells slots lsC hp => ?_⟩
    have K2 := K H locs cells slots lsC hp
    obtain ⟨k, o, hE, ⟨d, n0, sl0⟩, p, l, e, R, s, m, args, below, meth, c⟩ := x
    exact lv_pop C.1.1 C.1.2.1 hd rfl K2
  · refine ⟨⟨Nat.le_refl _, Nat.le_refl _⟩, fun _ _ K H locs cells slots lsC hp => ?_⟩
    have K2 := K H locs cells slots lsC hp
    obtain ⟨k, o, hE, ⟨d, n0, sl0⟩, p, l, e, R, s, m, args, below, meth, c⟩ := x
    exact lv_pop C.1.1 C.1.2.1 hd rfl K2
  · exact absurd ha.1 id
def i_goto (tgt : Nat) : Ins := fun fr h => go tgt fr.2.1 fr.2.2 h
theorem s_goto {y pc tgt : Nat} {off : Int} (hd : decode (am_mi y).2.1 pc = .ok (.goto off, 3)) (ht : (pc : Int) + off = (tgt : Int)) : Snd y pc (i_goto tgt) := by
  intro x C fr h hpc _
  obtain ⟨pc', ls, st⟩ := fr
  obtain rfl : pc' = pc := hpc
  refine ⟨⟨Nat.le_refl _, Nat.le_refl _⟩, fun _ _ K H locs cells slots lsC hp => ?_⟩
  have K2 := K H locs cells slots lsC hp
  obtain ⟨k, o, hE, ⟨d, n0, sl0⟩, p, l, e, R, s, m, args, below, meth, c⟩ := x
  exact lv_goto C.1.1 C.1.2.1 hd ht K2
def i_if (c : Int32 → Prop) (dc : ∀ a, Decidable (c a)) (tgt nx : Nat) : Ins := fun fr h => match fr.2.2 with
  | Sum.inl a :: st => go (@ite _ (c a) (dc a) tgt nx) fr.2.1 st h
  | _ => stuck
theorem snd_if {y pc tgt nx : Nat} {c : Int32 → Prop} {dc : ∀ a, Decidable (c a)} (row : ∀ x : CX, CT x y → ∀ H locs cells slots (lsC : Array Slot) rest a, (c a → WX x H locs cells slots (F0 (xM x) tgt lsC rest)) → (¬ c a → WX x H locs cells slots (F0 (xM x) nx lsC rest)) → WX x H locs cells slots (F0 (xM x) pc lsC (.int a :: rest))) : Snd y pc (i_if c dc tgt nx) := by
  intro x C fr h hpc ha
  obtain ⟨pc', ls, st⟩ := fr
  obtain rfl : pc' = pc := hpc
  unfold i_if at ha ⊢
  dsimp only at ha ⊢
  split at ha
  · rename_i a st'
    refine ⟨⟨Nat.le_refl _, Nat.le_refl _⟩, fun _ _ K H locs cells slots lsC hp => row x C H locs cells slots lsC _ _ (fun hc => ?_) (fun hc => ?_)⟩
    · have K2 := K H locs cells slots lsC hp
      dsimp only at K2
      rw [if_pos hc] at K2
      exact K2
    · have K2 := K H locs cells slots lsC hp
      dsimp only at K2
      rw [if_neg hc] at K2
      exact K2
  · exact absurd ha.1 id
def i_icmp (c : Int32 → Int32 → Prop) (dc : ∀ a b, Decidable (c a b)) (tgt nx : Nat) : Ins := fun fr h => match fr.2.2 with
  | Sum.inl b :: Sum.inl a :: st => go (@ite _ (c a b) (dc a b) tgt nx) fr.2.1 st h
  | _ => stuck
theorem snd_icmp {y pc tgt nx : Nat} {c : Int32 → Int32 → Prop} {dc : ∀ a b, Decidable (c a b)} (row : ∀ x : CX, CT x y → ∀ H locs cells slots (lsC : Array Slot) rest a b, (c a b → WX x H locs cells slots (F0 (xM x) tgt lsC rest)) → (¬ c a b → WX x H locs cells slots (F0 (xM x) nx lsC rest)) → WX x H locs cells slots (F0 (xM x) pc lsC (.int b :: .int a :: rest))) : Snd y pc (i_icmp c dc tgt nx) := by
  intro x C fr h hpc ha
  obtain ⟨pc', ls, st⟩ := fr
  obtain rfl : pc' = pc := hpc
  unfold i_icmp at ha ⊢
  dsimp only at ha ⊢
  split at ha
  · rename_i b a st'
    refine ⟨⟨Nat.le_refl _, Nat.le_refl _⟩, fun _ _ K H locs cells slots lsC hp => row x C H locs cells slots lsC _ _ _ (fun hc => ?_) (fun hc => ?_)⟩
    · have K2 := K H locs cells slots lsC hp
      dsimp only at K2
      rw [if_pos hc] at K2
      exact K2
    · have K2 := K H locs cells slots lsC hp
      dsimp only at K2
      rw [if_neg hc] at K2
      exact K2
  · exact absurd ha.1 id
theorem s_ifeq {y pc tgt nx : Nat} {off : Int} (hd : decode (am_mi y).2.1 pc = .ok (.ifCond .eq off, 3)) (ht : (pc : Int) + off = (tgt : Int)) (hn : pc + 3 = nx) : Snd y pc (i_if (fun a => a = 0) (fun _ => inferInstance) tgt nx) := by
  subst hn
  refine snd_if fun x C H locs cells slots lsC rest a K1 K2 => ?_
  obtain ⟨k, o, hE, ⟨d, n0, sl0⟩, p, l, e, R, s, m, args, below, meth, c⟩ := x
  exact lv_if_eq C.1.1 C.1.2.1 hd ht K1 K2
theorem s_icmpeq {y pc tgt nx : Nat} {off : Int} (hd : decode (am_mi y).2.1 pc = .ok (.if_icmp .eq off, 3)) (ht : (pc : Int) + off = (tgt : Int)) (hn : pc + 3 = nx) : Snd y pc (i_icmp (fun a b => a = b) (fun _ _ => inferInstance) tgt nx) := by
  subst hn
  refine snd_icmp fun x C H locs cells slots lsC rest a b K1 K2 => ?_
  obtain ⟨k, o, hE, ⟨d, n0, sl0⟩, p, l, e, R, s, m, args, below, meth, c⟩ := x
  exact lv_icmp_eq C.1.1 C.1.2.1 hd ht K1 K2
theorem s_ifne {y pc tgt nx : Nat} {off : Int} (hd : decode (am_mi y).2.1 pc = .ok (.ifCond .ne off, 3)) (ht : (pc : Int) + off = (tgt : Int)) (hn : pc + 3 = nx) : Snd y pc (i_if (fun a => a ≠ 0) (fun _ => inferInstance) tgt nx) := by
  subst hn
  refine snd_if fun x C H locs cells slots lsC rest a K1 K2 => ?_
  obtain ⟨k, o, hE, ⟨d, n0, sl0⟩, p, l, e, R, s, m, args, below, meth, c⟩ := x
  exact lv_if_ne C.1.1 C.1.2.1 hd ht K1 (fun z => K2 (fun n => n z))
theorem s_icmpne {y pc tgt nx : Nat} {off : Int} (hd : decode (am_mi y).2.1 pc = .ok (.if_icmp .ne off, 3)) (ht : (pc : Int) + off = (tgt : Int)) (hn : pc + 3 = nx) : Snd y pc (i_icmp (fun a b => a ≠ b) (fun _ _ => inferInstance) tgt nx) := by
  subst hn
  refine snd_icmp fun x C H locs cells slots lsC rest a b K1 K2 => ?_
  obtain ⟨k, o, hE, ⟨d, n0, sl0⟩, p, l, e, R, s, m, args, below, meth, c⟩ := x
  exact lv_icmp_ne C.1.1 C.1.2.1 hd ht K1 (fun z => K2 (fun n => n z))
theorem s_iflt {y pc tgt nx : Nat} {off : Int} (hd : decode (am_mi y).2.1 pc = .ok (.ifCond .lt off, 3)) (ht : (pc : Int) + off = (tgt : Int)) (hn : pc + 3 = nx) : Snd y pc (i_if (fun a => a < 0) (fun _ => inferInstance) tgt nx) := by
  subst hn
  refine snd_if fun x C H locs cells slots lsC rest a K1 K2 => ?_
  obtain ⟨k, o, hE, ⟨d, n0, sl0⟩, p, l, e, R, s, m, args, below, meth, c⟩ := x
  exact lv_if_lt C.1.1 C.1.2.1 hd ht K1 K2
theorem s_icmplt {y pc tgt nx : Nat} {off : Int} (hd : decode (am_mi y).2.1 pc = .ok (.if_icmp .lt off, 3)) (ht : (pc : Int) + off = (tgt : Int)) (hn : pc + 3 = nx) : Snd y pc (i_icmp (fun a b => a < b) (fun _ _ => inferInstance) tgt nx) := by
  subst hn
  refine snd_icmp fun x C H locs cells slots lsC rest a b K1 K2 => ?_
  obtain ⟨k, o, hE, ⟨d, n0, sl0⟩, p, l, e, R, s, m, args, below, meth, c⟩ := x
  exact lv_icmp_lt C.1.1 C.1.2.1 hd ht K1 K2
theorem s_ifge {y pc tgt nx : Nat} {off : Int} (hd : decode (am_mi y).2.1 pc = .ok (.ifCond .ge off, 3)) (ht : (pc : Int) + off = (tgt : Int)) (hn : pc + 3 = nx) : Snd y pc (i_if (fun a => 0 ≤ a) (fun _ => inferInstance) tgt nx) := by
  subst hn
  refine snd_if fun x C H locs cells slots lsC rest a K1 K2 => ?_
  obtain ⟨k, o, hE, ⟨d, n0, sl0⟩, p, l, e, R, s, m, args, below, meth, c⟩ := x
  exact lv_if_ge C.1.1 C.1.2.1 hd ht K1 K2
theorem s_icmpge {y pc tgt nx : Nat} {off : Int} (hd : decode (am_mi y).2.1 pc = .ok (.if_icmp .ge off, 3)) (ht : (pc : Int) + off = (tgt : Int)) (hn : pc + 3 = nx) : Snd y pc (i_icmp (fun a b => b ≤ a) (fun _ _ => inferInstance) tgt nx) := by
  subst hn
  refine snd_icmp fun x C H locs cells slots lsC rest a b K1 K2 => ?_
  obtain ⟨k, o, hE, ⟨d, n0, sl0⟩, p, l, e, R, s, m, args, below, meth, c⟩ := x
  exact lv_icmp_ge C.1.1 C.1.2.1 hd ht K1 K2
theorem s_ifgt {y pc tgt nx : Nat} {off : Int} (hd : decode (am_mi y).2.1 pc = .ok (.ifCond .gt off, 3)) (ht : (pc : Int) + off = (tgt : Int)) (hn : pc + 3 = nx) : Snd y pc (i_if (fun a => 0 < a) (fun _ => inferInstance) tgt nx) := by
  subst hn
  refine snd_if fun x C H locs cells slots lsC rest a K1 K2 => ?_
  obtain ⟨k, o, hE, ⟨d, n0, sl0⟩, p, l, e, R, s, m, args, below, meth, c⟩ := x
  exact lv_if_gt C.1.1 C.1.2.1 hd ht K1 K2
theorem s_icmpgt {y pc tgt nx : Nat} {off : Int} (hd : decode (am_mi y).2.1 pc = .ok (.if_icmp .gt off, 3)) (ht : (pc : Int) + off = (tgt : Int)) (hn : pc + 3 = nx) : Snd y pc (i_icmp (fun a b => b < a) (fun _ _ => inferInstance) tgt nx) := by
  subst hn
  refine snd_icmp fun x C H locs cells slots lsC rest a b K1 K2 => ?_
  obtain ⟨k, o, hE, ⟨d, n0, sl0⟩, p, l, e, R, s, m, args, below, meth, c⟩ := x
  exact lv_icmp_gt C.1.1 C.1.2.1 hd ht K1 K2
theorem s_ifle {y pc tgt nx : Nat} {off : Int} (hd : decode (am_mi y).2.1 pc = .ok (.ifCond .le off, 3)) (ht : (pc : Int) + off = (tgt : Int)) (hn : pc + 3 = nx) : Snd y pc (i_if (fun a => a ≤ 0) (fun _ => inferInstance) tgt nx) := by
  subst hn
  refine snd_if fun x C H locs cells slots lsC rest a K1 K2 => ?_
  obtain ⟨k, o, hE, ⟨d, n0, sl0⟩, p, l, e, R, s, m, args, below, meth, c⟩ := x
  exact lv_if_le C.1.1 C.1.2.1 hd ht K1 K2
theorem s_icmple {y pc tgt nx : Nat} {off : Int} (hd : decode (am_mi y).2.1 pc = .ok (.if_icmp .le off, 3)) (ht : (pc : Int) + off = (tgt : Int)) (hn : pc + 3 = nx) : Snd y pc (i_icmp (fun a b => a ≤ b) (fun _ _ => inferInstance) tgt nx) := by
  subst hn
  refine snd_icmp fun x C H locs cells slots lsC rest a b K1 K2 => ?_
  obtain ⟨k, o, hE, ⟨d, n0, sl0⟩, p, l, e, R, s, m, args, below, meth, c⟩ := x
  exact lv_icmp_le C.1.1 C.1.2.1 hd ht K1 K2
def i_ifnull (tgt nx : Nat) : Ins := fun fr h => match fr.2.2 with
  | Sum.inr (Sum.inl _) :: st => go nx fr.2.1 st h
  | Sum.inr (Sum.inr (Sum.inr (Sum.inr (Sum.inr false)))) :: st => go tgt fr.2.1 st h
  | _ => stuck
theorem s_ifnull {y pc tgt nx : Nat} {off : Int} (hd : decode (am_mi y).2.1 pc = .ok (.ifnull off, 3)) (ht : (pc : Int) + off = (tgt : Int)) (hn : pc + 3 = nx) : Snd y pc (i_ifnull tgt nx) := by
  subst hn
  intro x C fr h hpc ha
  obtain ⟨pc', ls, st⟩ := fr
  obtain rfl : pc' = pc := hpc
  unfold i_ifnull at ha ⊢
  dsimp only at ha ⊢
  split at ha
  · refine ⟨⟨Nat.le_refl _, Nat.le_refl _⟩, fun _ _ K H locs cells slots lsC hp => ?_⟩
    have K2 := K H locs cells slots lsC hp
    obtain ⟨k, o, hE, ⟨d, n0, sl0⟩, p, l, e, R, s, m, args, below, meth, c⟩ := x
    exact lv_ifnull C.1.1 C.1.2.1 hd K2
  · refine ⟨⟨Nat.le_refl _, Nat.le_refl _⟩, fun _ _ K H locs cells slots lsC hp => ?_⟩
    have K2 := K H locs cells slots lsC hp
    obtain ⟨k, o, hE, ⟨d, n0, sl0⟩, p, l, e, R, s, m, args, below, meth, c⟩ := x
    exact lv_ifnullN C.1.1 C.1.2.1 hd ht K2
  · exact absurd ha.1 id
def i_ifnonnull (tgt nx : Nat) : Ins := fun fr h => match fr.2.2 with
  | Sum.inr (Sum.inl _) :: st => go tgt fr.2.1 st h
  | Sum.inr (Sum.inr (Sum.inr (Sum.inr (Sum.inr false)))) :: st => go nx fr.2.1 st h
  | _ => stuck
theorem s_ifnonnull {y pc tgt nx : Nat} {off : Int} (hd : decode (am_mi y).2.1 pc = .ok (.ifnonnull off, 3)) (ht : (pc : Int) + off = (tgt : Int)) (hn : pc + 3 = nx) : Snd y pc (i_ifnonnull tgt nx) := by
  subst hn
  intro x C fr h hpc ha
  obtain ⟨pc', ls, st⟩ := fr
  obtain rfl : pc' = pc := hpc
  unfold i_ifnonnull at ha ⊢
  dsimp only at ha ⊢
  split at ha
  · refine ⟨⟨Nat.le_refl _, Nat.le_refl _⟩, fun _ _ K H locs cells slots lsC hp => ?_⟩
    have K2 := K H locs cells slots lsC hp
    obtain ⟨k, o, hE, ⟨d, n0, sl0⟩, p, l, e, R, s, m, args, below, meth, c⟩ := x
    exact lv_ifnonnull C.1.1 C.1.2.1 hd ht K2
  · refine ⟨⟨Nat.le_refl _, Nat.le_refl _⟩, fun _ _ K H locs cells slots lsC hp => ?_⟩
    have K2 := K H locs cells slots lsC hp
    obtain ⟨k, o, hE, ⟨d, n0, sl0⟩, p, l, e, R, s, m, args, below, meth, c⟩ := x
    exact lv_ifnonnullN C.1.1 C.1.2.1 hd K2
  · exact absurd ha.1 id
/-- a switch by a table: targets from lo on -/
def am_tsw (lo hi : Int) (tg : List Nat) (df : Nat) (a : Int32) : Nat := if a.toInt < lo ∨ hi < a.toInt then df else tg.getD (a.toInt - lo).toNat df
def i_tsw (lo hi : Int) (tg : List Nat) (df : Nat) : Ins := fun fr h => match fr.2.2 with
  | Sum.inl a :: st => go (am_tsw lo hi tg df a) fr.2.1 st h
  | _ => stuck
theorem s_tsw {y pc len df : Nat} {lo hi dflt : Int} {offs : Array Int} {tg : List Nat} (hd : decode (am_mi y).2.1 pc = .ok (.tableswitch dflt lo hi offs, len)) (h1 : (pc : Int) + dflt = (df : Int)) (h2 : offs.toList.map (fun o => ((pc : Int) + o).toNat) = tg) (h3 : offs.toList.all (fun o => decide (0 ≤ (pc : Int) + o)) = true) (h4 : hi - lo + 1 = (tg.length : Int)) : Snd y pc (i_tsw lo hi tg df) := by
  intro x C fr h hpc ha
  obtain ⟨pc', ls, st⟩ := fr
  obtain rfl : pc' = pc := hpc
  unfold i_tsw at ha ⊢
  dsimp only at ha ⊢
  split at ha
  · rename_i a st'
    refine ⟨⟨Nat.le_refl _, Nat.le_refl _⟩, fun _ _ K H locs cells slots lsC hp => ?_⟩
    have K2 := K H locs cells slots lsC hp
    unfold am_tsw at K2
    dsimp only at K2
    obtain ⟨k, o, hE, ⟨d, n0, sl0⟩, p, l, e, R, s, m, args, below, meth, c⟩ := x
    by_cases hr : a.toInt < lo ∨ hi < a.toInt
    · rw [if_pos hr] at K2
      exact lv_tableOut C.1.1 C.1.2.1 hd hr h1 K2
    · rw [if_neg hr] at K2
      have hlen : tg.length = offs.size := by rw [← h2, List.length_map, Array.length_toList]
      have hlt : (a.toInt - lo).toNat < offs.size := by omega
      have e1 : offs[(a.toInt - lo).toNat]? = some offs[(a.toInt - lo).toNat] := Array.getElem?_eq_getElem hlt
      have e2 : tg.getD (a.toInt - lo).toNat df = ((pc' : Int) + offs[(a.toInt - lo).toNat]).toNat := by
        rw [← h2, List.getD_eq_getElem?_getD, List.getElem?_map, Array.getElem?_toList, e1]
        rfl
      rw [e2] at K2
      have e3 := List.all_eq_true.mp h3 offs[(a.toInt - lo).toNat] (by simp [Array.getElem_mem])
      refine lv_tableIn C.1.1 C.1.2.1 hd (fun q => hr (Or.inl q)) (fun q => hr (Or.inr q)) e1 (Int.toNat_of_nonneg (of_decide_eq_true e3)).symm K2
  · exact absurd ha.1 id
/-- a switch by a list -/
def am_lsw (ps : List (Int32 × Nat)) (df : Nat) (a : Int32) : Nat := match ps with
  | [] => df
  | q :: r => if a = q.1 then q.2 else am_lsw r df a
def i_lsw (ps : List (Int32 × Nat)) (df : Nat) : Ins := fun fr h => match fr.2.2 with
  | Sum.inl a :: st => go (am_lsw ps df a) fr.2.1 st h
  | _ => stuck
theorem am_lsw_ok (pc : Nat) (dflt : Int) (df : Nat) (h1 : (pc : Int) + dflt = (df : Int)) (a : Int32) : ∀ (qs : List (Int × Int)) (ps : List (Int32 × Nat)), qs.map (fun q => (q.1, (pc : Int) + q.2)) = ps.map (fun q => (q.1.toInt, (q.2 : Int))) →
    (pc : Int) + Op.lookupswitch.offset qs dflt a.toInt = (am_lsw ps df a : Int)
  | [], [], _ => by simpa [Op.lookupswitch.offset, am_lsw] using h1
  | [], _ :: _, h => by simp at h
  | _ :: _, [], h => by simp at h
  | (qa, qo) :: qs, (pa, pt) :: ps, h => by
    simp only [List.map_cons, List.cons.injEq, Prod.mk.injEq] at h
    obtain ⟨⟨e1, e2⟩, e3⟩ := h
    rw [Op.lookupswitch.offset_cons, am_lsw]
    by_cases hc : a = pa
    · subst hc
      rw [if_pos rfl, if_pos (by first | exact e1 | exact e1.symm)]
      exact e2
    · rw [if_neg hc, if_neg (by intro q; exact hc (Int32.toInt_inj.mp (by first | exact q.symm.trans e1 | exact q.trans e1 | exact (e1.symm.trans q).symm)))]
      exact am_lsw_ok pc dflt df h1 a qs ps e3
theorem s_lsw {y pc len df : Nat} {dflt : Int} {ps : Array (Int × Int)} {qs : List (Int32 × Nat)} (hd : decode (am_mi y).2.1 pc = .ok (.lookupswitch dflt ps, len)) (h1 : (pc : Int) + dflt = (df : Int)) (hp : (ps.toList.zip (ps.toList.drop 1)).all (fun (a, next) => a.1 < next.1) = true) (h2 : ps.toList.map (fun q => (q.1, (pc : Int) + q.2)) = qs.map (fun q => (q.1.toInt, (q.2 : Int)))) : Snd y pc (i_lsw qs df) := by
  intro x C fr h hpc ha
  obtain ⟨pc', ls, st⟩ := fr
  obtain rfl : pc' = pc := hpc
  unfold i_lsw at ha ⊢
  dsimp only at ha ⊢
  split at ha
  · rename_i a st'
    refine ⟨⟨Nat.le_refl _, Nat.le_refl _⟩, fun _ _ K H locs cells slots lsC hq => ?_⟩
    have K2 := K H locs cells slots lsC hq
    obtain ⟨k, o, hE, ⟨d, n0, sl0⟩, p, l, e, R, s, m, args, below, meth, c⟩ := x
    exact lv_lookup C.1.1 C.1.2.1 hd hp rfl (am_lsw_ok pc' dflt df h1 a ps.toList qs h2) K2
  · exact absurd ha.1 id
def i_ladd (nx : Nat) : Ins := fun fr h => match fr.2.2 with
  | Sum.inr (Sum.inr (Sum.inl b)) :: Sum.inr (Sum.inr (Sum.inl a)) :: st => go nx fr.2.1 (aL (a + b) :: st) h
  | _ => stuck
theorem s_ladd {y pc nx : Nat} (hd : decode (am_mi y).2.1 pc = .ok (.ladd, 1)) (hn : pc + 1 = nx) : Snd y pc (i_ladd nx) := by
  subst hn
  intro x C fr h hpc ha
  obtain ⟨pc', ls, st⟩ := fr
  obtain rfl : pc' = pc := hpc
  unfold i_ladd at ha ⊢
  dsimp only at ha ⊢
  split at ha
  · refine ⟨⟨Nat.le_refl _, Nat.le_refl _⟩, fun _ _ K H locs cells slots lsC hp => ?_⟩
    have K2 := K H locs cells slots lsC hp
    obtain ⟨k, o, hE, ⟨d, n0, sl0⟩, p, l, e, R, s, m, args, below, meth, c⟩ := x
    exact lv_ladd C.1.1 C.1.2.1 hd K2
  · exact absurd ha.1 id
def i_lmul (nx : Nat) : Ins := fun fr h => match fr.2.2 with
  | Sum.inr (Sum.inr (Sum.inl b)) :: Sum.inr (Sum.inr (Sum.inl a)) :: st => go nx fr.2.1 (aL (a * b) :: st) h
  | _ => stuck
theorem s_lmul {y pc nx : Nat} (hd : decode (am_mi y).2.1 pc = .ok (.lmul, 1)) (hn : pc + 1 = nx) : Snd y pc (i_lmul nx) := by
  subst hn
  intro x C fr h hpc ha
  obtain ⟨pc', ls, st⟩ := fr
  obtain rfl : pc' = pc := hpc
  unfold i_lmul at ha ⊢
  dsimp only at ha ⊢
  split at ha
  · refine ⟨⟨Nat.le_refl _, Nat.le_refl _⟩, fun _ _ K H locs cells slots lsC hp => ?_⟩
    have K2 := K H locs cells slots lsC hp
    obtain ⟨k, o, hE, ⟨d, n0, sl0⟩, p, l, e, R, s, m, args, below, meth, c⟩ := x
    exact lv_lmul C.1.1 C.1.2.1 hd K2
  · exact absurd ha.1 id
theorem s_i2b {y pc nx : Nat} (hd : decode (am_mi y).2.1 pc = .ok (.i2b, 1)) (hn : pc + 1 = nx) : Snd y pc (i_un (fun a => a.toInt8.toInt32) nx) := by
  subst hn
  refine snd_un fun x C H locs cells slots lsC rest a K => ?_
  obtain ⟨k, o, hE, ⟨d, n0, sl0⟩, p, l, e, R, s, m, args, below, meth, c⟩ := x
  exact lv_i2b C.1.1 C.1.2.1 hd rfl K
