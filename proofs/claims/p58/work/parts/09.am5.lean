/-! arrays -/
/-- what is known of an array's cell at any place of the walk -/
theorem am_arr {k : C0} {s : State} (S : STAT k s) {h : AH} {H : Heap} (D : DYN k h H) {a b t n : Nat} {g : Nat → AV} (e : hS h a b = some (Sum.inl (t, n, g))) :
    (t < 8 ∧ a ≠ 0 ∧ H[am_adr k a b]? = some (arrV (k.2.2.2.2.1 t) n (am_ent k h a b t g)) ∧ ArrOfT s (k.2.2.2.2.1 t) (am_ty t)) ∨
    ((t = 8 ∨ t = 9 ∨ t = 10) ∧ ∃ cell : Cell, H[am_adr k a b]? = some cell ∧ s.isArrayOf cell (am_wT t) ∧ cell.vm ≠ .unknown ∧ n ≤ cell.slots.size ∧ cell.slots.size.toInt32 = Int32.ofNat n ∧ ∀ j, j < n → cell.slots[j]? = some (am_cv k (g j))) := by
  by_cases ha : a = 0
  · subst ha
    have h1 := S.2.2.1 b
    rw [← D.2.2.1 b, e] at h1
    obtain ⟨h2, cell, e1, e2, e3, e4, e5, e6, e7⟩ := h1
    refine Or.inr ⟨h2, cell, ?_, e2, e3, e4, e5, e6⟩
    have hlt : k.2.1 b < (kH k).size := (Array.getElem?_eq_some_iff.mp e1).1
    exact (D.2.1 _ hlt).trans e1
  · obtain ⟨-, hcell⟩ := D.2.2.2 a b ha (by rw [e]; exact fun z => by cases z)
    rw [e] at hcell
    exact Or.inl ⟨hcell.1, ha, hcell.2, (S.2.1 t hcell.1).1⟩
theorem am_size32 (n : Nat) : n.toInt32 = Int32.ofNat n := rfl
def i_alen (nx : Nat) : Ins := fun fr h => match fr.2.2 with
  | Sum.inr (Sum.inl (a, b)) :: st => (match hS h a b with
    | some (Sum.inl (_, n, _)) => go nx fr.2.1 (aI (nI n) :: st) h
    | _ => stuck)
  | _ => stuck
theorem s_alen {y pc nx : Nat} (hd : decode (am_mi y).2.1 pc = .ok (.arraylength, 1)) (hn : pc + 1 = nx) : Snd y pc (i_alen nx) := by
  subst hn
  intro x C fr h hpc ha
  obtain ⟨pc', ls, st⟩ := fr
  obtain rfl : pc' = pc := hpc
  unfold i_alen at ha ⊢
  dsimp only at ha ⊢
  split at ha
  · rename_i a b st'
    split at ha
    · rename_i t n g hSe
      refine ⟨⟨Nat.le_refl _, Nat.le_refl _⟩, fun _ _ K H locs cells slots lsC hp => ?_⟩
      have K2 := K H locs cells slots lsC hp
      obtain ⟨k, o, hE, ⟨d, n0, sl0⟩, p, l, e, R, s, m, args, below, meth, c⟩ := x
      rcases am_arr C.2.2.1 hp.1 hSe with ⟨h1, h2, h3, h4⟩ | ⟨h1, cell, e1, e2, e3, e4, e5, e6⟩
      · exact W.alen (n := Int32.ofNat n) C.1.1 C.1.2.1 h3 (h4 n _) (by rw [arrV_size, am_size32]) rfl rfl hd K2
      · exact W.alen (n := Int32.ofNat n) C.1.1 C.1.2.1 e1 e2 e5 rfl rfl hd K2
    · exact absurd ha.1 id
  · exact absurd ha.1 id
def i_iald (nx : Nat) : Ins := fun fr h => match fr.2.2 with
  | Sum.inl i :: Sum.inr (Sum.inl (a, b)) :: st => (match hS h a b with
    | some (Sum.inl (0, n, g)) => goC (vp_in i n) nx fr.2.1 (aI (hI h a b i.toNatClampNeg) :: st) h
    | some (Sum.inl (9, n, g)) => goC (vp_in i n) nx fr.2.1 (g i.toNatClampNeg :: st) h
    | _ => stuck)
  | _ => stuck
theorem s_iald {y pc nx : Nat} (hd : decode (am_mi y).2.1 pc = .ok (.iaload, 1)) (hn : pc + 1 = nx) : Snd y pc (i_iald nx) := by
  subst hn
  intro x C fr h hpc ha
  obtain ⟨pc', ls, st⟩ := fr
  obtain rfl : pc' = pc := hpc
  unfold i_iald at ha ⊢
  dsimp only at ha ⊢
  split at ha
  · rename_i i a b st'
    split at ha

    · rename_i n g hSe
      refine ⟨⟨Nat.le_refl _, Nat.le_refl _⟩, fun _ _ K H locs cells slots lsC hp => ?_⟩
      have K2 := K H locs cells slots lsC hp
      have hin := ha.1
      have hlt : i.toNatClampNeg < n := Nat.not_le.mp fun q => hin (Or.inr q)
      obtain ⟨k, o, hE, ⟨d, n0, sl0⟩, p, l, e, R, s, m, args, below, meth, c⟩ := x
      rcases am_arr C.2.2.1 hp.1 hSe with ⟨h1, h2, h3, h4⟩ | ⟨h1, cell, e1, e2, e3, e4, e5, e6⟩
      · exact W.iald C.1.1 C.1.2.1 h3 (h4 n _) (fun q => by cases q) (by rw [arrV_size]; exact hin) (by rw [arrV_read _ _ hlt]; rfl) rfl rfl hd K2
      · omega
    · rename_i n g hSe
      refine ⟨⟨Nat.le_refl _, Nat.le_refl _⟩, fun _ _ K H locs cells slots lsC hp => ?_⟩
      have K2 := K H locs cells slots lsC hp
      have hin := ha.1
      have hlt : i.toNatClampNeg < n := Nat.not_le.mp fun q => hin (Or.inr q)
      obtain ⟨k, o, hE, ⟨d, n0, sl0⟩, p, l, e, R, s, m, args, below, meth, c⟩ := x
      rcases am_arr C.2.2.1 hp.1 hSe with ⟨h1, h2, h3, h4⟩ | ⟨h1, cell, e1, e2, e3, e4, e5, e6⟩
      · omega
      · exact W.iald C.1.1 C.1.2.1 e1 e2 e3 (fun q => hin (q.imp id (fun z => by omega))) (e6 _ hlt) rfl rfl hd K2
    · exact absurd ha.1 id
  · exact absurd ha.1 id
def i_cald (nx : Nat) : Ins := fun fr h => match fr.2.2 with
  | Sum.inl i :: Sum.inr (Sum.inl (a, b)) :: st => (match hS h a b with
    | some (Sum.inl (1, n, g)) => goC (vp_in i n) nx fr.2.1 (aI (hI h a b i.toNatClampNeg) :: st) h
    | _ => stuck)
  | _ => stuck
theorem s_cald {y pc nx : Nat} (hd : decode (am_mi y).2.1 pc = .ok (.caload, 1)) (hn : pc + 1 = nx) : Snd y pc (i_cald nx) := by
  subst hn
  intro x C fr h hpc ha
  obtain ⟨pc', ls, st⟩ := fr
  obtain rfl : pc' = pc := hpc
  unfold i_cald at ha ⊢
  dsimp only at ha ⊢
  split at ha
  · rename_i i a b st'
    split at ha

    · rename_i n g hSe
      refine ⟨⟨Nat.le_refl _, Nat.le_refl _⟩, fun _ _ K H locs cells slots lsC hp => ?_⟩
      have K2 := K H locs cells slots lsC hp
      have hin := ha.1
      have hlt : i.toNatClampNeg < n := Nat.not_le.mp fun q => hin (Or.inr q)
      obtain ⟨k, o, hE, ⟨d, n0, sl0⟩, p, l, e, R, s, m, args, below, meth, c⟩ := x
      rcases am_arr C.2.2.1 hp.1 hSe with ⟨h1, h2, h3, h4⟩ | ⟨h1, cell, e1, e2, e3, e4, e5, e6⟩
      · exact W.cald C.1.1 C.1.2.1 h3 (h4 n _) (fun q => by cases q) (by rw [arrV_size]; exact hin) (by rw [arrV_read _ _ hlt]; rfl) rfl rfl hd K2
      · omega
    · exact absurd ha.1 id
  · exact absurd ha.1 id
def i_lald (nx : Nat) : Ins := fun fr h => match fr.2.2 with
  | Sum.inl i :: Sum.inr (Sum.inl (a, b)) :: st => (match hS h a b with
    | some (Sum.inl (2, n, g)) => goC (vp_in i n) nx fr.2.1 (aL (hJ h a b i.toNatClampNeg) :: st) h
    | _ => stuck)
  | _ => stuck
theorem s_lald {y pc nx : Nat} (hd : decode (am_mi y).2.1 pc = .ok (.laload, 1)) (hn : pc + 1 = nx) : Snd y pc (i_lald nx) := by
  subst hn
  intro x C fr h hpc ha
  obtain ⟨pc', ls, st⟩ := fr
  obtain rfl : pc' = pc := hpc
  unfold i_lald at ha ⊢
  dsimp only at ha ⊢
  split at ha
  · rename_i i a b st'
    split at ha

    · rename_i n g hSe
      refine ⟨⟨Nat.le_refl _, Nat.le_refl _⟩, fun _ _ K H locs cells slots lsC hp => ?_⟩
      have K2 := K H locs cells slots lsC hp
      have hin := ha.1
      have hlt : i.toNatClampNeg < n := Nat.not_le.mp fun q => hin (Or.inr q)
      obtain ⟨k, o, hE, ⟨d, n0, sl0⟩, p, l, e, R, s, m, args, below, meth, c⟩ := x
      rcases am_arr C.2.2.1 hp.1 hSe with ⟨h1, h2, h3, h4⟩ | ⟨h1, cell, e1, e2, e3, e4, e5, e6⟩
      · exact W.lald C.1.1 C.1.2.1 h3 (h4 n _) (fun q => by cases q) (by rw [arrV_size]; exact hin) (by rw [arrV_read _ _ hlt]; rfl) rfl rfl hd K2
      · omega
    · exact absurd ha.1 id
  · exact absurd ha.1 id
def i_bald (nx : Nat) : Ins := fun fr h => match fr.2.2 with
  | Sum.inl i :: Sum.inr (Sum.inl (a, b)) :: st => (match hS h a b with
    | some (Sum.inl (10, n, g)) => goC (vp_in i n) nx fr.2.1 (g i.toNatClampNeg :: st) h
    | some (Sum.inl (7, n, g)) => goC (vp_in i n) nx fr.2.1 (aI (hI h a b i.toNatClampNeg) :: st) h
    | _ => stuck)
  | _ => stuck
theorem s_bald {y pc nx : Nat} (hd : decode (am_mi y).2.1 pc = .ok (.baload, 1)) (hn : pc + 1 = nx) : Snd y pc (i_bald nx) := by
  subst hn
  intro x C fr h hpc ha
  obtain ⟨pc', ls, st⟩ := fr
  obtain rfl : pc' = pc := hpc
  unfold i_bald at ha ⊢
  dsimp only at ha ⊢
  split at ha
  · rename_i i a b st'
    split at ha

    · rename_i n g hSe
      refine ⟨⟨Nat.le_refl _, Nat.le_refl _⟩, fun _ _ K H locs cells slots lsC hp => ?_⟩
      have K2 := K H locs cells slots lsC hp
      have hin := ha.1
      have hlt : i.toNatClampNeg < n := Nat.not_le.mp fun q => hin (Or.inr q)
      obtain ⟨k, o, hE, ⟨d, n0, sl0⟩, p, l, e, R, s, m, args, below, meth, c⟩ := x
      rcases am_arr C.2.2.1 hp.1 hSe with ⟨h1, h2, h3, h4⟩ | ⟨h1, cell, e1, e2, e3, e4, e5, e6⟩
      · omega
      · exact W.bald C.1.1 C.1.2.1 e1 e2 e3 (fun q => hin (q.imp id (fun z => by omega))) (e6 _ hlt) rfl rfl hd K2
    · rename_i n g hSe
      refine ⟨⟨Nat.le_refl _, Nat.le_refl _⟩, fun _ _ K H locs cells slots lsC hp => ?_⟩
      have K2 := K H locs cells slots lsC hp
      have hin := ha.1
      have hlt : i.toNatClampNeg < n := Nat.not_le.mp fun q => hin (Or.inr q)
      obtain ⟨k, o, hE, ⟨d, n0, sl0⟩, p, l, e, R, s, m, args, below, meth, c⟩ := x
      rcases am_arr C.2.2.1 hp.1 hSe with ⟨h1, h2, h3, h4⟩ | ⟨h1, cell, e1, e2, e3, e4, e5, e6⟩
      · exact W.bald C.1.1 C.1.2.1 h3 (h4 n _) (fun q => by cases q) (by rw [arrV_size]; exact hin) (by rw [arrV_read _ _ hlt]; rfl) rfl rfl hd K2
      · omega
    · exact absurd ha.1 id
  · exact absurd ha.1 id
def i_aald (nx : Nat) : Ins := fun fr h => match fr.2.2 with
  | Sum.inl i :: Sum.inr (Sum.inl (a, b)) :: st => (match hS h a b with
    | some (Sum.inl (4, n, g)) => goC (vp_in i n) nx fr.2.1 (g i.toNatClampNeg :: st) h
    | some (Sum.inl (5, n, g)) => goC (vp_in i n) nx fr.2.1 (g i.toNatClampNeg :: st) h
    | some (Sum.inl (6, n, g)) => goC (vp_in i n) nx fr.2.1 (am_kv (hI h a b i.toNatClampNeg) :: st) h
    | some (Sum.inl (8, n, g)) => goC (vp_in i n) nx fr.2.1 (g i.toNatClampNeg :: st) h
    | _ => stuck)
  | _ => stuck
theorem s_aald {y pc nx : Nat} (hd : decode (am_mi y).2.1 pc = .ok (.aaload, 1)) (hn : pc + 1 = nx) : Snd y pc (i_aald nx) := by
  subst hn
  intro x C fr h hpc ha
  obtain ⟨pc', ls, st⟩ := fr
  obtain rfl : pc' = pc := hpc
  unfold i_aald at ha ⊢
  dsimp only at ha ⊢
  split at ha
  · rename_i i a b st'
    split at ha

    · rename_i n g hSe
      refine ⟨⟨Nat.le_refl _, Nat.le_refl _⟩, fun _ _ K H locs cells slots lsC hp => ?_⟩
      have K2 := K H locs cells slots lsC hp
      have hin := ha.1
      have hlt : i.toNatClampNeg < n := Nat.not_le.mp fun q => hin (Or.inr q)
      obtain ⟨k, o, hE, ⟨d, n0, sl0⟩, p, l, e, R, s, m, args, below, meth, c⟩ := x
      rcases am_arr C.2.2.1 hp.1 hSe with ⟨h1, h2, h3, h4⟩ | ⟨h1, cell, e1, e2, e3, e4, e5, e6⟩
      · exact W.aald C.1.1 C.1.2.1 h3 (h4 n _) (ty := am_ty 4) (by decide) (fun q => by cases q) (by rw [arrV_size]; exact hin) (by rw [arrV_read _ _ hlt]; rfl) rfl rfl hd K2
      · omega
    · rename_i n g hSe
      refine ⟨⟨Nat.le_refl _, Nat.le_refl _⟩, fun _ _ K H locs cells slots lsC hp => ?_⟩
      have K2 := K H locs cells slots lsC hp
      have hin := ha.1
      have hlt : i.toNatClampNeg < n := Nat.not_le.mp fun q => hin (Or.inr q)
      obtain ⟨k, o, hE, ⟨d, n0, sl0⟩, p, l, e, R, s, m, args, below, meth, c⟩ := x
      rcases am_arr C.2.2.1 hp.1 hSe with ⟨h1, h2, h3, h4⟩ | ⟨h1, cell, e1, e2, e3, e4, e5, e6⟩
      · exact W.aald C.1.1 C.1.2.1 h3 (h4 n _) (ty := am_ty 5) (by decide) (fun q => by cases q) (by rw [arrV_size]; exact hin) (by rw [arrV_read _ _ hlt]; rfl) rfl rfl hd K2
      · omega
    · rename_i n g hSe
      refine ⟨⟨Nat.le_refl _, Nat.le_refl _⟩, fun _ _ K H locs cells slots lsC hp => ?_⟩
      have K2 := K H locs cells slots lsC hp
      have hin := ha.1
      have hlt : i.toNatClampNeg < n := Nat.not_le.mp fun q => hin (Or.inr q)
      obtain ⟨k, o, hE, ⟨d, n0, sl0⟩, p, l, e, R, s, m, args, below, meth, c⟩ := x
      rcases am_arr C.2.2.1 hp.1 hSe with ⟨h1, h2, h3, h4⟩ | ⟨h1, cell, e1, e2, e3, e4, e5, e6⟩
      · exact W.aald C.1.1 C.1.2.1 h3 (h4 n _) (ty := am_ty 6) (by decide) (fun q => by cases q) (by rw [arrV_size]; exact hin) (by rw [arrV_read _ _ hlt]; rfl) rfl rfl hd K2
      · omega
    · rename_i n g hSe
      refine ⟨⟨Nat.le_refl _, Nat.le_refl _⟩, fun _ _ K H locs cells slots lsC hp => ?_⟩
      have K2 := K H locs cells slots lsC hp
      have hin := ha.1
      have hlt : i.toNatClampNeg < n := Nat.not_le.mp fun q => hin (Or.inr q)
      obtain ⟨k, o, hE, ⟨d, n0, sl0⟩, p, l, e, R, s, m, args, below, meth, c⟩ := x
      rcases am_arr C.2.2.1 hp.1 hSe with ⟨h1, h2, h3, h4⟩ | ⟨h1, cell, e1, e2, e3, e4, e5, e6⟩
      · omega
      · exact W.aald C.1.1 C.1.2.1 e1 e2 (by decide) e3 (fun q => hin (q.imp id (fun z => by omega))) (e6 _ hlt) rfl rfl hd K2
    · exact absurd ha.1 id
  · exact absurd ha.1 id
def i_iast (nx : Nat) : Ins := fun fr h => match fr.2.2 with
  | Sum.inl v :: Sum.inl i :: Sum.inr (Sum.inl (a, b)) :: st => (match hS h a b with
    | some (Sum.inl (0, n, g)) => goC (vp_in i n) nx fr.2.1 st (h.1, h.2.1, upI (hI h) a b i.toNatClampNeg v, h.2.2.2)
    | _ => stuck)
  | _ => stuck
theorem s_iast {y pc nx : Nat} (hd : decode (am_mi y).2.1 pc = .ok (.iastore, 1)) (hn : pc + 1 = nx) : Snd y pc (i_iast nx) := by
  subst hn
  intro x C fr h hpc ha
  obtain ⟨pc', ls, st⟩ := fr
  obtain rfl : pc' = pc := hpc
  unfold i_iast at ha ⊢
  dsimp only at ha ⊢
  split at ha
  · rename_i v i a b st'
    split at ha
    · rename_i n g hSe
      refine ⟨⟨Nat.le_refl _, Nat.le_refl _⟩, fun _ _ K H locs cells slots lsC hp => ?_⟩
      have hin := ha.1
      have hlt : i.toNatClampNeg < n := Nat.not_le.mp fun q => hin (Or.inr q)
      obtain ⟨k, o, hE, ⟨d, n0, sl0⟩, p, l, e, R, s, m, args, below, meth, c⟩ := x
      rcases am_arr C.2.2.1 hp.1 hSe with ⟨h1, h2, h3, h4⟩ | ⟨h1, -⟩
      · refine W.iast C.1.1 C.1.2.1 h3 (h4 n _) (fun q => by cases q) (by rw [arrV_size]; exact hin) rfl rfl hd fun H' e1 e2 e3 => ?_
        refine K H' _ cells slots lsC ⟨?_, ?_, hp.2.2.1, hp.2.2.2.1, hp.2.2.2.2⟩
        · refine hp.1.upd h2 (by rw [hSe]; exact fun z => by cases z) e2 e3 rfl (fun _ _ _ => rfl) (fun _ _ _ z => upI_ne z) (fun _ _ _ _ => rfl) (fun _ _ _ _ => rfl) ?_
          show am_cell _ _ a b (hS h a b) H'
          rw [hSe]
          refine ⟨h1, ?_⟩
          rw [e1, arrV_store]
          congr 2
          funext j
          show updV _ _ _ j = .int (upI (hI h) a b i.toNatClampNeg v a b j)
          unfold updV upI
          by_cases hj : j = i.toNatClampNeg
          · subst hj
            rw [if_pos rfl, if_pos ⟨rfl, rfl, rfl⟩]
          · rw [if_neg hj, if_neg (fun q => hj q.2.2)]
            rfl
        · intro z hz
          rcases List.mem_append.mp hz with h8 | h8
          · exact hp.2.1 z h8
          · rw [List.mem_singleton.mp h8]
            show (kH k).size ≤ am_adr k a b
            rw [am_adr_pos h2]
            omega
      · omega
    · exact absurd ha.1 id
  · exact absurd ha.1 id
def i_cast (nx : Nat) : Ins := fun fr h => match fr.2.2 with
  | Sum.inl v :: Sum.inl i :: Sum.inr (Sum.inl (a, b)) :: st => (match hS h a b with
    | some (Sum.inl (1, n, g)) => goC (vp_in i n ∧ narrow .char (.int v) = .int v) nx fr.2.1 st (h.1, h.2.1, upI (hI h) a b i.toNatClampNeg v, h.2.2.2)
    | _ => stuck)
  | _ => stuck
theorem s_cast {y pc nx : Nat} (hd : decode (am_mi y).2.1 pc = .ok (.castore, 1)) (hn : pc + 1 = nx) : Snd y pc (i_cast nx) := by
  subst hn
  intro x C fr h hpc ha
  obtain ⟨pc', ls, st⟩ := fr
  obtain rfl : pc' = pc := hpc
  unfold i_cast at ha ⊢
  dsimp only at ha ⊢
  split at ha
  · rename_i v i a b st'
    split at ha
    · rename_i n g hSe
      refine ⟨⟨Nat.le_refl _, Nat.le_refl _⟩, fun _ _ K H locs cells slots lsC hp => ?_⟩
      have hin := ha.1.1
      have hlt : i.toNatClampNeg < n := Nat.not_le.mp fun q => hin (Or.inr q)
      obtain ⟨k, o, hE, ⟨d, n0, sl0⟩, p, l, e, R, s, m, args, below, meth, c⟩ := x
      rcases am_arr C.2.2.1 hp.1 hSe with ⟨h1, h2, h3, h4⟩ | ⟨h1, -⟩
      · refine W.cast C.1.1 C.1.2.1 h3 (h4 n _) (fun q => by cases q) (by rw [arrV_size]; exact hin) rfl rfl hd fun H' e1 e2 e3 => ?_
        refine K H' _ cells slots lsC ⟨?_, ?_, hp.2.2.1, hp.2.2.2.1, hp.2.2.2.2⟩
        · refine hp.1.upd h2 (by rw [hSe]; exact fun z => by cases z) e2 e3 rfl (fun _ _ _ => rfl) (fun _ _ _ z => upI_ne z) (fun _ _ _ _ => rfl) (fun _ _ _ _ => rfl) ?_
          show am_cell _ _ a b (hS h a b) H'
          rw [hSe]
          refine ⟨h1, ?_⟩
          rw [e1, arrV_store]
          congr 2
          funext j
          show updV _ _ _ j = .int (upI (hI h) a b i.toNatClampNeg v a b j)
          unfold updV upI
          by_cases hj : j = i.toNatClampNeg
          · subst hj
            rw [if_pos rfl, if_pos ⟨rfl, rfl, rfl⟩]
            exact ha.1.2
          · rw [if_neg hj, if_neg (fun q => hj q.2.2)]
            rfl
        · intro z hz
          rcases List.mem_append.mp hz with h8 | h8
          · exact hp.2.1 z h8
          · rw [List.mem_singleton.mp h8]
            show (kH k).size ≤ am_adr k a b
            rw [am_adr_pos h2]
            omega
      · omega
    · exact absurd ha.1 id
  · exact absurd ha.1 id
def i_bast (nx : Nat) : Ins := fun fr h => match fr.2.2 with
  | Sum.inl v :: Sum.inl i :: Sum.inr (Sum.inl (a, b)) :: st => (match hS h a b with
    | some (Sum.inl (7, n, g)) => goC (vp_in i n ∧ narrow .byte (.int v) = .int v) nx fr.2.1 st (h.1, h.2.1, upI (hI h) a b i.toNatClampNeg v, h.2.2.2)
    | _ => stuck)
  | _ => stuck
theorem s_bast {y pc nx : Nat} (hd : decode (am_mi y).2.1 pc = .ok (.bastore, 1)) (hn : pc + 1 = nx) : Snd y pc (i_bast nx) := by
  subst hn
  intro x C fr h hpc ha
  obtain ⟨pc', ls, st⟩ := fr
  obtain rfl : pc' = pc := hpc
  unfold i_bast at ha ⊢
  dsimp only at ha ⊢
  split at ha
  · rename_i v i a b st'
    split at ha
    · rename_i n g hSe
      refine ⟨⟨Nat.le_refl _, Nat.le_refl _⟩, fun _ _ K H locs cells slots lsC hp => ?_⟩
      have hin := ha.1.1
      have hlt : i.toNatClampNeg < n := Nat.not_le.mp fun q => hin (Or.inr q)
      obtain ⟨k, o, hE, ⟨d, n0, sl0⟩, p, l, e, R, s, m, args, below, meth, c⟩ := x
      rcases am_arr C.2.2.1 hp.1 hSe with ⟨h1, h2, h3, h4⟩ | ⟨h1, -⟩
      · refine W.bast C.1.1 C.1.2.1 h3 (h4 n _) (fun q => by cases q) (by rw [arrV_size]; exact hin) rfl rfl hd fun H' e1 e2 e3 => ?_
        refine K H' _ cells slots lsC ⟨?_, ?_, hp.2.2.1, hp.2.2.2.1, hp.2.2.2.2⟩
        · refine hp.1.upd h2 (by rw [hSe]; exact fun z => by cases z) e2 e3 rfl (fun _ _ _ => rfl) (fun _ _ _ z => upI_ne z) (fun _ _ _ _ => rfl) (fun _ _ _ _ => rfl) ?_
          show am_cell _ _ a b (hS h a b) H'
          rw [hSe]
          refine ⟨h1, ?_⟩
          rw [e1, arrV_store]
          congr 2
          funext j
          show updV _ _ _ j = .int (upI (hI h) a b i.toNatClampNeg v a b j)
          unfold updV upI
          by_cases hj : j = i.toNatClampNeg
          · subst hj
            rw [if_pos rfl, if_pos ⟨rfl, rfl, rfl⟩]
            exact ha.1.2
          · rw [if_neg hj, if_neg (fun q => hj q.2.2)]
            rfl
        · intro z hz
          rcases List.mem_append.mp hz with h8 | h8
          · exact hp.2.1 z h8
          · rw [List.mem_singleton.mp h8]
            show (kH k).size ≤ am_adr k a b
            rw [am_adr_pos h2]
            omega
      · omega
    · exact absurd ha.1 id
  · exact absurd ha.1 id
def i_last (nx : Nat) : Ins := fun fr h => match fr.2.2 with
  | Sum.inr (Sum.inr (Sum.inl v)) :: Sum.inl i :: Sum.inr (Sum.inl (a, b)) :: st => (match hS h a b with
    | some (Sum.inl (2, n, g)) => goC (vp_in i n) nx fr.2.1 st (h.1, h.2.1, h.2.2.1, upJ (hJ h) a b i.toNatClampNeg v, h.2.2.2.2)
    | _ => stuck)
  | _ => stuck
theorem s_last {y pc nx : Nat} (hd : decode (am_mi y).2.1 pc = .ok (.lastore, 1)) (hn : pc + 1 = nx) : Snd y pc (i_last nx) := by
  subst hn
  intro x C fr h hpc ha
  obtain ⟨pc', ls, st⟩ := fr
  obtain rfl : pc' = pc := hpc
  unfold i_last at ha ⊢
  dsimp only at ha ⊢
  split at ha
  · rename_i v i a b st'
    split at ha
    · rename_i n g hSe
      refine ⟨⟨Nat.le_refl _, Nat.le_refl _⟩, fun _ _ K H locs cells slots lsC hp => ?_⟩
      have hin := ha.1
      have hlt : i.toNatClampNeg < n := Nat.not_le.mp fun q => hin (Or.inr q)
      obtain ⟨k, o, hE, ⟨d, n0, sl0⟩, p, l, e, R, s, m, args, below, meth, c⟩ := x
      rcases am_arr C.2.2.1 hp.1 hSe with ⟨h1, h2, h3, h4⟩ | ⟨h1, -⟩
      · refine W.last C.1.1 C.1.2.1 h3 (h4 n _) (fun q => by cases q) (by rw [arrV_size]; exact hin) rfl rfl hd fun H' e1 e2 e3 => ?_
        refine K H' _ cells slots lsC ⟨?_, ?_, hp.2.2.1, hp.2.2.2.1, hp.2.2.2.2⟩
        · refine hp.1.upd h2 (by rw [hSe]; exact fun z => by cases z) e2 e3 rfl (fun _ _ _ => rfl) (fun _ _ _ _ => rfl) (fun _ _ _ z => upJ_ne z) (fun _ _ _ _ => rfl) ?_
          show am_cell _ _ a b (hS h a b) H'
          rw [hSe]
          refine ⟨h1, ?_⟩
          rw [e1, arrV_store]
          congr 2
          funext j
          show updV _ _ _ j = .long (upJ (hJ h) a b i.toNatClampNeg v a b j)
          unfold updV upJ
          by_cases hj : j = i.toNatClampNeg
          · subst hj
            rw [if_pos rfl, if_pos ⟨rfl, rfl, rfl⟩]
          · rw [if_neg hj, if_neg (fun q => hj q.2.2)]
            rfl
        · intro z hz
          rcases List.mem_append.mp hz with h8 | h8
          · exact hp.2.1 z h8
          · rw [List.mem_singleton.mp h8]
            show (kH k).size ≤ am_adr k a b
            rw [am_adr_pos h2]
            omega
      · omega
    · exact absurd ha.1 id
  · exact absurd ha.1 id
