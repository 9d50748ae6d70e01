/-! references into arrays, new cells -/
theorem am_asg (vm : Vm) (c : ClassId) : vm.assignable c c = true := by
  unfold Vm.assignable
  rw [show (256 : Nat) = 255 + 1 from rfl, Vm.assignableAux, beq_self_eq_true, Bool.true_or]
def i_aastR (nx : Nat) : Ins := fun fr h => match fr.2.2 with
  | Sum.inr (Sum.inl (a', b')) :: Sum.inl i :: Sum.inr (Sum.inl (a, b)) :: st => (match hS h a b, hS h a' b' with
    | some (Sum.inl (4, n, g)), some (Sum.inr (1, _)) => goC (vp_in i n) nx fr.2.1 st (upS (hS h) a b (some (Sum.inl (4, n, fun j => if j = i.toNatClampNeg then aR a' b' else g j))), h.2)
    | _, _ => stuck)
  | _ => stuck
theorem s_aastR {y pc nx : Nat} (hd : decode (am_mi y).2.1 pc = .ok (.aastore, 1)) (hn : pc + 1 = nx) : Snd y pc (i_aastR nx) := by
  subst hn
  intro x C fr h hpc ha
  obtain ⟨pc', ls, st⟩ := fr
  obtain rfl : pc' = pc := hpc
  unfold i_aastR at ha ⊢
  dsimp only at ha ⊢
  split at ha
  · rename_i a' b' i a b st'
    split at ha
    · rename_i n g fs hSe hSv
      refine ⟨⟨Nat.le_refl _, Nat.le_refl _⟩, fun _ _ K H locs cells slots lsC hp => ?_⟩
      have hin := ha.1
      have hlt : i.toNatClampNeg < n := Nat.not_le.mp fun q => hin (Or.inr q)
      have h0 : ¬ i < 0 := fun q => hin (Or.inl q)
      obtain ⟨k, o, hE, ⟨d, n0, sl0⟩, p, l, e, R, s, m, args, below, meth, c⟩ := x
      rcases am_arr C.2.2.1 hp.1 hSe with ⟨h1, h2, h3, h4⟩ | ⟨h1, -⟩
      · have ha' : a' ≠ 0 := hp.1.notpre C.2.2.1 hSv (Or.inr ⟨_, _, rfl, by omega⟩)
        obtain ⟨-, hcell⟩ := hp.1.2.2.2 a' b' ha' (by rw [hSv]; exact fun z => by cases z)
        rw [hSv] at hcell
        obtain ⟨r, r1, r2, cellV, g1, g2, g3, g4⟩ := hcell
        have hcl : am_cl[1]? = some ("SmokeRelay$Row", am_T1, 10) := rfl
        have hcls := (C.2.2.1.1 1 _ hcl).2
        obtain ⟨kA, comp, k1, k2, k3, k4⟩ := (C.2.2.1.2.1 4 (by omega)).2
        have hcomp : comp = k.2.2.1 1 := Option.some.inj (k3.symm.trans hcls.1)
        subst hcomp
        obtain ⟨kC, hkC, -⟩ := id hcls.2
        refine W.aast C.1.1 C.1.2.1 h3 (fun q h => by cases h) (fun h => by cases h) k1 k2 rfl hkC ⟨h0, by rw [arrV_size]; exact hlt⟩ g1 (fun q h => by rw [g3] at h; cases h) (by rw [g2]; exact hkC) (by rw [g2]; exact va_assign hcls) rfl rfl hd fun H' e1 e2 e3 => ?_
        refine K H' _ cells slots lsC ⟨?_, ?_, hp.2.2.1, hp.2.2.2.1, hp.2.2.2.2⟩
        · refine hp.1.upd h2 (by rw [hSe]; exact fun z => by cases z) e2 e3 rfl (fun _ _ z => upS_ne z) (fun _ _ _ _ => rfl) (fun _ _ _ _ => rfl) (fun _ _ _ _ => rfl) ?_
          show am_cell _ _ a b (upS (hS h) a b _ a b) H'
          rw [upS_self]
          refine ⟨h1, ?_⟩
          rw [e1, arrV_store]
          congr 2
          funext j
          show updV _ _ _ j = am_cv k (if j = i.toNatClampNeg then aR a' b' else g j)
          unfold updV
          by_cases hj : j = i.toNatClampNeg
          · rw [if_pos hj, if_pos hj]
            rfl
          · rw [if_neg hj, if_neg hj]
            rfl
        · intro z hz
          rcases List.mem_append.mp hz with h8 | h8
          · exact hp.2.1 z h8
          · rw [List.mem_singleton.mp h8]
            show (kH k).size ≤ am_adr k a b
            rw [am_adr_pos h2]
            omega
      · omega
    · exact absurd ha.1 id
  · exact absurd ha.1 id
/-- a kind's constant into an array of kinds -/
def i_aastK (nx : Nat) : Ins := fun fr h => match fr.2.2 with
  | Sum.inr (Sum.inl (0, b')) :: Sum.inl i :: Sum.inr (Sum.inl (a, b)) :: st => (match hS h a b with
    | some (Sum.inl (6, n, _)) => goC (vp_in i n ∧ 3 ≤ b' ∧ b' < 8) nx fr.2.1 st (h.1, h.2.1, upI (hI h) a b i.toNatClampNeg (nI (b' - 2)), h.2.2.2)
    | _ => stuck)
  | _ => stuck
theorem am_kv_nI {b : Nat} (h : 3 ≤ b) (h2 : b < 8) : am_kv (nI (b - 2)) = aR 0 b := by
  have hb : b = 3 ∨ b = 4 ∨ b = 5 ∨ b = 6 ∨ b = 7 := by omega
  rcases hb with rfl | rfl | rfl | rfl | rfl <;> (unfold am_kv; rw [if_neg (by decide)]; rfl)
theorem s_aastK {y pc nx : Nat} (hd : decode (am_mi y).2.1 pc = .ok (.aastore, 1)) (hn : pc + 1 = nx) : Snd y pc (i_aastK nx) := by
  subst hn
  intro x C fr h hpc ha
  obtain ⟨pc', ls, st⟩ := fr
  obtain rfl : pc' = pc := hpc
  unfold i_aastK at ha ⊢
  dsimp only at ha ⊢
  split at ha
  · rename_i b' i a b st'
    split at ha
    · rename_i n g hSe
      refine ⟨⟨Nat.le_refl _, Nat.le_refl _⟩, fun _ _ K H locs cells slots lsC hp => ?_⟩
      obtain ⟨hin, hb3, hb8⟩ := ha.1
      have hlt : i.toNatClampNeg < n := Nat.not_le.mp fun q => hin (Or.inr q)
      have h0 : ¬ i < 0 := fun q => hin (Or.inl q)
      obtain ⟨k, o, hE, ⟨d, n0, sl0⟩, p, l, e, R, s, m, args, below, meth, c⟩ := x
      rcases am_arr C.2.2.1 hp.1 hSe with ⟨h1, h2, h3, h4⟩ | ⟨h1, -⟩
      · obtain ⟨kA, comp, k1, k2, k3, k4⟩ := (C.2.2.1.2.1 6 (by omega)).2
        have hw := C.2.2.1.2.2.1 b'
        have hO : va_O "SmokeRelay$Kind" (k.2.1 b') (frA k) s (kH k) := by
          have hb : b' = 3 ∨ b' = 4 ∨ b' = 5 ∨ b' = 6 ∨ b' = 7 := by omega
          rcases hb with rfl | rfl | rfl | rfl | rfl <;> exact hw.2.1
        obtain ⟨cellV, g1, g2, g3, g4⟩ := hO
        have hltb : k.2.1 b' < (kH k).size := (Array.getElem?_eq_some_iff.mp g1).1
        have g1' : H[am_adr k 0 b']? = some cellV := (hp.1.2.1 _ hltb).trans g1
        have hcc : cellV.cls = comp := Option.some.inj (g3.symm.trans k3)
        obtain ⟨kC, hkC, -⟩ := Vm.findClass_spec k3
        refine W.aast C.1.1 C.1.2.1 h3 (fun q h => by cases h) (fun h => by cases h) k1 k2 rfl hkC ⟨h0, by rw [arrV_size]; exact hlt⟩ g1' (fun q h => by rw [h] at g2; cases g2) (by rw [hcc]; exact hkC) (by rw [hcc]; exact am_asg _ _) rfl rfl hd fun H' e1 e2 e3 => ?_
        refine K H' _ cells slots lsC ⟨?_, ?_, hp.2.2.1, hp.2.2.2.1, hp.2.2.2.2⟩
        · refine hp.1.upd h2 (by rw [hSe]; exact fun z => by cases z) e2 e3 rfl (fun _ _ _ => rfl) (fun _ _ _ z => upI_ne z) (fun _ _ _ _ => rfl) (fun _ _ _ _ => rfl) ?_
          show am_cell _ _ a b (hS h a b) H'
          rw [hSe]
          refine ⟨h1, ?_⟩
          rw [e1, arrV_store]
          congr 2
          funext j
          show updV _ _ _ j = am_cv k (am_kv (upI (hI h) a b i.toNatClampNeg (nI (b' - 2)) a b j))
          unfold updV upI
          by_cases hj : j = i.toNatClampNeg
          · subst hj
            rw [if_pos rfl, if_pos ⟨rfl, rfl, rfl⟩, am_kv_nI hb3 hb8]
            rfl
          · rw [if_neg hj, if_neg (fun q => hj q.2.2)]
            rfl
        · intro z hz
          rcases List.mem_append.mp hz with h8 | h8
          · exact hp.2.1 z h8
          · rw [List.mem_singleton.mp h8]
            show (kH k).size ≤ am_adr k a b
            rw [am_adr_pos h2]
            omega
      · omega
    · exact absurd ha.1 id
  · exact absurd ha.1 id
/-! new objects -/
def i_new (c N : Nat) (fs : List AV) (nx : Nat) : Ins := fun fr h => go nx fr.2.1 (Sum.inr (Sum.inl (am_al (hN h))) :: fr.2.2)
  (upS (hS h) (am_al (hN h)).1 (am_al (hN h)).2 (some (Sum.inr (c, fs))), (hN h + 1, hL h + N), upA (hI h) (am_al (hN h)).1 (am_al (hN h)).2 (fun _ => 0), h.2.2.2)
theorem am_adr_al (k : C0) (n : Nat) : am_adr k (am_al n).1 (am_al n).2 = (kH k).size + n := by
  rw [am_adr_pos (am_al_pos n), am_ix_al]
theorem s_new {y pc nx c index N : Nat} {fs : List AV} {q : vw_C} (hd : decode (am_mi y).2.1 pc = .ok (.new index, 3)) (hc : am_cl[c]? = some q) (hN' : q.2.2 = N) (hlen : fs.length = N) (hw : Cond.classLink (am_mi y).1.cls index q.1 ∈ lw_tbl) (hi : Cond.instantiable q.1 N ∈ lw_tbl) (hz : Cond.initialized q.1 ∈ lw_tbl)
    (hfs : ∀ k : C0, ∀ j, j < N → defaultValue (am_ft c j) = am_cv k (match fs.getD j aN with | Sum.inl _ => aI 0 | v => v)) (hn : pc + 3 = nx) : Snd y pc (i_new c N fs nx) := by
  subst hn
  subst hN'
  intro x C fr h hpc ha
  obtain ⟨pc', ls, st⟩ := fr
  obtain rfl : pc' = pc := hpc
  refine ⟨⟨Nat.le_succ _, Nat.le_add_right _ _⟩, fun hm1 hm2 K H locs cells slots lsC hp => ?_⟩
  have hw := C.wa hw rfl
  have hi := C.wa hi rfl
  have hz := C.wa hz rfl
  obtain ⟨k, o, hE, ⟨d, n0, sl0⟩, p, l, e, R, s, m, args, below, meth, co⟩ := x
  have hkn := C.2.2.1.1 c _ hc
  have hm1' : hN h + 1 ≤ hN hE := hm1
  have hm2' : hL h + q.2.2 ≤ hL hE := hm2
  have hr1 := C.2.2.2.2.1.2.2.1
  have hr2 := C.2.2.2.2.1.2.2.2
  have hq1 : cells + n0 = hN h := hp.2.2.1
  have hq2 : slots + sl0 = hL h := hp.2.2.2.1
  refine W.newcK C.1.1 C.1.2.1 C.1.2.2.2.1 hw hi hz rfl hd (by omega) (by omega) hkn.2.1 rfl fun H' kC hkC e1 z1 o1 => ?_
  have eadr : am_adr k (am_al (hN h)).1 (am_al (hN h)).2 = H.size := by rw [am_adr_al, hp.1.1]
  have K2 := K H' locs (cells + 1) (slots + q.2.2) lsC ⟨?_, hp.2.1, by show cells + 1 + n0 = hN h + 1; omega, by show slots + q.2.2 + sl0 = hL h + q.2.2; omega, hp.2.2.2.2⟩
  · have K3 : WX (k, o, hE, (d, n0, sl0), p, l, e, R, s, m, args, below, meth, co) H' locs (cells + 1) (slots + q.2.2) (F0 m (pc' + 3) lsC (.ref (am_adr k (am_al (hN h)).1 (am_al (hN h)).2) :: st.map (am_cv k))) := K2
    rw [eadr] at K3
    exact K3
  · refine hp.1.new (a := (am_al (hN h)).1) (b := (am_al (hN h)).2) rfl z1 o1 rfl (fun _ _ z => upS_ne z) (fun _ _ _ z => congrFun (upA_ne z) _) (fun _ _ _ _ => rfl) (fun _ _ _ _ => rfl) ?_
    show am_cell _ _ _ _ (upS (hS h) _ _ _ _ _) H'
    rw [upS_self]
    refine ⟨q, hc, hlen, ?_⟩
    rw [← eadr] at e1
    refine (u_born (am_ft c) C.2.1 (am_uws c _ hc) hkn hkC e1 (am_ft_ok c _ hc)).to (fun j hj => ?_)
    rw [hfs k j hj]
    unfold am_fld
    rcases fs.getD j aN with w | w
    · show am_cv k (aI 0) = am_cv k (aI (upA (hI h) _ _ (fun _ => 0) _ _ j))
      rw [upA_self]
    · rfl
/-! new arrays -/
def i_newaI (t N nx : Nat) : Ins := fun fr h => match fr.2.2 with
  | Sum.inl v :: st => goC (v = nI N) nx fr.2.1 (Sum.inr (Sum.inl (am_al (hN h))) :: st)
    (upS (hS h) (am_al (hN h)).1 (am_al (hN h)).2 (some (Sum.inl (t, N, fun _ => aN))), (hN h + 1, hL h + N), upA (hI h) (am_al (hN h)).1 (am_al (hN h)).2 (fun _ => 0), h.2.2.2)
  | _ => stuck
def i_newaJ (N nx : Nat) : Ins := fun fr h => match fr.2.2 with
  | Sum.inl v :: st => goC (v = nI N) nx fr.2.1 (Sum.inr (Sum.inl (am_al (hN h))) :: st)
    (upS (hS h) (am_al (hN h)).1 (am_al (hN h)).2 (some (Sum.inl (2, N, fun _ => aN))), (hN h + 1, hL h + N), hI h, upA (hJ h) (am_al (hN h)).1 (am_al (hN h)).2 (fun _ => 0), hD h)
  | _ => stuck
/-- the world behind a new array -/
theorem am_newarr {x : CX} {y pc N t : Nat} {atype : ArrayType} (C : CT x y) (hd : decode (am_mi y).2.1 pc = .ok (.newarray atype, 2)) (ht : newarray.typeOf atype = am_ty t) (ht7 : t < 8) (hprim : ∀ C, am_ty t ≠ .object C) (hN' : N < 2 ^ 31 ∧ N * componentBytes (newarray.typeOf atype) ≤ 536870912) (hw : (Cond.arrayClass (newarray.typeOf atype)).before x.2.2.2.2.2.2.2.2.2.2.1 (xS x) = true)
    {h : AH} {H : Heap} {locs : List Loc} {cells slots : Nat} {lsC : Array Slot} {rest : List Value} {ls : List (Option AV)} (hp : PT x y ls h H locs cells slots lsC) (hm1 : hN h + 1 ≤ hN x.2.2.1) (hm2 : hL h + N ≤ hL x.2.2.1)
    (K : ∀ H' : Heap, H'.size = H.size + 1 → (∀ q, q < H.size → H'[q]? = H[q]?) → H'[am_adr (xK x) (am_al (hN h)).1 (am_al (hN h)).2]? = some (arrV ((xK x).2.2.2.2.1 t) N (fun _ => defaultValue (am_ty t))) → WX x H' locs (cells + 1) (slots + N) (F0 (xM x) (pc + 2) lsC (.ref (am_adr (xK x) (am_al (hN h)).1 (am_al (hN h)).2) :: rest))) :
    WX x H locs cells slots (F0 (xM x) pc lsC (.int (nI N) :: rest)) := by
  obtain ⟨k, o, hE, ⟨d, n0, sl0⟩, p, l, e, R, s, m, args, below, meth, co⟩ := x
  have hr1 := C.2.2.2.2.1.2.2.1
  have hr2 := C.2.2.2.2.1.2.2.2
  have hq1 : cells + n0 = hN h := hp.2.2.1
  have hq2 : slots + sl0 = hL h := hp.2.2.2.1
  have hm1' : hN h + 1 ≤ hN hE := hm1
  have hm2' : hL h + N ≤ hL hE := hm2
  refine va_newaK C.1.1 C.1.2.1 hw rfl hd rfl (nI_pos hN'.1) (nI_clamp hN'.1) hN'.2 (by omega) (by omega) rfl fun H' cA e1 z1 o1 hAr hNm => ?_
  have eadr : am_adr k (am_al (hN h)).1 (am_al (hN h)).2 = H.size := by rw [am_adr_al, hp.1.1]
  have hcA : cA = k.2.2.2.2.1 t := by
    have h1 := (C.2.2.1.2.1 t ht7).2
    rw [ht] at hNm
    revert h1 hNm
    generalize hg : am_ty t = ty
    intro h1 hNm
    cases ty with
    | object C => exact absurd hg (hprim C)
    | _ => first | exact Option.some.inj (hNm.symm.trans h1) | exact Option.some.inj (h1.symm.trans hNm) | exact (Option.some.inj (h1.symm.trans hNm)).symm
  rw [ht, hcA, ← eadr] at e1
  have K2 := K H' z1 o1 e1
  dsimp only [xK, xM] at K2
  rw [eadr] at K2
  exact K2
theorem s_newaI {y pc nx N t : Nat} {atype : ArrayType} (hd : decode (am_mi y).2.1 pc = .ok (.newarray atype, 2)) (ht : newarray.typeOf atype = am_ty t) (ht2 : t = 0 ∨ t = 1) (hN' : N < 2 ^ 31 ∧ N * componentBytes (newarray.typeOf atype) ≤ 536870912) (hw : Cond.arrayClass (newarray.typeOf atype) ∈ lw_tbl) (hn : pc + 2 = nx) : Snd y pc (i_newaI t N nx) := by
  subst hn
  intro x C fr h hpc ha
  obtain ⟨pc', ls, st⟩ := fr
  obtain rfl : pc' = pc := hpc
  unfold i_newaI at ha ⊢
  dsimp only at ha ⊢
  split at ha
  · rename_i v st'
    obtain rfl : v = nI N := ha.1
    refine ⟨⟨Nat.le_succ _, Nat.le_add_right _ _⟩, fun hm1 hm2 K H locs cells slots lsC hp => ?_⟩
    refine am_newarr C hd ht (by omega) (by rcases ht2 with rfl | rfl <;> exact fun C z => by cases z) hN' (C.wa hw rfl) hp hm1 hm2 fun H' z1 o1 e1 => ?_
    refine K H' locs (cells + 1) (slots + N) lsC ⟨?_, hp.2.1, ?_, ?_, hp.2.2.2.2⟩
    · refine hp.1.new (a := (am_al (hN h)).1) (b := (am_al (hN h)).2) rfl z1 o1 rfl (fun _ _ z => upS_ne z) (fun _ _ _ z => congrFun (upA_ne z) _) (fun _ _ _ _ => rfl) (fun _ _ _ _ => rfl) ?_
      show am_cell _ _ _ _ (upS (hS h) _ _ _ _ _) H'
      rw [upS_self]
      refine ⟨by omega, ?_⟩
      rw [e1]
      congr 2
      funext j
      rcases ht2 with rfl | rfl
      · show Value.int 0 = .int (upA (hI h) _ _ (fun _ => 0) _ _ j)
        rw [upA_self]
      · show Value.int 0 = .int (upA (hI h) _ _ (fun _ => 0) _ _ j)
        rw [upA_self]
    · have := hp.2.2.1
      show cells + 1 + _ = hN h + 1
      omega
    · have := hp.2.2.2.1
      show slots + N + _ = hL h + N
      omega
  · exact absurd ha.1 id
/-- a new array of bytes, of any small length -/
def i_newaB (nx : Nat) : Ins := fun fr h => match fr.2.2 with
  | Sum.inl v :: st => goC (v = nI v.toNatClampNeg ∧ v.toNatClampNeg < 65536) nx fr.2.1 (Sum.inr (Sum.inl (am_al (hN h))) :: st)
    (upS (hS h) (am_al (hN h)).1 (am_al (hN h)).2 (some (Sum.inl (7, v.toNatClampNeg, fun _ => aN))), (hN h + 1, hL h + v.toNatClampNeg), upA (hI h) (am_al (hN h)).1 (am_al (hN h)).2 (fun _ => 0), h.2.2.2)
  | _ => stuck
theorem s_newaB {y pc nx : Nat} {atype : ArrayType} (hd : decode (am_mi y).2.1 pc = .ok (.newarray atype, 2)) (ht : newarray.typeOf atype = .byte) (hw : Cond.arrayClass (newarray.typeOf atype) ∈ lw_tbl) (hn : pc + 2 = nx) : Snd y pc (i_newaB nx) := by
  subst hn
  intro x C fr h hpc ha
  obtain ⟨pc', ls, st⟩ := fr
  obtain rfl : pc' = pc := hpc
  unfold i_newaB at ha ⊢
  dsimp only at ha ⊢
  split at ha
  · rename_i v st'
    obtain ⟨hv, hsm⟩ := ha.1
    generalize hN0 : v.toNatClampNeg = N at hv hsm ⊢
    subst hv
    refine ⟨⟨Nat.le_succ _, Nat.le_add_right _ _⟩, fun hm1 hm2 K H locs cells slots lsC hp => ?_⟩
    refine am_newarr (t := 7) C hd ht (by omega) (fun C z => by cases z) ⟨by omega, by rw [ht]; show N * 1 ≤ _; omega⟩ (C.wa hw rfl) hp hm1 hm2 fun H' z1 o1 e1 => ?_
    refine K H' locs (cells + 1) (slots + N) lsC ⟨?_, hp.2.1, ?_, ?_, hp.2.2.2.2⟩
    · refine hp.1.new (a := (am_al (hN h)).1) (b := (am_al (hN h)).2) rfl z1 o1 rfl (fun _ _ z => upS_ne z) (fun _ _ _ z => congrFun (upA_ne z) _) (fun _ _ _ _ => rfl) (fun _ _ _ _ => rfl) ?_
      show am_cell _ _ _ _ (upS (hS h) _ _ _ _ _) H'
      rw [upS_self]
      refine ⟨by omega, ?_⟩
      rw [e1]
      congr 2
      funext j
      show Value.int 0 = .int (upA (hI h) _ _ (fun _ => 0) _ _ j)
      rw [upA_self]
    · have := hp.2.2.1
      show cells + 1 + _ = hN h + 1
      omega
    · have := hp.2.2.2.1
      show slots + N + _ = hL h + N
      omega
  · exact absurd ha.1 id
theorem s_newaJ {y pc nx N : Nat} {atype : ArrayType} (hd : decode (am_mi y).2.1 pc = .ok (.newarray atype, 2)) (ht : newarray.typeOf atype = .long) (hN' : N < 2 ^ 31 ∧ N * componentBytes (newarray.typeOf atype) ≤ 536870912) (hw : Cond.arrayClass (newarray.typeOf atype) ∈ lw_tbl) (hn : pc + 2 = nx) : Snd y pc (i_newaJ N nx) := by
  subst hn
  intro x C fr h hpc ha
  obtain ⟨pc', ls, st⟩ := fr
  obtain rfl : pc' = pc := hpc
  unfold i_newaJ at ha ⊢
  dsimp only at ha ⊢
  split at ha
  · rename_i v st'
    obtain rfl : v = nI N := ha.1
    refine ⟨⟨Nat.le_succ _, Nat.le_add_right _ _⟩, fun hm1 hm2 K H locs cells slots lsC hp => ?_⟩
    refine am_newarr (t := 2) C hd ht (by omega) (fun C z => by cases z) hN' (C.wa hw rfl) hp hm1 hm2 fun H' z1 o1 e1 => ?_
    refine K H' locs (cells + 1) (slots + N) lsC ⟨?_, hp.2.1, ?_, ?_, hp.2.2.2.2⟩
    · refine hp.1.new (a := (am_al (hN h)).1) (b := (am_al (hN h)).2) rfl z1 o1 rfl (fun _ _ z => upS_ne z) (fun _ _ _ _ => rfl) (fun _ _ _ z => congrFun (upA_ne z) _) (fun _ _ _ _ => rfl) ?_
      show am_cell _ _ _ _ (upS (hS h) _ _ _ _ _) H'
      rw [upS_self]
      refine ⟨by omega, ?_⟩
      rw [e1]
      congr 2
      funext j
      show Value.long 0 = .long (upA (hJ h) _ _ (fun _ => 0) _ _ j)
      rw [upA_self]
    · have := hp.2.2.1
      show cells + 1 + _ = hN h + 1
      omega
    · have := hp.2.2.2.1
      show slots + N + _ = hL h + N
      omega
  · exact absurd ha.1 id
