/-! the model's nearest letter; what its towers send -/
theorem nrS_b (k : Nat) : ∀ i : Nat, i ≤ 16 → nrS k i < 16 := by
  intro i
  induction i with
  | zero => intro _; exact (by decide : 0 < 16)
  | succ i ih =>
    intro h
    show (if dN k i < dN k (nrS k i) then i else nrS k i) < 16
    have := ih (by omega)
    split <;> omega
theorem s_265 {d : Nat} {q : QQ} {V : VV} {x0 : Int} (p : 0 ≤ x0 ∧ x0 < 256) : RUN (d + 2) 265 (am_en 265 [aI (iI x0)]) (HM q V) = rI (97 + nrV x0) (HM q V) := by
  rw [g_265_0 p]
  obtain ⟨_, e⟩ := loop_to (fun i s (_ : Unit) => RUN (d + 2) 265 (6, [sI x0, sI s, sI i], []) (HM q V)) (fun i => 97 + ((nrS x0.toNat (i - 97).toNat : Nat) : Int)) 97 113 (by
    intro i l h1 h2
    refine ⟨(), ?_⟩
    try dsimp only
    obtain ⟨k, rfl⟩ : ∃ k : Nat, i = 97 + k := ⟨(i - 97).toNat, by omega⟩
    have e1 : ((97 : Int) + k - 97).toNat = k := by omega
    have e2 : ((97 : Int) + k + 1 - 97).toNat = k + 1 := by omega
    have e3 : (97 : Int) + k - 97 = k := by omega
    rw [e1, e2]
    have hb := nrS_b x0.toNat k (by omega)
    have e4 : (97 : Int) + ((nrS x0.toNat k : Nat) : Int) - 97 = ((nrS x0.toNat k : Nat) : Int) := by omega
    have e0 := g_265_6 (d := d) (q := q) (V := V) (x1 := 97 + ((nrS x0.toNat k : Nat) : Int)) (x2 := 97 + (k : Int)) p (by omega) (by omega) (fun _ => bx_b (patT_b (by omega)) p) (fun _ => bx_b (patT_b (by omega)) p)
    rw [e0, cif_neg (by omega), e3, e4, popF_xor p (by omega), popF_xor p (by omega)]
    show cif (((dN x0.toNat (nrS x0.toNat k) : Nat) : Int) ≤ ((dN x0.toNat k : Nat) : Int)) _ _ = _
    have eS : nrS x0.toNat (k + 1) = if dN x0.toNat k < dN x0.toNat (nrS x0.toNat k) then k else nrS x0.toNat k := rfl
    rw [eS]
    refine cif_eq (fun c => ?_) (fun c => ?_)
    · rw [if_neg (by omega)]
    · rw [if_pos (by omega)]) (by decide) ()
  try dsimp only at e
  refine Eq.trans e ?_
  have e5 : ((113 : Int) - 97).toNat = 16 := by decide
  rw [e5]
  have hb := nrS_b x0.toNat 16 (by decide)
  rw [g_265_6 p (by decide) (by omega) (fun z => absurd (by decide) z) (fun z => absurd (by decide) z), cif_pos (by decide)]
  rfl
theorem s_264 {d : Nat} {q : QQ} {V : VV} {x0 : Int} (p : 0 ≤ x0 ∧ x0 < 256) : RUN (d + 3) 264 (am_en 264 [aI (iI x0)]) (HM q V) = rI (nrD x0) (HM q V) := by
  have hb := nrV_b p
  have e4 : 97 + nrV x0 - 97 = nrV x0 := by omega
  have e : popF (bXor (patT (97 + nrV x0 - 97)) x0) = nrD x0 := by
    rw [e4, popF_xor p hb]
    unfold nrD nrV
    rw [Int.toNat_natCast]
  refine (show RUN (d + 3) 264 (0, [sI x0], []) (HM q V) = _ from Eq.trans (k_iload rfl rfl) (Eq.trans (RUN_ci rfl rfl rfl (s_265 p) (qle_refl _)) (Eq.trans (RUN_ci rfl rfl rfl (s_262 (by omega)) (qle_refl _)) (Eq.trans (k_iload rfl rfl) (Eq.trans (k_bin (c := bXor (patT (97 + nrV x0 - 97)) x0) rfl (iI_of _).symm) (Eq.trans (RUN_ci rfl rfl rfl (s_245 (bx_b (patT_b (by omega)) p)) (qle_refl _)) (k_iret rfl trivial))))))).trans ?_
  rw [e]
theorem xor_two : ∀ a : Nat, a < 8 → bXor (bShl 1 (a : Int)) (bShl 1 (((a : Int) + 3) % 8)) = bOr (bShl 1 (a : Int)) (bShl 1 (((a : Int) + 3) % 8)) := by decide +kernel
theorem bXor_assoc (a b c : Int) : bXor (bXor a b) c = bXor a (bXor b c) := by
  refine bv_inj (bXor_R _ _) (bXor_R _ _) ?_
  rw [bv_xor, bv_xor, bv_xor, bv_xor, BitVec.xor_assoc]
theorem bXor_0 {a : Int} (h : R32 a) : bXor a 0 = a := by
  refine bv_inj (bXor_R _ _) h ?_
  rw [bv_xor, show bv 0 = 0#32 from by decide, BitVec.xor_zero]
theorem s_269 {d : Nat} {q : QQ} {V U : VV} {x1 x2 : Int} (rk : rowok U) (mr : MR V U) (p3 : 0 ≤ x1 ∧ x1 < 8) (p4 : 97 ≤ x2 ∧ x2 < 113) : RUN (d + 2) 269 (am_en 269 [aR 33 0, aI (iI x1), aI (iI x2)]) (HM q V) = rI (sigN (U 6 0 x1) (U 7 0 x1) x2) (HM q V) := by
  have hp := patT_b (x := x2 - 97) (by omega)
  have hc := rk_7 rk p3
  have r0 : patT (x2 - 97) = bXor (patT (x2 - 97)) 0 := (bXor_0 (by constructor <;> omega)).symm
  rw [e_269 rk mr p3 p4]
  unfold sigN chgF
  refine cif_eq (fun a => ?_) (fun a => ?_)
  · rw [cif_pos a]
    refine cif_eq (fun b => ?_) (fun b => ?_)
    · rw [cif_pos b]
    · rw [cif_neg b, ← r0]
  · rw [cif_neg a]
    refine cif_eq (fun b => ?_) (fun b => ?_)
    · rw [cif_pos b]
    · rw [cif_neg b]
      refine cif_eq (fun e => ?_) (fun e => ?_)
      · rw [cif_pos e]
        refine cif_eq (fun f => ?_) (fun f => ?_)
        · rw [cif_pos f, bXor_assoc]
          have := xor_two (U 7 0 x1 % 8).toNat (by omega)
          rw [show (((U 7 0 x1 % 8).toNat : Nat) : Int) = U 7 0 x1 % 8 by omega, show (U 7 0 x1 % 8 + 3) % 8 = (U 7 0 x1 + 3) % 8 by omega] at this
          rw [this]
        · rw [cif_neg f]
      · rw [cif_neg e, ← r0]
