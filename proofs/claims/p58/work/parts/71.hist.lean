/-! the history keeps a row and gives a row back -/
theorem k_ifnull {d y pc nx tgt a b : Nat} {ls : List (Option AV)} {st : List AV} {h : AH} (hcd : am_cd y pc = i_ifnull tgt nx) : RUN d y (pc, ls, aR a b :: st) h = RUN d y (nx, ls, st) h := RUN_gi hcd rfl trivial
theorem k_ifnonnull {d y pc nx tgt a b : Nat} {ls : List (Option AV)} {st : List AV} {h : AH} (hcd : am_cd y pc = i_ifnonnull tgt nx) : RUN d y (pc, ls, aR a b :: st) h = RUN d y (tgt, ls, st) h := RUN_gi hcd rfl trivial
theorem call54 {q : QQ} {V : VV} {ls : List (Option AV)} {pc r a b : Nat} (hr : r < 11) : i_call 54 1 1 (pc, ls, [aR a b, aR 2 r]) (HM q V) = ([], Sum.inr (Sum.inl (54, [aR 2 r, aR a b], (pc, ls, [])))) := by
  show (match am_S0 q.1.1 q.1.2 2 r with
    | some (Sum.inr (c', _)) => (match Nat.beq c' 1, Nat.ble ([] : List AV).length 4 with
      | true, true => (([], Sum.inr (Sum.inl (54, [aR 2 r, aR a b], (pc, ls, [])))) : _)
      | _, _ => stuck)
    | _ => stuck) = _
  rw [am_S0_2 hr]
  rfl
/-- the history's numbers are within bounds -/
def hisok (V : VV) : Prop := (0 ≤ V 11 0 1 ∧ V 11 0 1 < 8) ∧ (0 ≤ V 11 0 2 ∧ V 11 0 2 ≤ 8)
def keepW (V : VV) (r : Nat) : VV := upV (copyV V ((V 11 0 1).toNat + 3) r) 11 0 1 ((copyV V ((V 11 0 1).toNat + 3) r 11 0 1 + 1) % 8)
/-- the row r was kept -/
def keepV (V : VV) (r : Nat) : VV := upV (keepW V r) 11 0 2 (min (keepW V r 11 0 2 + 1) 8)
theorem s_59 {d : Nat} {q : QQ} {V : VV} {r : Nat} (hr : r < 11) (ho : hisok V) : RUN (d + 1) 59 (am_en 59 [aR 11 0, aR 2 r]) (HM q V) = rV (HM q (keepV V r)) := by
  have h1 := ho.1
  have h2 := ho.2
  have hk : 0 ≤ V 11 0 1 ∧ V 11 0 1 < ((8 : Nat) : Int) := by omega
  have h8 : (V 11 0 1).toNat < 8 := by omega
  have e1 : copyV V ((V 11 0 1).toNat + 3) r 11 0 1 = V 11 0 1 := by rw [copyV_off (by omega)]
  have e2 : keepW V r 11 0 2 = V 11 0 2 := by
    unfold keepW
    rw [upV_at, if_neg (by decide), copyV_off (by omega)]
  show RUN (d + 1) 59 (0, [sR 11 0, sR 2 r, none], []) (HM q V) = _
  refine Eq.trans (k_aload rfl rfl) ?_
  refine Eq.trans (k_getfr rfl rfl rfl) ?_
  refine Eq.trans (k_aload rfl rfl) ?_
  refine Eq.trans (k_getfi 1 rfl rfl rfl rfl) ?_
  refine Eq.trans (k_aald (a' := 2) (b' := (V 11 0 1).toNat + 3) rfl rfl (Or.inl rfl) rfl hk ((if_pos h8).trans (by rw [Nat.add_comm]))) ?_
  refine Eq.trans (k_astore rfl) ?_
  refine Eq.trans (k_aload rfl rfl) ?_
  refine Eq.trans (k_ifnull rfl) ?_
  refine Eq.trans (k_aload rfl rfl) ?_
  refine Eq.trans (k_aload rfl rfl) ?_
  refine Eq.trans (RUN_ci rfl (call54 (by omega)) rfl (s_54 (r := (V 11 0 1).toNat + 3) (s := r) (by omega) hr) (qle_refl _)) ?_
  refine Eq.trans (k_aload rfl rfl) ?_
  refine Eq.trans (k_aload rfl rfl) ?_
  refine Eq.trans (k_getfi 1 rfl rfl rfl rfl) ?_
  refine Eq.trans (k_pushi 1 rfl rfl) ?_
  refine Eq.trans (k_bin rfl (iI_add _ _)) ?_
  refine Eq.trans (k_pushi 8 rfl rfl) ?_
  refine Eq.trans (k_div rfl (iI_rem (a := copyV V ((V 11 0 1).toNat + 3) r 11 0 1 + 1) (b := 8) (by rw [e1]; omega) ⟨by decide, by decide⟩) ⟨by decide, by decide⟩) ?_
  refine Eq.trans (k_putfi 1 rfl rfl rfl rfl trivial) ?_
  refine Eq.trans (k_aload rfl rfl) ?_
  refine Eq.trans (k_aload rfl rfl) ?_
  refine Eq.trans (k_getfi 2 rfl rfl rfl rfl) ?_
  refine Eq.trans (k_pushi 1 rfl rfl) ?_
  refine Eq.trans (k_bin rfl (iI_add _ _)) ?_
  refine Eq.trans (k_pushi 8 rfl rfl) ?_
  refine Eq.trans (k_m2 rfl rfl (iI_min (a := keepW V r 11 0 2 + 1) (b := 8) (by rw [e2]; constructor <;> omega) (by decide))) ?_
  refine Eq.trans (k_putfi 2 rfl rfl rfl rfl trivial) ?_
  exact k_ret rfl
/-- the place of the row that is given back -/
def lastK (V : VV) : Int := (V 11 0 1 + 8 - 1) % 8
def backW (V : VV) : VV := upV (copyV V 0 (3 + (lastK V).toNat)) 11 0 1 (lastK V)
/-- the latest row was given back -/
def backV (V : VV) : VV := upV (backW V) 11 0 2 (backW V 11 0 2 - 1)
theorem s_204 {d : Nat} {q : QQ} {V : VV} (ho : hisok V) : RUN (d + 1) 204 (am_en 204 [aR 11 0, aR 2 0]) (HM q V) = cif (V 11 0 2 = 0) (rI 0 (HM q V)) (rI 1 (HM q (backV V))) := by
  have h1 := ho.1
  have h2 := ho.2
  have hk : 0 ≤ lastK V ∧ lastK V < ((8 : Nat) : Int) := by unfold lastK; omega
  have h8 : (lastK V).toNat < 8 := by omega
  exact (show RUN (d + 1) 204 (0, [sR 11 0, sR 2 0, none, none], []) (HM q V) = _ from Eq.trans (k_aload rfl rfl) (Eq.trans (k_getfi 1 rfl rfl rfl rfl) (Eq.trans (k_pushi 8 rfl rfl) (Eq.trans (k_bin rfl (iI_add _ _)) (Eq.trans (k_pushi 1 rfl rfl) (Eq.trans (k_bin rfl (iI_sub _ _)) (Eq.trans (k_pushi 8 rfl rfl) (Eq.trans (k_div rfl (iI_rem (a := V 11 0 1 + 8 - 1) (b := 8) (by omega) ⟨by decide, by decide⟩) ⟨by decide, by decide⟩) (Eq.trans (k_store rfl) (Eq.trans (k_aload rfl rfl) (Eq.trans (k_getfr rfl rfl rfl) (Eq.trans (k_iload rfl rfl) (Eq.trans (k_aald rfl rfl (Or.inl rfl) rfl hk (if_pos h8)) (Eq.trans (k_astore rfl) (Eq.trans (k_aload rfl rfl) (Eq.trans (k_getfi 2 rfl rfl rfl rfl) (Eq.trans (k_ifc (V 11 0 2 = 0) rfl (iI_eq0 (by constructor <;> omega))) (k_cifs (fun c1 => (Eq.trans (k_pushi 0 rfl rfl) (k_iret rfl (iI_bool (by decide))))) (fun c1 => Eq.trans (k_aload rfl rfl) (Eq.trans (k_ifnonnull rfl) (Eq.trans (k_aload rfl rfl) (Eq.trans (k_aload rfl rfl) (Eq.trans (RUN_ci rfl rfl rfl (s_54 (r := 0) (s := 3 + (lastK V).toNat) (by decide) (by omega)) (qle_refl _)) (Eq.trans (k_aload rfl rfl) (Eq.trans (k_iload rfl rfl) (Eq.trans (k_putfi 1 rfl rfl rfl rfl trivial) (Eq.trans (k_aload rfl rfl) (Eq.trans (k_dupR rfl) (Eq.trans (k_getfi 2 rfl rfl rfl rfl) (Eq.trans (k_pushi 1 rfl rfl) (Eq.trans (k_bin rfl (iI_sub _ _)) (Eq.trans (k_putfi 2 rfl rfl rfl rfl trivial) (Eq.trans (k_pushi 1 rfl rfl) (k_iret rfl (iI_bool (by decide))))))))))))))))))))))))))))))))))))
