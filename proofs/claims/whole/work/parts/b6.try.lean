/-! the class tries a command -/
section
variable {d y pc nx : Nat} {ls : List (Option AV)} {st : List AV} {q : QQ} {V : VV}
theorem k_aaldN {b n : Nat} {g : Nat → AV} {e : Int} {a : Nat} {v : AV} (hcd : am_cd y pc = i_aald nx) (hS : am_S0 q.1.1 q.1.2 a b = some (Sum.inl (6, n, g))) (hn : n < 2147483648) (he : 0 ≤ e ∧ e < (n : Int)) (hg : am_kv (iI (V a b e)) = v) : RUN d y (pc, ls, aI (iI e) :: aR a b :: st) (HM q V) = RUN d y (nx, ls, v :: st) (HM q V) := by
  refine RUN_gi hcd (cs := [vp_in (iI e) n]) ?_ ⟨iI_in he hn, trivial⟩
  show (match am_S0 q.1.1 q.1.2 a b with
    | some (Sum.inl (4, n, g)) => goC (vp_in (iI e) n) nx ls (g (iI e).toNatClampNeg :: st) (HM q V)
    | some (Sum.inl (5, n, g)) => goC (vp_in (iI e) n) nx ls (g (iI e).toNatClampNeg :: st) (HM q V)
    | some (Sum.inl (6, n, g)) => goC (vp_in (iI e) n) nx ls (am_kv (lft V a b (iI e).toNatClampNeg) :: st) (HM q V)
    | some (Sum.inl (8, n, g)) => goC (vp_in (iI e) n) nx ls (g (iI e).toNatClampNeg :: st) (HM q V)
    | _ => stuck) = _
  rw [hS]
  try dsimp only
  rw [lft_at V a b he.1 (by omega), hg]
  try rfl
theorem k_ord {b : Nat} {v : Int32} {w : AV} (n : Int) (hcd : am_cd y pc = i_ord nx) (hS : am_PS q.1.1 q.1.2 b = some (Sum.inr (90, [aI v, w]))) (hs : Nat.ble st.length 4 = true) (hv : v = iI n) : RUN d y (pc, ls, aR 0 b :: st) (HM q V) = RUN d y (nx, ls, aI (iI n) :: st) (HM q V) := by
  subst hv
  refine RUN_gi hcd (cs := [(90 : Nat) = 90 ∧ Nat.ble st.length 4 = true]) ?_ ⟨⟨rfl, hs⟩, trivial⟩
  show (match am_PS q.1.1 q.1.2 b with
    | some (Sum.inr (c', fs)) => (match fs.getD 0 aN with
      | Sum.inl v => goC (c' = 90 ∧ Nat.ble st.length 4 = true) nx ls (aI v :: st) (HM q V)
      | _ => stuck)
    | _ => stuck) = _
  rw [hS]
  rfl
/-- a table of numbers that is there from the start -/
theorem k_ialdK {b n : Nat} {g : Nat → AV} {e : Int} {v : Int32} (z : Int) (hcd : am_cd y pc = i_iald nx) (hS : am_PS q.1.1 q.1.2 b = some (Sum.inl (9, n, g))) (hn : n < 2147483648) (he : 0 ≤ e ∧ e < (n : Int)) (hg : g e.toNat = aI v) (hv : v = iI z) : RUN d y (pc, ls, aI (iI e) :: aR 0 b :: st) (HM q V) = RUN d y (nx, ls, aI (iI z) :: st) (HM q V) := by
  subst hv
  refine RUN_gi hcd (cs := [vp_in (iI e) n]) ?_ ⟨iI_in he hn, trivial⟩
  show (match am_PS q.1.1 q.1.2 b with
    | some (Sum.inl (0, n, g)) => goC (vp_in (iI e) n) nx ls (aI (lft V 0 b (iI e).toNatClampNeg) :: st) (HM q V)
    | some (Sum.inl (9, n, g)) => goC (vp_in (iI e) n) nx ls (g (iI e).toNatClampNeg :: st) (HM q V)
    | _ => stuck) = _
  rw [hS, iI_nat (by omega)]
  exact congrArg (fun v => goC (vp_in (iI e) n) nx ls (v :: st) (HM q V)) hg
end
section
variable {d : Nat} {q : QQ} {V : VV} {i n : Int}
theorem s_192 {b : Nat} (hi : 0 ≤ i ∧ i < 10) (hb : am_kv (iI (V 29 0 i)) = aR 0 b) : RUN d 192 (am_en 192 [aR 27 0, aI (iI i)]) (HM q V) = some (Sum.inl (some (aR 0 b)), HM q V) := by
  refine (show RUN d 192 (0, [sR 27 0, sI i], []) (HM q V) = _ from Eq.trans (k_iload rfl rfl) (Eq.trans (Eq.trans (k_ifc (i < 0) rfl (iI_lt0 (by constructor <;> omega))) (cif_neg (by omega))) (Eq.trans (k_iload rfl rfl) (Eq.trans (k_pushi 10 rfl rfl) (Eq.trans (Eq.trans (k_icmpc (10 ≤ i) rfl (iI_le (by decide) (by constructor <;> omega))) (cif_neg (by omega))) (Eq.trans (k_aload rfl rfl) (Eq.trans (k_getfr rfl rfl rfl) (Eq.trans (k_iload rfl rfl) (Eq.trans (k_aaldN (n := 10) rfl rfl (by decide) (by omega) hb) (Eq.trans (k_goto rfl) (k_aret rfl rfl)))))))))))
theorem s_193 {j : Int} (hi : 0 ≤ i ∧ i < 10) (hj : 0 ≤ j ∧ j < 3) : RUN d 193 (am_en 193 [aR 27 0, aI (iI i), aI (iI j)]) (HM q V) = rI (V 30 0 (i * 3 + j)) (HM q V) := by
  refine (show RUN d 193 (0, [sR 27 0, sI i, sI j, none], []) (HM q V) = _ from Eq.trans (k_iload rfl rfl) (Eq.trans (k_pushi 3 rfl rfl) (Eq.trans (k_bin rfl (iI_mul _ _)) (Eq.trans (k_iload rfl rfl) (Eq.trans (k_bin rfl (iI_add _ _)) (Eq.trans (k_store rfl) (Eq.trans (k_iload rfl rfl) (Eq.trans (Eq.trans (k_ifc (i * 3 + j < 0) rfl (iI_lt0 (by constructor <;> omega))) (cif_neg (by omega))) (Eq.trans (k_iload rfl rfl) (Eq.trans (k_aload rfl rfl) (Eq.trans (k_getfr rfl rfl rfl) (Eq.trans (k_alen rfl rfl) (Eq.trans (Eq.trans (k_icmpc (30 ≤ i * 3 + j) rfl (iI_le (by decide) (by constructor <;> omega))) (cif_neg (by omega))) (Eq.trans (k_aload rfl rfl) (Eq.trans (k_getfr rfl rfl rfl) (Eq.trans (k_iload rfl rfl) (Eq.trans (k_iald rfl rfl rfl (by omega)) (Eq.trans (k_goto rfl) (k_iret rfl trivial)))))))))))))))))))
/-- up to the switch over the kinds -/
theorem try_head {b : Nat} {o z : Int} {v : Int32} {w : AV} {n : Nat} (hi : 0 ≤ i ∧ i < 10) (hb : am_kv (iI (V 29 0 i)) = aR 0 b) (hS : am_PS q.1.1 q.1.2 b = some (Sum.inr (90, [aI v, w]))) (hv : v = iI o) (ho : 0 ≤ o ∧ o < 5) (hz : nI (cond (Nat.beq o.toNat 4) 0 (o.toNat + 1)) = iI z) (hn : am_tsw 1 4 [84, 92, 102, 110] 120 (iI z) = n) :
    RUN (d + 1) 191 (am_en 191 [aR 1 0, aI (iI i)]) (HM q V) = RUN (d + 1) 191 (n, [sR 1 0, sI i, sR 0 b, sI (V 30 0 (i * 3 + 0)), sI (V 30 0 (i * 3 + 1)), sI (V 30 0 (i * 3 + 2))], []) (HM q V) := by
  refine (show RUN (d + 1) 191 (0, [sR 1 0, sI i, none, none, none, none], []) (HM q V) = _ from Eq.trans (k_aload rfl rfl) (Eq.trans (k_getfr rfl rfl rfl) (Eq.trans (k_iload rfl rfl) (Eq.trans (RUN_ci rfl rfl rfl (s_192 hi hb) (qle_refl _)) (Eq.trans (k_astore rfl) (Eq.trans (k_aload rfl rfl) (Eq.trans (k_ifnonnull rfl) ?_)))))))
  refine Eq.trans (k_aload rfl rfl) (Eq.trans (k_getfr rfl rfl rfl) (Eq.trans (k_iload rfl rfl) (Eq.trans (k_pushi 0 rfl rfl) (Eq.trans (RUN_ci rfl rfl rfl (s_193 hi (by decide)) (qle_refl _)) (Eq.trans (k_store rfl) ?_)))))
  refine Eq.trans (k_aload rfl rfl) (Eq.trans (k_getfr rfl rfl rfl) (Eq.trans (k_iload rfl rfl) (Eq.trans (k_pushi 1 rfl rfl) (Eq.trans (RUN_ci rfl rfl rfl (s_193 hi (by decide)) (qle_refl _)) (Eq.trans (k_store rfl) ?_)))))
  refine Eq.trans (k_aload rfl rfl) (Eq.trans (k_getfr rfl rfl rfl) (Eq.trans (k_iload rfl rfl) (Eq.trans (k_pushi 2 rfl rfl) (Eq.trans (RUN_ci rfl rfl rfl (s_193 hi (by decide)) (qle_refl _)) (Eq.trans (k_store rfl) ?_)))))
  refine Eq.trans (k_push rfl) (Eq.trans (k_aload rfl rfl) (Eq.trans (k_ord o rfl hS rfl hv) (Eq.trans (k_ialdK (n := 5) z rfl rfl (by decide) (by omega) (v := nI (cond (Nat.beq o.toNat 4) 0 (o.toNat + 1))) rfl hz) (k_tsw rfl hn))))
end
