/-! the input: values, characters of strings -/
/-- a value was added -/
def valV (V : VV) (x : Int) : VV := upV (upV V 30 0 (V 27 0 6 * 3 + V 27 0 3) x) 27 0 3 (V 27 0 3 + 1)
theorem s_186 {d : Nat} {q : QQ} {V : VV} {x1 : Int} (h : 0 ≤ V 27 0 6 * 3 + V 27 0 3 ∧ V 27 0 6 * 3 + V 27 0 3 < 30) : RUN d 186 (am_en 186 [aR 27 0, aI (iI x1)]) (HM q V) = rI 1 (HM q (valV V x1)) :=
  (e_186 (by constructor <;> omega) (fun _ => h)).trans (cif_pos h.2)
section
variable {d y pc nx : Nat} {ls : List (Option AV)} {st : List AV} {q : QQ} {V : VV}
theorem k_getw {c j b : Nat} {fs : List AV} {v : AV} (hcd : am_cd y pc = i_getw c j nx) (hS : am_PS q.1.1 q.1.2.1 b = some (Sum.inr (c, fs))) (hf : fs.getD j aN = v) : RUN d y (pc, ls, aR 0 b :: st) (HM q V) = RUN d y (nx, ls, v :: st) (HM q V) := by
  refine RUN_gi hcd (cs := []) ?_ trivial
  show (match am_PS q.1.1 q.1.2.1 b with
    | some (Sum.inr (c', fs)) => (match Nat.beq c' c with
      | true => go nx ls (fs.getD j aN :: st) (HM q V)
      | false => stuck)
    | _ => stuck) = _
  rw [hS]
  try dsimp only
  rw [Nat.beq_refl, hf]
theorem k_getwi {c j b : Nat} {fs : List AV} {v : Int32} (n : Int) (hcd : am_cd y pc = i_getw c j nx) (hS : am_PS q.1.1 q.1.2.1 b = some (Sum.inr (c, fs))) (hf : fs.getD j aN = aI v) (hv : v = iI n) : RUN d y (pc, ls, aR 0 b :: st) (HM q V) = RUN d y (nx, ls, aI (iI n) :: st) (HM q V) := by
  subst hv
  exact k_getw hcd hS hf
theorem k_getwS {c j b : Nat} {fs : List AV} {B : Ins} {v : AV} (hcd : am_cd y pc = i_or 0 (i_getw c j nx) B) (hS : am_PS q.1.1 q.1.2.1 b = some (Sum.inr (c, fs))) (hf : fs.getD j aN = v) : RUN d y (pc, ls, aR 0 b :: st) (HM q V) = RUN d y (nx, ls, v :: st) (HM q V) := by
  refine RUN_gi hcd (cs := []) ?_ trivial
  show (match am_PS q.1.1 q.1.2.1 b with
    | some (Sum.inr (c', fs)) => (match Nat.beq c' c with
      | true => go nx ls (fs.getD j aN :: st) (HM q V)
      | false => stuck)
    | _ => stuck) = _
  rw [hS]
  try dsimp only
  rw [Nat.beq_refl, hf]
theorem k_getwiS {c j b : Nat} {fs : List AV} {B : Ins} {v : Int32} (n : Int) (hcd : am_cd y pc = i_or 0 (i_getw c j nx) B) (hS : am_PS q.1.1 q.1.2.1 b = some (Sum.inr (c, fs))) (hf : fs.getD j aN = aI v) (hv : v = iI n) : RUN d y (pc, ls, aR 0 b :: st) (HM q V) = RUN d y (nx, ls, aI (iI n) :: st) (HM q V) := by
  subst hv
  exact k_getwS hcd hS hf
theorem k_alen0 {b t n : Nat} {g : Nat → AV} (hcd : am_cd y pc = i_alen nx) (hS : am_PS q.1.1 q.1.2.1 b = some (Sum.inl (t, n, g))) : RUN d y (pc, ls, aR 0 b :: st) (HM q V) = RUN d y (nx, ls, aI (iI (n : Int)) :: st) (HM q V) := k_alen (a := 0) (b := b) hcd hS
theorem k_bald {b n : Nat} {g : Nat → AV} {e : Int} {z : Int} (hcd : am_cd y pc = i_bald nx) (hS : am_PS q.1.1 q.1.2.1 b = some (Sum.inl (10, n, g))) (hn : n < 2147483648) (he : 0 ≤ e ∧ e < (n : Int)) (hg : g e.toNat = aI (iI z)) : RUN d y (pc, ls, aI (iI e) :: aR 0 b :: st) (HM q V) = RUN d y (nx, ls, aI (iI z) :: st) (HM q V) := by
  refine RUN_gi hcd (cs := [vp_in (iI e) n]) ?_ ⟨iI_in he hn, trivial⟩
  show (match am_PS q.1.1 q.1.2.1 b with
    | some (Sum.inl (10, n, g)) => goC (vp_in (iI e) n) nx ls (g (iI e).toNatClampNeg :: st) (HM q V)
    | some (Sum.inl (7, n, g)) => goC (vp_in (iI e) n) nx ls (aI (hI (HM q V) 0 b (iI e).toNatClampNeg) :: st) (HM q V)
    | _ => stuck) = _
  rw [hS, iI_nat (by omega)]
  exact congrArg (fun v => goC (vp_in (iI e) n) nx ls (v :: st) (HM q V)) hg
theorem call0 {y' c b : Nat} {fs : List AV} (hS : am_PS q.1.1 q.1.2.1 b = some (Sum.inr (c, fs))) (hs : Nat.ble st.length 4 = true) : i_call y' 0 c (pc, ls, aR 0 b :: st) (HM q V) = ([], Sum.inr (Sum.inl (y', [aR 0 b], (pc, ls, st)))) := by
  show (match am_PS q.1.1 q.1.2.1 b with
    | some (Sum.inr (c', _)) => (match Nat.beq c' c, Nat.ble st.length 4 with
      | true, true => (([], Sum.inr (Sum.inl (y', [aR 0 b], (pc, ls, st)))) : _)
      | _, _ => stuck)
    | _ => stuck) = _
  rw [hS]
  try dsimp only
  rw [Nat.beq_refl, hs]
theorem call1 {y' c b : Nat} {fs : List AV} {v : AV} (hS : am_PS q.1.1 q.1.2.1 b = some (Sum.inr (c, fs))) (hs : Nat.ble st.length 4 = true) : i_call y' 1 c (pc, ls, v :: aR 0 b :: st) (HM q V) = ([], Sum.inr (Sum.inl (y', [aR 0 b, v], (pc, ls, st)))) := by
  show (match am_PS q.1.1 q.1.2.1 b with
    | some (Sum.inr (c', _)) => (match Nat.beq c' c, Nat.ble st.length 4 with
      | true, true => (([], Sum.inr (Sum.inl (y', [aR 0 b, v], (pc, ls, st)))) : _)
      | _, _ => stuck)
    | _ => stuck) = _
  rw [hS]
  try dsimp only
  rw [Nat.beq_refl, hs]
theorem k_aret {v : AV} {h : AH} (hcd : am_cd y pc = i_aret) (hv : am_rf v = true) : RUN d y (pc, ls, [v]) h = some (Sum.inl (some v), h) := RUN_ei hcd rfl ⟨hv, trivial⟩
theorem k_astoreV {i : Nat} {v : AV} {h : AH} (hcd : am_cd y pc = i_astore i nx) (e : i_astore i nx (pc, ls, v :: st) h = goC (am_rf v = true) nx (ls.set i (some v)) st h) (hv : am_rf v = true) : RUN d y (pc, ls, v :: st) h = RUN d y (nx, ls.set i (some v), st) h := RUN_gi hcd e ⟨hv, trivial⟩
theorem k_aloadV {i : Nat} {h : AH} {v : AV} (hcd : am_cd y pc = i_aload i nx) (e : i_aload i nx (pc, ls, st) h = goC (am_rf v = true) nx ls (v :: st) h) (hv : am_rf v = true) : RUN d y (pc, ls, st) h = RUN d y (nx, ls, v :: st) h := RUN_gi hcd e ⟨hv, trivial⟩
end
/-- the object b is a string of n characters -/
def strO (q : QQ) (b b' n : Nat) (g : Nat → AV) : Prop := am_PS q.1.1 q.1.2.1 b = some (Sum.inr (91, [aR 0 b', aI 0])) ∧ am_PS q.1.1 q.1.2.1 b' = some (Sum.inl (10, n, g)) ∧ n < 100
theorem s_176 {d : Nat} {q : QQ} {V : VV} {b b' n : Nat} {g : Nat → AV} (h : strO q b b' n g) : RUN d 176 (am_en 176 [aR 0 b]) (HM q V) = rI 1 (HM q V) :=
  (show RUN d 176 (0, [sR 0 b], []) (HM q V) = _ from Eq.trans (k_pushi 1 rfl rfl) (Eq.trans ((k_ifc (1 = 0) rfl (iI_eq0 ⟨by decide, by decide⟩)).trans (cif_neg (by decide))) (Eq.trans (k_aload rfl rfl) (Eq.trans (k_getwiS 0 rfl h.1 rfl rfl) (Eq.trans ((k_ifcN (0 = 0) rfl (iI_ne0 R32_0)).trans (cif_pos rfl)) (Eq.trans (k_pushi 1 rfl rfl) (Eq.trans (k_goto rfl) (k_iret rfl (iI_bool (by decide))))))))))
theorem s_182 {d : Nat} {q : QQ} {V : VV} {b b' n : Nat} {g : Nat → AV} (h : strO q b b' n g) : RUN d 182 (am_en 182 [aR 0 b]) (HM q V) = rI 0 (HM q V) :=
  (show RUN d 182 (0, [sR 0 b], []) (HM q V) = _ from Eq.trans (k_pushi 1 rfl rfl) (Eq.trans ((k_ifc (1 = 0) rfl (iI_eq0 ⟨by decide, by decide⟩)).trans (cif_neg (by decide))) (Eq.trans (k_aload rfl rfl) (Eq.trans (k_getwiS 0 rfl h.1 rfl rfl) (Eq.trans (k_goto rfl) (k_iret rfl (Or.inl rfl)))))))
theorem sh_0 (n : Int) : iI n >>> (iI 0 &&& 31) = iI n := by
  rw [show iI 0 &&& 31 = 0 from by decide]
  exact Int32.shiftRight_zero
theorem s_181 {d : Nat} {q : QQ} {V : VV} {b b' n : Nat} {g : Nat → AV} (h : strO q b b' n g) : RUN (d + 1) 181 (am_en 181 [aR 0 b]) (HM q V) = rI (n : Int) (HM q V) :=
  (show RUN (d + 1) 181 (0, [sR 0 b], []) (HM q V) = _ from Eq.trans (k_aload rfl rfl) (Eq.trans (k_getwS rfl h.1 rfl) (Eq.trans (k_alen0 rfl h.2.1) (Eq.trans (k_aload rfl rfl) (Eq.trans (RUN_ci rfl (call0 h.1 rfl) rfl (s_182 h) (qle_refl _)) (Eq.trans (k_bin rfl (sh_0 _)) (k_iret rfl trivial)))))))
theorem s_179 {d : Nat} {q : QQ} {V : VV} {i n : Int} (h : 0 ≤ i ∧ i < n) (hn : n < 2147483648) : RUN d 179 (am_en 179 [aI (iI i), aI (iI n), aZ]) (HM q V) = rI i (HM q V) :=
  (show RUN d 179 (0, [sI i, sI n, some aZ], []) (HM q V) = _ from Eq.trans (k_iload rfl rfl) (Eq.trans ((k_ifc (i < 0) rfl (iI_lt0 (by constructor <;> omega))).trans (cif_neg (by omega))) (Eq.trans (k_iload rfl rfl) (Eq.trans (k_iload rfl rfl) (Eq.trans ((k_icmpc (i < n) rfl (iI_lt (by constructor <;> omega) (by constructor <;> omega))).trans (cif_pos h.2)) (Eq.trans (k_iload rfl rfl) (k_iret rfl trivial)))))))
theorem s_178 {d : Nat} {q : QQ} {V : VV} {i n : Int} (h : 0 ≤ i ∧ i < n) (hn : n < 2147483648) : RUN (d + 1) 178 (am_en 178 [aI (iI i), aI (iI n)]) (HM q V) = rV (HM q V) :=
  (show RUN (d + 1) 178 (0, [sI i, sI n], []) (HM q V) = _ from Eq.trans (k_iload rfl rfl) (Eq.trans (k_iload rfl rfl) (Eq.trans (k_push rfl) (Eq.trans (RUN_ci rfl rfl rfl (s_179 h hn) (qle_refl _)) (Eq.trans (k_pop rfl) (k_ret rfl))))))
/-- a character of a string of small characters -/
theorem chr_ok : ∀ z : Nat, z < 128 → iI (z : Int) &&& iI 255 = iI (z : Int) ∧ ((iI (z : Int)).toUInt32 % 65536).toInt32 = iI (z : Int) := by decide +kernel
theorem s_177 {d : Nat} {q : QQ} {V : VV} {b b' n : Nat} {g : Nat → AV} {i : Int} {z : Nat} (h : strO q b b' n g) (hi : 0 ≤ i ∧ i < n) (hg : g i.toNat = aI (iI (z : Int))) (hz : z < 128) : RUN (d + 2) 177 (am_en 177 [aR 0 b', aI (iI i)]) (HM q V) = rI z (HM q V) := by
  obtain ⟨c1, c2⟩ := chr_ok z hz
  have hn := h.2.2
  exact (show RUN (d + 2) 177 (0, [sR 0 b', sI i], []) (HM q V) = _ from Eq.trans (k_iload rfl rfl) (Eq.trans (k_aload rfl rfl) (Eq.trans (k_alen0 rfl h.2.1) (Eq.trans (RUN_ci rfl rfl rfl (s_178 (n := (n : Int)) hi (by omega)) (qle_refl _)) (Eq.trans (k_aload rfl rfl) (Eq.trans (k_iload rfl rfl) (Eq.trans (k_bald rfl h.2.1 (by omega) hi hg) (Eq.trans (k_pushi 255 rfl rfl) (Eq.trans (k_bin rfl c1) (Eq.trans (k_un rfl c2) (k_iret rfl (okCh_of (by constructor <;> omega)))))))))))))
theorem s_175 {d : Nat} {q : QQ} {V : VV} {b b' n : Nat} {g : Nat → AV} {i : Int} {z : Nat} (h : strO q b b' n g) (hi : 0 ≤ i ∧ i < n) (hg : g i.toNat = aI (iI (z : Int))) (hz : z < 128) : RUN (d + 3) 175 (am_en 175 [aR 0 b, aI (iI i)]) (HM q V) = rI z (HM q V) :=
  (show RUN (d + 3) 175 (0, [sR 0 b, sI i], []) (HM q V) = _ from Eq.trans (k_aload rfl rfl) (Eq.trans (RUN_ci rfl (call0 h.1 rfl) rfl (s_176 h) (qle_refl _)) (Eq.trans ((k_ifc (1 = 0) rfl (iI_eq0 ⟨by decide, by decide⟩)).trans (cif_neg (by decide))) (Eq.trans (k_aload rfl rfl) (Eq.trans (k_getwS rfl h.1 rfl) (Eq.trans (k_iload rfl rfl) (Eq.trans (RUN_ci rfl rfl rfl (s_177 h hi hg hz) (qle_refl _)) (k_iret rfl (okCh_of (by constructor <;> omega))))))))))
