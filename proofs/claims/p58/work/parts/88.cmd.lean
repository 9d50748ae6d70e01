/-! a command is taken -/
def kindNo (c : Int) : Int := if c = 103 then 1 else if c = 116 then 2 else if c = 109 then 3 else if c = 119 then 4 else 5
def cntV : List Int → Int
  | [] => 0
  | c :: F => (if c = 68 ∨ c = 76 ∨ c = 78 ∨ c = 87 then 1 else 0) + cntV F
theorem cntV_nn : ∀ F : List Int, 0 ≤ cntV F := by
  intro F
  induction F with
  | nil => exact Int.le_refl _
  | cons c F ih =>
    show 0 ≤ (if c = 68 ∨ c = 76 ∨ c = 78 ∨ c = 87 then (1 : Int) else 0) + cntV F
    split <;> omega
theorem runF_len {T : Int → Int} {L : Int} : ∀ (F : List Int) (p : Int), (runF T L F p).1 → ((runF T L F p).2.2.length : Int) = cntV F := by
  intro F
  induction F with
  | nil => intro p _; rfl
  | cons c F ih =>
    intro p h
    by_cases k : okI T L c p
    · rw [runF_ok k] at h ⊢
      have := ih (endI T L c p) h
      show ((cif (isV c) [valI T L c p] [] ++ (runF T L F (endI T L c p)).2.2).length : Int) = (if c = 68 ∨ c = 76 ∨ c = 78 ∨ c = 87 then 1 else 0) + cntV F
      rw [List.length_append]
      by_cases v : isV c
      · rw [cif_pos v, if_pos (show c = 68 ∨ c = 76 ∨ c = 78 ∨ c = 87 from v)]
        show ((1 + (runF T L F (endI T L c p)).2.2.length : Nat) : Int) = _
        omega
      · rw [cif_neg v, if_neg (show ¬ (c = 68 ∨ c = 76 ∨ c = 78 ∨ c = 87) from v)]
        show ((0 + (runF T L F (endI T L c p)).2.2.length : Nat) : Int) = _
        omega
    · rw [runF_no k] at h
      exact absurd h id
section
variable {d y pc nx : Nat} {ls : List (Option AV)} {st : List AV} {q : QQ} {V : VV}
theorem k_aastK {b n : Nat} {g : Nat → AV} {a b' : Nat} {e : Int} (hcd : am_cd y pc = i_aastK nx) (hS : am_S0 q.1.1 q.1.2 a b' = some (Sum.inl (6, n, g))) (hn : n < 2147483648) (he : 0 ≤ e ∧ e < (n : Int)) (hb : 3 ≤ b ∧ b < 8) : RUN d y (pc, ls, aR 0 b :: aI (iI e) :: aR a b' :: st) (HM q V) = RUN d y (nx, ls, st) (HM q (upV V a b' e ((b - 2 : Nat) : Int))) := by
  refine RUN_gi hcd (cs := [vp_in (iI e) n ∧ 3 ≤ b ∧ b < 8]) ?_ ⟨⟨iI_in he hn, hb.1, hb.2⟩, trivial⟩
  show (match am_S0 q.1.1 q.1.2 a b' with
    | some (Sum.inl (6, n, _)) => goC (vp_in (iI e) n ∧ 3 ≤ b ∧ b < 8) nx ls st (am_S0 q.1.1 q.1.2, q.2.1, upI (lft V) a b' (iI e).toNatClampNeg (nI (b - 2)), q.2.2)
    | _ => stuck) = _
  rw [hS, iI_nat (by omega), ← iI_ofNat, lft_upE V a b' he.1]
  rfl
theorem k_ifnonnullN {tgt : Nat} {h : AH} (hcd : am_cd y pc = i_ifnonnull tgt nx) : RUN d y (pc, ls, aN :: st) h = RUN d y (nx, ls, st) h := RUN_gi hcd rfl trivial
theorem k_aaldK {b n : Nat} {g : Nat → AV} {e : Int} {v : AV} (hcd : am_cd y pc = i_aald nx) (hS : am_PS q.1.1 q.1.2.1 b = some (Sum.inl (8, n, g))) (hn : n < 2147483648) (he : 0 ≤ e ∧ e < (n : Int)) (hg : g e.toNat = v) : RUN d y (pc, ls, aI (iI e) :: aR 0 b :: st) (HM q V) = RUN d y (nx, ls, v :: st) (HM q V) := by
  refine RUN_gi hcd (cs := [vp_in (iI e) n]) ?_ ⟨iI_in he hn, trivial⟩
  show (match am_PS q.1.1 q.1.2.1 b with
    | some (Sum.inl (4, n, g)) => goC (vp_in (iI e) n) nx ls (g (iI e).toNatClampNeg :: st) (HM q V)
    | some (Sum.inl (5, n, g)) => goC (vp_in (iI e) n) nx ls (g (iI e).toNatClampNeg :: st) (HM q V)
    | some (Sum.inl (6, n, g)) => goC (vp_in (iI e) n) nx ls (am_kv (lft V 0 b (iI e).toNatClampNeg) :: st) (HM q V)
    | some (Sum.inl (8, n, g)) => goC (vp_in (iI e) n) nx ls (g (iI e).toNatClampNeg :: st) (HM q V)
    | _ => stuck) = _
  rw [hS, iI_nat (by omega)]
  exact congrArg (fun v => goC (vp_in (iI e) n) nx ls (v :: st) (HM q V)) hg
end
/-- the object kb is a kind with the form F -/
def kindO (q : QQ) (kb : Nat) (F : List Int) : Prop := ∃ (v : AV) (sb bb : Nat) (g : Nat → AV), am_PS q.1.1 q.1.2.1 kb = some (Sum.inr (90, [v, aR 0 sb])) ∧ strO q sb bb F.length g ∧ ∀ j, j < F.length → g j = aI (iI (F.getD j 0)) ∧ 0 ≤ F.getD j 0 ∧ F.getD j 0 < 128
theorem kinds_are (q : QQ) : kindO q 3 (frm 103) ∧ kindO q 4 (frm 116) ∧ kindO q 5 (frm 109) ∧ kindO q 6 (frm 119) ∧ kindO q 7 (frm 115) := by
  refine ⟨⟨_, 8, 25, _, rfl, ⟨rfl, rfl, by decide⟩, fun j hj => ?_⟩, ⟨_, 9, 26, _, rfl, ⟨rfl, rfl, by decide⟩, fun j hj => ?_⟩, ⟨_, 10, 27, _, rfl, ⟨rfl, rfl, by decide⟩, fun j hj => ?_⟩, ⟨_, 11, 28, _, rfl, ⟨rfl, rfl, by decide⟩, fun j hj => ?_⟩, ⟨_, 12, 29, _, rfl, ⟨rfl, rfl, by decide⟩, fun j hj => ?_⟩⟩
  · have key : ∀ j, j < (frm 103).length → ([103, 114, 111, 117, 110, 100, 32, 78, 42, 68] : List Int32).getD j 0 = iI ((frm 103).getD j 0) ∧ 0 ≤ (frm 103).getD j 0 ∧ (frm 103).getD j 0 < 128 := by decide
    exact ⟨congrArg aI (key j hj).1, (key j hj).2⟩
  · have key : ∀ j, j < (frm 116).length → ([116, 111, 119, 101, 114, 32, 78, 43, 68, 33, 68] : List Int32).getD j 0 = iI ((frm 116).getD j 0) ∧ 0 ≤ (frm 116).getD j 0 ∧ (frm 116).getD j 0 < 128 := by decide
    exact ⟨congrArg aI (key j hj).1, (key j hj).2⟩
  · have key : ∀ j, j < (frm 109).length → ([109, 111, 111, 100, 32, 68, 33, 68] : List Int32).getD j 0 = iI ((frm 109).getD j 0) ∧ 0 ≤ (frm 109).getD j 0 ∧ (frm 109).getD j 0 < 128 := by decide
    exact ⟨congrArg aI (key j hj).1, (key j hj).2⟩
  · have key : ∀ j, j < (frm 119).length → ([119, 105, 110, 100, 32, 87] : List Int32).getD j 0 = iI ((frm 119).getD j 0) ∧ 0 ≤ (frm 119).getD j 0 ∧ (frm 119).getD j 0 < 128 := by decide
    exact ⟨congrArg aI (key j hj).1, (key j hj).2⟩
  · have key : ∀ j, j < (frm 115).length → ([115, 101, 110, 100, 32, 68, 62, 68, 58, 76] : List Int32).getD j 0 = iI ((frm 115).getD j 0) ∧ 0 ≤ (frm 115).getD j 0 ∧ (frm 115).getD j 0 < 128 := by decide
    exact ⟨congrArg aI (key j hj).1, (key j hj).2⟩
theorem s_175z {d : Nat} {q : QQ} {V : VV} {b b' n : Nat} {g : Nat → AV} {i z : Int} (h : strO q b b' n g) (hi : 0 ≤ i ∧ i < n) (hg : g i.toNat = aI (iI z)) (hz : 0 ≤ z ∧ z < 128) : RUN (d + 3) 175 (am_en 175 [aR 0 b, aI (iI i)]) (HM q V) = rI z (HM q V) := by
  obtain ⟨k, rfl⟩ : ∃ k : Nat, z = k := ⟨z.toNat, by omega⟩
  exact s_175 h hi hg (by omega)
/-- the values of what was read are kept from the slot a on -/
def valsAt (W : VV) (a : Int) (l : List Int) : Prop := ∀ i : Nat, i < l.length → W 30 0 (a + i) = l.getD i 0
theorem tc_go {d : Nat} {q : QQ} {kb : Nat} {F : List Int} (hk : kindO q kb F) (hlv : ∀ j, j < F.length → 1 ≤ cntV (F.drop j)) : ∀ (R : List Int) (j : Nat) (V : VV), F.drop j = R → j + R.length = F.length → inok V → V 27 0 5 ≤ V 27 0 4 → V 27 0 6 ≤ 9 → V 27 0 3 + cntV R ≤ 3 →
    ∃ W, offI V W ∧ W 27 0 5 = (runF (V 28 0) (V 27 0 4) R (V 27 0 5)).2.1 ∧ ((runF (V 28 0) (V 27 0 4) R (V 27 0 5)).1 → valsAt W (V 27 0 6 * 3 + V 27 0 3) (runF (V 28 0) (V 27 0 4) R (V 27 0 5)).2.2) ∧
      (∀ s, s < V 27 0 6 * 3 + V 27 0 3 → W 30 0 s = V 30 0 s) ∧ (V 27 0 3 ≤ W 27 0 3 ∧ W 27 0 3 ≤ 3) ∧
      RUN (d + 4) 173 (28, [sR 27 0, sR 0 kb, sI j], []) (HM q V) = rI (b2i (runF (V 28 0) (V 27 0 4) R (V 27 0 5)).1) (HM q W) := by
  obtain ⟨v, sb, bb, g, k1, k2, k3⟩ := id hk
  have hl := k2.2.2
  have head : ∀ (j : Nat) (V : VV) (ls : List (Option AV)), ls = [sR 27 0, sR 0 kb, sI j] → j ≤ F.length → RUN (d + 4) 173 (28, ls, []) (HM q V) = cif ((F.length : Int) ≤ j) (RUN (d + 4) 173 (62, ls, []) (HM q V)) (RUN (d + 4) 173 (39, ls, []) (HM q V)) := by
    intro j V ls e hj
    subst e
    exact Eq.trans (k_iload rfl rfl) (Eq.trans (k_aload rfl rfl) (Eq.trans (k_getw rfl k1 rfl) (Eq.trans (RUN_ci rfl (call0 k2.1 rfl) rfl (s_181 (d := d + 2) k2) (qle_refl _)) (k_icmpc ((F.length : Int) ≤ j) rfl (iI_le (by constructor <;> omega) (by constructor <;> omega))))))
  intro R
  induction R with
  | nil =>
    intro j V hd hj io h1 h2 h3
    have hj2 : j = F.length := by
      have : j + 0 = F.length := hj
      omega
    have e0 : cntV [] = 0 := rfl
    have i3 := io.2.2.2.1
    refine ⟨V, offI_refl V, rfl, fun _ => fun i hi => absurd hi (Nat.not_lt_zero i), fun _ _ => rfl, ⟨Int.le_refl _, by omega⟩, ?_⟩
    rw [head j V _ rfl (by omega), cif_pos (by omega)]
    exact (Eq.trans (k_pushi 1 rfl rfl) (k_iret rfl (iI_bool (Or.inr rfl)))).trans (rI1_b trivial)
  | cons c R ih =>
    intro j V hd hj io h1 h2 h3
    have hj : j + R.length + 1 = F.length := hj
    have hd2 : F.drop (j + 1) = R := by
      rw [List.drop_eq_getElem_cons (show j < F.length by omega)] at hd
      exact (List.cons.inj hd).2
    have hc : F.getD j 0 = c := by
      rw [List.drop_eq_getElem_cons (show j < F.length by omega)] at hd
      rw [List.getD_eq_getElem?_getD, List.getElem?_eq_getElem (show j < F.length by omega)]
      exact (List.cons.inj hd).1
    have hcn := hlv j (by omega)
    rw [hd] at hcn
    obtain ⟨g1, g2, g3⟩ := k3 j (by omega)
    rw [hc] at g1 g2 g3
    have cn := cntV_nn R
    have ec : cntV (c :: R) = (if c = 68 ∨ c = 76 ∨ c = 78 ∨ c = 87 then 1 else 0) + cntV R := rfl
    obtain ⟨U, ⟨t1, t2, t3, t4, t5⟩, t6⟩ := s_183 (d := d + 1) (q := q) (c := c) io h1 ⟨h2, by omega⟩ ⟨g2, g3⟩
    obtain ⟨b1, b2, b3⟩ := endI_b (T := V 28 0) (c := c) h1
    obtain ⟨i1, i2, i3, i4, i5⟩ := id io
    have go : RUN (d + 4) 173 (28, [sR 27 0, sR 0 kb, sI j], []) (HM q V) = cif (okI (V 28 0) (V 27 0 4) c (V 27 0 5)) (RUN (d + 4) 173 (28, [sR 27 0, sR 0 kb, sI (j + 1 : Nat)], []) (HM q U)) (rI 0 (HM q U)) := by
      rw [head j V _ rfl (by omega), cif_neg (by omega)]
      refine Eq.trans (k_aload rfl rfl) (Eq.trans (k_aload rfl rfl) (Eq.trans (k_getw rfl k1 rfl) (Eq.trans (k_iload rfl rfl) (Eq.trans (RUN_ci rfl (call1 k2.1 rfl) rfl (s_175z k2 (i := (j : Int)) ⟨by omega, by omega⟩ (by rw [show ((j : Int)).toNat = j from rfl]; exact g1) ⟨g2, g3⟩) (qle_refl _)) (Eq.trans (RUN_ci rfl rfl rfl t6 (qle_refl _)) ?_)))))
      refine Eq.trans (k_ifc (okI (V 28 0) (V 27 0 4) c (V 27 0 5)) rfl b2i_ne0) (k_cifs (fun _ => ?_) (fun _ => ?_))
      · exact Eq.trans (k_iinc 1 rfl rfl rfl) (k_goto rfl)
      · exact Eq.trans (k_pushi 0 rfl rfl) (k_iret rfl (iI_bool (Or.inl rfl)))
    rw [go]
    by_cases k : okI (V 28 0) (V 27 0 4) c (V 27 0 5)
    · rw [cif_pos k, runF_ok k]
      obtain ⟨t3a, t3b⟩ := t3 k
      have ep : U 27 0 4 = V 27 0 4 := t1.2 4 (by omega)
      have e6 : U 27 0 6 = V 27 0 6 := t1.2 6 (by omega)
      have eT : U 28 0 = V 28 0 := t1.1 28 0 (by omega)
      have iv : (isV c ∧ U 27 0 3 = V 27 0 3 + 1 ∧ cntV (c :: R) = 1 + cntV R) ∨ (¬ isV c ∧ U 27 0 3 = V 27 0 3 ∧ cntV (c :: R) = cntV R) := by
        by_cases z : isV c
        · refine Or.inl ⟨z, (t3a z).1, ?_⟩
          rw [ec, if_pos (show c = 68 ∨ c = 76 ∨ c = 78 ∨ c = 87 from z)]
        · refine Or.inr ⟨z, t3b z, ?_⟩
          rw [ec, if_neg (show ¬ (c = 68 ∨ c = 76 ∨ c = 78 ∨ c = 87) from z)]
          omega
      have ioU : inok U := inok_off t1 io (by rw [t2]; omega) (by omega)
      obtain ⟨W, w1, w2, w3, w4, w5, w6⟩ := ih (j + 1) U hd2 (by omega) ioU (by rw [ep, t2]; omega) (by omega) (by rcases iv with ⟨-, z1, z2⟩ | ⟨-, z1, z2⟩ <;> omega)
      rw [ep, eT, t2] at w2 w3 w6
      rw [e6] at w3 w4
      refine ⟨W, offI_trans t1 w1, w2, fun hok => ?_, fun s hs => ?_, ⟨by omega, w5.2⟩, w6⟩
      · have w3' := w3 hok
        rcases iv with ⟨z, z1, z2⟩ | ⟨z, z1, z2⟩
        · rw [cif_pos z]
          intro i hi
          cases i with
          | zero =>
            rw [show V 27 0 6 * 3 + V 27 0 3 + ((0 : Nat) : Int) = V 27 0 6 * 3 + V 27 0 3 by omega, w4 _ (by omega)]
            exact (t3a z).2
          | succ i =>
            have := w3' i (by
              have hi' : i + 1 < 1 + (runF (V 28 0) (V 27 0 4) R (endI (V 28 0) (V 27 0 4) c (V 27 0 5))).2.2.length := by rw [List.length_append] at hi; exact hi
              omega)
            rw [z1] at this
            rw [show V 27 0 6 * 3 + V 27 0 3 + ((i + 1 : Nat) : Int) = V 27 0 6 * 3 + (V 27 0 3 + 1) + i by omega, this]
            rfl
        · rw [cif_neg z]
          rw [z1] at w3'
          exact w3'
      · rw [w4 s (by omega), t4 s hs]
    · rw [cif_neg k, runF_no k]
      exact ⟨U, t1, t2, fun z => absurd z id, t4, ⟨t5.1, by have := t5.2; omega⟩, rI0_b id⟩
