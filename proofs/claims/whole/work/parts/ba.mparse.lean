/-! the model reads the commands -/
section
variable {T : Int → Int} {L : Int} {d : Nat} {q : QQ}
theorem cmd_len {p : Int} (h : (cmdR T L p).1) : (cmdR T L p).2.2.length ≤ 3 := by
  have l1 := runF_len (T := T) (L := L) (frm (hereC T L p)) p h
  have l2 : cntV (frm (hereC T L p)) ≤ 3 := by
    unfold frm
    repeat' split
    all_goals decide
  have l3 : (((cmdR T L p).2.2.length : Nat) : Int) = cntV (frm (hereC T L p)) := l1
  omega
theorem mp_go : ∀ (f : Nat) (k p : Int) (V W : VV), TX V T L → 0 ≤ k → 7 * k ≤ p → p ≤ L → L + 1 ≤ p + 7 * ((f : Int) + 1) → tookM V T L k p W →
    ∃ (Z : VV) (w : Int), (w = 0 ∨ w = 1) ∧ (∀ a b, ¬ ((a = 33 ∨ a = 43) ∧ b = 0) → Z a b = V a b) ∧ (∀ j, ¬ (j = 18 ∨ j = 19 ∨ j = 23) → Z 33 0 j = V 33 0 j) ∧ (∀ i, i < 4 * k → Z 43 0 i = V 43 0 i) ∧
      ((prs T L (f + 1) p).1 → Z 33 0 23 = k + (prs T L (f + 1) p).2.2.length ∧ ∀ i : Nat, i < (prs T L (f + 1) p).2.2.length → cmdM Z (k + i) ((prs T L (f + 1) p).2.2.getD i (0, []))) ∧ ((prs T L (f + 1) p).1 ↔ w = 0 ∧ (prs T L (f + 1) p).2.1 = L) ∧ (0 ≤ (prs T L (f + 1) p).2.1 ∧ (prs T L (f + 1) p).2.1 ≤ L) ∧
      RUN (d + 6) 293 (19, [sR 33 0, none], []) (HM q (psV W (b2i (¬ (cmdR T L p).1)) (cmdR T L p).2.1)) = RUN (d + 6) 293 (52, [sR 33 0, none], []) (HM q (psV Z w (prs T L (f + 1) p).2.1)) := by
  intro f
  induction f with
  | zero =>
    intro k p V W tx hk hkp hp hf tk
    obtain ⟨t1, t2, t3, t4, t5⟩ := tk
    obtain ⟨b1, b2, b3⟩ := runF_b (T := T) (L := L) (frm (hereC T L p)) p hp
    have b1 : p ≤ (cmdR T L p).2.1 := b1
    have b2 : (cmdR T L p).2.1 ≤ L := b2
    have fl := frm_len (hereC T L p)
    have b3 : (cmdR T L p).1 → p + (frm (hereC T L p)).length ≤ (cmdR T L p).2.1 := b3
    have txW : TX W T L := TX_off tx (t2 17 (by omega)) (t1 42 0 (by omega))
    have hL := tx.2.1
    by_cases ok : (cmdR T L p).1
    · have b3 := b3 ok
      have eL : (cmdR T L p).2.1 = L := by omega
      have e : prs T L (0 + 1) p = (True, L, [(hereC T L p, (cmdR T L p).2.2)]) := (cif_pos ok).trans (cif_pos eL)
      rw [e, b2i_neg (fun z => z ok), eL]
      refine ⟨W, 0, Or.inl rfl, t1, t2, t4, fun _ => ⟨t3, fun i hi => ?_⟩, ⟨fun _ => ⟨rfl, rfl⟩, fun _ => trivial⟩, ⟨hL.1, Int.le_refl _⟩, ?_⟩
      · have hi0 : i = 0 := by
          have : i < 1 := hi
          omega
        subst hi0
        rw [show k + ((0 : Nat) : Int) = k by omega]
        exact t5 ok
      · have hh := hereC_R tx hL.1
        have hn : ¬ hereC T L L = 59 := by
          unfold hereC
          rw [cif_neg (by omega)]
          decide
        exact Eq.trans (k_aload rfl rfl) (Eq.trans (k_getfi 19 rfl rfl rfl rfl) (Eq.trans (Eq.trans (k_ifcN ((0 : Int) = 0) rfl (iI_ne0 (show R32 (0 : Int) by decide))) (cif_pos rfl)) (Eq.trans (k_aload rfl rfl) (Eq.trans (RUN_ci rfl rfl rfl (s_295 txW ⟨hL.1, Int.le_refl _⟩) (qle_refl _)) (Eq.trans (k_pushi 59 rfl rfl) ((k_icmpcN (hereC T L L = 59) rfl (iI_ne (by constructor <;> omega) (by decide))).trans (cif_neg hn)))))))
    · have e : prs T L (0 + 1) p = (False, (cmdR T L p).2.1, []) := cif_neg ok
      rw [e, b2i_pos ok]
      refine ⟨W, 1, Or.inr rfl, t1, t2, t4, fun z => absurd z id, ⟨fun z => absurd z id, fun z => absurd z.1 (by decide)⟩, ⟨by show 0 ≤ (cmdR T L p).2.1; omega, b2⟩, ?_⟩
      exact Eq.trans (k_aload rfl rfl) (Eq.trans (k_getfi 19 rfl rfl rfl rfl) ((k_ifcN ((1 : Int) = 0) rfl (iI_ne0 (show R32 (1 : Int) by decide))).trans (cif_neg (by decide))))
  | succ f ih =>
    intro k p V W tx hk hkp hp hf tk
    obtain ⟨t1, t2, t3, t4, t5⟩ := tk
    obtain ⟨b1, b2, b3⟩ := runF_b (T := T) (L := L) (frm (hereC T L p)) p hp
    have b1 : p ≤ (cmdR T L p).2.1 := b1
    have b2 : (cmdR T L p).2.1 ≤ L := b2
    have fl := frm_len (hereC T L p)
    have b3 : (cmdR T L p).1 → p + (frm (hereC T L p)).length ≤ (cmdR T L p).2.1 := b3
    have txW : TX W T L := TX_off tx (t2 17 (by omega)) (t1 42 0 (by omega))
    have hL := tx.2.1
    by_cases ok : (cmdR T L p).1
    · have b3 := b3 ok
      have hh := hereC_R tx (show 0 ≤ (cmdR T L p).2.1 by omega)
      have len := cmd_len ok
      have step : RUN (d + 6) 293 (19, [sR 33 0, none], []) (HM q (psV W 0 (cmdR T L p).2.1)) = cif (hereC T L (cmdR T L p).2.1 = 59) (RUN (d + 6) 293 (35, [sR 33 0, none], []) (HM q (psV W 0 (cmdR T L p).2.1))) (RUN (d + 6) 293 (52, [sR 33 0, none], []) (HM q (psV W 0 (cmdR T L p).2.1))) :=
        Eq.trans (k_aload rfl rfl) (Eq.trans (k_getfi 19 rfl rfl rfl rfl) (Eq.trans (Eq.trans (k_ifcN ((0 : Int) = 0) rfl (iI_ne0 (show R32 (0 : Int) by decide))) (cif_pos rfl)) (Eq.trans (k_aload rfl rfl) (Eq.trans (RUN_ci rfl rfl rfl (s_295 txW ⟨by omega, b2⟩) (qle_refl _)) (Eq.trans (k_pushi 59 rfl rfl) (k_icmpcN (hereC T L (cmdR T L p).2.1 = 59) rfl (iI_ne (by constructor <;> omega) (by decide))))))))
      rw [b2i_neg (fun z => z ok), step]
      by_cases c1 : (cmdR T L p).2.1 = L
      · have e : prs T L (f + 1 + 1) p = (True, L, [(hereC T L p, (cmdR T L p).2.2)]) := (cif_pos ok).trans (cif_pos c1)
        have hn : ¬ hereC T L L = 59 := by
          unfold hereC
          rw [cif_neg (by omega)]
          decide
        rw [e, c1, cif_neg hn]
        refine ⟨W, 0, Or.inl rfl, t1, t2, t4, fun _ => ⟨t3, fun i hi => ?_⟩, ⟨fun _ => ⟨rfl, rfl⟩, fun _ => trivial⟩, ⟨hL.1, Int.le_refl _⟩, rfl⟩
        have hi0 : i = 0 := by
          have : i < 1 := hi
          omega
        subst hi0
        rw [show k + ((0 : Nat) : Int) = k by omega]
        exact t5 ok
      · have eh : hereC T L (cmdR T L p).2.1 = T (cmdR T L p).2.1 := cif_pos (by omega)
        by_cases c2 : T (cmdR T L p).2.1 = 59
        · have e : prs T L (f + 1 + 1) p = ((prs T L (f + 1) ((cmdR T L p).2.1 + 1)).1, (prs T L (f + 1) ((cmdR T L p).2.1 + 1)).2.1, (hereC T L p, (cmdR T L p).2.2) :: (prs T L (f + 1) ((cmdR T L p).2.1 + 1)).2.2) := (cif_pos ok).trans ((cif_neg c1).trans (cif_pos c2))
          rw [e, cif_pos (by rw [eh]; exact c2)]
          obtain ⟨W2, w1, w2⟩ := s_294 (d := d) (q := q) (p0 := (cmdR T L p).2.1 + 1) txW (by omega) t3 (by omega)
          obtain ⟨Z, w, z1, z2, z3, z4, z5, z6, z7, z8⟩ := ih (k + 1) ((cmdR T L p).2.1 + 1) W W2 txW (by omega) (by omega) (by omega) (by omega) w1
          refine ⟨Z, w, z1, fun a b h => by rw [z2 a b h, t1 a b h], fun j h => by rw [z3 j h, t2 j h], fun i hi => by rw [z4 i (by omega), t4 i hi], fun z => ⟨?_, fun i hi => ?_⟩, z6, z7, ?_⟩
          · have := (z5 z).1
            show Z 33 0 23 = k + ((_ + 1 : Nat) : Int)
            omega
          · cases i with
            | zero =>
              rw [show k + ((0 : Nat) : Int) = k by omega]
              obtain ⟨y1, y2⟩ := t5 ok
              refine ⟨?_, fun j hj => ?_⟩
              · rw [z4 _ (by omega)]; exact y1
              · have hj' : j < (cmdR T L p).2.2.length := hj
                rw [z4 _ (by omega)]; exact y2 j hj
            | succ i =>
              have hi' : i < (prs T L (f + 1) ((cmdR T L p).2.1 + 1)).2.2.length := Nat.lt_of_succ_lt_succ hi
              have := (z5 z).2 i hi'
              rw [show k + ((i + 1 : Nat) : Int) = k + 1 + i by omega]
              exact this
          · refine Eq.trans (Eq.trans (k_aload rfl rfl) (Eq.trans (k_dupR rfl) (Eq.trans (k_getfi 18 rfl rfl rfl rfl) (Eq.trans (k_pushi 1 rfl rfl) (Eq.trans (k_bin rfl (iI_add _ _)) (Eq.trans (k_putfi 18 rfl rfl rfl rfl trivial) ?_)))))) z8
            rw [psV_18]
            exact Eq.trans (k_aload rfl rfl) (Eq.trans (RUN_ci rfl rfl rfl w2 (qle_refl _)) (k_goto rfl))
        · have e : prs T L (f + 1 + 1) p = (False, (cmdR T L p).2.1, []) := (cif_pos ok).trans ((cif_neg c1).trans (cif_neg c2))
          rw [e, cif_neg (by rw [eh]; exact c2)]
          exact ⟨W, 0, Or.inl rfl, t1, t2, t4, fun z => absurd z id, ⟨fun z => absurd z id, fun z => absurd z.2 c1⟩, ⟨by show 0 ≤ (cmdR T L p).2.1; omega, b2⟩, rfl⟩
    · have e : prs T L (f + 1 + 1) p = (False, (cmdR T L p).2.1, []) := cif_neg ok
      rw [e, b2i_pos ok]
      refine ⟨W, 1, Or.inr rfl, t1, t2, t4, fun z => absurd z id, ⟨fun z => absurd z id, fun z => absurd z.1 (by decide)⟩, ⟨by show 0 ≤ (cmdR T L p).2.1; omega, b2⟩, ?_⟩
      exact Eq.trans (k_aload rfl rfl) (Eq.trans (k_getfi 19 rfl rfl rfl rfl) ((k_ifcN ((1 : Int) = 0) rfl (iI_ne0 (show R32 (1 : Int) by decide))).trans (cif_neg (by decide))))
/-- the model's heap behind the reading -/
def mpO (T : Int → Int) (L : Int) (V X : VV) : Prop := (∀ a b, ¬ ((a = 33 ∨ a = 43) ∧ b = 0) → X a b = V a b) ∧ (∀ j, ¬ (j = 6 ∨ j = 17 ∨ j = 18 ∨ j = 19 ∨ j = 20 ∨ j = 23) → X 33 0 j = V 33 0 j) ∧ X 33 0 17 = 0 ∧
  ((prs T L 10 0).1 → X 33 0 20 = V 33 0 20 ∧ X 33 0 23 = (prs T L 10 0).2.2.length ∧ ∀ i : Nat, i < (prs T L 10 0).2.2.length → cmdM X i ((prs T L 10 0).2.2.getD i (0, []))) ∧ (¬ (prs T L 10 0).1 → X 33 0 20 = (prs T L 10 0).2.1 ∧ X 33 0 6 = 1)
theorem mp_all {V : VV} (tx : TX V T L) : (0 ≤ (prs T L 10 0).2.1 ∧ (prs T L 10 0).2.1 ≤ L) ∧ ∃ X, mpO T L V X ∧ RUN (d + 6) 293 (am_en 293 [aR 33 0]) (HM q V) = cif (prs T L 10 0).1 (RUN (d + 6) 293 (119, [sR 33 0, none], []) (HM q X)) (rI 0 (HM q X)) := by
  have hL := tx.2.1
  have tx0 : TX (upV (upV (upV V 33 0 18 0) 33 0 19 0) 33 0 23 0) T L := tx
  have e0 : psV (upV (upV (upV V 33 0 18 0) 33 0 19 0) 33 0 23 0) 0 0 = upV (upV (upV V 33 0 18 0) 33 0 19 0) 33 0 23 0 := psV_self rfl rfl
  obtain ⟨W, w1, w2⟩ := s_294 (d := d) (q := q) (p0 := 0) (k := 0) tx0 (by omega) rfl (by decide)
  rw [e0] at w2
  obtain ⟨Z, w, z1, z2, z3, z4, z5, z6, z7, z8⟩ := mp_go (d := d) (q := q) 9 0 0 (upV (upV (upV V 33 0 18 0) 33 0 19 0) 33 0 23 0) W tx0 (by decide) (by decide) (by omega) (by omega) w1
  have z5 : (prs T L 10 0).1 → Z 33 0 23 = 0 + ((prs T L 10 0).2.2.length : Int) ∧ ∀ i : Nat, i < (prs T L 10 0).2.2.length → cmdM Z (0 + (i : Int)) ((prs T L 10 0).2.2.getD i (0, [])) := z5
  have z6 : (prs T L 10 0).1 ↔ w = 0 ∧ (prs T L 10 0).2.1 = L := z6
  have z7 : 0 ≤ (prs T L 10 0).2.1 ∧ (prs T L 10 0).2.1 ≤ L := z7
  have z8 : RUN (d + 6) 293 (19, [sR 33 0, none], []) (HM q (psV W (b2i (¬ (cmdR T L 0).1)) (cmdR T L 0).2.1)) = RUN (d + 6) 293 (52, [sR 33 0, none], []) (HM q (psV Z w (prs T L 10 0).2.1)) := z8
  have zj : ∀ j, ¬ (j = 18 ∨ j = 19 ∨ j = 23) → Z 33 0 j = V 33 0 j := fun j h => by
    rw [z3 j h, upV_at, if_neg (by omega), upV_at, if_neg (by omega), upV_at, if_neg (by omega)]
  have za : ∀ a b, ¬ ((a = 33 ∨ a = 43) ∧ b = 0) → Z a b = V a b := fun a b h => by
    rw [z2 a b h, upV_off2 (by omega), upV_off2 (by omega), upV_off2 (by omega)]
  have e17 : Z 33 0 17 = L := by rw [zj 17 (by omega)]; exact tx.1
  have head : RUN (d + 6) 293 (am_en 293 [aR 33 0]) (HM q V) = RUN (d + 6) 293 (52, [sR 33 0, none], []) (HM q (psV Z w (prs T L 10 0).2.1)) :=
    (show RUN (d + 6) 293 (0, [sR 33 0, none], []) (HM q V) = _ from Eq.trans (k_aload rfl rfl) (Eq.trans (k_pushi 0 rfl rfl) (Eq.trans (k_putfi 18 rfl rfl rfl rfl trivial) (Eq.trans (k_aload rfl rfl) (Eq.trans (k_pushi 0 rfl rfl) (Eq.trans (k_putfi 19 rfl rfl rfl rfl (iI_bool (Or.inl rfl))) (Eq.trans (k_aload rfl rfl) (Eq.trans (k_pushi 0 rfl rfl) (Eq.trans (k_putfi 23 rfl rfl rfl rfl trivial) (Eq.trans (k_aload rfl rfl) (Eq.trans (RUN_ci rfl rfl rfl w2 (qle_refl _)) z8)))))))))))
  generalize hp : (prs T L 10 0).2.1 = p at z6 z7 head
  refine ⟨z7, ?_⟩
  -- what stands where
  have pj : ∀ (x y v : Int) (j : Int), ¬ (j = 6 ∨ j = 17 ∨ j = 18 ∨ j = 19 ∨ j = 20 ∨ j = 23) → upV (upV (upV (psV Z w p) 33 0 19 x) 33 0 20 y) 33 0 17 v 33 0 j = V 33 0 j := fun x y v j h => by
    rw [upV_at, if_neg (by omega), upV_at, if_neg (by omega), upV_at, if_neg (by omega)]
    unfold psV
    rw [upV_at, if_neg (by omega), upV_at, if_neg (by omega)]
    exact zj j (by omega)
  have pa : ∀ (x y v : Int) (a b : Nat), ¬ ((a = 33 ∨ a = 43) ∧ b = 0) → upV (upV (upV (psV Z w p) 33 0 19 x) 33 0 20 y) 33 0 17 v a b = V a b := fun x y v a b h => by
    rw [upV_off2 (by omega), upV_off2 (by omega), upV_off2 (by omega)]
    unfold psV
    rw [upV_off2 (by omega), upV_off2 (by omega)]
    exact za a b h
  have p43 : ∀ (x y v : Int), upV (upV (upV (psV Z w p) 33 0 19 x) 33 0 20 y) 33 0 17 v 43 0 = Z 43 0 := fun x y v => rfl
  have p23 : ∀ (x y v : Int), upV (upV (upV (psV Z w p) 33 0 19 x) 33 0 20 y) 33 0 17 v 33 0 23 = Z 33 0 23 := fun x y v => rfl
  have r32w : R32 w := by rcases z1 with h | h <;> rw [h] <;> decide
  have mid : RUN (d + 6) 293 (52, [sR 33 0, none], []) (HM q (psV Z w p)) = cif (w = 0 ∧ p = L) (RUN (d + 6) 293 (119, [sR 33 0, none], []) (HM q (upV (upV (upV (psV Z w p) 33 0 19 0) 33 0 20 (V 33 0 20)) 33 0 17 0))) (rI 0 (HM q (upV (upV (upV (upV (psV Z w p) 33 0 19 1) 33 0 20 p) 33 0 17 0) 33 0 6 1))) := by
    have t1 : RUN (d + 6) 293 (71, [sR 33 0, none], [aR 33 0]) (HM q (psV Z w p)) = rI 0 (HM q (upV (upV (upV (upV (psV Z w p) 33 0 19 1) 33 0 20 p) 33 0 17 0) 33 0 6 1)) := by
      refine Eq.trans (k_pushi 1 rfl rfl) (Eq.trans (k_goto rfl) (Eq.trans (k_putfi 19 rfl rfl rfl rfl (iI_bool (Or.inr rfl))) (Eq.trans (k_aload rfl rfl) (Eq.trans (k_aload rfl rfl) (Eq.trans (k_getfi 19 rfl rfl rfl rfl) (Eq.trans (Eq.trans (k_ifc ((1 : Int) = 0) rfl (iI_eq0 (show R32 (1 : Int) by decide))) (cif_neg (by decide))) (Eq.trans (k_aload rfl rfl) (Eq.trans (k_getfi 18 rfl rfl rfl rfl) (Eq.trans (k_goto rfl) (Eq.trans (k_putfi 20 rfl rfl rfl rfl trivial) ?_))))))))))
      exact Eq.trans (k_aload rfl rfl) (Eq.trans (k_pushi 0 rfl rfl) (Eq.trans (k_putfi 17 rfl rfl rfl rfl trivial) (Eq.trans (k_aload rfl rfl) (Eq.trans (k_getfi 19 rfl rfl rfl rfl) (Eq.trans (Eq.trans (k_ifc ((1 : Int) = 0) rfl (iI_eq0 (show R32 (1 : Int) by decide))) (cif_neg (by decide))) (Eq.trans (k_aload rfl rfl) (Eq.trans (k_pushi 1 rfl rfl) (Eq.trans (RUN_ci rfl rfl rfl e_215 (qle_refl _)) (k_iret rfl trivial)))))))))
    refine Eq.trans (k_aload rfl rfl) (Eq.trans (k_aload rfl rfl) (Eq.trans (k_getfi 19 rfl rfl rfl rfl) (Eq.trans (k_ifcN (w = 0) rfl (iI_ne0 r32w)) ?_)))
    refine cif_eq (fun c => ?_) (fun c => ?_)
    · have e18 : psV Z w p 33 0 18 = p := rfl
      have e17' : psV Z w p 33 0 17 = L := e17
      refine Eq.trans (k_aload rfl rfl) (Eq.trans (k_getfi 18 rfl rfl rfl rfl) (Eq.trans (k_aload rfl rfl) (Eq.trans (k_getfi 17 rfl rfl rfl rfl) ?_)))
      rw [e18, e17']
      refine Eq.trans (k_icmpc (L ≤ p) rfl (iI_le (by constructor <;> omega) (by constructor <;> omega))) ?_
      refine cif_eq (fun c2 => ?_) (fun c2 => ?_)
      · rw [cif_pos ⟨c, by omega⟩]
        refine Eq.trans (k_pushi 0 rfl rfl) (Eq.trans (k_putfi 19 rfl rfl rfl rfl (iI_bool (Or.inl rfl))) (Eq.trans (k_aload rfl rfl) (Eq.trans (k_aload rfl rfl) (Eq.trans (k_getfi 19 rfl rfl rfl rfl) (Eq.trans (Eq.trans (k_ifc ((0 : Int) = 0) rfl (iI_eq0 (show R32 (0 : Int) by decide))) (cif_pos rfl)) (Eq.trans (k_aload rfl rfl) (Eq.trans (k_getfi 20 rfl rfl rfl rfl) (Eq.trans (k_putfi 20 rfl rfl rfl rfl trivial) ?_))))))))
        rw [show upV (psV Z w p) 33 0 19 0 33 0 20 = V 33 0 20 from zj 20 (by omega)]
        exact Eq.trans (k_aload rfl rfl) (Eq.trans (k_pushi 0 rfl rfl) (Eq.trans (k_putfi 17 rfl rfl rfl rfl trivial) (Eq.trans (k_aload rfl rfl) (Eq.trans (k_getfi 19 rfl rfl rfl rfl) ((k_ifc ((0 : Int) = 0) rfl (iI_eq0 (show R32 (0 : Int) by decide))).trans (cif_pos rfl))))))
      · rw [cif_neg (fun z => by omega)]
        exact t1
    · rw [cif_neg (fun z => c z.1)]
      exact t1
  by_cases ok : (prs T L 10 0).1
  · have c := z6.mp ok
    obtain ⟨y1, y2⟩ := z5 ok
    refine ⟨_, ⟨pa 0 (V 33 0 20) 0, pj 0 (V 33 0 20) 0, rfl, fun _ => ⟨rfl, ?_, fun i hi => ?_⟩, fun z => absurd ok z⟩, ?_⟩
    · rw [p23, y1]
      omega
    · have := y2 i hi
      rw [Int.zero_add] at this
      exact this
    · rw [cif_pos ok, head, mid, cif_pos c]
  · have c : ¬ (w = 0 ∧ p = L) := fun z => ok (z6.mpr z)
    refine ⟨upV (upV (upV (upV (psV Z w p) 33 0 19 1) 33 0 20 p) 33 0 17 0) 33 0 6 1, ⟨fun a b h => ?_, fun j h => ?_, rfl, fun z => absurd z ok, fun _ => ⟨?_, rfl⟩⟩, ?_⟩
    · rw [upV_off2 (by omega)]
      exact pa 1 p 0 a b h
    · rw [upV_at, if_neg (by omega)]
      exact pj 1 p 0 j h
    · rw [hp]
      rfl
    · rw [cif_neg ok, head, mid, cif_neg c]
end
