/-! one command, on both sides -/
def offT (U W : VV) : Prop := (∀ a b, ¬ (2 ≤ a ∧ a ≤ 10 ∧ b = 0) → ¬ (14 ≤ a ∧ a ≤ 21) → ¬ a = 1 → W a b = U a b) ∧ ∀ j, ¬ (j = 11 ∨ j = 12) → W 1 0 j = U 1 0 j
def offN (V W : VV) : Prop := (∀ a b, ¬ (a = 33 ∨ a = 34 ∨ a = 38 ∨ a = 39) → W a b = V a b) ∧ ∀ j, ¬ (j = 6 ∨ j = 7 ∨ j = 8 ∨ j = 11 ∨ j = 12) → W 33 0 j = V 33 0 j
def stpR (B : Int) (U V : VV) : Prop := RI B 0 U ∧ MR V U ∧ relok U ∧ smok U
/-- the model's command i -/
def cmdM (W : VV) (i : Int) (x : Int × List Int) : Prop := W 43 0 (4 * i) = x.1 ∧ ∀ j : Nat, j < x.2.length → W 43 0 (4 * i + 1 + j) = x.2.getD j 0
/-- the refusals of the two sides, before and behind -/
def refS (U V U' V' : VV) : Prop := ((U' 1 0 11 = U 1 0 11 ∧ U' 1 0 12 = U 1 0 12) ∧ V' 33 0 7 = V 33 0 7 ∧ V' 33 0 8 = V 33 0 8) ∨ ((U' 1 0 11 = 1 ∨ U' 1 0 11 = 2) ∧ V' 33 0 7 = U' 1 0 11 ∧ V' 33 0 8 = U' 1 0 12)
/-- the class's state while commands are tried -/
def clsI (B : Int) (U : VV) : Prop := RI B 0 U ∧ relok U ∧ smok U
/-- the first who can't read it -/
noncomputable def gbI (U : VV) (a b c : Int) : Nat := Classical.epsilon (fun i : Nat => i < pN U a b ∧ garb U (pP U a b i) c ∧ ∀ j : Nat, j < i → ¬ garb U (pP U a b j) c)
/-- what a command comes to in the class -/
noncomputable def clsS (U : VV) (x : Int × List Int) : Int × VV := match x.2 with
  | [a] => (1, upV U 2 0 9 a)
  | [a, b] => if x.1 = 103 then cif (0 ≤ a ∧ a < 32) (1, upV U 3 0 a b) (0, U) else cif ((0 ≤ a ∧ a < U 2 0 8) ∧ 0 ≤ b ∧ b < 4) (1, upV U 6 0 a b) (0, U)
  | [a, b, c] => if x.1 = 116 then cif (((0 ≤ a ∧ a < 32) ∧ 1 ≤ b ∧ b ≤ 9 ∧ 0 ≤ c ∧ c < 4) ∧ U 2 0 8 < 8 ∧ fstI (posIs (U 4 0) a) (U 2 0 8) = -1) (1, towU U a b c) (0, U)
      else cif ((0 ≤ a ∧ a < U 2 0 8) ∧ 0 ≤ b ∧ b < U 2 0 8) (cif (pR U a b) (cif (∃ i : Nat, i < pN U a b ∧ garb U (pP U a b i) c) (0, upV (upV (foundV U a b) 1 0 11 2) 1 0 12 (pP U a b (gbI U a b c + 1))) (1, sentV (foundV U a b) (pP U a b) c (pN U a b))) (0, upV (upV (lostV U b) 1 0 11 1) 1 0 12 a)) (0, U)
  | _ => (0, U)
/-- the class did it -/
def stpC (d : Nat) (B i : Int) (U : VV) (k : Int) (U' : VV) : Prop := (∀ q : QQ, RUN (d + 5) 191 (am_en 191 [aR 1 0, aI (iI i)]) (HM q U) = rI k (HM q U')) ∧ offT U U' ∧ (k = 0 ∨ k = 1) ∧ relok U' ∧ smok U' ∧ (k = 1 → clsI (B + 10) U')
/-- the model did it -/
def stpM (d : Nat) (i : Int) (U V : VV) (k : Int) (U' : VV) : Prop := ∀ q : QQ, ∃ V', offN V V' ∧ refS U V U' V' ∧ RUN (d + 6) 300 (am_en 300 [aR 33 0, aI (iI i)]) (HM q V) = rV (HM q V') ∧ (k = 1 → V' 33 0 6 = 0 ∧ MR V' U') ∧ (k = 0 → 1 ≤ V' 33 0 6 ∧ V' 33 0 6 ≤ 3)
section
variable {d : Nat} {B i : Int} {U V : VV}
theorem offT_refl (U : VV) : offT U U := ⟨fun _ _ _ _ _ => rfl, fun _ _ => rfl⟩
theorem offN_refl (V : VV) : offN V V := ⟨fun _ _ _ => rfl, fun _ _ => rfl⟩
theorem offN_6 {x : Int} : offN V (upV V 33 0 6 x) := ⟨fun a b z => upV_off2 (by omega), fun j z => by rw [upV_at, if_neg (by omega)]⟩
theorem offN_34 {e x : Int} : offN V (upV V 34 0 e x) := ⟨fun a b z => upV_off2 (by omega), fun j z => by rw [upV_off2 (by omega)]⟩
theorem offT_row {A : Nat} {e x : Int} (h : 2 ≤ A ∧ A ≤ 10) : offT U (upV U A 0 e x) := ⟨fun a b z1 z2 z3 => upV_off2 (by omega), fun j z => by rw [upV_off2 (by omega)]⟩
theorem refS_refl {U' V' : VV} (h1 : U' 1 0 = U 1 0) (h2 : ∀ j, j = 7 ∨ j = 8 → V' 33 0 j = V 33 0 j) : refS U V U' V' := Or.inl ⟨⟨by rw [h1], by rw [h1]⟩, h2 7 (by omega), h2 8 (by omega)⟩
theorem does_head {n : Nat} {q : QQ} (hi : 0 ≤ i ∧ i < 60) (hn : am_lsw [(103, 84), (109, 108), (116, 95), (119, 119)] 129 (iI (V 43 0 (4 * i))) = n) : RUN d 300 (am_en 300 [aR 33 0, aI (iI i)]) (HM q V) = RUN d 300 (n, [sR 33 0, sI i, sI (V 43 0 (4 * i + 1)), sI (V 43 0 (4 * i + 2)), sI (V 43 0 (4 * i + 3)), none], []) (HM q V) := by
  refine (show RUN d 300 (0, [sR 33 0, sI i, none, none, none, none], []) (HM q V) = _ from ?_)
  refine Eq.trans (k_aload rfl rfl) (Eq.trans (k_getfr rfl rfl rfl) (Eq.trans (k_pushi 4 rfl rfl) (Eq.trans (k_iload rfl rfl) (Eq.trans (k_bin rfl (iI_mul _ _)) (Eq.trans (k_pushi 1 rfl rfl) (Eq.trans (k_bin rfl (iI_add _ _)) (Eq.trans (k_iald rfl rfl rfl (by omega)) (Eq.trans (k_store rfl) ?_))))))))
  refine Eq.trans (k_aload rfl rfl) (Eq.trans (k_getfr rfl rfl rfl) (Eq.trans (k_pushi 4 rfl rfl) (Eq.trans (k_iload rfl rfl) (Eq.trans (k_bin rfl (iI_mul _ _)) (Eq.trans (k_pushi 2 rfl rfl) (Eq.trans (k_bin rfl (iI_add _ _)) (Eq.trans (k_iald rfl rfl rfl (by omega)) (Eq.trans (k_store rfl) ?_))))))))
  refine Eq.trans (k_aload rfl rfl) (Eq.trans (k_getfr rfl rfl rfl) (Eq.trans (k_pushi 4 rfl rfl) (Eq.trans (k_iload rfl rfl) (Eq.trans (k_bin rfl (iI_mul _ _)) (Eq.trans (k_pushi 3 rfl rfl) (Eq.trans (k_bin rfl (iI_add _ _)) (Eq.trans (k_iald rfl rfl rfl (by omega)) (Eq.trans (k_store rfl) ?_))))))))
  exact Eq.trans (k_aload rfl rfl) (Eq.trans (k_getfr rfl rfl rfl) (Eq.trans (k_pushi 4 rfl rfl) (Eq.trans (k_iload rfl rfl) (Eq.trans (k_bin rfl (iI_mul _ _)) (Eq.trans (k_iald rfl rfl rfl (by omega)) (k_lsw rfl hn))))))
theorem val0 {W : VV} {a b : Int} {l : List Int} (h : valsAt W a (b :: l)) : W 30 0 (a + 0) = b := h 0 (Nat.succ_pos _)
theorem val1 {W : VV} {a b c : Int} {l : List Int} (h : valsAt W a (b :: c :: l)) : W 30 0 (a + 1) = c := h 1 (Nat.succ_lt_succ (Nat.succ_pos _))
theorem val2 {W : VV} {a b c e : Int} {l : List Int} (h : valsAt W a (b :: c :: e :: l)) : W 30 0 (a + 2) = e := h 2 (Nat.succ_lt_succ (Nat.succ_lt_succ (Nat.succ_pos _)))
theorem mal0 {W : VV} {x b : Int} {l : List Int} (h : cmdM W i (x, b :: l)) : W 43 0 (4 * i + 1) = b := by
  have := h.2 0 (Nat.succ_pos _)
  rw [show 4 * i + 1 + ((0 : Nat) : Int) = 4 * i + 1 by omega] at this
  exact this
theorem mal1 {W : VV} {x b c : Int} {l : List Int} (h : cmdM W i (x, b :: c :: l)) : W 43 0 (4 * i + 2) = c := by
  have := h.2 1 (Nat.succ_lt_succ (Nat.succ_pos _))
  rw [show 4 * i + 1 + ((1 : Nat) : Int) = 4 * i + 2 by omega] at this
  exact this
theorem mal2 {W : VV} {x b c e : Int} {l : List Int} (h : cmdM W i (x, b :: c :: e :: l)) : W 43 0 (4 * i + 3) = e := by
  have := h.2 2 (Nat.succ_lt_succ (Nat.succ_lt_succ (Nat.succ_pos _)))
  rw [show 4 * i + 1 + ((2 : Nat) : Int) = 4 * i + 3 by omega] at this
  exact this
theorem no01 {α : Prop} (z : (0 : Int) = 1) : α := absurd z (by decide)
theorem no10 {α : Prop} (z : (1 : Int) = 0) : α := absurd z (by decide)
theorem stc_103 {a b : Int} (hB : B ≤ 999900) (s : clsI B U) (hi : 0 ≤ i ∧ i < 10) (cu : cmdAt U i (103, [a, b])) (ha : 0 ≤ a ∧ a ≤ 99) (hb : 0 ≤ b ∧ b ≤ 9) : stpC d B i U (clsS U (103, [a, b])).1 (clsS U (103, [a, b])).2 := by
  obtain ⟨ri, rl, sm⟩ := s
  have rk : rowok U := rowok_of ri.1 (by omega)
  have r1 : R32 a := by constructor <;> omega
  have r2 : R32 b := by constructor <;> omega
  have ec : ∀ q : QQ, RUN (d + 5) 191 (am_en 191 [aR 1 0, aI (iI i)]) (HM q U) = RUN (d + 5) 191 (84, [sR 1 0, sI i, sR 0 3, sI a, sI b, sI (U 30 0 (i * 3 + 2))], []) (HM q U) := fun q => by
    rw [try_head (d := d + 4) (b := 3) (o := 0) (z := 1) (v := 0) (n := 84) hi (by rw [cu.1]; rfl) rfl rfl (by decide) rfl rfl, val0 cu.2, val1 cu.2]
  by_cases c : 0 ≤ a ∧ a < 32
  · have e : clsS U (103, [a, b]) = (1, upV U 3 0 a b) := cif_pos c
    rw [e]
    exact ⟨fun q => (ec q).trans (Eq.trans (k_aload rfl rfl) (Eq.trans (k_iload rfl rfl) (Eq.trans (k_iload rfl rfl) (Eq.trans (RUN_ci rfl rfl rfl ((e_195 (d := d + 2) rk r1 r2).trans (cif_pos ⟨c, hb⟩)) (qle_refl _)) (k_iret rfl (iI_bool (Or.inr rfl))))))), offT_row (by decide), Or.inr rfl, rl, sm, fun _ => ⟨RI_mono (RI_ground ri hb) (by omega), rl, sm⟩⟩
  · have e : clsS U (103, [a, b]) = (0, U) := cif_neg c
    rw [e]
    exact ⟨fun q => (ec q).trans (Eq.trans (k_aload rfl rfl) (Eq.trans (k_iload rfl rfl) (Eq.trans (k_iload rfl rfl) (Eq.trans (RUN_ci rfl rfl rfl ((e_195 (d := d + 2) rk r1 r2).trans (cif_neg (fun z => c z.1))) (qle_refl _)) (k_iret rfl (iI_bool (Or.inl rfl))))))), offT_refl U, Or.inl rfl, rl, sm, no01⟩
theorem stm_no {x : Int} (hx : x = 1 ∨ x = 2) (hm : ∀ q : QQ, RUN (d + 6) 300 (am_en 300 [aR 33 0, aI (iI i)]) (HM q V) = rV (HM q (upV V 33 0 6 x))) : stpM d i U V 0 U := fun q =>
  ⟨upV V 33 0 6 x, offN_6, refS_refl rfl (fun j z => by rw [upV_at, if_neg (by omega)]), hm q, no01, fun _ => by rw [upV_at, if_pos rfl]; omega⟩
theorem stm_103 {a b : Int} (hB : B ≤ 999900) (s : stpR B U V) (h6 : V 33 0 6 = 0) (hi : 0 ≤ i ∧ i < 10) (cm : cmdM V i (103, [a, b])) (ha : 0 ≤ a ∧ a ≤ 99) (hb : 0 ≤ b ∧ b ≤ 9) : stpM d i U V (clsS U (103, [a, b])).1 (clsS U (103, [a, b])).2 := by
  obtain ⟨ri, mr, rl, sm⟩ := s
  have rk : rowok U := rowok_of ri.1 (by omega)
  have r1 : R32 a := by constructor <;> omega
  have r2 : R32 b := by constructor <;> omega
  have em : ∀ q : QQ, RUN (d + 6) 300 (am_en 300 [aR 33 0, aI (iI i)]) (HM q V) = RUN (d + 6) 300 (84, [sR 33 0, sI i, sI a, sI b, sI (V 43 0 (4 * i + 3)), none], []) (HM q V) := fun q => by
    rw [does_head (n := 84) (by omega) (by rw [cm.1]; rfl), mal0 cm, mal1 cm]
  by_cases c : 0 ≤ a ∧ a < 32
  · have e : clsS U (103, [a, b]) = (1, upV U 3 0 a b) := cif_pos c
    rw [e]
    exact fun q => ⟨upV V 34 0 (2 + a) b, offN_34, refS_refl rfl (fun _ _ => rfl), (em q).trans (Eq.trans (k_aload rfl rfl) (Eq.trans (k_iload rfl rfl) (Eq.trans (k_iload rfl rfl) (Eq.trans (RUN_ci rfl rfl rfl (((e_212 (d := d + 3) rk mr r1 r2).trans (cif_pos c)).trans (cif_pos hb)) (qle_refl _)) (Eq.trans (k_store rfl) (Eq.trans (k_goto rfl) (k_ret rfl))))))), fun _ => ⟨h6, SR_ground c (RI_8 ri) mr⟩, no10⟩
  · have e : clsS U (103, [a, b]) = (0, U) := cif_neg c
    rw [e]
    exact stm_no (Or.inl rfl) (fun q => (em q).trans (Eq.trans (k_aload rfl rfl) (Eq.trans (k_iload rfl rfl) (Eq.trans (k_iload rfl rfl) (Eq.trans (RUN_ci rfl rfl rfl ((e_212 (d := d + 3) rk mr r1 r2).trans (cif_neg c)) (qle_refl _)) (Eq.trans (k_store rfl) (Eq.trans (k_goto rfl) (k_ret rfl))))))))
theorem stc_109 {a b : Int} (hB : B ≤ 999900) (s : clsI B U) (hi : 0 ≤ i ∧ i < 10) (cu : cmdAt U i (109, [a, b])) (ha : 0 ≤ a ∧ a ≤ 9) (hb : 0 ≤ b ∧ b ≤ 9) : stpC d B i U (clsS U (109, [a, b])).1 (clsS U (109, [a, b])).2 := by
  obtain ⟨ri, rl, sm⟩ := s
  have rk : rowok U := rowok_of ri.1 (by omega)
  have r1 : R32 a := by constructor <;> omega
  have r2 : R32 b := by constructor <;> omega
  have ec : ∀ q : QQ, RUN (d + 5) 191 (am_en 191 [aR 1 0, aI (iI i)]) (HM q U) = RUN (d + 5) 191 (102, [sR 1 0, sI i, sR 0 5, sI a, sI b, sI (U 30 0 (i * 3 + 2))], []) (HM q U) := fun q => by
    rw [try_head (d := d + 4) (b := 5) (o := 2) (z := 3) (v := 2) (n := 102) hi (by rw [cu.1]; rfl) rfl rfl (by decide) rfl rfl, val0 cu.2, val1 cu.2]
  by_cases c : (0 ≤ a ∧ a < U 2 0 8) ∧ 0 ≤ b ∧ b < 4
  · have e : clsS U (109, [a, b]) = (1, upV U 6 0 a b) := cif_pos c
    rw [e]
    exact ⟨fun q => (ec q).trans (Eq.trans (k_aload rfl rfl) (Eq.trans (k_iload rfl rfl) (Eq.trans (k_iload rfl rfl) (Eq.trans (RUN_ci rfl rfl rfl (((e_197 (d := d + 3) rk r1 r2).trans (cif_pos c.1)).trans (cif_pos c.2)) (qle_refl _)) (k_iret rfl (iI_bool (Or.inr rfl))))))), offT_row (by decide), Or.inr rfl, rl, sm, fun _ => ⟨RI_mono (RI_mood ri c.2) (by omega), rl, sm⟩⟩
  · have e : clsS U (109, [a, b]) = (0, U) := cif_neg c
    rw [e]
    have e1 : ∀ q : QQ, RUN (d + 4) 197 (am_en 197 [aR 1 0, aI (iI a), aI (iI b)]) (HM q U) = rI 0 (HM q U) := fun q => by
      rw [e_197 (d := d + 3) rk r1 r2]
      exact cif_eq (fun z => cif_neg (fun y => c ⟨z, y⟩)) (fun _ => rfl)
    exact ⟨fun q => (ec q).trans (Eq.trans (k_aload rfl rfl) (Eq.trans (k_iload rfl rfl) (Eq.trans (k_iload rfl rfl) (Eq.trans (RUN_ci rfl rfl rfl (e1 q) (qle_refl _)) (k_iret rfl (iI_bool (Or.inl rfl))))))), offT_refl U, Or.inl rfl, rl, sm, no01⟩
theorem stm_109 {a b : Int} (hB : B ≤ 999900) (s : stpR B U V) (h6 : V 33 0 6 = 0) (hi : 0 ≤ i ∧ i < 10) (cm : cmdM V i (109, [a, b])) (ha : 0 ≤ a ∧ a ≤ 9) (hb : 0 ≤ b ∧ b ≤ 9) : stpM d i U V (clsS U (109, [a, b])).1 (clsS U (109, [a, b])).2 := by
  obtain ⟨ri, mr, rl, sm⟩ := s
  have rk : rowok U := rowok_of ri.1 (by omega)
  have hn := rk_n rk
  have r1 : R32 a := by constructor <;> omega
  have r2 : R32 b := by constructor <;> omega
  have em : ∀ q : QQ, RUN (d + 6) 300 (am_en 300 [aR 33 0, aI (iI i)]) (HM q V) = RUN (d + 6) 300 (108, [sR 33 0, sI i, sI a, sI b, sI (V 43 0 (4 * i + 3)), none], []) (HM q V) := fun q => by
    rw [does_head (n := 108) (by omega) (by rw [cm.1]; rfl), mal0 cm, mal1 cm]
  have no : ∀ x : Int, (x = 1 ∨ x = 2) → (∀ q : QQ, RUN (d + 5) 223 (am_en 223 [aR 33 0, aI (iI a), aI (iI b)]) (HM q V) = rI 0 (HM q (upV V 33 0 6 x))) → stpM d i U V 0 U := fun x hx e2 =>
    stm_no hx (fun q => (em q).trans (Eq.trans (k_aload rfl rfl) (Eq.trans (k_iload rfl rfl) (Eq.trans (k_iload rfl rfl) (Eq.trans (RUN_ci rfl rfl rfl (e2 q) (qle_refl _)) (Eq.trans (k_store rfl) (Eq.trans (k_goto rfl) (k_ret rfl))))))))
  by_cases c : (0 ≤ a ∧ a < U 2 0 8) ∧ 0 ≤ b ∧ b < 4
  · have e : clsS U (109, [a, b]) = (1, upV U 6 0 a b) := cif_pos c
    rw [e]
    exact fun q => ⟨upV V 34 0 (50 + 13 * a + 2) b, offN_34, refS_refl rfl (fun _ _ => rfl), (em q).trans (Eq.trans (k_aload rfl rfl) (Eq.trans (k_iload rfl rfl) (Eq.trans (k_iload rfl rfl) (Eq.trans (RUN_ci rfl rfl rfl (((e_223 (d := d + 3) rk mr r1 r2).trans (cif_pos c.1)).trans (cif_pos (by omega))) (qle_refl _)) (Eq.trans (k_store rfl) (Eq.trans (k_goto rfl) (k_ret rfl))))))), fun _ => ⟨h6, SR_mood (by omega) (RI_8 ri) mr⟩, no10⟩
  · have e : clsS U (109, [a, b]) = (0, U) := cif_neg c
    rw [e]
    by_cases c1 : 0 ≤ a ∧ a < U 2 0 8
    · exact no 2 (Or.inr rfl) (fun q => ((e_223 (d := d + 3) rk mr r1 r2).trans (cif_pos c1)).trans (cif_neg (by omega)))
    · exact no 1 (Or.inl rfl) (fun q => (e_223 (d := d + 3) rk mr r1 r2).trans (cif_neg c1))
theorem stc_119 {a : Int} (s : clsI B U) (hi : 0 ≤ i ∧ i < 10) (cu : cmdAt U i (119, [a])) (ha : -9 ≤ a ∧ a ≤ 9) : stpC d B i U (clsS U (119, [a])).1 (clsS U (119, [a])).2 := by
  obtain ⟨ri, rl, sm⟩ := s
  have ec : ∀ q : QQ, RUN (d + 5) 191 (am_en 191 [aR 1 0, aI (iI i)]) (HM q U) = RUN (d + 5) 191 (110, [sR 1 0, sI i, sR 0 6, sI a, sI (U 30 0 (i * 3 + 1)), sI (U 30 0 (i * 3 + 2))], []) (HM q U) := fun q => by
    rw [try_head (d := d + 4) (b := 6) (o := 3) (z := 4) (v := 3) (n := 110) hi (by rw [cu.1]; rfl) rfl rfl (by decide) rfl rfl, val0 cu.2]
  exact ⟨fun q => (ec q).trans (Eq.trans (k_aload rfl rfl) (Eq.trans (k_getfr rfl rfl rfl) (Eq.trans (k_iload rfl rfl) (Eq.trans (k_putfi 9 rfl rfl rfl rfl trivial) (Eq.trans (k_pushi 1 rfl rfl) (k_iret rfl (iI_bool (Or.inr rfl)))))))), offT_row (by decide), Or.inr rfl, rl, sm, fun _ => ⟨RI_mono (RI_wind ri ha) (by omega), rl, sm⟩⟩
theorem stm_119 {a : Int} (hB : B ≤ 999900) (s : stpR B U V) (h6 : V 33 0 6 = 0) (hi : 0 ≤ i ∧ i < 10) (cm : cmdM V i (119, [a])) (ha : -9 ≤ a ∧ a ≤ 9) : stpM d i U V (clsS U (119, [a])).1 (clsS U (119, [a])).2 := by
  obtain ⟨ri, mr, rl, sm⟩ := s
  have rk : rowok U := rowok_of ri.1 (by omega)
  have r1 : R32 a := by constructor <;> omega
  have em : ∀ q : QQ, RUN (d + 6) 300 (am_en 300 [aR 33 0, aI (iI i)]) (HM q V) = RUN (d + 6) 300 (119, [sR 33 0, sI i, sI a, sI (V 43 0 (4 * i + 2)), sI (V 43 0 (4 * i + 3)), none], []) (HM q V) := fun q => by
    rw [does_head (n := 119) (by omega) (by rw [cm.1]; rfl), mal0 cm]
  exact fun q => ⟨upV V 34 0 0 a, offN_34, refS_refl rfl (fun _ _ => rfl), (em q).trans (Eq.trans (k_aload rfl rfl) (Eq.trans (k_iload rfl rfl) (Eq.trans (RUN_ci rfl rfl rfl ((e_248 (d := d + 4) rk mr r1).trans (cif_pos ha)) (qle_refl _)) (Eq.trans (k_store rfl) (Eq.trans (k_goto rfl) (k_ret rfl)))))), fun _ => ⟨h6, SR_wind (RI_8 ri) mr⟩, no10⟩
theorem stc_116 {a b c : Int} (hB : B ≤ 999900) (s : clsI B U) (hi : 0 ≤ i ∧ i < 10) (cu : cmdAt U i (116, [a, b, c])) (ha : 0 ≤ a ∧ a ≤ 99) (hb : 0 ≤ b ∧ b ≤ 9) (hc : 0 ≤ c ∧ c ≤ 9) : stpC d B i U (clsS U (116, [a, b, c])).1 (clsS U (116, [a, b, c])).2 := by
  obtain ⟨ri, rl, sm⟩ := s
  have rk : rowok U := rowok_of ri.1 (by omega)
  have hn := rk_n rk
  have r1 : R32 a := by constructor <;> omega
  have r2 : R32 b := by constructor <;> omega
  have r3 : R32 c := by constructor <;> omega
  have ec : ∀ q : QQ, RUN (d + 5) 191 (am_en 191 [aR 1 0, aI (iI i)]) (HM q U) = RUN (d + 5) 191 (92, [sR 1 0, sI i, sR 0 4, sI a, sI b, sI c], []) (HM q U) := fun q => by
    rw [try_head (d := d + 4) (b := 4) (o := 1) (z := 2) (v := 1) (n := 92) hi (by rw [cu.1]; rfl) rfl rfl (by decide) rfl rfl, val0 cu.2, val1 cu.2, val2 cu.2]
  by_cases c1 : ((0 ≤ a ∧ a < 32) ∧ 1 ≤ b ∧ b ≤ 9 ∧ 0 ≤ c ∧ c < 4) ∧ U 2 0 8 < 8 ∧ fstI (posIs (U 4 0) a) (U 2 0 8) = -1
  · have e : clsS U (116, [a, b, c]) = (1, towU U a b c) := cif_pos c1
    rw [e]
    have et : offT U (towU U a b c) := ⟨fun a' b' z1 z2 z3 => by unfold towU; rw [upV_off2 (by omega), upV_off2 (by omega), upV_off2 (by omega), upV_off2 (by omega)], fun j z => by unfold towU; rw [upV_off2 (by omega), upV_off2 (by omega), upV_off2 (by omega), upV_off2 (by omega)]⟩
    refine ⟨fun q => (ec q).trans (Eq.trans (k_aload rfl rfl) (Eq.trans (k_iload rfl rfl) (Eq.trans (k_iload rfl rfl) (Eq.trans (k_iload rfl rfl) (Eq.trans (RUN_ci rfl rfl rfl (((((e_196 (d := d + 2) rk r1 r2 r3).trans (cif_pos c1.1)).trans (cif_pos c1.2)).trans (cif_pos c1.2.1)).trans (cif_neg (by omega))) (qle_refl _)) (k_iret rfl (iI_bool (Or.inr rfl)))))))), et, Or.inr rfl, rl, sm, fun _ => ⟨RI_mono (RI_add ri c1.2.1 c1.1.1 (by omega) (by omega) c1.2.2) (by omega), rl, sm⟩⟩
  · have e : clsS U (116, [a, b, c]) = (0, U) := cif_neg c1
    rw [e]
    have e1 : ∀ q : QQ, RUN (d + 4) 196 (am_en 196 [aR 1 0, aI (iI a), aI (iI b), aI (iI c)]) (HM q U) = rI 0 (HM q U) := fun q => by
      rw [e_196 (d := d + 2) rk r1 r2 r3]
      exact cif_eq (fun z => cif_neg (fun y => c1 ⟨z, y⟩)) (fun _ => rfl)
    exact ⟨fun q => (ec q).trans (Eq.trans (k_aload rfl rfl) (Eq.trans (k_iload rfl rfl) (Eq.trans (k_iload rfl rfl) (Eq.trans (k_iload rfl rfl) (Eq.trans (RUN_ci rfl rfl rfl (e1 q) (qle_refl _)) (k_iret rfl (iI_bool (Or.inl rfl)))))))), offT_refl U, Or.inl rfl, rl, sm, no01⟩
theorem stm_116 {a b c : Int} (hB : B ≤ 999900) (s : stpR B U V) (h6 : V 33 0 6 = 0) (hi : 0 ≤ i ∧ i < 10) (cm : cmdM V i (116, [a, b, c])) (ha : 0 ≤ a ∧ a ≤ 99) (hb : 0 ≤ b ∧ b ≤ 9) (hc : 0 ≤ c ∧ c ≤ 9) : stpM d i U V (clsS U (116, [a, b, c])).1 (clsS U (116, [a, b, c])).2 := by
  obtain ⟨ri, mr, rl, sm⟩ := s
  have rk : rowok U := rowok_of ri.1 (by omega)
  have hn := rk_n rk
  have r1 : R32 a := by constructor <;> omega
  have r2 : R32 b := by constructor <;> omega
  have r3 : R32 c := by constructor <;> omega
  have em : ∀ q : QQ, RUN (d + 6) 300 (am_en 300 [aR 33 0, aI (iI i)]) (HM q V) = RUN (d + 6) 300 (95, [sR 33 0, sI i, sI a, sI b, sI c, none], []) (HM q V) := fun q => by
    rw [does_head (n := 95) (by omega) (by rw [cm.1]; rfl), mal0 cm, mal1 cm, mal2 cm]
  have no : ∀ x : Int, (x = 1 ∨ x = 2) → (∀ q : QQ, RUN (d + 5) 218 (am_en 218 [aR 33 0, aI (iI a), aI (iI b), aI (iI c)]) (HM q V) = rI 0 (HM q (upV V 33 0 6 x))) → stpM d i U V 0 U := fun x hx e2 =>
    stm_no hx (fun q => (em q).trans (Eq.trans (k_aload rfl rfl) (Eq.trans (k_iload rfl rfl) (Eq.trans (k_iload rfl rfl) (Eq.trans (k_iload rfl rfl) (Eq.trans (RUN_ci rfl rfl rfl (e2 q) (qle_refl _)) (Eq.trans (k_store rfl) (Eq.trans (k_goto rfl) (k_ret rfl)))))))))
  by_cases c1 : ((0 ≤ a ∧ a < 32) ∧ 1 ≤ b ∧ b ≤ 9 ∧ 0 ≤ c ∧ c < 4) ∧ U 2 0 8 < 8 ∧ fstI (posIs (U 4 0) a) (U 2 0 8) = -1
  · have e : clsS U (116, [a, b, c]) = (1, towU U a b c) := cif_pos c1
    rw [e]
    intro q
    obtain ⟨W, o1, o2, o3⟩ := s_218 (d := d + 3) (q := q) rk mr ri.2.1 r1 r2 r3
    refine ⟨W, ⟨fun a b z => o1 a b (by omega), fun j z => by rw [o1 33 0 (by omega)]⟩, refS_refl ?_ (fun j z => by rw [o1 33 0 (by omega)]), (em q).trans (Eq.trans (k_aload rfl rfl) (Eq.trans (k_iload rfl rfl) (Eq.trans (k_iload rfl rfl) (Eq.trans (k_iload rfl rfl) (Eq.trans (RUN_ci rfl rfl rfl ((o3.trans (cif_pos c1.1)).trans (cif_pos c1.2)) (qle_refl _)) (Eq.trans (k_store rfl) (Eq.trans (k_goto rfl) (k_ret rfl)))))))), fun _ => ⟨by rw [o1 33 0 (by omega)]; exact h6, ?_⟩, no10⟩
    · rfl
    · show SRr 0 (towU U a b c) (W 34 0)
      rw [o2]
      exact SR_add (by omega) (RI_8 ri) ri.2.2 mr
  · have e : clsS U (116, [a, b, c]) = (0, U) := cif_neg c1
    rw [e]
    by_cases c2 : (0 ≤ a ∧ a < 32) ∧ 1 ≤ b ∧ b ≤ 9 ∧ 0 ≤ c ∧ c < 4
    · refine no 2 (Or.inr rfl) (fun q => ?_)
      obtain ⟨W, o1, o2, o3⟩ := s_218 (d := d + 3) (q := q) rk mr ri.2.1 r1 r2 r3
      exact (o3.trans (cif_pos c2)).trans (cif_neg (fun z => c1 ⟨c2, z⟩))
    · refine no 1 (Or.inl rfl) (fun q => ?_)
      obtain ⟨W, o1, o2, o3⟩ := s_218 (d := d + 3) (q := q) rk mr ri.2.1 r1 r2 r3
      exact o3.trans (cif_neg c2)
end
