/-! the calls that write, on both sides -/
def chsOK (L : List Int) : Prop := ∀ x ∈ L, 0 ≤ x ∧ x < 65536
theorem chs_app {L M : List Int} (h : chsOK L) (k : chsOK M) : chsOK (L ++ M) := fun x hx => by
  rcases List.mem_append.mp hx with z | z
  · exact h x z
  · exact k x z
theorem chs_1 {c : Int} (h : 0 ≤ c ∧ c < 65536) : chsOK [c] := fun x hx => by
  rw [List.mem_singleton.mp hx]
  exact h
theorem chs_nil : chsOK [] := fun x hx => absurd hx List.not_mem_nil
theorem chs_num {n : Int} (h : 0 ≤ n ∧ n < 10000) : chsOK (numL n) := by
  unfold numL
  by_cases c : n < 100
  · rw [cif_pos c]
    by_cases c2 : n < 10
    · rw [cif_pos c2]; exact chs_1 (by omega)
    · rw [cif_neg c2]; exact chs_app (chs_1 (c := 48 + n / 10 % 10) (by omega)) (chs_1 (by omega))
  · rw [cif_neg c]; exact chs_app (chs_1 (c := 48 + n / 100) (by omega)) (chs_app (chs_1 (c := 48 + n / 10 % 10) (by omega)) (chs_1 (by omega)))
theorem chs_sg {f : Int → Int} : ∀ (k : Nat) (a : Int), (∀ i : Int, a ≤ i → i < a + k → 0 ≤ f i ∧ f i < 65536) → chsOK (sg f a k) := by
  intro k
  induction k with
  | zero => intro a _; exact chs_nil
  | succ k ih =>
    intro a h
    have h1 := h a (by omega) (by omega)
    have h2 := ih (a + 1) (fun i i1 i2 => h i (by omega) (by omega))
    exact chs_app (chs_1 h1) h2
theorem chs_twr {V : VV} (rk : rowok V) {t : Int} (ht : 0 ≤ t ∧ t < V 2 0 8) : chsOK (twrL V t) := by
  obtain ⟨k1, k2, k3, k4, k5, k6, k7, k8, k9, k10⟩ := id rk
  have h4 := k4 t (by omega)
  have h5 := k5 t (by omega)
  have h6 := k6 t (by omega)
  have h8 := k8 t (by omega)
  unfold twrL
  refine chs_app (chs_app (chs_app (chs_app (chs_app (chs_app (chs_num (by omega)) (chs_1 (by decide))) (chs_num (by omega))) (chs_1 (by decide))) (chs_num (by omega))) ?_) (chs_sg _ _ (fun i i1 i2 => ?_))
  · by_cases c : V 8 0 t ≤ 0
    · rw [cif_pos c]; exact chs_nil
    · rw [cif_neg c]; exact chs_1 (by decide)
  · have := k9 i (by omega)
    omega
theorem chs_pat {x : Int} : chsOK (sg (patC x) 0 8) := chs_sg _ _ (fun i _ _ => by
  unfold patC
  by_cases c : bAnd (bShr x i) 1 = 1
  · rw [cif_pos c]; decide
  · rw [cif_neg c]; decide)
theorem chs_rel {P : Nat → Int} : ∀ k : Nat, (∀ i : Nat, i < k → 0 ≤ P i ∧ P i < 8) → chsOK (relL P k) := by
  intro k
  induction k with
  | zero => intro _; exact chs_nil
  | succ k ih =>
    intro h
    have hk := h k (by omega)
    refine chs_app (ih (fun i hi => h i (by omega))) (chs_app ?_ (chs_num (by omega)))
    by_cases c : k = 0
    · rw [cif_pos c]; exact chs_nil
    · rw [cif_neg c]; exact chs_1 (by decide)
section
variable {d : Nat} {B : Int} {H K U V W X : VV} {x1 x2 : Int} {L : List Int}
theorem outok_of (h : CR B H H) : outok H := by
  obtain ⟨L, ⟨a1, a2, -⟩, -⟩ := h.2.2.2.2.2.2.2.2.1
  unfold outok
  omega
/-- something was written on both sides -/
theorem CR_out (h : CR B U H) (eu : offO U K) (ev : eqV H U) (o : outIs K L) (q : offQ V X) (e : kpV K V) (eu2 : eqU K V) (m : outM X L) (hl : chsOK L) (h6 : V 33 0 6 = 0) : X 33 0 6 = 0 ∧ CR (B + 100) X X := by
  have hk : ∀ a b, ¬ (a = 31 ∨ a = 32) → K a b = U a b := fun a b z => eu a b (fun y => z y.1)
  have ek : eqV H K := fun a b z => by rw [hk a b (by omega)]; exact ev a b z
  have hx : ∀ a b, a = 34 ∨ a = 36 ∨ a = 37 ∨ a = 42 → X a b = H a b := fun a b z => by rw [q.1 a b (by omega), e.1 a b (by omega), ek a b (by omega)]
  have hj : ∀ j, j = 3 ∨ j = 5 ∨ j = 7 ∨ j = 8 ∨ j = 17 ∨ j = 20 ∨ j = 21 → X 33 0 j = H 33 0 j := fun j z => by rw [q.2 j (by omega), e.2 j (by omega), ek 33 0 (by omega)]
  refine ⟨by rw [q.2 6 (by omega)]; exact h6, ?_⟩
  obtain ⟨h1, h2, h3, h4, h5, h6, h7, h8, h9, h10⟩ := h
  have key : CR B K X := by
    refine ⟨RI_off (fun a z1 z2 => hk a 0 (by omega)) h1, MR_off (hx 34 0 (by omega)) (SR_off (fun a z1 z2 => hk a 0 (by omega)) h2), relok_eq (fun a b z1 z2 => hk a b (by omega)) h3, smok_eq (hk 23 0 (by omega)) h4, hisR_U (hisR_V h5 (hj 5 (by omega)) (hx 37 0 (by omega))) (hk 11 0 (by omega)) (fun a b z1 z2 z3 => hk a b (by omega)), savR_U (savR_V h6 (hj 3 (by omega)) (hx 36 0 (by omega))) (by rw [hk 1 0 (by omega)]) (fun a z1 z2 => hk a 2 (by omega)), refR_U (refR_V h7 (hj 7 (by omega)) (hj 8 (by omega))) (by rw [hk 1 0 (by omega)]) (by rw [hk 1 0 (by omega)]), errR_U (errR_V h8 (hj 20 (by omega)) (hj 21 (by omega))) (by rw [hk 1 0 (by omega)]) (by rw [hk 1 0 (by omega)]), ⟨L, o, m, hl⟩, inR_U (inR_V h10 (hj 17 (by omega)) (hx 42 0 (by omega))) (hk 27 0 (by omega)) (hk 28 0 (by omega))⟩
  exact CR_mono (CR_eqU key (fun a b z => by rw [q.1 a b (by omega)]; exact eu2 a b z)) (by omega)
theorem op_157 (h : CR B H H) (hB : B ≤ 999990) (r1 : R32 x1) : OP B (d + 12) 157 [aR 1 0, aI (iI x1)] (cmL [(2, 1)]) 286 [aR 33 0, aI (iI x1)] H := by
  have rk := CR_rk h hB
  have mr := CR_mr h
  intro q
  rcases s_157 (d := d + 10) (q := q) rk (outok_of h) r1 with ⟨a1, a2⟩ | ⟨a1, W, a2, a3, a4⟩
  · refine ⟨1, 0, H, Or.inr ⟨by decide, by decide, 2, rfl, rfl, a2⟩, fun q' _ => ?_⟩
    rcases s_286 (d := d + 10) (q := q') rk mr r1 with ⟨b1, b2⟩ | ⟨b1, -⟩
    · exact ⟨q', 0, _, qst_refl q', b2, rfl, fun z => absurd z (by decide), CR_6 h⟩
    · exact absurd b1 a1
  · refine ⟨0, _, W, Or.inl ⟨rfl, a4⟩, fun q' _ => ?_⟩
    have mw : MR W H := MR_off (a2 34 0 (by omega)) mr
    rcases s_286 (d := d + 10) (q := q') rk mw r1 with ⟨b1, -⟩ | ⟨b1, X, b2, b3, b4⟩
    · exact absurd a1 b1
    · obtain ⟨k1, k2⟩ := CR_out h a2 (eqV_refl H) a3 b2 kpV_6 (eqU_up (by decide)) b3 (chs_twr rk a1) rfl
      exact ⟨q', _, X, qst_refl q', b4, k1, fun _ => rfl, k2⟩
theorem op_164 (h : CR B H H) (r1 : R32 x1) : OP B (d + 12) 164 [aR 1 0, aI (iI x1)] (cmL [(0, 1)]) 290 [aR 33 0, aI (iI x1)] H := by
  intro q
  rcases s_164 (d := d + 11) (q := q) (outok_of h) r1 with ⟨a1, a2⟩ | ⟨a1, W, a2, a3, a4⟩
  · refine ⟨1, 0, H, Or.inr ⟨by decide, by decide, 0, rfl, rfl, a2⟩, fun q' _ => ?_⟩
    rcases s_290 (d := d + 11) (q := q') (V := H) r1 with ⟨b1, b2⟩ | ⟨b1, -⟩
    · exact ⟨q', 0, _, qst_refl q', b2, rfl, fun z => absurd z (by decide), CR_6 h⟩
    · exact absurd b1 a1
  · refine ⟨0, _, W, Or.inl ⟨rfl, a4⟩, fun q' _ => ?_⟩
    rcases s_290 (d := d + 11) (q := q') (V := W) r1 with ⟨b1, -⟩ | ⟨b1, X, b2, b3, b4⟩
    · exact absurd a1 b1
    · obtain ⟨k1, k2⟩ := CR_out h a2 (eqV_refl H) a3 b2 kpV_6 (eqU_up (by decide)) b3 chs_pat rfl
      exact ⟨q', _, X, qst_refl q', b4, k1, fun _ => rfl, k2⟩
theorem op_162 (h : CR B H H) (hB : B ≤ 999990) (r1 : R32 x1) (r2 : R32 x2) : OP B (d + 12) 162 [aR 1 0, aI (iI x1), aI (iI x2)] (cmL [(2, 1), (3, 2)]) 289 [aR 33 0, aI (iI x1), aI (iI x2)] H := by
  have rk := CR_rk h hB
  have rl := CR_rl h
  have mr := CR_mr h
  intro q
  rcases s_162 (d := d + 7) (q := q) rk rl (outok_of h) r1 r2 with ⟨a1, a2⟩ | ⟨a1, a2, a3⟩ | ⟨a0, a1, W, a2, a3, a4⟩
  · refine ⟨1, 0, H, Or.inr ⟨by decide, by decide, 2, rfl, rfl, a2⟩, fun q' _ => ?_⟩
    rcases s_289 (d := d + 7) (q := q') rk mr r1 r2 with ⟨b1, b2⟩ | ⟨b1, -⟩ | ⟨b1, -⟩
    · exact ⟨q', 0, _, qst_refl q', b2, rfl, fun z => absurd z (by decide), CR_6 h⟩
    · exact absurd ⟨b1.1.1, b1.1.2, b1.2⟩ a1
    · exact absurd ⟨b1.1.1, b1.1.2, b1.2⟩ a1
  · refine ⟨2, 0, _, Or.inr ⟨by decide, by decide, 3, rfl, rfl, a3⟩, fun q' _ => ?_⟩
    have mw : MR (lostV H x2) H := mr
    rcases s_289 (d := d + 7) (q := q') rk mw r1 r2 with ⟨b1, -⟩ | ⟨b1, b2, b3⟩ | ⟨b1, b2, -⟩
    · exact absurd ⟨⟨a1.1, a1.2.1⟩, a1.2.2⟩ b1
    · exact ⟨q', 0, _, qst_refl q', b3, kp_M.2.2, fun z => absurd z (by decide), CR_lost h hB a1.2.2 kp_M.1 kp_M.2.1⟩
    · exact absurd b2 a2
  · refine ⟨0, _, W, Or.inl ⟨rfl, a4⟩, fun q' _ => ?_⟩
    have c1 : 0 ≤ x1 ∧ x1 < H 2 0 8 := ⟨a0.1, a0.2.1⟩
    have c2 : 0 ≤ x2 ∧ x2 < H 2 0 8 := a0.2.2
    obtain ⟨f1, f2, f3, f4, f5, f6, f7⟩ := found_p rk rl c1 c2 a1
    have ev : eqV H (foundV H x1 x2) := eqV_S offS_found
    have mw : MR W H := MR_off (by rw [a2 34 0 (by omega)]; exact ev 34 0 (by omega)) mr
    have cf : CR B (foundV H x1 x2) H := CR_U h (kpU_S offS_found) f7
    rcases s_289 (d := d + 7) (q := q') rk mw r1 r2 with ⟨b1, -⟩ | ⟨b1, b2, -⟩ | ⟨b1, b2, X, b3, b4, b5⟩
    · exact absurd ⟨c1, c2⟩ b1
    · exact absurd a1 b2
    · have hn := rk_n rk
      have hp := pD_b rk rl c1 c2 a1
      have ch : chsOK (relT H x1 x2) := chs_app (chs_app (chs_rel _ (fun i hi => by have := f6 i (by omega); omega)) (chs_1 (by decide))) (chs_num (by omega))
      obtain ⟨k1, k2⟩ := CR_out cf a2 ev a3 b3 kp_M.1 kp_M.2.1 b4 ch kp_M.2.2
      exact ⟨q', _, X, qst_refl q', b5, k1, fun _ => rfl, k2⟩
end
