/-! a send among the commands, on both sides -/
section
variable {d : Nat} {B i : Int} {U V : VV} {a b c : Int}
theorem offT_S {W : VV} (h : offS U W) : offT U W := ⟨fun a b z1 z2 z3 => h a b z2, fun j _ => by rw [h 1 0 (by omega)]⟩
theorem offT_ref {W : VV} {x y : Int} (h : offT U W) : offT U (upV (upV W 1 0 11 x) 1 0 12 y) := ⟨fun a b z1 z2 z3 => by rw [upV_off2 (by omega), upV_off2 (by omega)]; exact h.1 a b z1 z2 z3, fun j z => by rw [upV_at, if_neg (by omega), upV_at, if_neg (by omega)]; exact h.2 j z⟩
theorem offT_sent {W : VV} {P : Nat → Int} {l : Int} {k : Nat} (h : offT U W) : offT U (sentV W P l k) := ⟨fun a b z1 z2 z3 => by rw [sentV_off (by omega)]; exact h.1 a b z1 z2 z3, fun j z => by rw [sentV_off (by omega)]; exact h.2 j z⟩
theorem offN_W {W : VV} (h : offW V W) : offN V W := ⟨fun a b z => h.1 a b (by omega), h.2⟩
theorem gb_is {j : Nat} (h1 : j < pN U a b) (h2 : garb U (pP U a b j) c) (h3 : ∀ i : Nat, i < j → ¬ garb U (pP U a b i) c) : gbI U a b c = j := by
  have h := Classical.epsilon_spec (p := fun i : Nat => i < pN U a b ∧ garb U (pP U a b i) c ∧ ∀ j : Nat, j < i → ¬ garb U (pP U a b j) c) ⟨j, h1, h2, h3⟩
  have h : gbI U a b c < pN U a b ∧ garb U (pP U a b (gbI U a b c)) c ∧ ∀ j : Nat, j < gbI U a b c → ¬ garb U (pP U a b j) c := h
  rcases Nat.lt_trichotomy (gbI U a b c) j with z | z | z
  · exact absurd h.2.1 (h3 _ z)
  · exact z
  · exact absurd h2 (h.2.2 _ z)
theorem stc_115 (hB : B ≤ 999900) (s : clsI B U) (hi : 0 ≤ i ∧ i < 10) (cu : cmdAt U i (115, [a, b, c])) (ha : 0 ≤ a ∧ a ≤ 9) (hb : 0 ≤ b ∧ b ≤ 9) (hc : 97 ≤ c ∧ c < 113) : stpC d B i U (clsS U (115, [a, b, c])).1 (clsS U (115, [a, b, c])).2 := by
  obtain ⟨ri, rl, sm⟩ := s
  have rk : rowok U := rowok_of ri.1 (by omega)
  have hn := rk_n rk
  have r1 : R32 a := by constructor <;> omega
  have r2 : R32 b := by constructor <;> omega
  have ec : ∀ q : QQ, RUN (d + 5) 191 (am_en 191 [aR 1 0, aI (iI i)]) (HM q U) = RUN (d + 5) 191 (120, [sR 1 0, sI i, sR 0 7, sI a, sI b, sI c], []) (HM q U) := fun q => by
    rw [try_head (d := d + 4) (b := 7) (o := 4) (z := 0) (v := 4) (n := 120) hi (by rw [cu.1]; rfl) rfl rfl (by decide) rfl rfl, val0 cu.2, val1 cu.2, val2 cu.2]
  have stop : ∀ q : QQ, RUN (d + 5) 191 (154, [sR 1 0, sI i, sR 0 7, sI a, sI b, sI c], []) (HM q U) = rI 0 (HM q U) := fun q => Eq.trans (k_pushi 0 rfl rfl) (k_iret rfl (iI_bool (Or.inl rfl)))
  by_cases t : (0 ≤ a ∧ a < U 2 0 8) ∧ 0 ≤ b ∧ b < U 2 0 8
  · have mid : ∀ (q : QQ) (k : Int) (W : VV), (k = 0 ∨ k = 1) → RUN (d + 4) 132 (am_en 132 [aR 1 0, aI (iI a), aI (iI b), aI (iI c)]) (HM q U) = rI k (HM q W) → RUN (d + 5) 191 (am_en 191 [aR 1 0, aI (iI i)]) (HM q U) = rI k (HM q W) := fun q k W hk e => by
      refine (ec q).trans (Eq.trans (k_aload rfl rfl) (Eq.trans (k_iload rfl rfl) (Eq.trans (RUN_ci rfl rfl rfl (s_70 rk r1) (qle_refl _)) (Eq.trans (Eq.trans (k_ifcN (0 ≤ a ∧ a < U 2 0 8) rfl b2i_eq0) (cif_pos t.1)) ?_))))
      refine Eq.trans (k_aload rfl rfl) (Eq.trans (k_iload rfl rfl) (Eq.trans (RUN_ci rfl rfl rfl (s_70 rk r2) (qle_refl _)) (Eq.trans (Eq.trans (k_ifcN (0 ≤ b ∧ b < U 2 0 8) rfl b2i_eq0) (cif_pos t.2)) ?_)))
      refine Eq.trans (k_aload rfl rfl) (Eq.trans (k_iload rfl rfl) (Eq.trans (k_iload rfl rfl) (Eq.trans (k_iload rfl rfl) (Eq.trans (k_un (c := c) rfl ((iI_i2c c).trans (by rw [show c % 65536 = c by omega]))) (Eq.trans (RUN_ci rfl rfl rfl e (qle_refl _)) ?_)))))
      rcases hk with rfl | rfl
      · exact Eq.trans (Eq.trans (k_ifc ((0 : Int) = 0) rfl (iI_eq0 (show R32 (0 : Int) by decide))) (cif_pos rfl)) (Eq.trans (k_pushi 0 rfl rfl) (k_iret rfl (iI_bool (Or.inl rfl))))
      · exact Eq.trans (Eq.trans (k_ifc ((1 : Int) = 0) rfl (iI_eq0 (show R32 (1 : Int) by decide))) (cif_neg (by decide))) (Eq.trans (k_pushi 1 rfl rfl) (Eq.trans (k_goto rfl) (k_iret rfl (iI_bool (Or.inr rfl)))))
    have cs := fun q : QQ => s_132 (d := d) (q := q) ri.1 (by omega) rl sm t.1 t.2 hc
    by_cases p : pR U a b
    · obtain ⟨f1, f2, f3, f4, f5, f6, f7⟩ := found_p rk rl t.1 t.2 p
      by_cases g : ∃ j : Nat, j < pN U a b ∧ garb U (pP U a b j) c
      · have e : clsS U (115, [a, b, c]) = (0, upV (upV (foundV U a b) 1 0 11 2) 1 0 12 (pP U a b (gbI U a b c + 1))) := (cif_pos t).trans ((cif_pos p).trans (cif_pos g))
        rw [e]
        refine ⟨fun q => mid q 0 _ (Or.inl rfl) ?_, offT_ref (offT_S offS_found), Or.inl rfl, f7, sm, no01⟩
        rcases cs q with ⟨z, -⟩ | ⟨-, j, j1, j2, j3, j4⟩ | ⟨-, z, -⟩
        · exact absurd p z
        · rw [gb_is j1 j2 j3]
          exact j4
        · obtain ⟨j, j1, j2⟩ := g
          exact absurd j2 (z j j1)
      · have e : clsS U (115, [a, b, c]) = (1, sentV (foundV U a b) (pP U a b) c (pN U a b)) := (cif_pos t).trans ((cif_pos p).trans (cif_neg g))
        rw [e]
        have rf : RI B 0 (foundV U a b) := RI_off (fun x z1 z2 => offS_found x 0 (by omega)) ri
        have s23 : sentV (foundV U a b) (pP U a b) c (pN U a b) 23 0 = foundV U a b 23 0 := sentV_off (by omega)
        have sm2 : smok (sentV (foundV U a b) (pP U a b) c (pN U a b)) := smok_eq (U := foundV U a b) s23 sm
        refine ⟨fun q => mid q 1 _ (Or.inr rfl) ?_, offT_sent (offT_S offS_found), Or.inr rfl, relok_eq (fun x y z1 z2 => sentV_off (by omega)) f7, sm2, fun _ => ⟨RI_sent rf hc f2 (fun j hj => (f6 j hj).2), relok_eq (fun x y z1 z2 => sentV_off (by omega)) f7, sm2⟩⟩
        rcases cs q with ⟨z, -⟩ | ⟨-, j, j1, j2, -⟩ | ⟨-, -, z⟩
        · exact absurd p z
        · exact absurd ⟨j, j1, j2⟩ g
        · exact z
    · have e : clsS U (115, [a, b, c]) = (0, upV (upV (lostV U b) 1 0 11 1) 1 0 12 a) := (cif_pos t).trans (cif_neg p)
      rw [e]
      refine ⟨fun q => mid q 0 _ (Or.inl rfl) ?_, offT_ref (offT_S offS_lost), Or.inl rfl, lost_rl rk rl t.2, sm, no01⟩
      rcases cs q with ⟨-, z⟩ | ⟨z, -⟩ | ⟨z, -⟩
      · exact z
      · exact absurd z p
      · exact absurd z p
  · have e : clsS U (115, [a, b, c]) = (0, U) := cif_neg t
    rw [e]
    refine ⟨fun q => ?_, offT_refl U, Or.inl rfl, rl, sm, no01⟩
    refine (ec q).trans (Eq.trans (k_aload rfl rfl) (Eq.trans (k_iload rfl rfl) (Eq.trans (RUN_ci rfl rfl rfl (s_70 rk r1) (qle_refl _)) (Eq.trans (k_ifcN (0 ≤ a ∧ a < U 2 0 8) rfl b2i_eq0) (cif_eq (fun t1 => ?_) (fun _ => stop q))))))
    exact Eq.trans (k_aload rfl rfl) (Eq.trans (k_iload rfl rfl) (Eq.trans (RUN_ci rfl rfl rfl (s_70 rk r2) (qle_refl _)) (Eq.trans (Eq.trans (k_ifcN (0 ≤ b ∧ b < U 2 0 8) rfl b2i_eq0) (cif_neg (fun z => t ⟨t1, z⟩))) (stop q))))
theorem stm_115 (hB : B ≤ 999900) (s : stpR B U V) (h6 : V 33 0 6 = 0) (hi : 0 ≤ i ∧ i < 10) (cm : cmdM V i (115, [a, b, c])) (ha : 0 ≤ a ∧ a ≤ 9) (hb : 0 ≤ b ∧ b ≤ 9) (hc : 97 ≤ c ∧ c < 113) : stpM d i U V (clsS U (115, [a, b, c])).1 (clsS U (115, [a, b, c])).2 := by
  obtain ⟨ri, mr, rl, sm⟩ := s
  have rk : rowok U := rowok_of ri.1 (by omega)
  have r1 : R32 a := by constructor <;> omega
  have r2 : R32 b := by constructor <;> omega
  have r3 : R32 c := by constructor <;> omega
  have em : ∀ (q : QQ) (v : Int) (W : VV), RUN (d + 5) 271 (am_en 271 [aR 33 0, aI (iI a), aI (iI b), aI (iI c)]) (HM q V) = rI v (HM q W) → RUN (d + 6) 300 (am_en 300 [aR 33 0, aI (iI i)]) (HM q V) = rV (HM q W) := fun q v W e => by
    rw [does_head (n := 129) (by omega) (by rw [cm.1]; rfl), mal0 cm, mal1 cm, mal2 cm]
    exact Eq.trans (k_aload rfl rfl) (Eq.trans (k_iload rfl rfl) (Eq.trans (k_iload rfl rfl) (Eq.trans (k_iload rfl rfl) (Eq.trans (RUN_ci rfl rfl rfl e (qle_refl _)) (Eq.trans (k_store rfl) (k_ret rfl))))))
  by_cases t : (0 ≤ a ∧ a < U 2 0 8) ∧ 0 ≤ b ∧ b < U 2 0 8
  · have cs := fun q : QQ => s_271 (d := d) (q := q) (V := V) (l := c) ri.1 (by omega) mr t.1 t.2 hc
    have o0 : ∀ x : Int, offW V (whyV (foundM V U b) x a) := fun x => offW_why offW_M
    by_cases p : pR U a b
    · by_cases g : ∃ j : Nat, j < pN U a b ∧ garb U (pP U a b j) c
      · have e : clsS U (115, [a, b, c]) = (0, upV (upV (foundV U a b) 1 0 11 2) 1 0 12 (pP U a b (gbI U a b c + 1))) := (cif_pos t).trans ((cif_pos p).trans (cif_pos g))
        rw [e]
        intro q
        rcases cs q with ⟨z, -⟩ | ⟨-, j, j1, j2, j3, j4⟩ | ⟨-, z, -⟩
        · exact absurd p z
        · rw [gb_is j1 j2 j3]
          exact ⟨_, offN_W (offW_ref (offW_up (offW_up (o0 0) (by omega)) (by omega))), Or.inr ⟨Or.inr rfl, rfl, rfl⟩, em q _ _ j4, no01, fun _ => by show (1 : Int) ≤ 3 ∧ (3 : Int) ≤ 3; decide⟩
        · obtain ⟨j, j1, j2⟩ := g
          exact absurd j2 (z j j1)
      · have e : clsS U (115, [a, b, c]) = (1, sentV (foundV U a b) (pP U a b) c (pN U a b)) := (cif_pos t).trans ((cif_pos p).trans (cif_neg g))
        rw [e]
        intro q
        rcases cs q with ⟨z, -⟩ | ⟨-, j, j1, j2, -⟩ | ⟨-, -, W, w1, w2, w3⟩
        · exact absurd p z
        · exact absurd ⟨j, j1, j2⟩ g
        · have hM : foundM V U b 33 0 = V 33 0 := offR_M V U b 33 0 (by omega)
          have hw : ∀ j, ¬ (j = 11 ∨ j = 12) → W 33 0 j = V 33 0 j := fun j z => by
            rw [w1 33 0 (by omega)]
            unfold whyV
            rw [upV_at, if_neg (by omega), upV_at, if_neg (by omega), hM]
          refine ⟨W, ⟨fun x y z => by rw [w1 x y (by omega)]; exact (o0 0).1 x y (by omega), fun j z => by rw [w1 33 0 (by omega)]; exact (o0 0).2 j z⟩, refS_refl ?_ (fun j z => hw j (by omega)), em q _ _ w3, fun _ => ⟨by rw [hw 6 (by omega)]; exact h6, ?_⟩, no10⟩
          · show sentV (foundV U a b) (pP U a b) c (pN U a b) 1 0 = U 1 0
            rw [sentV_off (by omega)]
            rfl
          · exact SR_off (fun x z1 z2 => sentV_two (fun x z1 z2 => offS_found x 0 (by omega)) x z1 z2) w2
    · have e : clsS U (115, [a, b, c]) = (0, upV (upV (lostV U b) 1 0 11 1) 1 0 12 a) := (cif_pos t).trans (cif_neg p)
      rw [e]
      intro q
      rcases cs q with ⟨-, z⟩ | ⟨z, -⟩ | ⟨z, -⟩
      · exact ⟨_, offN_W (offW_ref (o0 1)), Or.inr ⟨Or.inl rfl, rfl, rfl⟩, em q _ _ z, no01, fun _ => by show (1 : Int) ≤ 3 ∧ (3 : Int) ≤ 3; decide⟩
      · exact absurd z p
      · exact absurd z p
  · have e : clsS U (115, [a, b, c]) = (0, U) := cif_neg t
    rw [e]
    exact stm_no (Or.inl rfl) (fun q => em q _ _ ((g_271_0 rk mr r1 r2 r3).trans (cif_neg t)))
theorem stc_all {x : Int × List Int} (hB : B ≤ 999900) (s : clsI B U) (hi : 0 ≤ i ∧ i < 10) (cu : cmdAt U i x) (h : cmdOK x) : stpC d B i U (clsS U x).1 (clsS U x).2 := by
  obtain ⟨x1, x2⟩ := x
  rcases h with ⟨h, a, b, e, ha, hb⟩ | ⟨h, a, b, c, e, ha, hb, hc⟩ | ⟨h, a, b, e, ha, hb⟩ | ⟨h, a, e, ha⟩ | ⟨h, a, b, c, e, ha, hb, hc⟩
  · obtain rfl : x1 = 103 := h
    obtain rfl : x2 = [a, b] := e
    exact stc_103 hB s hi cu ha hb
  · obtain rfl : x1 = 116 := h
    obtain rfl : x2 = [a, b, c] := e
    exact stc_116 hB s hi cu ha hb hc
  · obtain rfl : x1 = 109 := h
    obtain rfl : x2 = [a, b] := e
    exact stc_109 hB s hi cu ha hb
  · obtain rfl : x1 = 119 := h
    obtain rfl : x2 = [a] := e
    exact stc_119 s hi cu ha
  · obtain rfl : x1 = 115 := h
    obtain rfl : x2 = [a, b, c] := e
    exact stc_115 hB s hi cu ha hb hc
theorem stm_all {x : Int × List Int} (hB : B ≤ 999900) (s : stpR B U V) (h6 : V 33 0 6 = 0) (hi : 0 ≤ i ∧ i < 10) (cm : cmdM V i x) (h : cmdOK x) : stpM d i U V (clsS U x).1 (clsS U x).2 := by
  obtain ⟨x1, x2⟩ := x
  rcases h with ⟨h, a, b, e, ha, hb⟩ | ⟨h, a, b, c, e, ha, hb, hc⟩ | ⟨h, a, b, e, ha, hb⟩ | ⟨h, a, e, ha⟩ | ⟨h, a, b, c, e, ha, hb, hc⟩
  · obtain rfl : x1 = 103 := h
    obtain rfl : x2 = [a, b] := e
    exact stm_103 hB s h6 hi cm ha hb
  · obtain rfl : x1 = 116 := h
    obtain rfl : x2 = [a, b, c] := e
    exact stm_116 hB s h6 hi cm ha hb hc
  · obtain rfl : x1 = 109 := h
    obtain rfl : x2 = [a, b] := e
    exact stm_109 hB s h6 hi cm ha hb
  · obtain rfl : x1 = 119 := h
    obtain rfl : x2 = [a] := e
    exact stm_119 hB s h6 hi cm ha
  · obtain rfl : x1 = 115 := h
    obtain rfl : x2 = [a, b, c] := e
    exact stm_115 hB s h6 hi cm ha hb hc
end
