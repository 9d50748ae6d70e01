/-! the law's calls for relays, whatever they leave behind -/
/-- m throws at most, the row of towers as it was -/
def GO (m n0 : Nat) (q : QQ) (V : VV) (q' : QQ) (W : VV) : Prop := adv m (6 * m) n0 q q' ∧ kp n0 V W
theorem GO.refl {m n0 : Nat} {q : QQ} {V : VV} (lw : LW V) : GO m n0 q V q V := ⟨adv_refl q, kp_refl lw⟩
theorem GO.trans {m k n0 : Nat} {q q' q2 : QQ} {V W U : VV} (h : GO m n0 q V q' W) (h' : GO k n0 q' W q2 U) : GO (m + k) n0 q V q2 U :=
  ⟨(h.1.trans h'.1).mono (Nat.le_refl _) (by omega) (Nat.le_refl _), h.2.trans h'.2⟩
theorem GO.mono {m k n0 : Nat} {q q' : QQ} {V W : VV} (h : GO m n0 q V q' W) (hm : m ≤ k) : GO k n0 q V q' W := ⟨h.1.mono hm (by omega) (Nat.le_refl _), h.2⟩
theorem GO.lw {m n0 : Nat} {q q' : QQ} {V W : VV} (h : GO m n0 q V q' W) (lw : LW V) : LW W := lw.of_kp h.2
theorem GO.qle {m n0 : Nat} {q q' : QQ} {V W : VV} (h : GO m n0 q V q' W) : qle q q' := h.1.qle
theorem GO.thr {n0 : Nat} {q : QQ} {V : VV} (lw : LW V) : GO 1 n0 q V (thr q) V := ⟨adv_thr q, kp_refl lw⟩
/-- the same towers -/
def same (V W : VV) : Prop := ∀ a, 2 ≤ a → a ≤ 12 → W a = V a
theorem GO.same {m n0 : Nat} {q q' : QQ} {V W : VV} (h : GO m n0 q V q' W) : same V W := h.2.1
theorem same.n {V W : VV} (h : same V W) : W 2 0 8 = V 2 0 8 := by rw [h 2 (by decide) (by decide)]
theorem same.w {V W : VV} (h : same V W) : W 2 0 9 = V 2 0 9 := by rw [h 2 (by decide) (by decide)]
theorem same.r {V W : VV} (h : same V W) {a : Nat} (h1 : 2 ≤ a) (h2 : a ≤ 12) : W a 0 = V a 0 := by rw [h a h1 h2]
theorem same.cE {V W : VV} (h : same V W) : cE W = cE V := by
  show seeT (W 3 0) (W 4 0) (W 5 0) = seeT (V 3 0) (V 4 0) (V 5 0)
  rw [h 3 (by decide) (by decide), h 4 (by decide) (by decide), h 5 (by decide) (by decide)]
theorem same.cW {V W : VV} (h : same V W) : cW W = cW V := by
  show delT (W 4 0) (W 2 0 9) = delT (V 4 0) (V 2 0 9)
  rw [h 2 (by decide) (by decide), h 4 (by decide) (by decide)]
theorem same.xpR {V W : VV} (h : same V W) : pR W = pR V := by
  funext a b
  unfold pR
  rw [h.n, h.cE, h.cW]
theorem same.xpD {V W : VV} (h : same V W) : pD W = pD V := by
  funext a b
  unfold pD
  rw [h.n, h.cE, h.cW]
theorem same.xpN {V W : VV} (h : same V W) : pN W = pN V := by
  funext a b
  unfold pN
  rw [h.n, h.cE, h.cW]
theorem same.xpP {V W : VV} (h : same V W) : pP W = pP V := by
  funext a b
  unfold pP
  rw [h.n, h.cE, h.cW]
noncomputable def vD (V : VV) (a b : Int) : Int := cif (pR V a b) (pD V a b) (-13)
noncomputable def vL (V : VV) (a b : Int) : Int := cif (pR V a b) ((pN V a b : Int) + 1) (-13)
noncomputable def vP (V : VV) (a b k : Int) : Int := cif (pR V a b) (cif (0 ≤ k ∧ k < (pN V a b : Int) + 1) (pP V a b k.toNat) (-13)) (-13)
theorem same.xvD {V W : VV} (h : same V W) : vD W = vD V := by
  funext a b
  unfold vD
  rw [h.xpR, h.xpD]
theorem same.xvL {V W : VV} (h : same V W) : vL W = vL V := by
  funext a b
  unfold vL
  rw [h.xpR, h.xpN]
theorem same.xvP {V W : VV} (h : same V W) : vP W = vP V := by
  funext a b k
  unfold vP
  rw [h.xpR, h.xpN, h.xpP]
section
variable {d n0 : Nat} {q : QQ} {V : VV} {x1 x2 : Int}
theorem pD_c (lw : LW V) (p1 : 0 ≤ x1 ∧ x1 < V 2 0 8) (p2 : 0 ≤ x2 ∧ x2 < V 2 0 8) (hR : pR V x1 x2) : 0 ≤ pD V x1 x2 ∧ pD V x1 x2 ≤ 280 := by
  obtain ⟨hs, hc, _⟩ := settle_sp lw.1 lw.2.2.2.2.1 p2
  obtain ⟨c1, c2, c3⟩ := hc x1 p1
  have := c3 (c1.mpr hR)
  exact ⟨hs.2.2.2 x1 p1 hR, this.2.2.1⟩
theorem kp_found (lw : LW V) (p1 : 0 ≤ x1 ∧ x1 < V 2 0 8) (p2 : 0 ≤ x2 ∧ x2 < V 2 0 8) (hR : pR V x1 x2) : kp n0 V (foundV V x1 x2) :=
  kp_off lw (offS_of fun _ => ⟨rfl, rfl, rfl, rfl, rfl, rfl, rfl, rfl, rfl, rfl, rfl, rfl, rfl, rfl, rfl, rfl, rfl, rfl, rfl, rfl⟩) (found_p lw.1 lw.2.2.2.2.1 p1 p2 hR).2.2.2.2.2.2
theorem kp_lost (lw : LW V) (p2 : 0 ≤ x2 ∧ x2 < V 2 0 8) : kp n0 V (lostV V x2) :=
  kp_off lw (offS_of fun _ => ⟨rfl, rfl, rfl, rfl, rfl, rfl, rfl, rfl, rfl, rfl, rfl, rfl, rfl, rfl, rfl, rfl, rfl, rfl, rfl, rfl⟩) (lost_rl lw.1 lw.2.2.2.2.1 p2)
theorem kp_tab (lw : LW V) : kp n0 V (tabS V) :=
  kp_off lw (offS_of fun _ => ⟨rfl, rfl, rfl, rfl, rfl, rfl, rfl, rfl, rfl, rfl, rfl, rfl, rfl, rfl, rfl, rfl, rfl, rfl, rfl, rfl⟩) (relok_tabS lw.1 lw.2.2.2.2.1)
theorem x_331 (lw : LW V) (p1 : 0 ≤ x1 ∧ x1 < V 2 0 8) (p2 : 0 ≤ x2 ∧ x2 < V 2 0 8) : ∃ q' W, RUN (d + 6) 331 (am_en 331 [aR 1 0, aI (iI x1), aI (iI x2)]) (HM q V) = rI (vD V x1 x2) (HM q' W) ∧ GO 1 n0 q V q' W := by
  have hn := rk_n lw.1
  have e := e_331 (d := d) (q := q) lw.1 lw.2.2.2.2.1 (x1 := x1) (x2 := x2) (by omega) (by omega)
  rw [cif_pos p1, cif_pos p2] at e
  unfold vD
  by_cases c : pR V x1 x2
  · rw [cif_pos c]
    rw [cif_pos (show spR (V 2 0 8) (cE V) (cW V) x2 x1 from c), (found_p lw.1 lw.2.2.2.2.1 p1 p2 c).2.2.2.1] at e
    exact ⟨_, _, e, adv_refl q, kp_found lw p1 p2 c⟩
  · rw [cif_neg c]
    rw [cif_neg (show ¬ spR (V 2 0 8) (cE V) (cW V) x2 x1 from c)] at e
    exact ⟨_, _, e, adv_thr q, kp_lost lw p2⟩
theorem x_332 (lw : LW V) (p1 : 0 ≤ x1 ∧ x1 < V 2 0 8) (p2 : 0 ≤ x2 ∧ x2 < V 2 0 8) : ∃ q' W, RUN (d + 6) 332 (am_en 332 [aR 1 0, aI (iI x1), aI (iI x2)]) (HM q V) = rI (vL V x1 x2) (HM q' W) ∧ GO 1 n0 q V q' W := by
  have hn := rk_n lw.1
  have e := e_332 (d := d) (q := q) lw.1 lw.2.2.2.2.1 (x1 := x1) (x2 := x2) (by omega) (by omega)
  rw [cif_pos p1, cif_pos p2] at e
  unfold vL
  by_cases c : pR V x1 x2
  · rw [cif_pos c]
    rw [cif_pos (show spR (V 2 0 8) (cE V) (cW V) x2 x1 from c), (found_p lw.1 lw.2.2.2.2.1 p1 p2 c).2.2.1] at e
    exact ⟨_, _, e, adv_refl q, kp_found lw p1 p2 c⟩
  · rw [cif_neg c]
    rw [cif_neg (show ¬ spR (V 2 0 8) (cE V) (cW V) x2 x1 from c)] at e
    exact ⟨_, _, e, adv_thr q, kp_lost lw p2⟩
theorem x_333 (lw : LW V) (p1 : 0 ≤ x1 ∧ x1 < V 2 0 8) (p2 : 0 ≤ x2 ∧ x2 < V 2 0 8) : ∃ q' W, RUN (d + 5) 333 (am_en 333 [aR 1 0, aI (iI x1), aI (iI x2)]) (HM q V) = rI (vD V x1 x2) (HM q' W) ∧ GO 1 n0 q V q' W := by
  have hn := rk_n lw.1
  have e := e_333 (d := d) (q := q) lw.1 lw.2.2.2.2.1 (x1 := x1) (x2 := x2) (by omega) (by omega) (fun _ _ z => by have := pD_c lw p1 p2 z; unfold pD at this; omega)
  rw [cif_pos p1, cif_pos p2] at e
  unfold vD
  by_cases c : pR V x1 x2
  · have hb := pD_c lw p1 p2 c
    unfold pD at hb
    rw [cif_pos c]
    rw [cif_pos (show spR (V 2 0 8) (cE V) (cW V) x2 x1 from c), cif_neg (by omega)] at e
    exact ⟨_, _, e, adv_refl q, kp_tab lw⟩
  · rw [cif_neg c]
    rw [cif_neg (show ¬ spR (V 2 0 8) (cE V) (cW V) x2 x1 from c)] at e
    exact ⟨_, _, e, adv_thr q, kp_tab lw⟩
theorem x_335 {x3 : Int} (lw : LW V) (p1 : 0 ≤ x1 ∧ x1 < V 2 0 8) (p2 : 0 ≤ x2 ∧ x2 < V 2 0 8) (h3 : R32 x3) : ∃ q' W, RUN (d + 6) 335 (am_en 335 [aR 1 0, aI (iI x1), aI (iI x2), aI (iI x3)]) (HM q V) = rI (vP V x1 x2 x3) (HM q' W) ∧ GO 1 n0 q V q' W := by
  have hn := rk_n lw.1
  unfold vP
  by_cases c : pR V x1 x2
  · obtain ⟨f1, f2, f3, f4, f5, f6, f7⟩ := found_p lw.1 lw.2.2.2.2.1 p1 p2 c
    have e := e_335 (d := d) (q := q) lw.1 lw.2.2.2.2.1 (x1 := x1) (x2 := x2) (x3 := x3) (by omega) (by omega) h3 (by omega) (fun _ _ _ _ _ => by omega)
    rw [cif_pos p1, cif_pos p2, cif_pos (show spR (V 2 0 8) (cE V) (cW V) x2 x1 from c), f3] at e
    rw [cif_pos c]
    by_cases c2 : x3 < 0
    · rw [cif_pos c2] at e
      rw [cif_neg (by omega)]
      exact ⟨_, _, e, adv_thr q, kp_found lw p1 p2 c⟩
    · rw [cif_neg c2] at e
      by_cases c3 : x3 < (pN V x1 x2 : Int) + 1
      · rw [cif_pos c3] at e
        rw [cif_pos ⟨by omega, c3⟩]
        have g := (f6 x3.toNat (by omega)).1
        rw [show ((x3.toNat : Nat) : Int) = x3 by omega] at g
        rw [g] at e
        exact ⟨_, _, e, adv_refl q, kp_found lw p1 p2 c⟩
      · rw [cif_neg c3] at e
        rw [cif_neg (fun z => c3 z.2)]
        exact ⟨_, _, e, adv_thr q, kp_found lw p1 p2 c⟩
  · rw [cif_neg c]
    have e := e2_335 (d := d) (q := q) lw.1 lw.2.2.2.2.1 (x1 := x1) (x2 := x2) (x3 := x3) (by omega) (by omega) (fun _ _ z => absurd z c) (fun _ _ z => absurd z c) (fun _ _ z => absurd z c)
    rw [cif_pos p1, cif_pos p2, cif_neg (show ¬ spR (V 2 0 8) (cE V) (cW V) x2 x1 from c)] at e
    exact ⟨_, _, e, adv_thr q, kp_lost lw p2⟩
end
