/-! the law's search for the best relay -/
noncomputable def valR (V : VV) (a b : Int) : Int := 100 * pD V a b + pN V a b + 1
section
variable {V : VV} {to : Int}
theorem sp_of (lw : LW V) (hb : 0 ≤ to ∧ to < V 2 0 8) : isSP (V 2 0 8) (cE V) (cW V) to (spR (V 2 0 8) (cE V) (cW V) to) (spD (V 2 0 8) (cE V) (cW V) to) (spN (V 2 0 8) (cE V) (cW V) to) := (settle_sp lw.1 lw.2.2.2.2.1 hb).1
theorem cW_b (lw : LW V) {a b : Int} (ha : 0 ≤ a ∧ a < V 2 0 8) (hb : 0 ≤ b ∧ b < V 2 0 8) : 1 ≤ cW V a b ∧ cW V a b ≤ 40 := by
  have := rk_n lw.1
  exact delT_b lw.1 (by omega) (by omega)
theorem pN_b (lw : LW V) {a : Int} (ha : 0 ≤ a ∧ a < V 2 0 8) (hb : 0 ≤ to ∧ to < V 2 0 8) (hR : pR V a to) : (pN V a to : Int) = spN (V 2 0 8) (cE V) (cW V) to a ∧ pN V a to ≤ 7 := by
  obtain ⟨f1, f2, _⟩ := found_p lw.1 lw.2.2.2.2.1 ha hb hR
  exact ⟨f1, f2⟩
theorem val_step (lw : LW V) (hb : 0 ≤ to ∧ to < V 2 0 8) {a u : Int} (ha : 0 ≤ a ∧ a < V 2 0 8) (hu : 0 ≤ u ∧ u < V 2 0 8) (he : cE V a u) (hR : pR V u to) : pR V a to ∧ valR V a to ≤ 100 * cW V a u + valR V u to + 1 := by
  obtain ⟨h1, h2⟩ := (sp_of lw hb).2.2.1 a u ha hu he hR
  refine ⟨h1, ?_⟩
  have na := pN_b lw ha hb h1
  have nu := pN_b lw hu hb hR
  unfold valR pD
  unfold lexle at h2
  omega
theorem val_next (lw : LW V) (hb : 0 ≤ to ∧ to < V 2 0 8) {a : Int} (ha : 0 ≤ a ∧ a < V 2 0 8) (hR : pR V a to) (hne : ¬ a = to) : ∃ u, (0 ≤ u ∧ u < V 2 0 8) ∧ cE V a u ∧ pR V u to ∧ valR V a to = 100 * cW V a u + valR V u to + 1 := by
  obtain ⟨u, hu, h1, h2, h3, h4⟩ := (sp_of lw hb).2.1 a ha hne hR
  refine ⟨u, hu, h1, h2, ?_⟩
  have na := pN_b lw ha hb hR
  have nu := pN_b lw hu hb h2
  unfold valR pD
  omega
theorem val_self (lw : LW V) (hb : 0 ≤ to ∧ to < V 2 0 8) : pR V to to ∧ valR V to to = 1 := by
  obtain ⟨h1, h2, h3⟩ := (sp_of lw hb).1
  have na := pN_b lw hb hb h1
  refine ⟨h1, ?_⟩
  unfold valR pD
  omega
theorem val_pos (lw : LW V) (hb : 0 ≤ to ∧ to < V 2 0 8) {a : Int} (ha : 0 ≤ a ∧ a < V 2 0 8) (hR : pR V a to) : 1 ≤ valR V a to ∧ valR V a to ≤ 28008 := by
  have h := pD_c lw ha hb hR
  have na := pN_b lw ha hb hR
  unfold valR
  omega
/-- every tower that is gone is farther than t -/
def goneUp (V : VV) (to gone t : Int) : Prop := ∀ x, 0 ≤ x ∧ x < V 2 0 8 → tbit gone x → pR V x to → valR V t to < valR V x to
def TB (n : Nat) : Nat → Nat
  | 0 => 0
  | k + 1 => n * (1 + TB n k)
/-- what is known of the best so far -/
def brI (V : VV) (to frm gone B i m : Int) : Prop := (-1 ≤ m ∧ m ≤ B) ∧ (0 ≤ m → pR V frm to ∧ valR V frm to ≤ m) ∧ (∀ u, 0 ≤ u ∧ u < i → cE V frm u → ¬ tbit gone u → pR V u to → goneUp V to (bOr gone (bShl 1 frm)) u → 0 ≤ m ∧ m ≤ 100 * cW V frm u + valR V u to + 1)
theorem tbit_gone {gone frm x : Int} (hf : 0 ≤ frm ∧ frm < 8) (hx : 0 ≤ x ∧ x < 8) : tbit (bOr gone (bShl 1 frm)) x ↔ tbit gone x ∨ x = frm := by
  rw [tbit_or, tbit_shl (by omega) (by omega)]
theorem br_go (lw : LW V) (hto : 0 ≤ to ∧ to < V 2 0 8) {d n0 : Nat} : ∀ (k : Nat) (frm gone : Int) (q : QQ) (W : VV), k ≤ 8 → same V W → LW W → 0 ≤ frm ∧ frm < V 2 0 8 → cntI (fun j => ¬ tbit gone j ∧ ¬ j = frm) (V 2 0 8) < k →
    ∃ v q' W', RUN (d + k + 5) 329 (am_en 329 [aR 1 0, aI (iI frm), aI (iI to), aI (iI gone)]) (HM q W) = rI v (HM q' W') ∧ GO (TB (V 2 0 8).toNat k) n0 q W q' W' ∧ (-1 ≤ v ∧ v ≤ 4001 * k) ∧ (0 ≤ v → pR V frm to ∧ valR V frm to ≤ v) ∧ (pR V frm to → goneUp V to gone frm → 0 ≤ v ∧ v ≤ valR V frm to) := by
  have hn := rk_n lw.1
  intro k
  induction k with
  | zero =>
    intro frm gone q W _ _ _ _ hc
    have := (cntI_b (fun j => ¬ tbit gone j ∧ ¬ j = frm) hn.1).1
    omega
  | succ k ih =>
    intro frm gone q W hk sm lwW hf hc
    have hnW := sm.n
    by_cases ce : frm = to
    · subst ce
      obtain ⟨s1, s2⟩ := val_self lw hto
      refine ⟨1, q, W, ?_, GO.refl lwW, by omega, fun _ => ⟨s1, by omega⟩, fun _ _ => by omega⟩
      have e := g_329_0 (d := d + k + 1) (q := q) (V := W) (x1 := frm) (x2 := frm) (x3 := gone) lwW.1 (by omega) (by omega)
      rw [cif_pos rfl] at e
      refine Eq.trans e ?_
      refine Eq.trans (g_329_15 (d := d + k + 1) (V := W) lwW.1 (by omega) (by omega) ⟨by decide, by decide⟩ (fun _ z => absurd rfl z) (fun _ z => absurd rfl z)) ?_
      exact cif_eq (fun _ => rfl) (fun _ => cif_pos rfl)
    · -- one tower after the other
      have inner : ∀ (r : Nat) (i m : Int) (q : QQ) (W : VV) (l6 l7 l8 : Option AV), i + r = V 2 0 8 → 0 ≤ i → same V W → LW W → brI V to frm gone (4001 * (k + 1 : Nat)) i m →
          ∃ v q' W', RUN (d + k + 1 + 5) 329 (15, [sR 1 0, sI frm, sI to, sI gone, sI m, sI i, l6, l7, l8], []) (HM q W) = rI v (HM q' W') ∧ GO (r * (1 + TB (V 2 0 8).toNat k)) n0 q W q' W' ∧ brI V to frm gone (4001 * (k + 1 : Nat)) (V 2 0 8) v := by
        intro r
        induction r with
        | zero =>
          intro i m q W l6 l7 l8 e0 hi sm lwW hI
          have hnW := sm.n
          have ei : i = V 2 0 8 := by omega
          subst ei
          refine ⟨m, q, W, ?_, GO.refl lwW, hI⟩
          refine Eq.trans (g_329_15 (d := d + k + 1) (V := W) lwW.1 (by omega) (by omega) (by omega) (fun z => absurd (by omega) z) (fun z => absurd (by omega) z)) ?_
          exact cif_pos (by omega)
        | succ r ihr =>
          intro i m q W l6 l7 l8 e0 hi sm lwW hI
          have hnW := sm.n
          have hin : 0 ≤ i ∧ i < V 2 0 8 := by omega
          have hE : seeT (W 3 0) (W 4 0) (W 5 0) frm i = cE V frm i := congrFun (congrFun sm.cE frm) i
          have hW : delT (W 4 0) (W 2 0 9) frm i = cW V frm i := congrFun (congrFun sm.cW frm) i
          have cb := cW_b lw hf hin
          have e := g_329_15 (d := d + k + 1) (q := q) (V := W) (x1 := frm) (x2 := to) (x3 := gone) (x4 := m) (x5 := i) (l6 := l6) (l7 := l7) (l8 := l8) lwW.1 (by omega) (by omega) (by omega) (fun _ _ => by omega) (fun _ _ _ => by rw [hW]; omega)
          rw [cif_neg (by omega), cif_neg ce, hE, hW] at e
          -- the next is no candidate
          have skip : ∀ (q2 : QQ) (l : Option AV), GO 1 n0 q W q2 W → (cE V frm i → ¬ tbit gone i → False) → RUN (d + k + 1 + 5) 329 (15, [sR 1 0, sI frm, sI to, sI gone, sI m, sI i, l6, l7, l8], []) (HM q W) = RUN (d + k + 1 + 5) 329 (15, [sR 1 0, sI frm, sI to, sI gone, sI m, sI (i + 1), l, l7, l8], []) (HM q2 W) →
              ∃ v q' W', RUN (d + k + 1 + 5) 329 (15, [sR 1 0, sI frm, sI to, sI gone, sI m, sI i, l6, l7, l8], []) (HM q W) = rI v (HM q' W') ∧ GO ((r + 1) * (1 + TB (V 2 0 8).toNat k)) n0 q W q' W' ∧ brI V to frm gone (4001 * (k + 1 : Nat)) (V 2 0 8) v := by
            intro q2 l hg hno e1
            have hI' : brI V to frm gone (4001 * (k + 1 : Nat)) (i + 1) m := by
              refine ⟨hI.1, hI.2.1, fun u hu a1 a2 => ?_⟩
              by_cases eu : u = i
              · subst eu
                exact (hno a1 a2).elim
              · exact hI.2.2 u (by omega) a1 a2
            obtain ⟨v, q', W', e2, g2, i2⟩ := ihr (i + 1) m q2 W l l7 l8 (by omega) (by omega) sm lwW hI'
            refine ⟨v, q', W', e1.trans e2, (hg.trans g2).mono ?_, i2⟩
            rw [Nat.succ_mul]
            omega
          by_cases c1 : cE V frm i
          · rw [cif_pos c1, cif_neg (by omega)] at e
            by_cases c2 : tbit gone i
            · rw [cif_neg (fun z => (bit0_iff (by omega)).mp z c2)] at e
              exact skip q _ (GO.refl lwW) (fun _ z => z c2) e
            · rw [cif_pos ((bit0_iff (by omega)).mpr c2)] at e
              by_cases c3 : i = frm
              · exact absurd c3.symm c1.1
              · rw [cif_neg c3] at e
                -- what is left from there
                have hc' : cntI (fun j => ¬ tbit (bOr gone (bShl 1 frm)) j ∧ ¬ j = i) (V 2 0 8) < k := by
                  have hd := cntI_del (P := fun j => ¬ tbit gone j ∧ ¬ j = frm) hin.1 hin.2 ⟨c2, c3⟩
                  have hm : cntI (fun j => ¬ tbit (bOr gone (bShl 1 frm)) j ∧ ¬ j = i) (V 2 0 8) ≤ cntI (fun j => (¬ tbit gone j ∧ ¬ j = frm) ∧ ¬ j = i) (V 2 0 8) := by
                    refine cntI_mono fun j j1 j2 hj => ⟨?_, hj.2⟩
                    have := tbit_gone (gone := gone) (frm := frm) (x := j) (by omega) (by omega)
                    exact ⟨fun z => hj.1 (this.mpr (Or.inl z)), fun z => hj.1 (this.mpr (Or.inr z))⟩
                  omega
                obtain ⟨v1, q1, W1, e1, g1, b1, lo1, up1⟩ := ih i (bOr gone (bShl 1 frm)) q W (by omega) sm lwW hin hc'
                have sm1 : same V W1 := fun a a1 a2 => (g1.same a a1 a2).trans (sm a a1 a2)
                have lw1 : LW W1 := g1.lw lwW
                have e67 := g_329_67 (d := d + k + 1) (q := q) (V := W) (x1 := frm) (x2 := to) (x3 := gone) (x4 := m) (x5 := i) (x6 := cW V frm i) (l7 := l7) (l8 := l8) (s0 := bOr gone (bShl 1 frm)) (s1 := to) (s2 := i) lwW.1 (by omega) (by omega) (by
                  exact e1) g1.qle (by omega)
                have fin : ∀ (m' : Int) (l7' l8' : Option AV), brI V to frm gone (4001 * (k + 1 : Nat)) (i + 1) m' → RUN (d + k + 1 + 5) 329 (15, [sR 1 0, sI frm, sI to, sI gone, sI m, sI i, l6, l7, l8], []) (HM q W) = RUN (d + k + 1 + 5) 329 (15, [sR 1 0, sI frm, sI to, sI gone, sI m', sI (i + 1), sI (cW V frm i), l7', l8'], []) (HM q1 W1) →
                    ∃ v q' W', RUN (d + k + 1 + 5) 329 (15, [sR 1 0, sI frm, sI to, sI gone, sI m, sI i, l6, l7, l8], []) (HM q W) = rI v (HM q' W') ∧ GO ((r + 1) * (1 + TB (V 2 0 8).toNat k)) n0 q W q' W' ∧ brI V to frm gone (4001 * (k + 1 : Nat)) (V 2 0 8) v := by
                  intro m' l7' l8' hI' e2
                  obtain ⟨v, q', W', e3, g3, i3⟩ := ihr (i + 1) m' q1 W1 (sI (cW V frm i)) l7' l8' (by omega) (by omega) sm1 lw1 hI'
                  refine ⟨v, q', W', e2.trans e3, (g1.trans g3).mono ?_, i3⟩
                  rw [Nat.succ_mul]
                  omega
                have r91 : ∀ s0 : Int, R32 s0 → _ := fun s0 hs0 => g_329_91 (d := d + k + 1) (q := q1) (V := W1) (x1 := frm) (x2 := to) (x3 := gone) (x4 := m) (x5 := i) (l6 := sI (cW V frm i)) (l7 := sI v1) (l8 := l8) (s0 := s0) lw1.1 (by have := sm1.n; omega) (by have := sm1.n; omega) hs0 (by have := hI.1; omega)
                have hb := hI.1
                by_cases c4 : 0 ≤ v1
                · rw [cif_pos c4] at e67
                  have e91 := r91 (v1 + 100 * cW V frm i + 1) (by omega)
                  rw [cif_neg (by omega)] at e91
                  obtain ⟨lo2, lo3⟩ := lo1 c4
                  obtain ⟨vs1, vs2⟩ := val_step lw hto hf hin c1 lo2
                  have up2 : ∀ m' : Int, 0 ≤ m' → m' ≤ v1 + 100 * cW V frm i + 1 → (0 ≤ m → m' ≤ m) → (m' = m ∨ m' = v1 + 100 * cW V frm i + 1) → brI V to frm gone (4001 * (k + 1 : Nat)) (i + 1) m' := by
                    intro m' k1 k2 k3 k4
                    refine ⟨by omega, fun _ => ⟨vs1, ?_⟩, fun u hu a1 a2 a3 a4 => ?_⟩
                    · rcases k4 with k4 | k4
                      · have := hI.2.1 (by omega)
                        omega
                      · omega
                    · by_cases eu : u = i
                      · subst eu
                        have := up1 a3 a4
                        omega
                      · have := hI.2.2 u (by omega) a1 a2 a3 a4
                        omega
                  by_cases c5 : m < 0
                  · rw [cif_pos c5] at e91
                    exact fin _ _ _ (up2 _ (by omega) (by omega) (by omega) (Or.inr rfl)) (e.trans (e67.trans e91))
                  · rw [cif_neg c5] at e91
                    by_cases c6 : m ≤ v1 + 100 * cW V frm i + 1
                    · rw [cif_pos c6] at e91
                      exact fin _ _ _ (up2 _ (by omega) (by omega) (by omega) (Or.inl rfl)) (e.trans (e67.trans e91))
                    · rw [cif_neg c6] at e91
                      exact fin _ _ _ (up2 _ (by omega) (by omega) (by omega) (Or.inr rfl)) (e.trans (e67.trans e91))
                · rw [cif_neg c4] at e67
                  have e91 := r91 (-1) (by omega)
                  rw [cif_pos (by omega)] at e91
                  refine fin _ _ _ ⟨hb, hI.2.1, fun u hu a1 a2 a3 a4 => ?_⟩ (e.trans (e67.trans e91))
                  by_cases eu : u = i
                  · subst eu
                    have := up1 a3 a4
                    omega
                  · exact hI.2.2 u (by omega) a1 a2 a3 a4
          · rw [cif_neg c1] at e
            exact skip (thr q) _ (GO.thr lwW) (fun z => absurd z c1) e
      have e := g_329_0 (d := d + k + 1) (q := q) (V := W) (x1 := frm) (x2 := to) (x3 := gone) lwW.1 (by omega) (by omega)
      rw [cif_neg ce] at e
      obtain ⟨v, q', W', e2, g2, i2⟩ := inner (V 2 0 8).toNat 0 (-1) q W none none none (by omega) (by omega) sm lwW ⟨by omega, fun z => absurd z (by decide), fun u hu => by omega⟩
      refine ⟨v, q', W', e.trans e2, g2, i2.1, i2.2.1, fun hR hG => ?_⟩
      obtain ⟨u, hu, u1, u2, u3⟩ := val_next lw hto hf hR ce
      have cb := cW_b lw hf hu
      have := i2.2.2 u hu u1 (fun z => by have := hG u hu z u2; omega) u2 (fun x hx hb hxR => by
        rcases (tbit_gone (by omega) (by omega)).mp hb with z | z
        · have := hG x hx z hxR
          omega
        · subst z
          omega)
      omega
end
