/-! the run as a function: the limit over the fuel -/
theorem am_run1_mono {cd : Nat → Nat → Ins} : ∀ (f d y : Nat) (fr : Fr) (h : AH) (r : Out × AH), am_run1 cd f d y fr h = some r → ∀ g, f ≤ g → am_run1 cd g d y fr h = some r := by
  intro f
  induction f with
  | zero => intro d y fr h r e; cases e
  | succ f ih =>
    intro d y fr h r e g hg
    obtain ⟨g, rfl⟩ : ∃ g', g = g' + 1 := ⟨g - 1, by omega⟩
    have hg' : f ≤ g := by omega
    rw [am_run1] at e ⊢
    by_cases hall : allP (cd y fr.1 fr h).1
    · rw [if_pos hall] at e ⊢
      rcases hq : (cd y fr.1 fr h).2 with q | q | q | q
      · rw [hq] at e
        exact ih _ _ _ _ _ e _ hg'
      · rw [hq] at e
        dsimp only at e ⊢
        cases d with
        | zero => cases e
        | succ d =>
          cases hok : am_aok q.1 q.2.1 with
          | false => rw [hok] at e; cases e
          | true =>
            rw [hok] at e
            dsimp only at e ⊢
            cases hcal : am_run1 cd f d q.1 (am_en q.1 q.2.1) h with
            | none => rw [hcal] at e; cases e
            | some p =>
              obtain ⟨o', h'⟩ := p
              rw [hcal] at e
              rw [ih _ _ _ _ _ hcal _ hg']
              dsimp only at e ⊢
              cases hm : (Nat.ble (hN h) (hN h') && Nat.ble (hL h) (hL h')) with
              | false => rw [hm] at e; cases e
              | true =>
                rw [hm] at e
                dsimp only at e ⊢
                cases o' with
                | inl v => exact ih _ _ _ _ _ e _ hg'
                | inr j =>
                  dsimp only at e ⊢
                  cases hj : Nat.blt j 6 with
                  | false => rw [hj] at e; cases e
                  | true =>
                    rw [hj] at e
                    cases hh : am_hd (am_hh y) q.2.2.1 j with
                    | none => rw [hh] at e; exact e
                    | some hp =>
                      rw [hh] at e
                      dsimp only at e ⊢
                      cases hf : am_cat y q.2.2 hp with
                      | none => rw [hf] at e; cases e
                      | some fr' => rw [hf] at e; exact ih _ _ _ _ _ e _ hg'
      · rw [hq] at e; exact e
      · rw [hq] at e; cases e
    · rw [if_neg hall] at e; cases e
noncomputable def RUN (d y : Nat) (fr : Fr) (h : AH) : Option (Out × AH) := @dite _ (∃ r, ∃ f, am_run1 am_cd f d y fr h = some r) (Classical.propDecidable _) (fun e => some e.choose) (fun _ => none)
theorem RUN_iff {d y : Nat} {fr : Fr} {h : AH} {r : Out × AH} : RUN d y fr h = some r ↔ ∃ f, am_run1 am_cd f d y fr h = some r := by
  unfold RUN
  by_cases e : ∃ r, ∃ f, am_run1 am_cd f d y fr h = some r
  · rw [dif_pos e]
    obtain ⟨f, hf⟩ := e.choose_spec
    constructor
    · intro q
      cases q
      exact ⟨f, hf⟩
    · rintro ⟨g, hg⟩
      have a1 := am_run1_mono _ _ _ _ _ _ hf (f + g) (Nat.le_add_right f g)
      have a2 := am_run1_mono _ _ _ _ _ _ hg (f + g) (Nat.le_add_left g f)
      rw [a1] at a2
      exact a2
  · rw [dif_neg e]
    constructor
    · intro q; cases q
    · rintro ⟨f, hf⟩
      exact absurd ⟨_, f, hf⟩ e
theorem RUN_ext {d y d' y' : Nat} {fr fr' : Fr} {h h' : AH} (H : ∀ r, (∃ f, am_run1 am_cd f d y fr h = some r) ↔ (∃ f, am_run1 am_cd f d' y' fr' h' = some r)) : RUN d y fr h = RUN d' y' fr' h' :=
  Option.ext fun r => (RUN_iff.trans (H r)).trans RUN_iff.symm
theorem RUN_go {d y : Nat} {fr fr' : Fr} {h h' : AH} (c : allP (am_cd y fr.1 fr h).1) (e : (am_cd y fr.1 fr h).2 = Sum.inl (fr', h')) : RUN d y fr h = RUN d y fr' h' :=
  RUN_ext fun r => ⟨fun ⟨f, hf⟩ => by
    cases f with
    | zero => cases hf
    | succ f => rw [am_run1, if_pos c, e] at hf; exact ⟨f, hf⟩, fun ⟨f, hf⟩ => ⟨f + 1, by rw [am_run1, if_pos c, e]; exact hf⟩⟩
theorem RUN_end {d y : Nat} {fr : Fr} {h : AH} {q : Out × AH} (c : allP (am_cd y fr.1 fr h).1) (e : (am_cd y fr.1 fr h).2 = Sum.inr (Sum.inr (Sum.inl q))) : RUN d y fr h = some q :=
  RUN_iff.mpr ⟨1, by rw [am_run1, if_pos c, e]⟩
theorem RUN_call {d y y' : Nat} {fr fr2 : Fr} {h h' : AH} {as : List AV} {r : Option AV} (c : allP (am_cd y fr.1 fr h).1) (e : (am_cd y fr.1 fr h).2 = Sum.inr (Sum.inl (y', as, fr2))) (ok : am_aok y' as = true)
    (hr : RUN d y' (am_en y' as) h = some (Sum.inl r, h')) (m1 : hN h ≤ hN h') (m2 : hL h ≤ hL h') : RUN (d + 1) y fr h = RUN (d + 1) y (fr2.1 + 3, fr2.2.1, r.toList ++ fr2.2.2) h' := by
  obtain ⟨f0, hf0⟩ := RUN_iff.mp hr
  have hm : (Nat.ble (hN h) (hN h') && Nat.ble (hL h) (hL h')) = true := by rw [Nat.ble_eq.mpr m1, Nat.ble_eq.mpr m2]; rfl
  have key : ∀ f, f0 ≤ f → am_run1 am_cd (f + 1) (d + 1) y fr h = am_run1 am_cd f (d + 1) y (fr2.1 + 3, fr2.2.1, r.toList ++ fr2.2.2) h' := by
    intro f hf
    rw [am_run1, if_pos c, e]
    dsimp only
    rw [ok]
    dsimp only
    rw [am_run1_mono _ _ _ _ _ _ hf0 f hf]
    dsimp only
    rw [hm]
  refine RUN_ext fun q => ⟨fun ⟨f, hf⟩ => ⟨f + f0, ?_⟩, fun ⟨f, hf⟩ => ⟨f + f0 + 1, ?_⟩⟩
  · have a1 := am_run1_mono _ _ _ _ _ _ hf (f + f0 + 1) (by omega)
    rw [key (f + f0) (by omega)] at a1
    exact a1
  · rw [key (f + f0) (by omega)]
    exact am_run1_mono _ _ _ _ _ _ hf _ (by omega)
theorem RUN_callX {d y y' j : Nat} {fr fr2 : Fr} {h h' : AH} {as : List AV} (c : allP (am_cd y fr.1 fr h).1) (e : (am_cd y fr.1 fr h).2 = Sum.inr (Sum.inl (y', as, fr2))) (ok : am_aok y' as = true)
    (hr : RUN d y' (am_en y' as) h = some (Sum.inr j, h')) (m1 : hN h ≤ hN h') (m2 : hL h ≤ hL h') (hj : Nat.blt j 6 = true) (hh : am_hd (am_hh y) fr2.1 j = none) : RUN (d + 1) y fr h = some (Sum.inr j, h') := by
  obtain ⟨f0, hf0⟩ := RUN_iff.mp hr
  have hm : (Nat.ble (hN h) (hN h') && Nat.ble (hL h) (hL h')) = true := by rw [Nat.ble_eq.mpr m1, Nat.ble_eq.mpr m2]; rfl
  refine RUN_iff.mpr ⟨f0 + 1, ?_⟩
  rw [am_run1, if_pos c, e]
  dsimp only
  rw [ok]
  dsimp only
  rw [hf0]
  dsimp only
  rw [hm]
  dsimp only
  rw [hj, hh]
theorem RUN_callH {d y y' j hp : Nat} {fr fr2 fr3 : Fr} {h h' : AH} {as : List AV} (c : allP (am_cd y fr.1 fr h).1) (e : (am_cd y fr.1 fr h).2 = Sum.inr (Sum.inl (y', as, fr2))) (ok : am_aok y' as = true)
    (hr : RUN d y' (am_en y' as) h = some (Sum.inr j, h')) (m1 : hN h ≤ hN h') (m2 : hL h ≤ hL h') (hj : Nat.blt j 6 = true) (hh : am_hd (am_hh y) fr2.1 j = some hp) (hc : am_cat y fr2 hp = some fr3) : RUN (d + 1) y fr h = RUN (d + 1) y fr3 h' := by
  obtain ⟨f0, hf0⟩ := RUN_iff.mp hr
  have hm : (Nat.ble (hN h) (hN h') && Nat.ble (hL h) (hL h')) = true := by rw [Nat.ble_eq.mpr m1, Nat.ble_eq.mpr m2]; rfl
  have key : ∀ f, f0 ≤ f → am_run1 am_cd (f + 1) (d + 1) y fr h = am_run1 am_cd f (d + 1) y fr3 h' := by
    intro f hf
    rw [am_run1, if_pos c, e]
    dsimp only
    rw [ok]
    dsimp only
    rw [am_run1_mono _ _ _ _ _ _ hf0 f hf]
    dsimp only
    rw [hm]
    dsimp only
    rw [hj, hh]
    dsimp only
    rw [hc]
  refine RUN_ext fun q => ⟨fun ⟨f, hf⟩ => ⟨f + f0, ?_⟩, fun ⟨f, hf⟩ => ⟨f + f0 + 1, ?_⟩⟩
  · have a1 := am_run1_mono _ _ _ _ _ _ hf (f + f0 + 1) (by omega)
    rw [key (f + f0) (by omega)] at a1
    exact a1
  · rw [key (f + f0) (by omega)]
    exact am_run1_mono _ _ _ _ _ _ hf _ (by omega)
