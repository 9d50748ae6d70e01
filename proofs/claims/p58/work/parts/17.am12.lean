/-! handlers; runs of the small machine; what a run says of the walk -/
def am_cti (ct : Nat) : Nat := match ct with
  | 14 => 0
  | 20 => 1
  | 25 => 2
  | 43 => 3
  | 104 => 4
  | _ => 9
/-- the first row of the table that takes the class j at pc -/
def am_hd (hh : List (Nat × Nat × Nat × Nat)) (pc j : Nat) : Option Nat := (hh.find? fun z => Nat.ble z.1 pc && (Nat.blt pc z.2.1 && Nat.beq (am_cti z.2.2.2) j)).map fun z => z.2.2.1
def am_hx (cc : ByteArray) (hp : Nat) : Option (Nat × Nat) := match decode cc hp with
  | .ok (.astore i, 2) => some (i, hp + 2)
  | .ok (.astore_n i, 1) => some (i, hp + 1)
  | _ => none
abbrev am_hh (y : Nat) : List (Nat × Nat × Nat × Nat) := (am_mi y).2.2.2.2.1
def am_okT (y : Nat) : Bool := plainName (am_mi y).1.cls && ((am_mi y).2.2.2.2.2 || (am_hh y).isEmpty) && (am_hh y).all (fun z => Nat.blt (am_cti z.2.2.2) 6 && decide ((am_mi y).1.cls = "SmokeRelayLaw") && !(Nat.beq z.2.2.2 0) && !(am_dbl y))
theorem am_okT_all : ∀ y, y < 400 → am_okT y = true := by decide +kernel
theorem am_ctl : ∀ ct, ct < 200 → am_cti ct < 6 → Cond.classLink "SmokeRelayLaw" ct (am_exn (am_cti ct)) ∈ lw_tbl ∧ Cond.castable (am_exn (am_cti ct)) (am_exn (am_cti ct)) ∈ am_nest := by decide +kernel
theorem am_cti_lt {ct : Nat} (h : am_cti ct < 6) : ct < 200 := by
  unfold am_cti at h
  split at h <;> omega
/-- no handler takes the class 5 -/
theorem am_cti_5 {ct : Nat} (h : am_cti ct < 6) : am_cti ct < 5 := by
  have key : ∀ ct, ct < 200 → am_cti ct < 6 → am_cti ct < 5 := by decide +kernel
  exact key ct (am_cti_lt h) h
/-- how a method begins -/
def am_aok (y : Nat) (as : List AV) : Bool := Nat.blt y 400 && (as.all (fun v => !(am_c2 v)) && Nat.ble as.length (am_mi y).2.2.1)
def am_en (y : Nat) (as : List AV) : Fr := (0, as.map some ++ List.replicate ((am_mi y).2.2.1 - as.length) none, [])
/-- how it goes on behind a handler's store -/
def am_cat (y : Nat) (fr : Fr) (hp : Nat) : Option Fr := match am_hx (am_mi y).2.1 hp with
  | some (i, nx) => cond (Nat.blt i (am_mi y).2.2.1) (some (nx, fr.2.1.set i none, [])) none
  | none => none
noncomputable def am_run1 (cd : Nat → Nat → Ins) : Nat → Nat → Nat → Fr → AH → Option (Out × AH)
  | 0, _, _, _, _ => none
  | f + 1, d, y, fr, h => @ite _ (allP (cd y fr.1 fr h).1) (Classical.propDecidable _) (match (cd y fr.1 fr h).2 with
    | Sum.inl q => am_run1 cd f d y q.1 q.2
    | Sum.inr (Sum.inl q) => (match d, am_aok q.1 q.2.1 with
      | d' + 1, true => (match am_run1 cd f d' q.1 (am_en q.1 q.2.1) h with
        | some (o', h') => (match Nat.ble (hN h) (hN h') && Nat.ble (hL h) (hL h') with
          | true => (match o' with
            | Sum.inl r => am_run1 cd f (d' + 1) y (q.2.2.1 + 3, q.2.2.2.1, r.toList ++ q.2.2.2.2) h'
            | Sum.inr j => (match Nat.blt j 6, am_hd (am_hh y) q.2.2.1 j with
              | true, none => some (Sum.inr j, h')
              | true, some hp => (match am_cat y q.2.2 hp with
                | some fr' => am_run1 cd f (d' + 1) y fr' h'
                | none => none)
              | false, _ => none))
          | false => none)
        | none => none)
      | _, _ => none)
    | Sum.inr (Sum.inr (Sum.inl q)) => some q
    | Sum.inr (Sum.inr (Sum.inr _)) => none) none
theorem FR.entry (k : C0) (hk : k.2.2.2.2.2.2 = .null ∨ ∃ a, k.2.2.2.2.2.2 = .ref a) {y : Nat} {as : List AV} (h : am_aok y as = true) : FR k (am_mi y).2.2.1 (am_w2 y) ((lg_sl (as.map (am_cv k)) ++ List.replicate ((am_mi y).2.2.1 - (lg_sl (as.map (am_cv k))).length) Slot.unset).toArray) (am_en y as).2.1 := by
  simp only [am_aok, Bool.and_eq_true] at h
  obtain ⟨-, h1, h2⟩ := h
  have hc : ∀ v ∈ as, am_c2 v = false := fun v hv => by
    have := List.all_eq_true.mp h1 v hv
    simpa using this
  have hsl : ∀ l : List AV, (∀ v ∈ l, am_c2 v = false) → lg_sl (l.map (am_cv k)) = (l.map (am_cv k)).map Slot.val := by
    intro l
    induction l with
    | nil => intro _; rfl
    | cons v t ih =>
      intro hl
      have e1 : ¬ (am_cv k v).category = 2 := by
        rw [am_cv_cat k hk v, hl v List.mem_cons_self]
        decide
      have e2 := ih (fun w hw => hl w (List.mem_cons_of_mem _ hw))
      unfold lg_sl at e2 ⊢
      rw [List.map_cons, List.flatMap_cons, e2, if_neg e1]
      rfl
  have hlen : (lg_sl (as.map (am_cv k))).length = as.length := by
    rw [hsl as hc]
    simp
  have hle : as.length ≤ (am_mi y).2.2.1 := Nat.le_of_ble_eq_true h2
  have hE := lv_entry (as.map (am_cv k)) (n := (am_mi y).2.2.1) (by rw [hlen]; exact hle)
  refine ⟨⟨hE.1, hE.2.1, fun q hq => ?_⟩, ?_, fun j v hj hv => ?_⟩
  · have hargs : ∀ (l : List AV) (i : Nat), (∀ v ∈ l, am_c2 v = false) → lv_args i (l.map (am_cv k)) = am_toL k i (l.map some) := by
      intro l
      induction l with
      | nil => intro i _; rfl
      | cons v t ih =>
        intro i hl
        have e1 : ¬ (am_cv k v).category = 2 := by
          rw [am_cv_cat k hk v, hl v List.mem_cons_self]
          decide
        simp only [List.map_cons, lv_args, am_toL]
        rw [if_neg e1, ih (i + 1) (fun w hw => hl w (List.mem_cons_of_mem _ hw))]
    refine hE.2.2 q ?_
    rw [hargs as 0 hc]
    obtain ⟨w, w1, w2, w3⟩ := (am_toL_mem k _ 0 q).mp hq
    refine (am_toL_mem k _ 0 q).mpr ⟨w, w1, ?_, w3⟩
    have w2' : (as.map some ++ List.replicate ((am_mi y).2.2.1 - as.length) none)[q.1 - 0]? = some (some w) := w2
    by_cases hlt : q.1 - 0 < (as.map some).length
    · rw [List.getElem?_append_left hlt] at w2'
      exact w2'
    · rw [List.getElem?_append_right (Nat.le_of_not_lt hlt)] at w2'
      have h9 := List.eq_of_mem_replicate (List.mem_of_getElem? w2')
      cases h9
  · show (as.map some ++ List.replicate ((am_mi y).2.2.1 - as.length) none).length = _
    rw [List.length_append, List.length_map, List.length_replicate]
    omega
  · have hj' : (as.map some ++ List.replicate ((am_mi y).2.2.1 - as.length) none)[j]? = some (some v) := hj
    have hm := List.mem_of_getElem? hj'
    rcases List.mem_append.mp hm with h9 | h9
    · obtain ⟨w, w1, w2⟩ := List.mem_map.mp h9
      cases w2
      rw [hc v w1] at hv
      cases hv
    · have := List.eq_of_mem_replicate h9
      cases this
