/-! the model reads: what is here, digits, numbers, letters, signs -/
/-- the model's text is T, up to L -/
def TX (V : VV) (T : Int → Int) (L : Int) : Prop := V 33 0 17 = L ∧ (0 ≤ L ∧ L ≤ 60) ∧ ∀ j, 0 ≤ j ∧ j < L → V 42 0 j = T j ∧ 0 ≤ T j ∧ T j ≤ 65535
/-- the model's reading stands at p; w: something is wrong -/
def psV (V : VV) (w p : Int) : VV := upV (upV V 33 0 19 w) 33 0 18 p
theorem psV_self {V : VV} {w p : Int} (hw : V 33 0 19 = w) (hp : V 33 0 18 = p) : psV V w p = V := by
  subst hw hp
  funext a b j
  unfold psV upV
  cases h : Nat.beq a 33 with
  | false => rfl
  | true =>
    cases h2 : Nat.beq b 0 with
    | false => rfl
    | true =>
      have e1 := Nat.eq_of_beq_eq_true h
      have e2 := Nat.eq_of_beq_eq_true h2
      subst e1 e2
      show (if j = 18 then V 33 0 18 else if j = 19 then V 33 0 19 else V 33 0 j) = V 33 0 j
      by_cases c : j = 18
      · rw [if_pos c, c]
      · rw [if_neg c]
        by_cases c2 : j = 19
        · rw [if_pos c2, c2]
        · rw [if_neg c2]
theorem psV_up {V : VV} {w p w' p' : Int} : upV (upV (psV V w p) 33 0 19 w') 33 0 18 p' = psV V w' p' := by
  funext a b j
  unfold psV upV
  cases h : Nat.beq a 33 && Nat.beq b 0 with
  | false => rfl
  | true =>
    show (if j = 18 then p' else if j = 19 then w' else if j = 18 then p else if j = 19 then w else V a b j) = (if j = 18 then p' else if j = 19 then w' else V a b j)
    by_cases c : j = 18
    · rw [if_pos c, if_pos c]
    · rw [if_neg c, if_neg c, if_neg c]
      by_cases c2 : j = 19
      · rw [if_pos c2, if_pos c2]
      · rw [if_neg c2, if_neg c2, if_neg c2]
theorem psV_18 {V : VV} {w p p' : Int} : upV (psV V w p) 33 0 18 p' = psV V w p' := by
  funext a b j
  unfold psV upV
  cases h : Nat.beq a 33 && Nat.beq b 0 with
  | false => rfl
  | true =>
    show (if j = 18 then p' else if j = 18 then p else if j = 19 then w else V a b j) = (if j = 18 then p' else if j = 19 then w else V a b j)
    by_cases c : j = 18
    · rw [if_pos c, if_pos c]
    · rw [if_neg c, if_neg c, if_neg c]
theorem psV_19 {V : VV} {w p w' : Int} : upV (psV V w p) 33 0 19 w' = psV V w' p := by
  funext a b j
  unfold psV upV
  cases h : Nat.beq a 33 && Nat.beq b 0 with
  | false => rfl
  | true =>
    show (if j = 19 then w' else if j = 18 then p else if j = 19 then w else V a b j) = (if j = 18 then p else if j = 19 then w' else V a b j)
    by_cases c : j = 19
    · rw [if_pos c, if_neg (by omega), if_pos c]
    · rw [if_neg c, if_neg c, if_neg c]
theorem psV_43 {V : VV} {w p e x : Int} : upV (psV V w p) 43 0 e x = psV (upV V 43 0 e x) w p := by
  funext a b j
  unfold psV upV
  cases h : Nat.beq a 43 with
  | false => rfl
  | true =>
    have e1 := Nat.eq_of_beq_eq_true h
    subst e1
    rfl
theorem TX_ps {V : VV} {T : Int → Int} {L w p : Int} (tx : TX V T L) : TX (psV V w p) T L := tx
theorem TX_43 {V : VV} {T : Int → Int} {L e x : Int} (tx : TX V T L) : TX (upV V 43 0 e x) T L := tx
theorem TX_off {V W : VV} {T : Int → Int} {L : Int} (tx : TX V T L) (h1 : W 33 0 17 = V 33 0 17) (h2 : W 42 0 = V 42 0) : TX W T L := by
  unfold TX
  rw [h1, h2]
  exact tx
section
variable {V : VV} {T : Int → Int} {L w p : Int}
theorem hereC_R (tx : TX V T L) (hp : 0 ≤ p) : -1 ≤ hereC T L p ∧ hereC T L p ≤ 65535 := by
  unfold hereC
  by_cases c : p < L
  · rw [cif_pos c]
    have := tx.2.2 p ⟨hp, c⟩
    omega
  · rw [cif_neg c]
    decide
theorem s_295 {d : Nat} {q : QQ} (tx : TX V T L) (hp : 0 ≤ p ∧ p ≤ L) : RUN d 295 (am_en 295 [aR 33 0]) (HM q (psV V w p)) = rI (hereC T L p) (HM q (psV V w p)) := by
  obtain ⟨t1, t2, t3⟩ := tx
  have e := e_295 (d := d) (q := q) (V := psV V w p) (by show 0 ≤ V 33 0 17 ∧ V 33 0 17 < 61; omega) (by show 0 ≤ p ∧ p < 61; omega)
  refine e.trans ?_
  show cif (V 33 0 17 ≤ p) (rI (-1) (HM q (psV V w p))) (rI (V 42 0 p) (HM q (psV V w p))) = _
  unfold hereC
  refine cif_eq (fun c => ?_) (fun c => ?_)
  · rw [cif_neg (by omega)]
  · rw [cif_pos (by omega), (t3 p (by omega)).1]
theorem s_298 {d : Nat} {q : QQ} (tx : TX V T L) (hp : 0 ≤ p ∧ p ≤ L) (hw : w = 0 ∨ w = 1) : RUN (d + 1) 298 (am_en 298 [aR 33 0]) (HM q (psV V w p)) = rI (b2i (w = 0 ∧ dig T L p)) (HM q (psV V w p)) := by
  have hh := hereC_R tx hp.1
  have e := g_298_0 (d := d) (q := q) (V := psV V w p) hw (by show R32 w; rcases hw with h | h <;> rw [h] <;> decide)
  refine e.trans ?_
  show cif (w = 0) _ _ = _
  refine cif_eq (fun c => ?_) (fun c => ?_)
  · refine (g_298_8 (V := psV V w p) hw (s_295 tx hp) (qle_refl _) (by constructor <;> omega)).trans ?_
    refine cif_eq (fun c2 => rI1_b ?_) (fun c2 => rI0_b ?_)
    · refine ⟨c, ?_⟩
      unfold dig
      unfold hereC at c2
      by_cases z : p < L
      · rw [cif_pos z] at c2
        exact ⟨z, c2⟩
      · rw [cif_neg z] at c2
        omega
    · rintro ⟨-, z1, z2⟩
      unfold hereC at c2
      rw [cif_pos z1] at c2
      exact c2 z2
  · exact rI0_b (fun z => c z.1)
end
/-- the state of the model's reading behind the parts F -/
noncomputable def rsw (T : Int → Int) (L : Int) (F : List Int) (s : Int × Int) : Int × Int := cif (s.1 = 0) (b2i (¬ (runF T L F s.2).1), (runF T L F s.2).2.1) s
theorem runF_app {T : Int → Int} {L : Int} : ∀ (F G : List Int) (p : Int), ((runF T L (F ++ G) p).1 ↔ (runF T L F p).1 ∧ (runF T L G (runF T L F p).2.1).1) ∧ ((runF T L F p).1 → (runF T L (F ++ G) p).2.1 = (runF T L G (runF T L F p).2.1).2.1 ∧ (runF T L (F ++ G) p).2.2 = (runF T L F p).2.2 ++ (runF T L G (runF T L F p).2.1).2.2) ∧ (¬ (runF T L F p).1 → (runF T L (F ++ G) p).2.1 = (runF T L F p).2.1) := by
  intro F
  induction F with
  | nil =>
    intro G p
    exact ⟨⟨fun z => ⟨trivial, z⟩, fun z => z.2⟩, fun _ => ⟨rfl, rfl⟩, fun z => absurd trivial z⟩
  | cons c F ih =>
    intro G p
    obtain ⟨h1, h2, h3⟩ := ih G (endI T L c p)
    by_cases k : okI T L c p
    · rw [List.cons_append, runF_ok k, runF_ok k]
      refine ⟨h1, fun z => ⟨(h2 z).1, ?_⟩, h3⟩
      show cif (isV c) [valI T L c p] [] ++ (runF T L (F ++ G) (endI T L c p)).2.2 = (cif (isV c) [valI T L c p] [] ++ (runF T L F (endI T L c p)).2.2) ++ _
      rw [(h2 z).2, List.append_assoc]
    · rw [List.cons_append, runF_no k, runF_no k]
      exact ⟨⟨fun z => absurd z id, fun z => absurd z.1 id⟩, fun z => absurd z id, fun _ => rfl⟩
theorem rsw_app {T : Int → Int} {L : Int} {F G : List Int} {s : Int × Int} : rsw T L G (rsw T L F s) = rsw T L (F ++ G) s := by
  unfold rsw
  by_cases c : s.1 = 0
  · rw [cif_pos c, cif_pos c]
    obtain ⟨h1, h2, h3⟩ := runF_app (T := T) (L := L) F G s.2
    by_cases k : (runF T L F s.2).1
    · rw [cif_pos (show b2i (¬ (runF T L F s.2).1) = 0 from b2i_neg (fun z => z k)), (h2 k).1]
      refine Prod.ext (b2i_iff (not_congr ⟨fun z => h1.mpr ⟨k, z⟩, fun z => (h1.mp z).2⟩)) rfl
    · rw [cif_neg (show ¬ b2i (¬ (runF T L F s.2).1) = 0 by rw [b2i_pos k]; decide), h3 k]
      refine Prod.ext (b2i_iff ⟨fun z y => z (h1.mp y).1, fun _ => k⟩) rfl
  · rw [cif_neg c, cif_neg c, cif_neg c]
theorem rsw_b {T : Int → Int} {L : Int} {F : List Int} {s : Int × Int} (hw : s.1 = 0 ∨ s.1 = 1) (hp : 0 ≤ s.2 ∧ s.2 ≤ L) : ((rsw T L F s).1 = 0 ∨ (rsw T L F s).1 = 1) ∧ 0 ≤ (rsw T L F s).2 ∧ (rsw T L F s).2 ≤ L := by
  unfold rsw
  by_cases c : s.1 = 0
  · rw [cif_pos c]
    obtain ⟨b1, b2, -⟩ := runF_b (T := T) F s.2 hp.2
    exact ⟨b2i_01 _, by show 0 ≤ (runF T L F s.2).2.1; omega, b2⟩
  · rw [cif_neg c]
    exact ⟨hw, hp⟩
/-- one part -/
theorem rsw_1 {T : Int → Int} {L c w p : Int} : rsw T L [c] (w, p) = cif (w = 0) (b2i (¬ okI T L c p), endI T L c p) (w, p) := by
  unfold rsw
  show cif (w = 0) (b2i (¬ (runF T L [c] p).1), (runF T L [c] p).2.1) (w, p) = _
  by_cases z : w = 0
  · rw [cif_pos z, cif_pos z]
    by_cases k : okI T L c p
    · rw [runF_ok k]
      refine Prod.ext (b2i_iff ⟨fun y => absurd trivial y, fun y => absurd k y⟩) rfl
    · rw [runF_no k]
      refine Prod.ext (b2i_iff ⟨fun _ => k, fun _ y => y⟩) rfl
  · rw [cif_neg z, cif_neg z]
theorem okI_68 {T : Int → Int} {L p : Int} : okI T L 68 p = dig T L p ∧ endI T L 68 p = cif (dig T L p) (p + 1) p ∧ valI T L 68 p = T p - 48 := by
  refine ⟨cif_pos rfl, cif_pos rfl, cif_pos rfl⟩
theorem okI_78 {T : Int → Int} {L p : Int} : okI T L 78 p = dig T L p ∧ endI T L 78 p = cif (dig T L p) (cif (dig T L (p + 1)) (p + 1 + 1) (p + 1)) p ∧ valI T L 78 p = cif (dig T L (p + 1)) (10 * (T p - 48) + T (p + 1) - 48) (T p - 48) := by
  refine ⟨?_, ?_, ?_⟩
  · unfold okI; rw [cif_neg (by decide), cif_neg (by decide), cif_pos rfl]
  · unfold endI; rw [cif_neg (by decide), cif_neg (by decide), cif_pos rfl]
  · unfold valI; rw [cif_neg (by decide), cif_neg (by decide), cif_pos rfl]
theorem okI_76 {T : Int → Int} {L p : Int} : okI T L 76 p = ltr T L p ∧ endI T L 76 p = cif (ltr T L p) (p + 1) p ∧ valI T L 76 p = T p := by
  refine ⟨?_, ?_, ?_⟩
  · unfold okI; rw [cif_neg (by decide), cif_pos rfl]
  · unfold endI; rw [cif_neg (by decide), cif_pos rfl]
  · unfold valI; rw [cif_neg (by decide), cif_pos rfl]
theorem okI_l {T : Int → Int} {L c p : Int} (h : ¬ isV c) : okI T L c p = (p < L ∧ T p = c) ∧ endI T L c p = cif (p < L ∧ T p = c) (p + 1) p := by
  have h1 : ¬ c = 68 := fun z => h (Or.inl z)
  have h2 : ¬ c = 76 := fun z => h (Or.inr (Or.inl z))
  have h3 : ¬ c = 78 := fun z => h (Or.inr (Or.inr (Or.inl z)))
  have h4 : ¬ c = 87 := fun z => h (Or.inr (Or.inr (Or.inr z)))
  refine ⟨?_, ?_⟩
  · unfold okI; rw [cif_neg h1, cif_neg h2, cif_neg h3, cif_neg h4]
  · unfold endI; rw [cif_neg h1, cif_neg h2, cif_neg h3, cif_neg h4]
section
variable {V : VV} {T : Int → Int} {L w p : Int}
theorem s_297_1 {d : Nat} {q : QQ} (tx : TX V T L) (hp : 0 ≤ p ∧ p ≤ L) (hw : w = 0 ∨ w = 1) : ∃ v, RUN (d + 2) 297 (am_en 297 [aR 33 0, aI (iI 1)]) (HM q (psV V w p)) = rI v (HM q (psV V (rsw T L [68] (w, p)).1 (rsw T L [68] (w, p)).2)) ∧ (w = 0 → okI T L 68 p → v = valI T L 68 p) := by
  obtain ⟨k1, k2, k3⟩ := okI_68 (T := T) (L := L) (p := p)
  rw [rsw_1, k1, k2, k3]
  have hL := tx.2.1
  have b := b2i_01 (w = 0 ∧ dig T L p)
  have e0 := g_297_0 (d := d) (q := q) (V := psV V w p) (x1 := 1) (by decide) (by show R32 w; rcases hw with h | h <;> rw [h] <;> decide)
  have e0 : RUN (d + 2) 297 (am_en 297 [aR 33 0, aI (iI 1)]) (HM q (psV V w p)) = cif (w = 0) (RUN (d + 2) 297 (9, [sR 33 0, sI 1, none, none], [aR 33 0, aR 33 0]) (HM q (psV V w p))) (RUN (d + 2) 297 (27, [sR 33 0, sI 1, sI 0, sI 0], []) (HM q (upV (psV V w p) 33 0 19 1))) := e0
  have loop : ∀ (w' : Int), (w' = 0 ∨ w' = 1) → RUN (d + 2) 297 (27, [sR 33 0, sI 1, sI 0, sI 0], []) (HM q (psV V w' p)) = cif (w' = 0 ∧ dig T L p) (rI (10 * 0 + V 42 0 p - 48) (HM q (psV V w' (p + 1)))) (rI 0 (HM q (psV V w' p))) := by
    intro w' hw'
    have f1 := g_297_27 (d := d) (q := q) (V := psV V w' p) (x1 := 1) (x2 := 0) (x3 := 0) (by decide) (by decide)
    have f1 := f1.trans (cif_neg (by decide))
    have f2 := g_297_33 (d := d) (q := q) (V := psV V w' p) (x1 := 1) (x2 := 0) (x3 := 0) (by decide) (s_298 tx hp hw') (qle_refl _) (b2i_R _) (fun z => by
      have : w' = 0 ∧ dig T L p := Classical.byContradiction fun y => z (b2i_neg y)
      have := this.2.1
      show 0 ≤ p ∧ p < 60
      omega)
    have f2 := f2.trans cif_b0
    refine f1.trans (f2.trans (k_cifs (fun c => ?_) (fun _ => rfl)))
    refine Eq.trans (g_297_27 (x1 := 1) (by decide) (by decide)) ((cif_pos (by decide)).trans ?_)
    rw [psV_18]
    rfl
  rcases hw with hw | hw
  · subst hw
    rw [cif_pos rfl] at e0 ⊢
    have f := g_297_9 (d := d) (q := q) (V := psV V 0 p) (x1 := 1) (l2 := none) (l3 := none) (by decide) (s_298 tx hp (Or.inl rfl)) (qle_refl _) (b2i_R _)
    have f := e0.trans (f.trans cif_b0)
    rw [psV_19, psV_19] at f
    by_cases c : dig T L p
    · rw [cif_pos ⟨rfl, c⟩, loop 0 (Or.inl rfl), cif_pos ⟨rfl, c⟩] at f
      rw [cif_pos c, b2i_neg (fun z => z c)]
      refine ⟨_, f, fun _ _ => ?_⟩
      rw [(tx.2.2 p ⟨hp.1, c.1⟩).1]
      omega
    · rw [cif_neg (fun z => c z.2), loop 1 (Or.inr rfl), cif_neg (fun z => absurd z.1 (by decide))] at f
      rw [cif_neg c, b2i_pos c]
      exact ⟨_, f, fun _ z => absurd z c⟩
  · subst hw
    rw [cif_neg (by decide), psV_19, loop 1 (Or.inr rfl), cif_neg (fun z => absurd z.1 (by decide))] at e0
    rw [cif_neg (by decide)]
    exact ⟨_, e0, fun z => absurd z (by decide)⟩
theorem s_297_2 {d : Nat} {q : QQ} (tx : TX V T L) (hp : 0 ≤ p ∧ p ≤ L) (hw : w = 0 ∨ w = 1) : ∃ v, RUN (d + 2) 297 (am_en 297 [aR 33 0, aI (iI 2)]) (HM q (psV V w p)) = rI v (HM q (psV V (rsw T L [78] (w, p)).1 (rsw T L [78] (w, p)).2)) ∧ (w = 0 → okI T L 78 p → v = valI T L 78 p) := by
  obtain ⟨k1, k2, k3⟩ := okI_78 (T := T) (L := L) (p := p)
  rw [rsw_1, k1, k2, k3]
  have hL := tx.2.1
  have e0 := g_297_0 (d := d) (q := q) (V := psV V w p) (x1 := 2) (by decide) (by show R32 w; rcases hw with h | h <;> rw [h] <;> decide)
  have e0 : RUN (d + 2) 297 (am_en 297 [aR 33 0, aI (iI 2)]) (HM q (psV V w p)) = cif (w = 0) (RUN (d + 2) 297 (9, [sR 33 0, sI 2, none, none], [aR 33 0, aR 33 0]) (HM q (psV V w p))) (RUN (d + 2) 297 (27, [sR 33 0, sI 2, sI 0, sI 0], []) (HM q (upV (psV V w p) 33 0 19 1))) := e0
  have one : ∀ (w' p' n i : Int), (w' = 0 ∨ w' = 1) → 0 ≤ p' ∧ p' ≤ L → 0 ≤ i ∧ i < 2 → RUN (d + 2) 297 (27, [sR 33 0, sI 2, sI n, sI i], []) (HM q (psV V w' p')) = cif (w' = 0 ∧ dig T L p') (RUN (d + 2) 297 (27, [sR 33 0, sI 2, sI (10 * n + T p' - 48), sI (i + 1)], []) (HM q (psV V w' (p' + 1)))) (rI n (HM q (psV V w' p'))) := by
    intro w' p' n i hw' hp' hi
    have f1 := g_297_27 (d := d) (q := q) (V := psV V w' p') (x1 := 2) (x2 := n) (x3 := i) (by decide) (by constructor <;> omega)
    have f1 := f1.trans (cif_neg (by omega))
    have f2 := g_297_33 (d := d) (q := q) (V := psV V w' p') (x1 := 2) (x2 := n) (x3 := i) (by decide) (s_298 tx hp' hw') (qle_refl _) (b2i_R _) (fun z => by
      have : w' = 0 ∧ dig T L p' := Classical.byContradiction fun y => z (b2i_neg y)
      have := this.2.1
      show 0 ≤ p' ∧ p' < 60
      omega)
    have f2 := f2.trans cif_b0
    refine f1.trans (f2.trans (k_cifs (fun c => ?_) (fun _ => rfl)))
    rw [psV_18, show psV V w' p' 42 0 (psV V w' p' 33 0 18) = T p' from (tx.2.2 p' ⟨hp'.1, c.2.1⟩).1]
    rfl
  have stop : ∀ (w' p' n : Int), RUN (d + 2) 297 (27, [sR 33 0, sI 2, sI n, sI (0 + 1 + 1)], []) (HM q (psV V w' p')) = rI n (HM q (psV V w' p')) := fun w' p' n =>
    (g_297_27 (x1 := 2) (by decide) (by decide)).trans (cif_pos (by decide))
  rcases hw with hw | hw
  · subst hw
    rw [cif_pos rfl] at e0 ⊢
    have f := g_297_9 (d := d) (q := q) (V := psV V 0 p) (x1 := 2) (l2 := none) (l3 := none) (by decide) (s_298 tx hp (Or.inl rfl)) (qle_refl _) (b2i_R _)
    have f := e0.trans (f.trans cif_b0)
    rw [psV_19, psV_19] at f
    by_cases c : dig T L p
    · have hp1 := c.1
      rw [cif_pos ⟨rfl, c⟩, one 0 p 0 0 (Or.inl rfl) hp (by decide), cif_pos ⟨rfl, c⟩, one 0 (p + 1) _ (0 + 1) (Or.inl rfl) (by omega) (by decide)] at f
      rw [cif_pos c, b2i_neg (fun z => z c)]
      by_cases c2 : dig T L (p + 1)
      · rw [cif_pos ⟨rfl, c2⟩, stop] at f
        rw [cif_pos c2, cif_pos c2]
        exact ⟨_, f, fun _ _ => by omega⟩
      · rw [cif_neg (fun z => c2 z.2)] at f
        rw [cif_neg c2, cif_neg c2]
        exact ⟨_, f, fun _ _ => by omega⟩
    · rw [cif_neg (fun z => c z.2), one 1 p 0 0 (Or.inr rfl) hp (by decide), cif_neg (fun z => absurd z.1 (by decide))] at f
      rw [cif_neg c, b2i_pos c]
      exact ⟨_, f, fun _ z => absurd z c⟩
  · subst hw
    rw [cif_neg (by decide), psV_19, one 1 p 0 0 (Or.inr rfl) hp (by decide), cif_neg (fun z => absurd z.1 (by decide))] at e0
    rw [cif_neg (by decide)]
    exact ⟨_, e0, fun z => absurd z (by decide)⟩
theorem s_299 {d : Nat} {q : QQ} (tx : TX V T L) (hp : 0 ≤ p ∧ p ≤ L) (hw : w = 0 ∨ w = 1) : ∃ v, RUN (d + 2) 299 (am_en 299 [aR 33 0]) (HM q (psV V w p)) = rI v (HM q (psV V (rsw T L [76] (w, p)).1 (rsw T L [76] (w, p)).2)) ∧ (w = 0 → okI T L 76 p → v = valI T L 76 p) := by
  obtain ⟨k1, k2, k3⟩ := okI_76 (T := T) (L := L) (p := p)
  rw [rsw_1, k1, k2, k3]
  have hh := hereC_R tx hp.1
  have e1 := g_299_1 (d := d) (q := q) (V := psV V w p) (l1 := none) hw (s_295 tx hp) (qle_refl _) (by show R32 w; rcases hw with h | h <;> rw [h] <;> decide) (by constructor <;> omega)
  have e0 := (g_299_0 (d := d) (q := q) (V := psV V w p) hw).trans e1
  rw [psV_up, psV_up] at e0
  have e0 : RUN (d + 2) 299 (am_en 299 [aR 33 0]) (HM q (psV V w p)) = cif (w = 0) (cif (97 ≤ hereC T L p ∧ hereC T L p < 113) (rI (hereC T L p) (HM q (psV V 0 (p + 1)))) (rI (hereC T L p) (HM q (psV V 1 (p + 0))))) (rI (hereC T L p) (HM q (psV V 1 (p + 0)))) := e0
  rw [Int.add_zero] at e0
  rcases hw with hw | hw
  · rw [cif_pos hw] at e0 ⊢
    by_cases c : ltr T L p
    · have eh : hereC T L p = T p := cif_pos c.1
      rw [cif_pos c, b2i_neg (fun z => z c)]
      rw [eh, cif_pos (by have := c.2; omega)] at e0
      exact ⟨_, e0, fun _ _ => rfl⟩
    · rw [cif_neg c, b2i_pos c]
      have hn : ¬ (97 ≤ hereC T L p ∧ hereC T L p < 113) := fun z => by
        unfold hereC at z
        by_cases y : p < L
        · rw [cif_pos y] at z
          exact c ⟨y, by omega, by omega⟩
        · rw [cif_neg y] at z
          omega
      rw [cif_neg hn] at e0
      exact ⟨_, e0, fun _ z => absurd z c⟩
  · rw [cif_neg (by omega)] at e0 ⊢
    rw [hw]
    exact ⟨_, (by rw [hw] at e0; exact e0), fun z => absurd z (by decide)⟩
theorem skip_go {d : Nat} {q : QQ} {b b' : Nat} {g : Nat → AV} {F : List Int} (hs : strO q b b' F.length g) (hF : ∀ j, j < F.length → g j = aI (iI (F.getD j 0)) ∧ (0 ≤ F.getD j 0 ∧ F.getD j 0 < 128) ∧ ¬ isV (F.getD j 0)) (tx : TX V T L) : ∀ (R : List Int) (j : Nat) (w p : Int), F.drop j = R → j + R.length = F.length → 0 ≤ p ∧ p ≤ L → (w = 0 ∨ w = 1) →
    RUN (d + 4) 296 (2, [sR 33 0, sR 0 b, sI j], []) (HM q (psV V w p)) = rV (HM q (psV V (rsw T L R (w, p)).1 (rsw T L R (w, p)).2)) := by
  have hl := hs.2.2
  have head : ∀ (j : Nat) (w p : Int), j ≤ F.length → RUN (d + 4) 296 (2, [sR 33 0, sR 0 b, sI j], []) (HM q (psV V w p)) = cif ((F.length : Int) ≤ j) (rV (HM q (psV V w p))) (RUN (d + 4) 296 (10, [sR 33 0, sR 0 b, sI j], []) (HM q (psV V w p))) := by
    intro j w p hj
    refine Eq.trans (k_iload rfl rfl) (Eq.trans (k_aload rfl rfl) (Eq.trans (RUN_ci rfl (call0 hs.1 rfl) rfl (s_181 (d := d + 2) hs) (qle_refl _)) (Eq.trans (k_icmpc ((F.length : Int) ≤ j) rfl (iI_le (by constructor <;> omega) (by constructor <;> omega))) (k_cifs (fun _ => ?_) (fun _ => rfl)))))
    exact k_ret rfl
  intro R
  induction R with
  | nil =>
    intro j w p hd hj hp hw
    have hj2 : j + 0 = F.length := hj
    rw [head j w p (by omega), cif_pos (by omega)]
    have e : rsw T L [] (w, p) = (w, p) := by
      unfold rsw
      show cif (w = 0) (b2i (¬ True), p) (w, p) = _
      by_cases c : w = 0
      · rw [cif_pos c, b2i_neg (fun z => z trivial), c]
      · rw [cif_neg c]
    rw [e]
  | cons c R ih =>
    intro j w p hd hj hp hw
    have hj : j + R.length + 1 = F.length := hj
    have hd2 : F.drop (j + 1) = R := by
      rw [List.drop_eq_getElem_cons (show j < F.length by omega)] at hd
      exact (List.cons.inj hd).2
    have hc : F.getD j 0 = c := by
      rw [List.drop_eq_getElem_cons (show j < F.length by omega)] at hd
      rw [List.getD_eq_getElem?_getD, List.getElem?_eq_getElem (show j < F.length by omega)]
      exact (List.cons.inj hd).1
    obtain ⟨g1, g2, g3⟩ := hF j (by omega)
    rw [hc] at g1 g2 g3
    obtain ⟨k1, k2⟩ := okI_l (T := T) (L := L) (p := p) g3
    have hh := hereC_R tx hp.1
    rw [head j w p (by omega), cif_neg (by omega), show c :: R = [c] ++ R from rfl, ← rsw_app, rsw_1]
    have go : RUN (d + 4) 296 (10, [sR 33 0, sR 0 b, sI j], []) (HM q (psV V w p)) = cif (w = 0) (RUN (d + 4) 296 (17, [sR 33 0, sR 0 b, sI j], []) (HM q (psV V w p))) (rV (HM q (psV V w p))) := by
      refine Eq.trans (k_aload rfl rfl) (Eq.trans (k_getfi 19 rfl rfl rfl rfl) (Eq.trans (k_ifcN (w = 0) rfl (iI_ne0 (show R32 w by rcases hw with h | h <;> rw [h] <;> decide))) (k_cifs (fun _ => rfl) (fun _ => ?_))))
      exact k_ret rfl
    rw [go]
    by_cases cw : w = 0
    · rw [cif_pos cw, cif_pos cw]
      have he : hereC T L p = c ↔ okI T L c p := by
        rw [k1]
        unfold hereC
        by_cases z : p < L
        · rw [cif_pos z]
          exact ⟨fun y => ⟨z, y⟩, fun y => y.2⟩
        · rw [cif_neg z]
          exact ⟨fun y => by omega, fun y => absurd y.1 z⟩
      have s1 := ih (j + 1) (b2i (¬ okI T L c p)) (endI T L c p) hd2 (by omega) (by have := endI_b (T := T) (c := c) hp.2; omega) (b2i_01 _)
      refine Eq.trans ?_ s1
      refine Eq.trans (k_aload rfl rfl) (Eq.trans (k_aload rfl rfl) (Eq.trans (RUN_ci rfl rfl rfl (s_295 tx hp) (qle_refl _)) (Eq.trans (k_aload rfl rfl) (Eq.trans (k_iload rfl rfl) (Eq.trans (RUN_ci rfl (call1 hs.1 rfl) rfl (s_175z hs (i := (j : Int)) ⟨by omega, by omega⟩ (by rw [show ((j : Int)).toNat = j from rfl]; exact g1) g2) (qle_refl _)) (Eq.trans (k_icmpc (hereC T L p = c) rfl (iI_eq (by constructor <;> omega) (by constructor <;> omega))) ?_))))))
      refine cif_eq (fun c2 => ?_) (fun c2 => ?_)
      · have ok := he.mp c2
        rw [b2i_neg (fun z => z ok), k2, cif_pos (by rw [← k1]; exact ok)]
        refine Eq.trans (k_pushi 0 rfl rfl) (Eq.trans (k_putfi 19 rfl rfl rfl rfl (iI_bool (Or.inl rfl))) (Eq.trans (k_aload rfl rfl) (Eq.trans (k_dupR rfl) (Eq.trans (k_getfi 18 rfl rfl rfl rfl) (Eq.trans (k_aload rfl rfl) (Eq.trans (k_getfi 19 rfl rfl rfl rfl) (Eq.trans (Eq.trans (k_ifc ((0 : Int) = 0) rfl (iI_eq0 (show R32 (0 : Int) by decide))) (cif_pos rfl)) (Eq.trans (k_pushi 1 rfl rfl) (Eq.trans (k_bin rfl (iI_add _ _)) (Eq.trans (k_putfi 18 rfl rfl rfl rfl trivial) (Eq.trans (k_iinc 1 rfl rfl rfl) (Eq.trans (k_goto rfl) ?_))))))))))))
        rw [psV_up]
        rfl
      · have ok : ¬ okI T L c p := fun z => c2 (he.mpr z)
        rw [b2i_pos ok, k2, cif_neg (by rw [← k1]; exact ok)]
        refine Eq.trans (k_pushi 1 rfl rfl) (Eq.trans (k_goto rfl) (Eq.trans (k_putfi 19 rfl rfl rfl rfl (iI_bool (Or.inr rfl))) (Eq.trans (k_aload rfl rfl) (Eq.trans (k_dupR rfl) (Eq.trans (k_getfi 18 rfl rfl rfl rfl) (Eq.trans (k_aload rfl rfl) (Eq.trans (k_getfi 19 rfl rfl rfl rfl) (Eq.trans (Eq.trans (k_ifc ((1 : Int) = 0) rfl (iI_eq0 (show R32 (1 : Int) by decide))) (cif_neg (by decide))) (Eq.trans (k_pushi 0 rfl rfl) (Eq.trans (k_goto rfl) (Eq.trans (k_bin rfl (iI_add _ _)) (Eq.trans (k_putfi 18 rfl rfl rfl rfl trivial) (Eq.trans (k_iinc 1 rfl rfl rfl) (Eq.trans (k_goto rfl) ?_))))))))))))))
        rw [psV_up]
        exact congrArg (fun z => RUN (d + 4) 296 (2, [sR 33 0, sR 0 b, sI ((j : Int) + 1)], []) (HM q (psV V 1 z))) (Int.add_zero p)
    · rw [cif_neg cw, cif_neg cw]
      have : rsw T L R (w, p) = (w, p) := by unfold rsw; exact cif_neg cw
      rw [this]
theorem s_296 {d : Nat} {q : QQ} {b b' : Nat} {g : Nat → AV} {F : List Int} (hs : strO q b b' F.length g) (hF : ∀ j, j < F.length → g j = aI (iI (F.getD j 0)) ∧ (0 ≤ F.getD j 0 ∧ F.getD j 0 < 128) ∧ ¬ isV (F.getD j 0)) (tx : TX V T L) (hp : 0 ≤ p ∧ p ≤ L) (hw : w = 0 ∨ w = 1) :
    RUN (d + 4) 296 (am_en 296 [aR 33 0, aR 0 b]) (HM q (psV V w p)) = rV (HM q (psV V (rsw T L F (w, p)).1 (rsw T L F (w, p)).2)) := by
  have := skip_go (d := d) hs hF tx F 0 w p rfl (by omega) hp hw
  exact (show RUN (d + 4) 296 (0, [sR 33 0, sR 0 b, none], []) (HM q (psV V w p)) = _ from Eq.trans (k_pushi 0 rfl rfl) (Eq.trans (k_store rfl) this))
end
