/-! reading: what a form asks for, what stands there -/
/-- a digit, a minus, a letter stands at p -/
def dig (T : Int → Int) (L p : Int) : Prop := p < L ∧ 48 ≤ T p ∧ T p ≤ 57
def mns (T : Int → Int) (L p : Int) : Prop := p < L ∧ T p = 45
def ltr (T : Int → Int) (L p : Int) : Prop := p < L ∧ 97 ≤ T p ∧ T p ≤ 112
noncomputable def wP (T : Int → Int) (L p : Int) : Int := cif (mns T L p) (p + 1) p
/-- a part of a form is here -/
noncomputable def okI (T : Int → Int) (L c p : Int) : Prop := cif (c = 68) (dig T L p) (cif (c = 76) (ltr T L p) (cif (c = 78) (dig T L p) (cif (c = 87) (dig T L (wP T L p)) (p < L ∧ T p = c))))
/-- where it ends, or where it can't go on -/
noncomputable def endI (T : Int → Int) (L c p : Int) : Int := cif (c = 68) (cif (dig T L p) (p + 1) p) (cif (c = 76) (cif (ltr T L p) (p + 1) p) (cif (c = 78) (cif (dig T L p) (cif (dig T L (p + 1)) (p + 1 + 1) (p + 1)) p) (cif (c = 87) (cif (dig T L (wP T L p)) (wP T L p + 1) (wP T L p)) (cif (p < L ∧ T p = c) (p + 1) p))))
/-- its value -/
noncomputable def valI (T : Int → Int) (L c p : Int) : Int := cif (c = 68) (T p - 48) (cif (c = 76) (T p) (cif (c = 78) (cif (dig T L (p + 1)) (10 * (T p - 48) + T (p + 1) - 48) (T p - 48)) (cif (mns T L p) (-(T (p + 1) - 48)) (T p - 48))))
def isV (c : Int) : Prop := c = 68 ∨ c = 76 ∨ c = 78 ∨ c = 87
theorem endI_b {T : Int → Int} {L c p : Int} (h : p ≤ L) : p ≤ endI T L c p ∧ endI T L c p ≤ L ∧ (okI T L c p → p + 1 ≤ endI T L c p) := by
  unfold endI okI
  have hw : p ≤ wP T L p ∧ wP T L p ≤ L := by
    unfold wP
    by_cases c : mns T L p
    · rw [cif_pos c]; have := c.1; omega
    · rw [cif_neg c]; omega
  by_cases c1 : c = 68
  · rw [cif_pos c1, cif_pos c1]
    by_cases k : dig T L p
    · rw [cif_pos k]; have := k.1; omega
    · rw [cif_neg k]; exact ⟨by omega, by omega, fun z => absurd z k⟩
  rw [cif_neg c1, cif_neg c1]
  by_cases c2 : c = 76
  · rw [cif_pos c2, cif_pos c2]
    by_cases k : ltr T L p
    · rw [cif_pos k]; have := k.1; omega
    · rw [cif_neg k]; exact ⟨by omega, by omega, fun z => absurd z k⟩
  rw [cif_neg c2, cif_neg c2]
  by_cases c3 : c = 78
  · rw [cif_pos c3, cif_pos c3]
    by_cases k : dig T L p
    · rw [cif_pos k]
      have := k.1
      by_cases k2 : dig T L (p + 1)
      · rw [cif_pos k2]; have := k2.1; omega
      · rw [cif_neg k2]; omega
    · rw [cif_neg k]; exact ⟨by omega, by omega, fun z => absurd z k⟩
  rw [cif_neg c3, cif_neg c3]
  by_cases c4 : c = 87
  · rw [cif_pos c4, cif_pos c4]
    by_cases k : dig T L (wP T L p)
    · rw [cif_pos k]; have := k.1; omega
    · rw [cif_neg k]; exact ⟨by omega, by omega, fun z => absurd z k⟩
  rw [cif_neg c4, cif_neg c4]
  by_cases k : p < L ∧ T p = c
  · rw [cif_pos k]; have := k.1; omega
  · rw [cif_neg k]; exact ⟨by omega, by omega, fun z => absurd z k⟩
/-- a form is read: is it here, where it ends, its values -/
noncomputable def runF (T : Int → Int) (L : Int) : List Int → Int → Prop × Int × List Int
  | [], p => (True, p, [])
  | c :: F, p => cif (okI T L c p) ((runF T L F (endI T L c p)).1, (runF T L F (endI T L c p)).2.1, cif (isV c) [valI T L c p] [] ++ (runF T L F (endI T L c p)).2.2) (False, endI T L c p, [])
theorem runF_ok {T : Int → Int} {L c p : Int} {F : List Int} (h : okI T L c p) : runF T L (c :: F) p = ((runF T L F (endI T L c p)).1, (runF T L F (endI T L c p)).2.1, cif (isV c) [valI T L c p] [] ++ (runF T L F (endI T L c p)).2.2) := cif_pos h
theorem runF_no {T : Int → Int} {L c p : Int} {F : List Int} (h : ¬ okI T L c p) : runF T L (c :: F) p = (False, endI T L c p, []) := cif_neg h
theorem runF_b {T : Int → Int} {L : Int} : ∀ (F : List Int) (p : Int), p ≤ L → p ≤ (runF T L F p).2.1 ∧ (runF T L F p).2.1 ≤ L ∧ ((runF T L F p).1 → p + F.length ≤ (runF T L F p).2.1) := by
  intro F
  induction F with
  | nil => intro p h; exact ⟨Int.le_refl _, h, fun _ => by show p + 0 ≤ p; omega⟩
  | cons c F ih =>
    intro p h
    obtain ⟨h1, h2, h3⟩ := endI_b (T := T) (c := c) h
    by_cases k : okI T L c p
    · rw [runF_ok k]
      obtain ⟨i1, i2, i3⟩ := ih (endI T L c p) h2
      have := h3 k
      refine ⟨?_, i2, fun z => ?_⟩
      · show p ≤ (runF T L F (endI T L c p)).2.1
        omega
      · have := i3 z
        show p + ((F.length + 1 : Nat) : Int) ≤ (runF T L F (endI T L c p)).2.1
        omega
    · rw [runF_no k]
      exact ⟨h1, h2, fun z => absurd z id⟩
/-- the forms of the commands, by their first letters -/
def frm (c : Int) : List Int := if c = 103 then [103, 114, 111, 117, 110, 100, 32, 78, 42, 68] else if c = 116 then [116, 111, 119, 101, 114, 32, 78, 43, 68, 33, 68] else if c = 109 then [109, 111, 111, 100, 32, 68, 33, 68] else if c = 119 then [119, 105, 110, 100, 32, 87] else [115, 101, 110, 100, 32, 68, 62, 68, 58, 76]
theorem frm_len (c : Int) : 6 ≤ (frm c).length := by
  unfold frm
  repeat' split
  all_goals decide
/-- what stands at p, or -1 -/
noncomputable def hereC (T : Int → Int) (L p : Int) : Int := cif (p < L) (T p) (-1)
noncomputable def cmdR (T : Int → Int) (L p : Int) : Prop × Int × List Int := runF T L (frm (hereC T L p)) p
/-- a text is read from p on: is it well-formed, where it ends or can't go on, its commands -/
noncomputable def prs (T : Int → Int) (L : Int) : Nat → Int → Prop × Int × List (Int × List Int)
  | 0, p => (False, p, [])
  | f + 1, p => cif (cmdR T L p).1 (cif ((cmdR T L p).2.1 = L) (True, L, [(hereC T L p, (cmdR T L p).2.2)])
      (cif (T (cmdR T L p).2.1 = 59) ((prs T L f ((cmdR T L p).2.1 + 1)).1, (prs T L f ((cmdR T L p).2.1 + 1)).2.1, (hereC T L p, (cmdR T L p).2.2) :: (prs T L f ((cmdR T L p).2.1 + 1)).2.2) (False, (cmdR T L p).2.1, []))) (False, (cmdR T L p).2.1, [])
/-- the input's cells that reading changes -/
def offI (V W : VV) : Prop := (∀ a b, ¬ (a = 27 ∨ a = 30) ∨ b ≠ 0 → W a b = V a b) ∧ (∀ j, ¬ (j = 3 ∨ j = 5) → W 27 0 j = V 27 0 j)
theorem offI_refl (V : VV) : offI V V := ⟨fun _ _ _ => rfl, fun _ _ => rfl⟩
theorem offI_trans {U V W : VV} (h : offI U V) (k : offI V W) : offI U W := ⟨fun a b z => (k.1 a b z).trans (h.1 a b z), fun j z => (k.2 j z).trans (h.2 j z)⟩
/-- a part was taken, or wasn't -/
def tookP (V W : VV) (c : Int) : Prop :=
  offI V W ∧ W 27 0 5 = endI (V 28 0) (V 27 0 4) c (V 27 0 5) ∧ (okI (V 28 0) (V 27 0 4) c (V 27 0 5) → (isV c → W 27 0 3 = V 27 0 3 + 1 ∧ W 30 0 (V 27 0 6 * 3 + V 27 0 3) = valI (V 28 0) (V 27 0 4) c (V 27 0 5)) ∧ (¬ isV c → W 27 0 3 = V 27 0 3)) ∧
    (∀ s, s < V 27 0 6 * 3 + V 27 0 3 → W 30 0 s = V 30 0 s) ∧ (V 27 0 3 ≤ W 27 0 3 ∧ W 27 0 3 ≤ V 27 0 3 + 1)
theorem took_val {V : VV} {c e x : Int} (he : e = endI (V 28 0) (V 27 0 4) c (V 27 0 5)) (hv : isV c) (hx : okI (V 28 0) (V 27 0 4) c (V 27 0 5) → x = valI (V 28 0) (V 27 0 4) c (V 27 0 5)) : tookP V (valV (upV V 27 0 5 e) x) c := by
  have e3 : valV (upV V 27 0 5 e) x 27 0 3 = V 27 0 3 + 1 := rfl
  have e30 : ∀ s, valV (upV V 27 0 5 e) x 30 0 s = if s = V 27 0 6 * 3 + V 27 0 3 then x else V 30 0 s := fun s => rfl
  refine ⟨⟨fun a b h => ?_, fun j h => ?_⟩, ?_, fun k => ⟨fun _ => ⟨e3, ?_⟩, fun z => absurd hv z⟩, fun s hs => ?_, ?_⟩
  · unfold valV
    rw [upV_off2 (by omega), upV_off2 (by omega), upV_off2 (by omega)]
  · show (if j = 3 then _ else if j = 5 then e else V 27 0 j) = V 27 0 j
    rw [if_neg (by omega), if_neg (by omega)]
  · show e = _
    exact he
  · rw [e30, if_pos rfl]
    exact hx k
  · rw [e30, if_neg (by omega)]
  · rw [e3]
    omega
theorem took_pl {V : VV} {c e : Int} (he : e = endI (V 28 0) (V 27 0 4) c (V 27 0 5)) (hv : okI (V 28 0) (V 27 0 4) c (V 27 0 5) → ¬ isV c) : tookP V (upV V 27 0 5 e) c := by
  have e3 : upV V 27 0 5 e 27 0 3 = V 27 0 3 := rfl
  refine ⟨⟨fun a b h => ?_, fun j h => ?_⟩, ?_, fun k => ⟨fun z => absurd z (hv k), fun _ => e3⟩, fun s hs => rfl, ?_⟩
  · rw [upV_off2 (by omega)]
  · show (if j = 5 then e else V 27 0 j) = V 27 0 j
    rw [if_neg (by omega)]
  · show e = _
    exact he
  · rw [e3]
    omega
theorem took_no {V : VV} {c : Int} (he : V 27 0 5 = endI (V 28 0) (V 27 0 4) c (V 27 0 5)) (hv : ¬ okI (V 28 0) (V 27 0 4) c (V 27 0 5)) : tookP V V c :=
  ⟨offI_refl V, he, fun k => absurd k hv, fun _ _ => rfl, by omega⟩
theorem inok_off {V W : VV} (h : offI V W) (io : inok V) (h5 : 0 ≤ W 27 0 5 ∧ W 27 0 5 ≤ 60) (h3 : 0 ≤ W 27 0 3 ∧ W 27 0 3 ≤ 30) : inok W := by
  obtain ⟨i1, i2, i3, i4, i5⟩ := io
  refine ⟨?_, h5, ?_, h3, fun j hj => ?_⟩
  · rw [h.2 4 (by omega)]; exact i1
  · rw [h.2 6 (by omega)]; exact i3
  · rw [h.1 28 0 (by omega)]; exact i5 j hj
theorem s_183 {d : Nat} {q : QQ} {V : VV} {c : Int} (io : inok V) (h1 : V 27 0 5 ≤ V 27 0 4) (h2 : V 27 0 6 ≤ 9 ∧ V 27 0 3 ≤ 2) (hc : 0 ≤ c ∧ c < 128) : ∃ W, tookP V W c ∧ RUN (d + 2) 183 (am_en 183 [aR 27 0, aI (iI c)]) (HM q V) = rI (b2i (okI (V 28 0) (V 27 0 4) c (V 27 0 5))) (HM q W) := by
  obtain ⟨i1, i2, i3, i4, i5⟩ := id io
  have up5 : ∀ e, 0 ≤ e ∧ e ≤ 60 → inok (upV V 27 0 5 e) := fun e he => ⟨i1, he, i3, i4, i5⟩
  have e0 := e_183 (d := d) (q := q) (V := V) (x1 := c) io (by omega) (by omega) (by omega) (by omega) (by omega) (by constructor <;> omega) (fun _ z => by have := z.1; omega) (fun _ _ z => by have := z.1; omega) (fun _ _ _ z => by have := z.1; omega) (fun _ _ _ z => up5 _ (by have := z.1; omega)) (fun _ _ _ _ z => by have : V 27 0 5 + 1 < V 27 0 4 := z.1; omega) (fun _ _ _ _ z => up5 _ (by have := z.1; omega)) (fun _ _ _ _ z => by have := z.1; omega) (fun _ _ _ _ _ z => by have : V 27 0 5 + 1 < V 27 0 4 := z.1; omega) (fun _ _ _ _ _ z => by have := z.1; omega) (fun _ _ _ _ => by omega)
  have hD : betwP V 48 57 ↔ dig (V 28 0) (V 27 0 4) (V 27 0 5) := Iff.rfl
  have hD1 : betwP (upV V 27 0 5 (V 27 0 5 + 1)) 48 57 ↔ dig (V 28 0) (V 27 0 4) (V 27 0 5 + 1) := Iff.rfl
  have hL : betwP V 97 112 ↔ ltr (V 28 0) (V 27 0 4) (V 27 0 5) := Iff.rfl
  have hM : hereP V 45 ↔ mns (V 28 0) (V 27 0 4) (V 27 0 5) := Iff.rfl
  have upup : upV (upV V 27 0 5 (V 27 0 5 + 1)) 27 0 5 (V 27 0 5 + 1 + 1) = upV V 27 0 5 (V 27 0 5 + 1 + 1) := by
    funext a b j
    unfold upV
    cases Nat.beq a 27 && Nat.beq b 0 with
    | false => rfl
    | true =>
      show (if j = 5 then _ else if j = 5 then _ else _) = (if j = 5 then _ else _)
      by_cases k : j = 5
      · rw [if_pos k, if_pos k]
      · rw [if_neg k, if_neg k, if_neg k]
  rw [upup] at e0
  generalize hT : V 28 0 = T at *
  generalize hLL : V 27 0 4 = L at *
  by_cases c1 : c = 68
  · have o : okI T L c (V 27 0 5) = dig T L (V 27 0 5) := by unfold okI; rw [cif_pos c1]
    have en : endI T L c (V 27 0 5) = cif (dig T L (V 27 0 5)) (V 27 0 5 + 1) (V 27 0 5) := by unfold endI; rw [cif_pos c1]
    have va : valI T L c (V 27 0 5) = T (V 27 0 5) - 48 := by unfold valI; rw [cif_pos c1]
    rw [cif_pos c1] at e0
    by_cases k : dig T L (V 27 0 5)
    · rw [cif_pos (hD.mpr k)] at e0
      exact ⟨_, took_val (x := 1 * (T (V 27 0 5) - 48)) (by rw [hT, hLL, en, cif_pos k]) (Or.inl c1) (fun _ => by rw [hT, hLL, va]; omega), e0.trans (by rw [o]; exact rI1_b k)⟩
    · rw [cif_neg (fun z => k (hD.mp z))] at e0
      exact ⟨V, took_no (by rw [hT, hLL, en, cif_neg k]) (by rw [hT, hLL, o]; exact k), e0.trans (by rw [o]; exact rI0_b k)⟩
  rw [cif_neg c1] at e0
  by_cases c2 : c = 76
  · have o : okI T L c (V 27 0 5) = ltr T L (V 27 0 5) := by unfold okI; rw [cif_neg c1, cif_pos c2]
    have en : endI T L c (V 27 0 5) = cif (ltr T L (V 27 0 5)) (V 27 0 5 + 1) (V 27 0 5) := by unfold endI; rw [cif_neg c1, cif_pos c2]
    have va : valI T L c (V 27 0 5) = T (V 27 0 5) := by unfold valI; rw [cif_neg c1, cif_pos c2]
    rw [cif_pos c2] at e0
    by_cases k : ltr T L (V 27 0 5)
    · rw [cif_pos (hL.mpr k)] at e0
      exact ⟨_, took_val (by rw [hT, hLL, en, cif_pos k]) (Or.inr (Or.inl c2)) (fun _ => by rw [hT, hLL, va]), e0.trans (by rw [o]; exact rI1_b k)⟩
    · rw [cif_neg (fun z => k (hL.mp z))] at e0
      exact ⟨V, took_no (by rw [hT, hLL, en, cif_neg k]) (by rw [hT, hLL, o]; exact k), e0.trans (by rw [o]; exact rI0_b k)⟩
  rw [cif_neg c2] at e0
  by_cases c3 : c = 78
  · have o : okI T L c (V 27 0 5) = dig T L (V 27 0 5) := by unfold okI; rw [cif_neg c1, cif_neg c2, cif_pos c3]
    have en : endI T L c (V 27 0 5) = cif (dig T L (V 27 0 5)) (cif (dig T L (V 27 0 5 + 1)) (V 27 0 5 + 1 + 1) (V 27 0 5 + 1)) (V 27 0 5) := by unfold endI; rw [cif_neg c1, cif_neg c2, cif_pos c3]
    have va : valI T L c (V 27 0 5) = cif (dig T L (V 27 0 5 + 1)) (10 * (T (V 27 0 5) - 48) + T (V 27 0 5 + 1) - 48) (T (V 27 0 5) - 48) := by unfold valI; rw [cif_neg c1, cif_neg c2, cif_pos c3]
    rw [cif_pos c3] at e0
    by_cases k : dig T L (V 27 0 5)
    · rw [cif_pos (hD.mpr k)] at e0
      by_cases k2 : dig T L (V 27 0 5 + 1)
      · rw [cif_pos (hD1.mpr k2)] at e0
        exact ⟨_, took_val (by rw [hT, hLL, en, cif_pos k, cif_pos k2]) (Or.inr (Or.inr (Or.inl c3))) (fun _ => by rw [hT, hLL, va, cif_pos k2]), e0.trans (by rw [o]; exact rI1_b k)⟩
      · rw [cif_neg (fun z => k2 (hD1.mp z))] at e0
        exact ⟨_, took_val (by rw [hT, hLL, en, cif_pos k, cif_neg k2]) (Or.inr (Or.inr (Or.inl c3))) (fun _ => by rw [hT, hLL, va, cif_neg k2]), e0.trans (by rw [o]; exact rI1_b k)⟩
    · rw [cif_neg (fun z => k (hD.mp z))] at e0
      exact ⟨V, took_no (by rw [hT, hLL, en, cif_neg k]) (by rw [hT, hLL, o]; exact k), e0.trans (by rw [o]; exact rI0_b k)⟩
  rw [cif_neg c3] at e0
  by_cases c4 : c = 87
  · have o : okI T L c (V 27 0 5) = dig T L (wP T L (V 27 0 5)) := by unfold okI; rw [cif_neg c1, cif_neg c2, cif_neg c3, cif_pos c4]
    have en : endI T L c (V 27 0 5) = cif (dig T L (wP T L (V 27 0 5))) (wP T L (V 27 0 5) + 1) (wP T L (V 27 0 5)) := by unfold endI; rw [cif_neg c1, cif_neg c2, cif_neg c3, cif_pos c4]
    have va : valI T L c (V 27 0 5) = cif (mns T L (V 27 0 5)) (-(T (V 27 0 5 + 1) - 48)) (T (V 27 0 5) - 48) := by unfold valI; rw [cif_neg c1, cif_neg c2, cif_neg c3]
    rw [cif_pos c4] at e0
    by_cases m : mns T L (V 27 0 5)
    · have hw : wP T L (V 27 0 5) = V 27 0 5 + 1 := cif_pos m
      rw [hw] at o en
      rw [cif_pos (hM.mpr m)] at e0
      by_cases k : dig T L (V 27 0 5 + 1)
      · rw [cif_pos (hD1.mpr k)] at e0
        exact ⟨_, took_val (x := -1 * (T (V 27 0 5 + 1) - 48)) (by rw [hT, hLL, en, cif_pos k]) (Or.inr (Or.inr (Or.inr c4))) (fun _ => by rw [hT, hLL, va, cif_pos m]; omega), e0.trans (by rw [o]; exact rI1_b k)⟩
      · rw [cif_neg (fun z => k (hD1.mp z))] at e0
        exact ⟨_, took_pl (by rw [hT, hLL, en, cif_neg k]) (by rw [hT, hLL, o]; exact fun z => absurd z k), e0.trans (by rw [o]; exact rI0_b k)⟩
    · have hw : wP T L (V 27 0 5) = V 27 0 5 := cif_neg m
      rw [hw] at o en
      rw [cif_neg (fun z => m (hM.mp z))] at e0
      by_cases k : dig T L (V 27 0 5)
      · rw [cif_pos (hD.mpr k)] at e0
        exact ⟨_, took_val (x := 1 * (T (V 27 0 5) - 48)) (by rw [hT, hLL, en, cif_pos k]) (Or.inr (Or.inr (Or.inr c4))) (fun _ => by rw [hT, hLL, va, cif_neg m]; omega), e0.trans (by rw [o]; exact rI1_b k)⟩
      · rw [cif_neg (fun z => k (hD.mp z))] at e0
        exact ⟨V, took_no (by rw [hT, hLL, en, cif_neg k]) (by rw [hT, hLL, o]; exact k), e0.trans (by rw [o]; exact rI0_b k)⟩
  rw [cif_neg c4] at e0
  have o : okI T L c (V 27 0 5) = (V 27 0 5 < L ∧ T (V 27 0 5) = c) := by unfold okI; rw [cif_neg c1, cif_neg c2, cif_neg c3, cif_neg c4]
  have en : endI T L c (V 27 0 5) = cif (V 27 0 5 < L ∧ T (V 27 0 5) = c) (V 27 0 5 + 1) (V 27 0 5) := by unfold endI; rw [cif_neg c1, cif_neg c2, cif_neg c3, cif_neg c4]
  have hH : hereP V c ↔ (V 27 0 5 < L ∧ T (V 27 0 5) = c) := by unfold hereP; rw [hT, hLL]
  have nv : ¬ isV c := by unfold isV; omega
  by_cases k : V 27 0 5 < L ∧ T (V 27 0 5) = c
  · rw [cif_pos (hH.mpr k)] at e0
    exact ⟨_, took_pl (by rw [hT, hLL, en, cif_pos k]) (fun _ => nv), e0.trans (by rw [o]; exact rI1_b k)⟩
  · rw [cif_neg (fun z => k (hH.mp z))] at e0
    exact ⟨V, took_no (by rw [hT, hLL, en, cif_neg k]) (by rw [hT, hLL, o]; exact k), e0.trans (by rw [o]; exact rI0_b k)⟩
