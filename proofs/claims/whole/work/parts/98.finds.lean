/-! the model's relays are found -/
section
variable {V U : VV}
theorem bf_step {i j m : Int} {f g : Int → Int} {last : Int} (rk : rowok U) (mr : MR V U) (hb : bfI (U 2 0 8) (cE U) (cW U) last f g) (hi : 0 ≤ i ∧ i < U 2 0 8) (hj : 0 ≤ j ∧ j < U 2 0 8) (hm : m = 0 ∨ m = 1) (d : Nat) (q : QQ) (l1 l5 l6 : Option AV) :
    ∃ l5' l6', RUN (d + 3) 254 (65, [sR 33 0, l1, sI m, sI i, sI j, l5, l6], []) (HM q (rv V f g)) = cif (bett (cE U) (cW U) f g i j) (RUN (d + 3) 254 (65, [sR 33 0, l1, sI 1, sI i, sI (j + 1), l5', l6'], []) (HM q (rv V (setF f i (f j + cW U i j)) (setF g i (g j + 1))))) (RUN (d + 3) 254 (65, [sR 33 0, l1, sI m, sI i, sI (j + 1), l5', l6'], []) (HM q (rv V f g))) := by
  have hn := rk_n rk
  have mr' : MR (rv V f g) U := mr
  have fi := bfI_b hn hb hi
  have fj := bfI_b hn hb hj
  have w1 := delT_b rk (a := i) (b := j) (by omega) (by omega)
  have e0 := g_254_65 (d := d) (q := q) (V := rv V f g) (l1 := l1) (x2 := m) (x3 := i) (x4 := j) (l5 := l5) (l6 := l6) rk mr' (by omega) (fun _ => by omega) (fun _ => by show R32 (f j); omega) (fun _ _ => by omega) (fun _ _ _ => by show R32 (f j + delT (U 4 0) (U 2 0 9) i j); rename_i z _; have z : ¬ 100000 ≤ f j := z; constructor <;> omega) (fun _ _ _ => by show R32 (f i); omega) (fun _ _ _ _ _ => by show R32 (g i); omega) (fun _ _ _ _ _ => by show R32 (g j + 1); omega)
  have e0 := e0.trans (cif_neg (show ¬ U 2 0 8 ≤ j by omega))
  have yes : ∀ s, RUN (d + 3) 254 (155, [sR 33 0, l1, sI m, sI i, sI j, sI s, l6], []) (HM q (rv V f g)) = RUN (d + 3) 254 (65, [sR 33 0, l1, sI 1, sI i, sI (j + 1), sI s, sI 1], []) (HM q (rv V (setF f i s) (setF g i (g j + 1)))) := by
    intro s
    rw [g_254_155 rk mr', g_254_160 rk mr' (by decide) (fun _ => by omega) (by rcases hm with h | h <;> rw [h] <;> decide) (fun _ => by omega) (fun _ => by omega), cif_neg (by decide), cif_same, rv_up]
    rfl
  have no : ∀ s, RUN (d + 3) 254 (159, [sR 33 0, l1, sI m, sI i, sI j, sI s, l6], []) (HM q (rv V f g)) = RUN (d + 3) 254 (65, [sR 33 0, l1, sI m, sI i, sI (j + 1), sI s, sI 0], []) (HM q (rv V f g)) := by
    intro s
    have e : upV (upV (rv V f g) 38 0 i (rv V f g 38 0 i)) 39 0 i (rv V f g 39 0 i) = rv V f g := by
      rw [rv_up]
      show rv V (setF f i (f i)) (setF g i (g i)) = rv V f g
      rw [setF_id, setF_id]
    rw [g_254_159 rk mr', g_254_160 rk mr' (by decide) (fun _ => by omega) (by rcases hm with h | h <;> rw [h] <;> decide) (fun _ => by omega) (fun _ => by omega), cif_pos rfl, e]
    rcases hm with h | h
    · rw [h, cif_pos rfl]
    · rw [h, cif_neg (by decide)]
  by_cases c1 : 100000 ≤ f j
  · refine ⟨l5, l6, (e0.trans (cif_pos c1)).trans (cif_neg (fun z => by have := z.1; omega)).symm⟩
  have e0 := e0.trans (cif_neg c1)
  by_cases c2 : cE U i j
  · have e0 := e0.trans (cif_pos c2)
    by_cases c3 : f j + cW U i j < f i
    · exact ⟨_, _, ((e0.trans (cif_pos c3)).trans (yes _)).trans (cif_pos ⟨by omega, c2, Or.inl c3⟩).symm⟩
    have e0 := e0.trans (cif_neg c3)
    by_cases c4 : f j + cW U i j = f i
    · have e0 := e0.trans (cif_pos c4)
      by_cases c5 : g i ≤ g j + 1
      · exact ⟨_, _, ((e0.trans (cif_pos c5)).trans (no _)).trans (cif_neg (fun z => by have := z.2.2; omega)).symm⟩
      · exact ⟨_, _, ((e0.trans (cif_neg c5)).trans (yes _)).trans (cif_pos ⟨by omega, c2, Or.inr ⟨c4, by omega⟩⟩).symm⟩
    · exact ⟨_, _, ((e0.trans (cif_neg c4)).trans (no _)).trans (cif_neg (fun z => by have := z.2.2; omega)).symm⟩
  · exact ⟨l5, l6, (e0.trans (cif_neg c2)).trans (cif_neg (fun z => c2 z.2.1)).symm⟩
/-- what a stretch of the search does: nothing, or something is better -/
def bfQ (n : Int) (f g f' g' : Int → Int) (m m' : Int) (C : Prop) : Prop := (m' = 0 ∨ m' = 1) ∧ ((f' = f ∧ g' = g ∧ m' = m ∧ C) ∨ (m' = 1 ∧ muF f' g' n < muF f g n))
theorem bfw {U : VV} (rk : rowok U) : ∀ t u, 0 ≤ t ∧ t < U 2 0 8 → 0 ≤ u ∧ u < U 2 0 8 → 1 ≤ cW U t u ∧ cW U t u ≤ 40 := fun t u ht hu => by
  have hn := rk_n rk
  exact delT_b rk (by omega) (by omega)
theorem bf_inner {i last : Int} (rk : rowok U) (mr : MR V U) (hl : 0 ≤ last ∧ last < U 2 0 8) (hi : 0 ≤ i ∧ i < U 2 0 8) : ∀ (k : Nat) (j m : Int) (f g : Int → Int), j + k = U 2 0 8 → 0 ≤ j → (m = 0 ∨ m = 1) → bfI (U 2 0 8) (cE U) (cW U) last f g →
    ∃ f' g' m', bfI (U 2 0 8) (cE U) (cW U) last f' g' ∧ bfQ (U 2 0 8) f g f' g' m m' (∀ u, j ≤ u → u < U 2 0 8 → ¬ bett (cE U) (cW U) f g i u) ∧ ∀ (d : Nat) (q : QQ) (l1 l5 l6 : Option AV), ∃ l5' l6', RUN (d + 3) 254 (65, [sR 33 0, l1, sI m, sI i, sI j, l5, l6], []) (HM q (rv V f g)) = RUN (d + 3) 254 (52, [sR 33 0, l1, sI m', sI (i + 1), sI (U 2 0 8), l5', l6'], []) (HM q (rv V f' g')) := by
  have hn := rk_n rk
  intro k
  induction k with
  | zero =>
    intro j m f g hj h0 hm hb
    refine ⟨f, g, m, hb, ⟨hm, Or.inl ⟨rfl, rfl, rfl, fun u a b => by omega⟩⟩, fun d q l1 l5 l6 => ⟨l5, l6, ?_⟩⟩
    have ej : j = U 2 0 8 := by omega
    subst ej
    rw [g_254_65 (V := rv V f g) rk mr (by omega) (fun z => absurd (Int.le_refl _) z) (fun z => absurd (Int.le_refl _) z) (fun z => absurd (Int.le_refl _) z) (fun z => absurd (Int.le_refl _) z) (fun z => absurd (Int.le_refl _) z) (fun z => absurd (Int.le_refl _) z) (fun z => absurd (Int.le_refl _) z)]
    exact cif_pos (Int.le_refl _)
  | succ k ih =>
    intro j m f g hj h0 hm hb
    have hj2 : 0 ≤ j ∧ j < U 2 0 8 := by omega
    by_cases c : bett (cE U) (cW U) f g i j
    · obtain ⟨b1, b2⟩ := bfI_up hn (bfw rk) hb hi hj2 hl c
      obtain ⟨f', g', m', i1, i2, i3⟩ := ih (j + 1) 1 _ _ (by omega) (by omega) (Or.inr rfl) b1
      refine ⟨f', g', m', i1, ⟨i2.1, Or.inr ?_⟩, fun d q l1 l5 l6 => ?_⟩
      · rcases i2.2 with ⟨z1, z2, z3, -⟩ | ⟨z1, z2⟩
        · rw [z1, z2, z3]
          exact ⟨rfl, b2⟩
        · exact ⟨z1, by omega⟩
      · obtain ⟨a5, a6, e⟩ := bf_step rk mr hb hi hj2 hm d q l1 l5 l6
        obtain ⟨c5, c6, e2⟩ := i3 d q l1 a5 a6
        rw [cif_pos c] at e
        exact ⟨c5, c6, e.trans e2⟩
    · obtain ⟨f', g', m', i1, i2, i3⟩ := ih (j + 1) m f g (by omega) (by omega) hm hb
      refine ⟨f', g', m', i1, ⟨i2.1, ?_⟩, fun d q l1 l5 l6 => ?_⟩
      · rcases i2.2 with ⟨z1, z2, z3, z4⟩ | z
        · refine Or.inl ⟨z1, z2, z3, fun u a b => ?_⟩
          by_cases y : u = j
          · rw [y]; exact c
          · exact z4 u (by omega) b
        · exact Or.inr z
      · obtain ⟨a5, a6, e⟩ := bf_step rk mr hb hi hj2 hm d q l1 l5 l6
        obtain ⟨c5, c6, e2⟩ := i3 d q l1 a5 a6
        rw [cif_neg c] at e
        exact ⟨c5, c6, e.trans e2⟩
theorem bf_pass {last : Int} (rk : rowok U) (mr : MR V U) (hl : 0 ≤ last ∧ last < U 2 0 8) : ∀ (k : Nat) (i m : Int) (f g : Int → Int), i + k = U 2 0 8 → 0 ≤ i → (m = 0 ∨ m = 1) → bfI (U 2 0 8) (cE U) (cW U) last f g →
    ∃ f' g' m', bfI (U 2 0 8) (cE U) (cW U) last f' g' ∧ bfQ (U 2 0 8) f g f' g' m m' (∀ t u, i ≤ t → t < U 2 0 8 → 0 ≤ u → u < U 2 0 8 → ¬ bett (cE U) (cW U) f g t u) ∧ ∀ (d : Nat) (q : QQ) (l1 l4 l5 l6 : Option AV), ∃ l4' l5' l6', RUN (d + 3) 254 (52, [sR 33 0, l1, sI m, sI i, l4, l5, l6], []) (HM q (rv V f g)) = RUN (d + 3) 254 (44, [sR 33 0, l1, sI m', sI (U 2 0 8), l4', l5', l6'], []) (HM q (rv V f' g')) := by
  have hn := rk_n rk
  intro k
  induction k with
  | zero =>
    intro i m f g hi h0 hm hb
    refine ⟨f, g, m, hb, ⟨hm, Or.inl ⟨rfl, rfl, rfl, fun t u a b => by omega⟩⟩, fun d q l1 l4 l5 l6 => ⟨l4, l5, l6, ?_⟩⟩
    have ei : i = U 2 0 8 := by omega
    subst ei
    rw [g_254_52 (V := rv V f g) rk mr (by omega)]
    exact cif_pos (Int.le_refl _)
  | succ k ih =>
    intro i m f g hi h0 hm hb
    obtain ⟨f1, g1, m1, a1, a2, a3⟩ := bf_inner rk mr hl (i := i) (by omega) (U 2 0 8).toNat 0 m f g (by omega) (Int.le_refl _) hm hb
    obtain ⟨f', g', m', b1, b2, b3⟩ := ih (i + 1) m1 f1 g1 (by omega) (by omega) a2.1 a1
    refine ⟨f', g', m', b1, ⟨b2.1, ?_⟩, fun d q l1 l4 l5 l6 => ?_⟩
    · rcases a2.2 with ⟨z1, z2, z3, z4⟩ | ⟨z1, z2⟩
      · rcases b2.2 with ⟨y1, y2, y3, y4⟩ | ⟨y1, y2⟩
        · refine Or.inl ⟨y1.trans z1, y2.trans z2, y3.trans z3, fun t u p1 p2 p3 p4 => ?_⟩
          by_cases e : t = i
          · rw [e]; exact z4 u p3 p4
          · have := y4 t u (by omega) p2 p3 p4
            rw [z1, z2] at this
            exact this
        · rw [z1, z2] at y2
          exact Or.inr ⟨y1, y2⟩
      · rcases b2.2 with ⟨y1, y2, y3, -⟩ | ⟨y1, y2⟩
        · rw [y1, y2, y3]
          exact Or.inr ⟨z1, z2⟩
        · exact Or.inr ⟨y1, by omega⟩
    · obtain ⟨c5, c6, e⟩ := a3 d q l1 l5 l6
      obtain ⟨e4, e5, e6, e2⟩ := b3 d q l1 (sI (U 2 0 8)) c5 c6
      refine ⟨e4, e5, e6, Eq.trans ?_ (e.trans e2)⟩
      rw [g_254_52 (V := rv V f g) rk mr (by omega)]
      exact cif_neg (by omega)
theorem bf_while {last : Int} (rk : rowok U) (mr : MR V U) (hl : 0 ≤ last ∧ last < U 2 0 8) : ∀ (M : Nat) (f g : Int → Int), muF f g (U 2 0 8) ≤ M → bfI (U 2 0 8) (cE U) (cW U) last f g →
    ∃ f' g', SPF (U 2 0 8) (cE U) (cW U) last f' g' ∧ isSP (U 2 0 8) (cE U) (cW U) last (spR (U 2 0 8) (cE U) (cW U) last) (spD (U 2 0 8) (cE U) (cW U) last) (spN (U 2 0 8) (cE U) (cW U) last) ∧ ∀ (d : Nat) (q : QQ) (l1 l3 l4 l5 l6 : Option AV), RUN (d + 3) 254 (44, [sR 33 0, l1, sI 1, l3, l4, l5, l6], []) (HM q (rv V f g)) = rV (HM q (rv V f' g')) := by
  have hn := rk_n rk
  intro M
  induction M using Nat.strongRecOn with
  | ind M ih =>
    intro f g hM hb
    obtain ⟨f1, g1, m1, a1, a2, a3⟩ := bf_pass rk mr hl (U 2 0 8).toNat 0 0 f g (by omega) (Int.le_refl _) (Or.inl rfl) hb
    rcases a2.2 with ⟨z1, z2, z3, z4⟩ | ⟨z1, z2⟩
    · refine ⟨f, g, bfI_SPF hn hl (bfw rk) hb (fun i j hi hj => z4 i j hi.1 hi.2 hj.1 hj.2), spSol_is (bfI_sp hn hl (bfw rk) hb (fun i j hi hj => z4 i j hi.1 hi.2 hj.1 hj.2)), fun d q l1 l3 l4 l5 l6 => ?_⟩
      obtain ⟨e4, e5, e6, e⟩ := a3 d q l1 l4 l5 l6
      rw [z1, z2, z3] at e
      rw [g_254_44 (V := rv V f g) rk mr (by decide), cif_neg (by decide)]
      refine e.trans ?_
      rw [g_254_44 (V := rv V f g) rk mr (by decide)]
      exact cif_pos rfl
    · have h1 := muF_nn hn a1
      obtain ⟨f', g', b1, b3, b2⟩ := ih (muF f1 g1 (U 2 0 8)).toNat (by omega) f1 g1 (by omega) a1
      refine ⟨f', g', b1, b3, fun d q l1 l3 l4 l5 l6 => ?_⟩
      obtain ⟨e4, e5, e6, e⟩ := a3 d q l1 l4 l5 l6
      rw [z1] at e
      rw [g_254_44 (V := rv V f g) rk mr (by decide), cif_neg (by decide)]
      exact e.trans (b2 d q l1 (sI (U 2 0 8)) e4 e5 e6)
theorem finds_ex {x1 : Int} (rk : rowok U) (mr : MR V U) (p : 0 ≤ x1 ∧ x1 < U 2 0 8) : ∃ f g, (SPF (U 2 0 8) (cE U) (cW U) x1 f g ∧ isSP (U 2 0 8) (cE U) (cW U) x1 (spR (U 2 0 8) (cE U) (cW U) x1) (spD (U 2 0 8) (cE U) (cW U) x1) (spN (U 2 0 8) (cE U) (cW U) x1)) ∧ ∀ (d : Nat) (q : QQ), RUN (d + 3) 254 (am_en 254 [aR 33 0, aI (iI x1)]) (HM q V) = rV (HM q (rv V f g)) := by
  have hn := rk_n rk
  have hb : bfI (U 2 0 8) (cE U) (cW U) x1 (fun t => if 0 ≤ t ∧ t < U 2 0 8 then (if t = x1 then 0 else 100000) else V 38 0 t) (fun t => if 0 ≤ t ∧ t < U 2 0 8 then 0 else V 39 0 t) := by
    refine bfI_0 p fun t ht => ⟨?_, ?_⟩
    · exact if_pos ht
    · exact if_pos ht
  obtain ⟨f', g', a1, a3, a2⟩ := bf_while rk mr p (muF (fun t => if 0 ≤ t ∧ t < U 2 0 8 then (if t = x1 then 0 else 100000) else V 38 0 t) (fun t => if 0 ≤ t ∧ t < U 2 0 8 then 0 else V 39 0 t) (U 2 0 8)).toNat _ _ (by have := muF_nn hn hb; omega) hb
  refine ⟨f', g', ⟨a1, a3⟩, fun d q => ?_⟩
  rw [g_254_0 rk mr]
  obtain ⟨_, e⟩ := loop_to (fun i s (_ : Unit) => RUN (d + 3) 254 (2, [sR 33 0, sI x1, sI i, none, none, none, none], []) (HM q s)) (fun i => rv V (fun t => if 0 ≤ t ∧ t < i then (if t = x1 then 0 else 100000) else V 38 0 t) (fun t => if 0 ≤ t ∧ t < i then 0 else V 39 0 t)) 0 (U 2 0 8) (by
    intro i l h1 h2
    refine ⟨(), ?_⟩
    try dsimp only
    rw [g_254_2 (V := rv V _ _) rk mr (by omega) (by omega) (fun _ _ => by omega) (fun _ _ => by omega), cif_neg (by omega), rv_up, rv_up]
    have e39 : setF (fun t => if 0 ≤ t ∧ t < i then 0 else V 39 0 t) i 0 = (fun t => if 0 ≤ t ∧ t < i + 1 then 0 else V 39 0 t) := by
      funext t
      show (if t = i then 0 else (if 0 ≤ t ∧ t < i then 0 else V 39 0 t)) = (if 0 ≤ t ∧ t < i + 1 then 0 else V 39 0 t)
      by_cases c : t = i
      · rw [if_pos c, if_pos (by omega)]
      · rw [if_neg c]
        by_cases c2 : 0 ≤ t ∧ t < i
        · rw [if_pos c2, if_pos (show 0 ≤ t ∧ t < i + 1 by omega)]
        · rw [if_neg c2, if_neg (by omega)]
    have e38 : ∀ v, v = (if i = x1 then 0 else 100000) → setF (fun t => if 0 ≤ t ∧ t < i then (if t = x1 then 0 else 100000) else V 38 0 t) i v = (fun t => if 0 ≤ t ∧ t < i + 1 then (if t = x1 then 0 else 100000) else V 38 0 t) := by
      intro v hv
      funext t
      show (if t = i then v else (if 0 ≤ t ∧ t < i then (if t = x1 then 0 else 100000) else V 38 0 t)) = (if 0 ≤ t ∧ t < i + 1 then (if t = x1 then 0 else 100000) else V 38 0 t)
      by_cases c : t = i
      · rw [if_pos c, if_pos (by omega), hv, c]
      · rw [if_neg c]
        by_cases c2 : 0 ≤ t ∧ t < i
        · rw [if_pos c2, if_pos (show 0 ≤ t ∧ t < i + 1 by omega)]
        · rw [if_neg c2, if_neg (by omega)]
    refine cif_eq (fun c => ?_) (fun c => ?_)
    · rw [e39, e38 0 (if_pos c).symm]
    · rw [e39, e38 100000 (if_neg c).symm]) hn.1 ()
  try dsimp only at e
  have e00 : rv V (fun t => if 0 ≤ t ∧ t < 0 then (if t = x1 then 0 else 100000) else V 38 0 t) (fun t => if 0 ≤ t ∧ t < 0 then 0 else V 39 0 t) = V := by
    have h1 : (fun t => if 0 ≤ t ∧ t < 0 then (if t = x1 then 0 else 100000) else V 38 0 t) = V 38 0 := by
      funext t
      exact if_neg (by omega)
    have h2 : (fun t => if 0 ≤ t ∧ t < 0 then 0 else V 39 0 t) = V 39 0 := by
      funext t
      exact if_neg (by omega)
    rw [h1, h2]
    exact rv_self
  rw [e00] at e
  refine e.trans ?_
  rw [g_254_2 (V := rv V _ _) rk mr (by omega) (by omega) (fun z => absurd (Int.le_refl _) z) (fun z => absurd (Int.le_refl _) z)]
  exact (cif_pos (Int.le_refl _)).trans (a2 d q _ _ _ _ _)
end
/-- what the model keeps of its search for the relays to last -/
def SPX (U : VV) (last : Int) (f g : Int → Int) : Prop := SPF (U 2 0 8) (cE U) (cW U) last f g ∧ isSP (U 2 0 8) (cE U) (cW U) last (spR (U 2 0 8) (cE U) (cW U) last) (spD (U 2 0 8) (cE U) (cW U) last) (spN (U 2 0 8) (cE U) (cW U) last)
def SPV (V U : VV) (last : Int) : Prop := SPX U last (V 38 0) (V 39 0)
/-- the rows that the model's search leaves -/
noncomputable def farM (V U : VV) (x1 : Int) : (Int → Int) × (Int → Int) := Classical.epsilon (fun p => SPX U x1 p.1 p.2 ∧ ∀ (d : Nat) (q : QQ), RUN (d + 3) 254 (am_en 254 [aR 33 0, aI (iI x1)]) (HM q V) = rV (HM q (rv V p.1 p.2)))
noncomputable def foundM (V U : VV) (x1 : Int) : VV := rv V (farM V U x1).1 (farM V U x1).2
theorem finds_is {V U : VV} {x1 : Int} (rk : rowok U) (mr : MR V U) (p : 0 ≤ x1 ∧ x1 < U 2 0 8) : SPV (foundM V U x1) U x1 ∧ ∀ (d : Nat) (q : QQ), RUN (d + 3) 254 (am_en 254 [aR 33 0, aI (iI x1)]) (HM q V) = rV (HM q (foundM V U x1)) := by
  obtain ⟨f, g, h⟩ := finds_ex rk mr p
  exact Classical.epsilon_spec (p := fun p : (Int → Int) × (Int → Int) => SPX U x1 p.1 p.2 ∧ ∀ (d : Nat) (q : QQ), RUN (d + 3) 254 (am_en 254 [aR 33 0, aI (iI x1)]) (HM q V) = rV (HM q (rv V p.1 p.2))) ⟨(f, g), h⟩
theorem s_254 {d : Nat} {q : QQ} {V U : VV} {x1 : Int} (rk : rowok U) (mr : MR V U) (p : 0 ≤ x1 ∧ x1 < U 2 0 8) : RUN (d + 3) 254 (am_en 254 [aR 33 0, aI (iI x1)]) (HM q V) = rV (HM q (foundM V U x1)) := (finds_is rk mr p).2 d q
section
variable {d : Nat} {q : QQ} {V U : VV} {last t : Int}
theorem sv_c (sp : SPV V U last) (ht : 0 ≤ t ∧ t < U 2 0 8) : (pR U t last ∧ V 38 0 t = pD U t last ∧ V 39 0 t = (pN U t last : Int) ∧ 0 ≤ V 38 0 t ∧ V 38 0 t ≤ 280 ∧ 0 ≤ V 39 0 t ∧ V 39 0 t ≤ 7) ∨ (¬ pR U t last ∧ V 38 0 t = 100000 ∧ V 39 0 t = 0) := by
  rcases sp.1 t ht with ⟨a1, a2, a3, a4, a5, a6, a7⟩ | a
  · refine Or.inl ⟨a1, a2, ?_, a4, a5, a6, a7⟩
    unfold pN
    omega
  · exact Or.inr a
theorem sv_b (rk : rowok U) (sp : SPV V U last) (ht : 0 ≤ t ∧ t < U 2 0 8) : (0 ≤ V 38 0 t ∧ V 38 0 t ≤ 100000) ∧ (0 ≤ V 39 0 t ∧ V 39 0 t ≤ 7) := by
  rcases sv_c sp ht with ⟨-, -, -, a⟩ | ⟨-, a⟩ <;> omega
/-- the next tower of the fastest relay, in the model's words -/
theorem s_258 (rk : rowok U) (mr : MR V U) (sp : SPV V U last) (hl : 0 ≤ last ∧ last < U 2 0 8) (ht : 0 ≤ t ∧ t < U 2 0 8) (hR : pR U t last) (hne : ¬ t = last) : RUN (d + 3) 258 (am_en 258 [aR 33 0, aI (iI t)]) (HM q V) = rI (spNext (U 2 0 8) (cE U) (cW U) last t) (HM q V) := by
  have hn := rk_n rk
  rw [g_258_0 rk mr]
  have hw := bfw rk
  -- which towers are next
  have key : ∀ u, 0 ≤ u ∧ u < U 2 0 8 → ((V 39 0 u + 1 = V 39 0 t ∧ seeT (U 3 0) (U 4 0) (U 5 0) t u ∧ V 38 0 u + delT (U 4 0) (U 2 0 9) t u = V 38 0 t) ↔ (cE U t u ∧ spR (U 2 0 8) (cE U) (cW U) last u ∧ spD (U 2 0 8) (cE U) (cW U) last t = cW U t u + spD (U 2 0 8) (cE U) (cW U) last u ∧ spN (U 2 0 8) (cE U) (cW U) last t = spN (U 2 0 8) (cE U) (cW U) last u + 1)) := by
    intro u hu
    have w1 : 1 ≤ delT (U 4 0) (U 2 0 9) t u ∧ delT (U 4 0) (U 2 0 9) t u ≤ 40 := hw t u ht hu
    have ew : cW U t u = delT (U 4 0) (U 2 0 9) t u := rfl
    rcases sp.1 t ht with ⟨a1, a2, a3, a4, a5, a6, a7⟩ | ⟨a1, -⟩
    · rcases sp.1 u hu with ⟨b1, b2, b3, b4, b5, b6, b7⟩ | ⟨b1, b2, b3⟩
      · rw [a2, a3, b2, b3]
        constructor
        · rintro ⟨c1, c2, c3⟩
          exact ⟨c2, b1, by omega, by omega⟩
        · rintro ⟨c1, -, c2, c3⟩
          exact ⟨by omega, c1, by omega⟩
      · constructor
        · rintro ⟨c1, c2, c3⟩
          omega
        · rintro ⟨c1, c2, -⟩
          exact absurd c2 b1
    · exact absurd hR a1
  have go : ∀ (k : Nat) (i f : Int) (l4 : Option AV), i + 1 = k → i < U 2 0 8 → ((∃ u, (i < u ∧ u < U 2 0 8) ∧ f = u ∧ (cE U t u ∧ spR (U 2 0 8) (cE U) (cW U) last u ∧ spD (U 2 0 8) (cE U) (cW U) last t = cW U t u + spD (U 2 0 8) (cE U) (cW U) last u ∧ spN (U 2 0 8) (cE U) (cW U) last t = spN (U 2 0 8) (cE U) (cW U) last u + 1) ∧ ∀ v, i < v → v < u → ¬ (cE U t v ∧ spR (U 2 0 8) (cE U) (cW U) last v ∧ spD (U 2 0 8) (cE U) (cW U) last t = cW U t v + spD (U 2 0 8) (cE U) (cW U) last v ∧ spN (U 2 0 8) (cE U) (cW U) last t = spN (U 2 0 8) (cE U) (cW U) last v + 1)) ∨ (∀ v, i < v → v < U 2 0 8 → ¬ (cE U t v ∧ spR (U 2 0 8) (cE U) (cW U) last v ∧ spD (U 2 0 8) (cE U) (cW U) last t = cW U t v + spD (U 2 0 8) (cE U) (cW U) last v ∧ spN (U 2 0 8) (cE U) (cW U) last t = spN (U 2 0 8) (cE U) (cW U) last v + 1))) →
      RUN (d + 3) 258 (11, [sR 33 0, sI t, sI f, sI i, l4], []) (HM q V) = rI (spNext (U 2 0 8) (cE U) (cW U) last t) (HM q V) := by
    intro k
    induction k with
    | zero =>
      intro i f l4 hi hi2 hf
      have ei : i = -1 := by omega
      subst ei
      rw [g_258_11 rk mr (by decide) (fun z => absurd (by decide) z) (fun z => absurd (by decide) z) (fun z => absurd (by decide) z) (fun z => absurd (by decide) z) (fun z => absurd (by decide) z) (fun z => absurd (by decide) z), cif_pos (by decide)]
      refine congrArg (fun z => rI z (HM q V)) ?_
      unfold spNext
      rcases hf with ⟨u, hu, h1, h2, h3⟩ | h
      · rw [h1]
        exact (fstI_eq (by omega) hu.2 h2 (fun v a b => h3 v (by omega) b)).symm
      · obtain ⟨a1, a2⟩ := spNext_is sp.2 ht hR hne
        exact absurd a2 (h _ (by omega) a1.2)
    | succ k ih =>
      intro i f l4 hi hi2 hf
      have hi3 : 0 ≤ i ∧ i < U 2 0 8 := by omega
      have bi := sv_b rk sp hi3
      have bt := sv_b rk sp ht
      have w1 : 1 ≤ delT (U 4 0) (U 2 0 9) t i ∧ delT (U 4 0) (U 2 0 9) t i ≤ 40 := hw t i ht hi3
      have e0 := g_258_11 (d := d) (q := q) (V := V) (x1 := t) (x2 := f) (x3 := i) (l4 := l4) rk mr (by omega) (fun _ => by omega) (fun _ => by omega) (fun _ => by omega) (fun _ => by omega) (fun _ _ _ => by omega) (fun _ _ _ => by omega)
      have e0 := e0.trans (cif_neg (show ¬ i < 0 by omega))
      have yes : V 39 0 i + 1 = V 39 0 t ∧ seeT (U 3 0) (U 4 0) (U 5 0) t i ∧ V 38 0 i + delT (U 4 0) (U 2 0 9) t i = V 38 0 t → RUN (d + 3) 258 (11, [sR 33 0, sI t, sI i, sI (i + -1), sI 1], []) (HM q V) = rI (spNext (U 2 0 8) (cE U) (cW U) last t) (HM q V) := fun z =>
        ih (i + -1) i (sI 1) (by omega) (by omega) (Or.inl ⟨i, by omega, rfl, (key i hi3).mp z, fun v a b => by omega⟩)
      have no : ¬ (V 39 0 i + 1 = V 39 0 t ∧ seeT (U 3 0) (U 4 0) (U 5 0) t i ∧ V 38 0 i + delT (U 4 0) (U 2 0 9) t i = V 38 0 t) → RUN (d + 3) 258 (11, [sR 33 0, sI t, sI f, sI (i + -1), sI 0], []) (HM q V) = rI (spNext (U 2 0 8) (cE U) (cW U) last t) (HM q V) := fun z => by
        have nz := fun y => z ((key i hi3).mpr y)
        refine ih (i + -1) f (sI 0) (by omega) (by omega) ?_
        rcases hf with ⟨u, hu, h1, h2, h3⟩ | h
        · refine Or.inl ⟨u, by omega, h1, h2, fun v a b => ?_⟩
          by_cases e : v = i
          · rw [e]; exact nz
          · exact h3 v (by omega) b
        · refine Or.inr fun v a b => ?_
          by_cases e : v = i
          · rw [e]; exact nz
          · exact h v (by omega) b
      rw [e0]
      refine cif_eq (fun c1 => ?_) (fun c1 => no (fun z => c1 z.1))
      refine cif_eq (fun c2 => ?_) (fun c2 => no (fun z => c2 z.2.1))
      exact cif_eq (fun c3 => yes ⟨c1, c2, c3⟩) (fun c3 => no (fun z => c3 z.2.2))
  exact go (U 2 0 8).toNat (U 2 0 8 - 1) (-1) none (by omega) (by omega) (Or.inr fun v a b => by omega)
end
