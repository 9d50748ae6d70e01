/-! the cost of the code, by two rows -/
/-- n numbers of a row, from the number a on -/
def sg (f : Int → Int) (a : Int) : Nat → List Int
  | 0 => []
  | n + 1 => f a :: sg f (a + 1) n
theorem mem_sg {f : Int → Int} {n : Nat} {x : Int} : ∀ {a : Int}, x ∈ sg f a n ↔ ∃ i, a ≤ i ∧ i < a + n ∧ f i = x := by
  induction n with
  | zero =>
    intro a
    constructor
    · intro h; cases h
    · rintro ⟨i, h1, h2, _⟩; omega
  | succ n ih =>
    intro a
    show x ∈ f a :: sg f (a + 1) n ↔ _
    rw [List.mem_cons, ih]
    constructor
    · rintro (h | ⟨i, h1, h2, h3⟩)
      · exact ⟨a, by omega, by omega, h.symm⟩
      · exact ⟨i, by omega, by omega, h3⟩
    · rintro ⟨i, h1, h2, h3⟩
      by_cases e : i = a
      · left; rw [← h3, e]
      · right; exact ⟨i, by omega, by omega, h3⟩
theorem sg_congr {f g : Int → Int} {n : Nat} : ∀ {a : Int}, (∀ i : Int, a ≤ i → i < a + n → f i = g i) → sg f a n = sg g a n := by
  induction n with
  | zero => intro a _; rfl
  | succ n ih =>
    intro a h
    show f a :: sg f (a + 1) n = g a :: sg g (a + 1) n
    rw [ih (fun i h1 h2 => h i (by omega) (by omega)), h a (by omega) (by omega)]
theorem sg_snoc {f : Int → Int} {n : Nat} : ∀ {a : Int}, sg f a (n + 1) = sg f a n ++ [f (a + n)] := by
  induction n with
  | zero =>
    intro a
    show [f a] = [f (a + (0 : Nat))]
    rw [show a + ((0 : Nat) : Int) = a by omega]
  | succ n ih =>
    intro a
    show f a :: sg f (a + 1) (n + 1) = f a :: (sg f (a + 1) n ++ [f (a + (n + 1 : Nat))])
    rw [ih, show a + 1 + (n : Int) = a + ((n + 1 : Nat) : Int) by omega]
theorem sg_lst {f : Int → Int} {n : Nat} : (sg f 0 n).Perm (lst f n) := by
  induction n with
  | zero => exact List.Perm.refl _
  | succ n ih =>
    rw [sg_snoc, show (0 : Int) + (n : Int) = n by omega]
    show (sg f 0 n ++ [f n]).Perm (f n :: lst f n)
    exact (List.perm_append_comm (l₁ := sg f 0 n) (l₂ := [f n])).trans (ih.cons _)
theorem sg_len {f : Int → Int} {n : Nat} : ∀ {a : Int}, (sg f a n).length = n := by
  induction n with
  | zero => intro a; rfl
  | succ n ih =>
    intro a
    show (sg f (a + 1) n).length + 1 = n + 1
    rw [ih]
/-- the letters that are left and the joined ones that are left make up L; both rows ascend; no joined one is above M -/
def QS (V : VV) (e M : Int) (L : List Int) : Prop := ∃ (a b : Int) (p r : Nat), V 24 0 4 = a ∧ V 24 0 5 = b ∧ V 24 0 3 = a + p ∧ V 24 0 6 = b + r ∧ e = b + r ∧ 0 ≤ a ∧ 0 ≤ b ∧ a + p ≤ 16 ∧ b + r ≤ 16 ∧
  (∀ i j, a ≤ i → i ≤ j → j < a + p → V 25 0 i ≤ V 25 0 j) ∧ (∀ i j, b ≤ i → i ≤ j → j < b + r → V 26 0 i ≤ V 26 0 j) ∧ (∀ j, b ≤ j → j < b + r → V 26 0 j ≤ M) ∧ L = sg (V 25 0) a p ++ sg (V 26 0) b r
theorem gok_of {l : List Int} (g : gok l) {x : Int} (h : x ∈ l) : R32 x := by
  have h2 := g.1 _ h
  have h3 := sumL_mem g.1 h
  have h4 := g.2
  constructor <;> omega
theorem take_4 {V : VV} {a : Int} {e M : Int} {p r : Nat} {b : Int} (h4 : V 24 0 4 = a) (h5 : V 24 0 5 = b) (h3 : V 24 0 3 = a + (p + 1 : Nat)) (h6 : V 24 0 6 = b + r) (he : e = b + r) (ha : 0 ≤ a) (hb : 0 ≤ b) (hp : a + (p + 1 : Nat) ≤ 16) (hr : b + r ≤ 16)
    (sf : ∀ i j, a ≤ i → i ≤ j → j < a + (p + 1 : Nat) → V 25 0 i ≤ V 25 0 j) (sg' : ∀ i j, b ≤ i → i ≤ j → j < b + r → V 26 0 i ≤ V 26 0 j) (hM : ∀ j, b ≤ j → j < b + r → V 26 0 j ≤ M) :
    QS (upV V 24 0 4 (a + 1)) e M (sg (V 25 0) (a + 1) p ++ sg (V 26 0) b r) := by
  refine ⟨a + 1, b, p, r, (show (if (4 : Int) = 4 then a + 1 else V 24 0 4) = a + 1 from if_pos rfl), ?_, ?_, ?_, he, by omega, hb, by omega, hr, fun i j x y z => sf i j (by omega) y (by omega), sg', hM, rfl⟩
  · exact h5
  · exact h3.trans (by omega)
  · exact h6
theorem take_5 {V : VV} {a : Int} {e M : Int} {p r : Nat} {b : Int} (h4 : V 24 0 4 = a) (h5 : V 24 0 5 = b) (h3 : V 24 0 3 = a + p) (h6 : V 24 0 6 = b + (r + 1 : Nat)) (he : e = b + (r + 1 : Nat)) (ha : 0 ≤ a) (hb : 0 ≤ b) (hp : a + p ≤ 16) (hr : b + (r + 1 : Nat) ≤ 16)
    (sf : ∀ i j, a ≤ i → i ≤ j → j < a + p → V 25 0 i ≤ V 25 0 j) (sg' : ∀ i j, b ≤ i → i ≤ j → j < b + (r + 1 : Nat) → V 26 0 i ≤ V 26 0 j) (hM : ∀ j, b ≤ j → j < b + (r + 1 : Nat) → V 26 0 j ≤ M) :
    QS (upV V 24 0 5 (b + 1)) e M (sg (V 25 0) a p ++ sg (V 26 0) (b + 1) r) := by
  refine ⟨a, b + 1, p, r, ?_, (show (if (5 : Int) = 5 then b + 1 else V 24 0 5) = b + 1 from if_pos rfl), ?_, ?_, by omega, ha, by omega, hp, by omega, sf, fun i j x y z => sg' i j (by omega) y (by omega), fun j x y => hM j (by omega) (by omega), rfl⟩
  · exact h4
  · exact h3
  · exact h6.trans (by omega)
theorem s_40 {d : Nat} {q : QQ} {V : VV} {e M : Int} {L : List Int} (h : QS V e M L) (g : gok L) (hn : 1 ≤ L.length) :
    ∃ v W L', offC V W ∧ W 24 0 3 = V 24 0 3 ∧ QS W e M L' ∧ L.Perm (v :: L') ∧ (∀ x, x ∈ L' → v ≤ x) ∧ RUN d 40 (am_en 40 [aR 24 0]) (HM q V) = rI v (HM q W) := by
  obtain ⟨a, b, p, r, h4, h5, h3, h6, he, ha, hb, hp, hr, sf, sg', hM, hL⟩ := h
  have oa : offC V (upV V 24 0 4 (a + 1)) := offC_up (by decide)
  have ob : offC V (upV V 24 0 5 (b + 1)) := offC_up (by decide)
  have hlen : L.length = p + r := by rw [hL, List.length_append, sg_len, sg_len]
  have e0 : RUN d 40 (am_en 40 [aR 24 0]) (HM q V) = RUN d 40 (16, [sR 24 0, none], [aI (iI (cif (r = 0) 0 1))]) (HM q V) := by
    rw [g_40_0 (by rw [h6]; constructor <;> omega) (by rw [h5]; constructor <;> omega), h5, h6]
    by_cases c : r = 0
    · rw [cif_pos (by omega), cif_pos c]
    · rw [cif_neg (by omega), cif_neg c]
  rw [e0]
  have kR : ∀ x, x ∈ L → R32 x := fun x hx => gok_of g hx
  cases p with
  | zero =>
    cases r with
    | zero => omega
    | succ r =>
      refine ⟨V 26 0 b, _, _, ob, rfl, take_5 h4 h5 h3 h6 he ha hb hp hr sf sg' hM, ?_, ?_, ?_⟩
      · rw [hL]
        exact List.Perm.refl _
      · intro x hx
        obtain ⟨j, j1, j2, j3⟩ := mem_sg.1 (show x ∈ sg (V 26 0) (b + 1) r from hx)
        rw [← j3]
        exact sg' b j (Int.le_refl _) (by omega) (by omega)
      · rw [cif_neg (by omega), g_40_16 (by rw [h3]; constructor <;> omega) (by rw [h4]; constructor <;> omega) (by decide) (fun _ _ => by omega) (fun _ c => absurd c (by decide)) (fun c => absurd (by omega) c) (fun c => absurd (by omega) c) (fun c => absurd (by omega) c) (fun c => absurd (by omega) c)]
        rw [cif_pos (by omega), cif_neg (by decide), h5]
  | succ p =>
    have ma : V 25 0 a ∈ L := by rw [hL]; exact List.mem_append_left _ (List.mem_cons_self ..)
    have la : ∀ x, x ∈ sg (V 25 0) (a + 1) p → V 25 0 a ≤ x := by
      intro x hx
      obtain ⟨j, j1, j2, j3⟩ := mem_sg.1 hx
      rw [← j3]
      exact sf a j (Int.le_refl _) (by omega) (by omega)
    cases r with
    | zero =>
      refine ⟨V 25 0 a, _, _, oa, rfl, take_4 h4 h5 h3 h6 he ha hb hp hr sf sg' hM, ?_, ?_, ?_⟩
      · rw [hL]
        exact List.Perm.refl _
      · intro x hx
        rcases List.mem_append.1 hx with hx | hx
        · exact la x hx
        · cases hx
      · rw [cif_pos rfl, g_40_16 (by rw [h3]; constructor <;> omega) (by rw [h4]; constructor <;> omega) (by decide) (fun c => absurd c (by omega)) (fun _ _ => by omega) (fun _ c => absurd rfl c) (fun _ c => absurd rfl c) (fun _ c => absurd rfl c) (fun _ c => absurd rfl c)]
        rw [cif_neg (by omega), cif_pos rfl, h4]
    | succ r =>
      have mb : V 26 0 b ∈ L := by rw [hL]; exact List.mem_append_right _ (List.mem_cons_self ..)
      have lb : ∀ x, x ∈ sg (V 26 0) (b + 1) r → V 26 0 b ≤ x := by
        intro x hx
        obtain ⟨j, j1, j2, j3⟩ := mem_sg.1 hx
        rw [← j3]
        exact sg' b j (Int.le_refl _) (by omega) (by omega)
      have e1 : RUN d 40 (16, [sR 24 0, none], [aI (iI (cif (r + 1 = 0) 0 1))]) (HM q V) = cif (V 26 0 b < V 25 0 a) (rI (V 26 0 b) (HM q (upV V 24 0 5 (b + 1)))) (rI (V 25 0 a) (HM q (upV V 24 0 4 (a + 1)))) := by
        rw [cif_neg (by omega), g_40_16 (by rw [h3]; constructor <;> omega) (by rw [h4]; constructor <;> omega) (by decide) (fun c => absurd c (by omega)) (fun _ c => absurd c (by decide)) (fun _ _ => by omega) (fun _ _ => by omega) (fun _ _ => by rw [h5]; exact kR _ mb) (fun _ _ => by rw [h4]; exact kR _ ma)]
        rw [cif_neg (by omega), cif_neg (by decide), h4, h5]
      rw [e1]
      by_cases c : V 26 0 b < V 25 0 a
      · refine ⟨V 26 0 b, _, _, ob, rfl, take_5 h4 h5 h3 h6 he ha hb hp hr sf sg' hM, ?_, ?_, cif_pos c⟩
        · rw [hL]
          exact List.perm_middle
        · intro x hx
          rcases List.mem_append.1 hx with hx | hx
          · rcases List.mem_cons.1 hx with e | e
            · omega
            · have := la x e
              omega
          · exact lb x hx
      · refine ⟨V 25 0 a, _, _, oa, rfl, take_4 h4 h5 h3 h6 he ha hb hp hr sf sg' hM, ?_, ?_, cif_neg c⟩
        · rw [hL]
          exact List.Perm.refl _
        · intro x hx
          rcases List.mem_append.1 hx with hx | hx
          · exact la x hx
          · rcases List.mem_cons.1 hx with e | e
            · omega
            · have := lb x e
              omega
theorem two_go {d : Nat} {q : QQ} {l3 : Option AV} : ∀ (k : Nat) (V : VV) (c t M m : Int) (L : List Int) (l3 : Option AV), rowok V → QS V (t - 1) M L → gok L → L.length = k + 1 → V 24 0 3 = t + k → 1 ≤ t → t + k ≤ 16 → 0 ≤ m → (∀ x, x ∈ L → m ≤ x) → M ≤ 2 * m →
    ∃ h W, offC V W ∧ HC k L h ∧ RUN (d + 2) 38 (59, [sR 24 0, sI c, sI t, l3], []) (HM q V) = rI (c + h) (HM q W) := by
  intro k
  induction k with
  | zero =>
    intro V c t M m L l3 rk hq g hl h3 ht ht2 hm0 hm hM
    refine ⟨0, V, offC_refl V, ⟨by omega, rfl⟩, ?_⟩
    rw [g_38_59 rk (by rw [h3]; constructor <;> omega) (by constructor <;> omega), Int.add_zero]
    exact cif_pos (by omega)
  | succ k ih =>
    intro V c t M m L l3 rk hq g hl h3 ht ht2 hm0 hm hM
    obtain ⟨v, V1, L1, o1, n1, q1, p1, m1, r1⟩ := s_40 (d := d + 1) (q := q) hq g (by omega)
    have g1 := gok_perm p1 g
    have k1 := p1.length_eq
    rw [List.length_cons] at k1
    obtain ⟨w, V2, L2, o2, n2, q2, p2, m2, r2⟩ := s_40 (d := d + 1) (q := q) q1 (gok_tail g1) (by omega)
    have k2 := p2.length_eq
    rw [List.length_cons] at k2
    have PP : L.Perm (v :: w :: L2) := p1.trans (p2.cons v)
    have gg := gok_perm PP g
    have hv : m ≤ v := hm v (PP.mem_iff.2 (List.mem_cons_self ..))
    have hvw : v ≤ w := m1 w (p2.mem_iff.2 (List.mem_cons_self ..))
    obtain ⟨a, b, p, r, h4, h5, h3', h6, he, ha, hb, hp, hr, sf, sg', hMM, hL⟩ := q2
    have o3 : offC V2 (upV (upV V2 24 0 6 (V2 24 0 6 + 1)) 26 0 (V2 24 0 6) (v + w)) := offC_trans (offC_up (by decide)) (offC_up (by decide))
    have e26 : (upV (upV V2 24 0 6 (V2 24 0 6 + 1)) 26 0 (V2 24 0 6) (v + w)) 26 0 = setF (V2 26 0) (b + r) (v + w) := by rw [← h6]; rfl
    have eL : sg (setF (V2 26 0) (b + r) (v + w)) b (r + 1) = sg (V2 26 0) b r ++ [v + w] := by
      rw [sg_snoc, setF_same, sg_congr (g := V2 26 0) (fun j h1 h2 => setF_ne (by omega))]
    have hq3 : QS (upV (upV V2 24 0 6 (V2 24 0 6 + 1)) 26 0 (V2 24 0 6) (v + w)) (t + 1 - 1) (v + w) (L2 ++ [v + w]) := by
      refine ⟨a, b, p, r + 1, h4, h5, h3', (show (if (6 : Int) = 6 then V2 24 0 6 + 1 else V2 24 0 6) = _ from (if_pos rfl).trans (by omega)), by omega, ha, hb, hp, by omega, sf, ?_, ?_, ?_⟩
      · intro i j h1 h2 h3
        rw [e26]
        by_cases e : j = b + r
        · rw [e, setF_same]
          by_cases e2 : i = b + r
          · rw [e2, setF_same]; exact Int.le_refl _
          · rw [setF_ne e2]
            have := hMM i h1 (by omega)
            omega
        · rw [setF_ne e, setF_ne (by omega)]
          exact sg' i j h1 h2 (by omega)
      · intro j h1 h2
        rw [e26]
        by_cases e : j = b + r
        · rw [e, setF_same]; exact Int.le_refl _
        · rw [setF_ne e]
          have := hMM j h1 (by omega)
          omega
      · rw [e26, eL, hL, List.append_assoc]
        rfl
    have pj : (L2 ++ [v + w]).Perm ((v + w) :: L2) := List.perm_append_comm
    have gj := gok_perm pj.symm (gok_join gg)
    obtain ⟨h, W, w1, w2, w3⟩ := ih (upV (upV V2 24 0 6 (V2 24 0 6 + 1)) 26 0 (V2 24 0 6) (v + w)) (c + (v + w)) (t + 1) (v + w) w (L2 ++ [v + w]) (sI (v + w)) (rowok_off (offC_trans (offC_trans o1 o2) o3) rk) hq3 gj (by rw [List.length_append]; show L2.length + 1 = _; omega) (by
        show V2 24 0 3 = _
        rw [n2, n1, h3]
        omega) (by omega) (by omega) (by omega) (fun x hx => by
        rcases List.mem_append.1 hx with e | e
        · exact m2 x e
        · have := List.mem_singleton.1 e
          omega) (by omega)
    refine ⟨v + w + h, W, offC_trans (offC_trans (offC_trans o1 o2) o3) w1, ⟨v, w, L2, h, PP, hvw, m2, HC_perm pj w2, rfl⟩, ?_⟩
    rw [g_38_59 rk (by rw [h3]; constructor <;> omega) (by constructor <;> omega), cif_neg (by omega), g_38_68 rk r1 (qle_refl _), g_38_72 (rowok_off o1 rk) r2 (qle_refl _) (by omega)]
    rw [show c + (v + w + h) = c + (v + w) + h by omega]
    exact w3
