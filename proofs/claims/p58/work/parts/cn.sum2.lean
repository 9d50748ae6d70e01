/-! the law's sum over a row -/
def foldN (f : Int → Int → Int) (h : Int) : Nat → Int
  | 0 => h
  | k + 1 => f k (foldN f h k)
theorem foldN_congr {f g : Int → Int → Int} {h : Int} {n : Nat} (e : ∀ k : Int, 0 ≤ k → k < n → f k = g k) : foldN f h n = foldN g h n := by
  induction n with
  | zero => rfl
  | succ n ih =>
    show f n (foldN f h n) = g n (foldN g h n)
    rw [ih (fun k k1 k2 => e k k1 (by omega)), e n (by omega) (by omega)]
def foldI (f : Int → Int → Int) (h n : Int) : Int := foldN f h n.toNat
theorem foldI_succ {f : Int → Int → Int} {h n : Int} (hn : 0 ≤ n) : foldI f h (n + 1) = f n (foldI f h n) := by
  unfold foldI
  rw [show (n + 1).toNat = n.toNat + 1 by omega]
  show f (n.toNat : Int) _ = _
  rw [show (n.toNat : Int) = n by omega]
theorem foldI_congr {f g : Int → Int → Int} {h n : Int} (e : ∀ k : Int, 0 ≤ k → k < n → f k = g k) : foldI f h n = foldI g h n := foldN_congr fun k k1 k2 => e k k1 (by omega)
def sumA (V : VV) (r : Nat) : Int := foldI (fun k h => 11 * h + V 3 r k) (7 + V 2 r 9) 32
def sumB (V : VV) (r : Nat) : Int := foldI (fun k h => 31 * h + V 10 r k) (sumA V r) 16
def sumT (V : VV) (r : Nat) (t h : Int) : Int := 41 * (37 * h + 100 * V 4 r t + 10 * eyeV (V 3 r) (V 4 r) (V 5 r) t + V 6 r t) + V 7 r t
def sumL3 (V : VV) (r : Nat) (t k h : Int) : Int := 43 * h + V 9 r (t * 8 + ((V 8 r t - 1) - k)) % 65536
def sumC (V : VV) (r : Nat) : Int := foldI (fun t h => foldI (sumL3 V r t) (sumT V r t h) (V 8 r t)) (sumB V r) (V 2 r 8)
def sumR (V : VV) (r : Nat) : Int := 47 * sumC V r + V 2 r 8
/-- two rows say the same -/
def rowEq (V : VV) (r : Nat) (U : VV) (s : Nat) : Prop := V 2 r 8 = U 2 s 8 ∧ V 2 r 9 = U 2 s 9 ∧ (∀ j, 0 ≤ j ∧ j < 32 → V 3 r j = U 3 s j) ∧ (∀ j, 0 ≤ j ∧ j < 8 → V 4 r j = U 4 s j ∧ V 5 r j = U 5 s j ∧ V 6 r j = U 6 s j ∧ V 7 r j = U 7 s j ∧ V 8 r j = U 8 s j) ∧ (∀ j, 0 ≤ j ∧ j < 64 → V 9 r j = U 9 s j) ∧ (∀ j, 0 ≤ j ∧ j < 16 → V 10 r j = U 10 s j)
theorem rowEq.refl (V : VV) (r : Nat) : rowEq V r V r := ⟨rfl, rfl, fun _ _ => rfl, fun _ _ => ⟨rfl, rfl, rfl, rfl, rfl⟩, fun _ _ => rfl, fun _ _ => rfl⟩
theorem rowEq.trans {V U W : VV} {r s t : Nat} (h : rowEq V r U s) (k : rowEq U s W t) : rowEq V r W t := by
  obtain ⟨a1, a2, a3, a4, a5, a6⟩ := h
  obtain ⟨b1, b2, b3, b4, b5, b6⟩ := k
  refine ⟨a1.trans b1, a2.trans b2, fun j hj => (a3 j hj).trans (b3 j hj), fun j hj => ?_, fun j hj => (a5 j hj).trans (b5 j hj), fun j hj => (a6 j hj).trans (b6 j hj)⟩
  obtain ⟨c1, c2, c3, c4, c5⟩ := a4 j hj
  obtain ⟨e1, e2, e3, e4, e5⟩ := b4 j hj
  exact ⟨c1.trans e1, c2.trans e2, c3.trans e3, c4.trans e4, c5.trans e5⟩
theorem rowEq_of {V U : VV} {r s : Nat} (h : ∀ a, 2 ≤ a → a ≤ 10 → V a r = U a s) : rowEq V r U s := by
  refine ⟨by rw [h 2 (by decide) (by decide)], by rw [h 2 (by decide) (by decide)], fun j _ => by rw [h 3 (by decide) (by decide)], fun j _ => ⟨by rw [h 4 (by decide) (by decide)], by rw [h 5 (by decide) (by decide)], by rw [h 6 (by decide) (by decide)], by rw [h 7 (by decide) (by decide)], by rw [h 8 (by decide) (by decide)]⟩, fun j _ => by rw [h 9 (by decide) (by decide)], fun j _ => by rw [h 10 (by decide) (by decide)]⟩
theorem rowEq_copy {V : VV} {r s : Nat} (h : r ≠ s) : rowEq (copyV V r s) r V s :=
  ⟨copyV_8f, copyV_9f h, fun _ hj => copyV_3 hj, fun _ hj => ⟨copyV_4 hj, copyV_5 hj, copyV_6 hj, copyV_7 hj, copyV_8 hj⟩, fun _ hj => copyV_9 hj, fun _ hj => copyV_10 hj⟩
theorem rowB_eq {V U : VV} {r s : Nat} {B : Int} (h : rowEq V r U s) (rb : rowB B s U) : rowB B r V := by
  obtain ⟨a1, a2, a3, a4, a5, a6⟩ := h
  obtain ⟨b1, b2, b3, b4, b5, b6, b7, b8, b9, b10⟩ := rb
  refine ⟨by rw [a1]; exact b1, by rw [a2]; exact b2, fun j hj => by rw [a3 j hj]; exact b3 j hj, fun j hj => by rw [(a4 j hj).1]; exact b4 j hj, fun j hj => by rw [(a4 j hj).2.1]; exact b5 j hj, fun j hj => by rw [(a4 j hj).2.2.1]; exact b6 j hj, fun j hj => by rw [(a4 j hj).2.2.2.1]; exact b7 j hj, fun j hj => by rw [(a4 j hj).2.2.2.2]; exact b8 j hj, fun j hj => by rw [a5 j hj]; exact b9 j hj, fun j hj => by rw [a6 j hj]; exact b10 j hj⟩
theorem sumR_eq {V U : VV} {r s : Nat} {B : Int} (h : rowEq V r U s) (rb : rowB B s U) : sumR V r = sumR U s := by
  obtain ⟨a1, a2, a3, a4, a5, a6⟩ := h
  obtain ⟨b1, b2, b3, b4, b5, b6, b7, b8, b9, b10⟩ := rb
  have eA : sumA V r = sumA U s := by
    unfold sumA
    rw [a2]
    exact foldI_congr fun k k1 k2 => funext fun h => by rw [a3 k ⟨k1, k2⟩]
  have eB : sumB V r = sumB U s := by
    unfold sumB
    rw [eA]
    exact foldI_congr fun k k1 k2 => funext fun h => by rw [a6 k ⟨k1, k2⟩]
  have eC : sumC V r = sumC U s := by
    unfold sumC
    rw [eB, a1]
    refine foldI_congr fun t t1 t2 => funext fun h => ?_
    have ht : 0 ≤ t ∧ t < 8 := by omega
    obtain ⟨c4, c5, c6, c7, c8⟩ := a4 t ht
    have hp := b4 t ht
    have eT : sumT V r t h = sumT U s t h := by
      unfold sumT eyeV
      rw [c4, c5, c6, c7, a3 (U 4 s t) (by omega)]
    rw [eT, c8]
    have h8 := b8 t ht
    refine foldI_congr fun k k1 k2 => funext fun h => ?_
    unfold sumL3
    rw [c8, a5 _ (by omega)]
  unfold sumR
  rw [eC, a1]
section
variable {d : Nat} {q : QQ} {V : VV}
theorem s_393 (rk : rowok V) : RUN (d + 3) 393 (am_en 393 [aR 1 0]) (HM q V) = rL (sumR V 0) (HM q V) := by
  have hn := rk_n rk
  refine Eq.trans (g_393_0 rk) ?_
  -- the ground
  obtain ⟨l2, e12⟩ := loop_to (fun (i : Int) (s : Int) (l : Option AV) => RUN (d + 3) 393 (12, [sR 1 0, sL s, l, sI i, none], []) (HM q V)) (fun i => foldI (fun k h => 11 * h + V 3 0 k) (7 + V 2 0 9) i) 0 32 (by
    intro i l h1 h2
    refine ⟨none, ?_⟩
    try dsimp only
    rw [g_393_12 rk (by omega) (fun _ => ⟨h1, h2⟩), cif_neg (by omega), foldI_succ h1]) (by decide) none
  refine Eq.trans e12 ?_
  try dsimp only
  refine Eq.trans (g_393_12 rk ⟨by decide, by decide⟩ (fun z => absurd (Int.le_refl _) z)) ?_
  refine Eq.trans (cif_pos (Int.le_refl _)) ?_
  show RUN (d + 3) 393 (40, [sR 1 0, sL (sumA V 0), l2, sI 97, none], []) (HM q V) = _
  -- the letters
  obtain ⟨l2', e40⟩ := loop_to (fun (i : Int) (s : Int) (l : Option AV) => RUN (d + 3) 393 (40, [sR 1 0, sL s, l, sI (97 + i), none], []) (HM q V)) (fun i => foldI (fun k h => 31 * h + V 10 0 k) (sumA V 0) i) 0 16 (by
    intro i l h1 h2
    refine ⟨none, ?_⟩
    try dsimp only
    rw [g_393_40 rk (by omega), cif_neg (by omega), cif_neg (by omega), cif_pos (by omega), foldI_succ h1, show 97 + i - 97 = i by omega, show (97 + i + 1) % 65536 = 97 + (i + 1) by omega]) (by decide) l2
  refine Eq.trans e40 ?_
  try dsimp only
  refine Eq.trans (g_393_40 rk (by omega)) ?_
  refine Eq.trans (cif_pos (by omega)) ?_
  show RUN (d + 3) 393 (69, [sR 1 0, sL (sumB V 0), l2', sI 0, none], []) (HM q V) = _
  -- the towers
  obtain ⟨⟨m2, m4⟩, e69⟩ := loop_to (fun (i : Int) (s : Int) (l : Option AV × Option AV) => RUN (d + 3) 393 (69, [sR 1 0, sL s, l.1, sI i, l.2], []) (HM q V)) (fun i => foldI (fun t h => foldI (sumL3 V 0 t) (sumT V 0 t h) (V 8 0 t)) (sumB V 0) i) 0 (V 2 0 8) (by
    intro i l h1 h2
    try dsimp only
    have b4 := rk_4 rk (j := i) (by omega)
    have b6 := rk_6 rk (j := i) (by omega)
    have b7 := rk_7 rk (j := i) (by omega)
    have b8 := rk_8 rk (j := i) (by omega)
    have be := eyeV_b rk (t := i) (by omega)
    have e := g_393_69 (d := d) (q := q) (V := V) (x1 := foldI (fun t h => foldI (sumL3 V 0 t) (sumT V 0 t h) (V 8 0 t)) (sumB V 0) i) (l2 := l.1) (x3 := i) (l4 := l.2) rk (by omega) (fun _ => ⟨h1, h2⟩) (fun _ => by omega) (fun _ => by omega) (fun _ => by omega) (fun _ => by omega)
    rw [cif_neg (by omega)] at e
    obtain ⟨k2, e126⟩ := loop_to (fun (k : Int) (s : Int) (l : Option AV) => RUN (d + 3) 393 (126, [sR 1 0, sL s, l, sI i, sI k], []) (HM q V)) (fun k => foldI (sumL3 V 0 i) (sumT V 0 i (foldI (fun t h => foldI (sumL3 V 0 t) (sumT V 0 t h) (V 8 0 t)) (sumB V 0) i)) k) 0 (V 8 0 i) (by
      intro k l k1 k2
      refine ⟨none, ?_⟩
      try dsimp only
      rw [g_393_126 rk ⟨h1, h2⟩ (by omega) (fun _ _ _ _ => by omega), cif_neg (by omega), cif_neg (by omega), cif_pos k2, foldI_succ k1]
      rfl) b8.1 none
    refine ⟨(k2, sI (V 8 0 i)), ?_⟩
    rw [foldI_succ h1]
    refine Eq.trans e (Eq.trans e126 ?_)
    try dsimp only
    refine Eq.trans (g_393_126 rk ⟨h1, h2⟩ (by omega) (fun z => absurd (Int.le_refl _) z)) ?_
    exact cif_pos (Int.le_refl _)) hn.1 (l2', none)
  refine Eq.trans e69 ?_
  try dsimp only
  refine Eq.trans (g_393_69 rk (by omega) (fun z => absurd (Int.le_refl _) z) (fun z => absurd (Int.le_refl _) z) (fun z => absurd (Int.le_refl _) z) (fun z => absurd (Int.le_refl _) z) (fun z => absurd (Int.le_refl _) z)) ?_
  exact cif_pos (Int.le_refl _)
end
