/-! the model's smallest watch -/
theorem S0_b {L : Nat} {xs : Nat → Int32} {a b : Nat} (ha : a ≠ 0) (hb : 11 ≤ b) : am_S0 L xs a b = none := by
  have h0 : Nat.ble a 0 = false := by
    cases h : Nat.ble a 0 with
    | false => rfl
    | true => exact absurd (Nat.le_zero.mp (Nat.le_of_ble_eq_true h)) ha
  have h1 : Nat.beq b 0 = false := by
    cases h : Nat.beq b 0 with
    | false => rfl
    | true => have := Nat.eq_of_beq_eq_true h; omega
  have h2 : Nat.blt b 11 = false := by
    cases h : Nat.blt b 11 with
    | false => rfl
    | true => have := Nat.blt_eq.mp h; omega
  have h3 : Nat.blt b 8 = false := by
    cases h : Nat.blt b 8 with
    | false => rfl
    | true => have := Nat.blt_eq.mp h; omega
  unfold am_S0
  simp only [h0, h1, h2, h3, cond_false, Bool.cond_self]
theorem S0_a {L : Nat} {xs : Nat → Int32} {a b : Nat} (ha : 46 ≤ a) : am_S0 L xs a b = none := by
  have h : ∀ k, k < 46 → Nat.ble a k = false := fun k hk => by
    cases h : Nat.ble a k with
    | false => rfl
    | true => have := Nat.le_of_ble_eq_true h; omega
  unfold am_S0
  simp only [h 23 (by decide), h 35 (by decide), h 41 (by decide), h 44 (by decide), h 45 (by decide), cond_false]
theorem S0_L {L : Nat} {xs : Nat → Int32} {a b : Nat} (ha : a ≠ 0) : am_S0 L xs a b = am_S0 0 (fun _ => 0) a b := by
  have h0 : Nat.ble a 0 = false := by
    cases h : Nat.ble a 0 with
    | false => rfl
    | true => exact absurd (Nat.le_zero.mp (Nat.le_of_ble_eq_true h)) ha
  unfold am_S0
  simp only [h0, cond_false]
set_option maxRecDepth 100000 in
theorem S0_all : ∀ a, a < 46 → ∀ b, b < 11 → a ≠ 0 → (am_S0 0 (fun _ => 0) a b).isSome = true → am_ix a b < 149 := by decide +kernel
theorem S0_none {L : Nat} {xs : Nat → Int32} {a b : Nat} (ha : a ≠ 0) (h : 149 ≤ am_ix a b) : am_S0 L xs a b = none := by
  rcases Nat.lt_or_ge a 46 with h1 | h1
  · rcases Nat.lt_or_ge b 11 with h2 | h2
    · rw [S0_L ha]
      cases e : am_S0 0 (fun _ => 0) a b with
      | none => rfl
      | some z =>
        have := S0_all a h1 b h2 ha (by rw [e]; rfl)
        omega
    · exact S0_b ha h2
  · exact S0_a h1
theorem forget_X {L : Nat} {xs : Nat → Int32} {m : Nat} {z : SC} (hm : 149 ≤ m) : am_forget 149 (upS (am_S0 L xs) 46 m z) = am_S0 L xs := by
  funext a b
  unfold am_forget
  cases ha : Nat.beq a 0 with
  | true =>
    have e := Nat.eq_of_beq_eq_true ha
    subst e
    show upS (am_S0 L xs) 46 m z 0 b = _
    unfold upS
    rw [if_neg (by omega)]
  | false =>
    have h0 : a ≠ 0 := fun e => by rw [e] at ha; cases ha
    cases hb : Nat.ble 149 (am_ix a b) with
    | true => exact (S0_none h0 (Nat.le_of_ble_eq_true hb)).symm
    | false =>
      show upS (am_S0 L xs) 46 m z a b = _
      unfold upS
      refine if_neg fun ⟨e1, e2⟩ => ?_
      have : am_ix a b = b := by rw [e1]; rfl
      rw [this, e2] at hb
      rw [Nat.ble_eq.mpr hm] at hb
      cases hb
theorem setA_rdg {V : VV} {a b : Nat} {f : Int → Int} {j : Int} : setA V a b f a b j = f j := by
  show cond (Nat.beq a a && Nat.beq b b) _ _ = _
  rw [cond_on]
  rfl
theorem setA_offg {V : VV} {a b : Nat} {f : Int → Int} {a' b' : Nat} (h : a' ≠ a ∨ b' ≠ b) : setA V a b f a' b' = V a' b' := by
  funext j
  show cond (Nat.beq a' a && Nat.beq b' b) _ _ = _
  rw [cond_off h]
  rfl
theorem setA_upg {V : VV} {a b : Nat} {f : Int → Int} {e v : Int} : upV (setA V a b f) a b e v = setA V a b (setF f e v) := by
  funext a' b' j
  unfold upV setA setF
  cases Nat.beq a' a && Nat.beq b' b <;> rfl
theorem lft_newA (V : VV) (m : Nat) : upA (lft V) 46 m (fun _ => 0) = lft (setA V 46 m (fun _ => 0)) := by
  funext a b j
  unfold upA lft setA
  cases ha : Nat.beq a 46 with
  | false =>
    rw [if_neg (fun q => by rw [q.1, Nat.beq_refl] at ha; cases ha)]
    rfl
  | true =>
    cases hb : Nat.beq b m with
    | false =>
      rw [if_neg (fun q => by rw [q.2, Nat.beq_refl] at hb; cases hb)]
      rfl
    | true =>
      rw [if_pos ⟨Nat.eq_of_beq_eq_true ha, Nat.eq_of_beq_eq_true hb⟩]
      rfl
/-- the room after the array of seers was made -/
def qX (q : QQ) : QQ := (q.1, (q.2.1.1 + 1, q.2.1.2 + 32), q.2.2)
theorem am_al_big {n : Nat} (h : 149 ≤ n) : am_al n = (46, n) := by
  unfold am_al
  rw [Nat.ble_eq.mpr h]
  rfl
theorem kx_new {d y pc nx : Nat} {ls : List (Option AV)} {st : List AV} {q : QQ} {V : VV} (hcd : am_cd y pc = i_newaI 0 32 nx) (hq : 149 ≤ q.2.1.1) : RUN d y (pc, ls, aI (iI 32) :: st) (HM q V) = RUN d y (nx, ls, aR 46 q.2.1.1 :: st) (HX q.2.1.1 (qX q) (setA V 46 q.2.1.1 (fun _ => 0))) := by
  refine RUN_gi hcd (cs := [iI 32 = nI 32]) ?_ ⟨by decide, trivial⟩
  show goC (iI 32 = nI 32) nx ls (Sum.inr (Sum.inl (am_al q.2.1.1)) :: st) (upS (am_S0 q.1.1 q.1.2) (am_al q.2.1.1).1 (am_al q.2.1.1).2 (some (Sum.inl (0, 32, fun _ => aN))), (q.2.1.1 + 1, q.2.1.2 + 32), upA (lft V) (am_al q.2.1.1).1 (am_al q.2.1.1).2 (fun _ => 0), q.2.2) = _
  rw [am_al_big hq, lft_newA]
  rfl
theorem kx_ret {d y pc m : Nat} {ls : List (Option AV)} {ok : Int32 → Prop} {q : QQ} {V : VV} {x : Int} (hcd : am_cd y pc = i_iretF ok 149) (hok : ok (iI x)) (hm : 149 ≤ m) : RUN d y (pc, ls, [aI (iI x)]) (HX m q V) = rI x (HM q V) := by
  refine RUN_ei hcd (cs := [ok (iI x)]) ?_ ⟨hok, trivial⟩
  show ([ok (iI x)], Sum.inr (Sum.inr (Sum.inl (Sum.inl (some (aI (iI x))), (am_forget 149 (upS (am_S0 q.1.1 q.1.2) 46 m (some (Sum.inl (0, 32, fun _ => aN)))), q.2.1, lft V, q.2.2))))) = _
  rw [forget_X hm]
  rfl
theorem bOr_0 {a : Int} (h : R32 a) : bOr a 0 = a := by
  refine bv_inj (bOr_R _ _) h ?_
  rw [bv_or, show bv 0 = 0#32 from by decide, BitVec.or_zero]
theorem zero_iff {a : Int} (h : R32 a) : a = 0 ↔ ∀ k, 0 ≤ k ∧ k < 32 → ¬ tbit a k := by
  constructor
  · intro e k _
    rw [e]
    exact tbit_0 k
  · intro h2
    exact tbit_ext h R32_0 fun k hk => ⟨fun z => absurd z (h2 k hk), fun z => absurd z (tbit_0 k)⟩
/-- the towers that see position j -/
noncomputable def seerM (U : VV) (j : Int) : Int := maskI (fun t => seeP (U 3 0) (U 4 0) (U 5 0) t j) (U 2 0 8)
/-- a set of towers that sees what is seen -/
theorem seer_cov {U : VV} {x : Int} (hn : 0 ≤ U 2 0 8 ∧ U 2 0 8 ≤ 8) (hx : 0 ≤ x ∧ x < 256) : (∀ j, 0 ≤ j → j < 32 → (seerM U j = 0 ∨ ¬ bAnd (seerM U j) x = 0)) ↔ cov (U 2 0 8) (seesV U) (tbit x) := by
  have hb : ∀ j k, 0 ≤ k ∧ k < 32 → (tbit (seerM U j) k ↔ k < U 2 0 8 ∧ seeP (U 3 0) (U 4 0) (U 5 0) k j) := fun j k hk => tbit_maskI _ (by omega) hk
  have key : ∀ j, (seerM U j = 0 ∨ ¬ bAnd (seerM U j) x = 0) ↔ ((∃ t, 0 ≤ t ∧ t < U 2 0 8 ∧ seeP (U 3 0) (U 4 0) (U 5 0) t j) → ∃ t, 0 ≤ t ∧ t < U 2 0 8 ∧ tbit x t ∧ seeP (U 3 0) (U 4 0) (U 5 0) t j) := by
    intro j
    rw [zero_iff (show R32 (seerM U j) from maskI_R _ _), zero_iff (bAnd_R _ _)]
    constructor
    · rintro (h | h) ⟨t, t1, t2, t3⟩
      · exact absurd ((hb j t (by omega)).mpr ⟨t2, t3⟩) (h t (by omega))
      · refine Classical.byContradiction fun z => h fun k hk y => ?_
        obtain ⟨y1, y2⟩ := tbit_and.mp y
        obtain ⟨y3, y4⟩ := (hb j k hk).mp y1
        exact z ⟨k, hk.1, y3, y2, y4⟩
    · intro h
      by_cases c : ∃ t, 0 ≤ t ∧ t < U 2 0 8 ∧ seeP (U 3 0) (U 4 0) (U 5 0) t j
      · obtain ⟨t, t1, t2, t3, t4⟩ := h c
        exact Or.inr fun z => z t (by omega) (tbit_and.mpr ⟨(hb j t (by omega)).mpr ⟨t2, t4⟩, t3⟩)
      · exact Or.inl fun k hk z => by
          obtain ⟨z1, z2⟩ := (hb j k hk).mp z
          exact c ⟨k, hk.1, z1, z2⟩
  constructor
  · intro h k hk hs
    exact (key k).mp (h k hk.1 hk.2) hs
  · intro h j h1 h2
    exact (key j).mpr (fun hs => h j ⟨h1, h2⟩ hs)
set_option maxHeartbeats 2000000 in
theorem s_244 {d : Nat} {q : QQ} {V U : VV} (rk : rowok U) (mr : MR V U) (hq : 149 ≤ q.2.1.1) : ∃ W, (∀ a b, ¬ (a = 46) → W a b = upV V 33 0 6 0 a b) ∧ RUN (d + 3) 244 (am_en 244 [aR 33 0]) (HM q V) = rI (watchN (U 2 0 8) (seesV U)) (HM (qX q) W) := by
  have hn := rk_n rk
  generalize hm : q.2.1.1 = m at hq
  have hS : upS (am_S0 (qX q).1.1 (qX q).1.2) 46 m (some (Sum.inl (0, 32, fun _ => aN))) 46 m = some (Sum.inl (0, 32, fun _ => aN)) := if_pos ⟨rfl, rfl⟩
  have mrf : ∀ f, MR (setA (upV V 33 0 6 0) 46 m f) U := fun f => mr
  have hall : bShl 1 (U 2 0 8) = ((2 ^ (U 2 0 8).toNat : Nat) : Int) := shl1 hn
  have hp : 2 ^ (U 2 0 8).toNat ≤ 256 := (show 2 ^ (U 2 0 8).toNat ≤ 2 ^ 8 from Nat.pow_le_pow_right (by decide) (by omega))
  have hp0 : 0 < 2 ^ (U 2 0 8).toNat := Nat.two_pow_pos _
  have n8 : ∀ f, setA (upV V 33 0 6 0) 46 m f 34 0 1 = U 2 0 8 := fun f => mr_n mr
  -- the start
  have start : RUN (d + 3) 244 (am_en 244 [aR 33 0]) (HM q V) = RUN (d + 3) 244 (23, [sR 33 0, sI (bShl 1 (U 2 0 8) - 1), sR 46 m, sI 0, none, none, none], []) (HX m (qX q) (setA (upV V 33 0 6 0) 46 m (fun _ => 0))) := by
    show RUN (d + 3) 244 (0, [sR 33 0, none, none, none, none, none, none], []) (HM q V) = _
    subst hm
    refine Eq.trans (k_aload rfl rfl) (Eq.trans (k_pushi 0 rfl rfl) (Eq.trans (k_putfi 6 rfl rfl rfl rfl trivial) (Eq.trans (k_pushi 1 rfl rfl) (Eq.trans (k_aload rfl rfl) (Eq.trans (k_getfr rfl rfl rfl) (Eq.trans (k_pushi 1 rfl rfl) (Eq.trans (k_ialdE rfl rfl rfl ⟨by decide, by decide⟩ (mr_n mr)) (Eq.trans (k_bin (c := bShl 1 (U 2 0 8)) rfl (iI_of _).symm) (Eq.trans (k_pushi 1 rfl rfl) (Eq.trans (k_bin rfl (iI_sub _ _)) (Eq.trans (k_store rfl) (Eq.trans (k_pushi 32 rfl rfl) (Eq.trans (kx_new rfl hq) (Eq.trans (k_astore rfl) (Eq.trans (k_pushi 0 rfl rfl) (Eq.trans (k_store rfl) rfl))))))))))))))))
  -- the seers of one position
  have inner : ∀ (f : Int → Int) (j : Int) (l4 : Option AV), 0 ≤ j ∧ j < 32 → f j = 0 → ∃ l4', RUN (d + 3) 244 (23, [sR 33 0, sI (bShl 1 (U 2 0 8) - 1), sR 46 m, sI j, l4, none, none], []) (HX m (qX q) (setA (upV V 33 0 6 0) 46 m f)) = RUN (d + 3) 244 (23, [sR 33 0, sI (bShl 1 (U 2 0 8) - 1), sR 46 m, sI (j + 1), l4', none, none], []) (HX m (qX q) (setA (upV V 33 0 6 0) 46 m (setF f j (seerM U j)))) := by
    intro f j l4 hj hf
    obtain ⟨_, e⟩ := loop_to (fun t s (_ : Unit) => RUN (d + 3) 244 (32, [sR 33 0, sI (bShl 1 (U 2 0 8) - 1), sR 46 m, sI j, sI t, none, none], []) (HX m (qX q) (setA (upV V 33 0 6 0) 46 m s))) (fun t => setF f j (maskI (fun t => seeP (U 3 0) (U 4 0) (U 5 0) t j) t)) 0 (U 2 0 8) (by
      intro t l h1 h2
      refine ⟨(), ?_⟩
      try dsimp only
      have hb := maskI_R (fun t => seeP (U 3 0) (U 4 0) (U 5 0) t j) t
      generalize hv : maskI (fun t => seeP (U 3 0) (U 4 0) (U 5 0) t j) t = v at hb
      have e1 : setA (upV V 33 0 6 0) 46 m (setF f j v) 46 m j = v := by rw [setA_rdg, setF_same]
      have up : ∀ w, upV (setA (upV V 33 0 6 0) 46 m (setF f j v)) 46 m j w = setA (upV V 33 0 6 0) 46 m (setF f j w) := fun w => by
        rw [setA_upg]
        congr 1
        funext k
        unfold setF
        by_cases c : k = j
        · rw [if_pos c, if_pos c]
        · rw [if_neg c, if_neg c, if_neg c]
      have sm : maskI (fun t => seeP (U 3 0) (U 4 0) (U 5 0) t j) (t + 1) = cif (seeP (U 3 0) (U 4 0) (U 5 0) t j) (bOr v (bShl 1 t)) v := by
        rw [maskI_succ _ h1, hv]
      refine Eq.trans (k_iload rfl rfl) (Eq.trans (k_aload rfl rfl) (Eq.trans (kx_getfr rfl rfl rfl) (Eq.trans (k_pushi 1 rfl rfl) (Eq.trans (kx_ialdE rfl rfl rfl ⟨by decide, by decide⟩ (n8 _)) (Eq.trans (Eq.trans (k_icmpc (U 2 0 8 ≤ t) rfl (iI_le (by constructor <;> omega) (by constructor <;> omega))) (cif_neg (by omega))) ?_)))))
      refine Eq.trans (k_aload rfl rfl) (Eq.trans (k_iload rfl rfl) (Eq.trans (k_dup2 rfl) (Eq.trans (kx_ialdE rfl hS rfl hj e1) (Eq.trans (k_aload rfl rfl) (Eq.trans (k_iload rfl rfl) (Eq.trans (k_iload rfl rfl) (Eq.trans (RUN_cix rfl rfl rfl (s_241x rk (mrf _) (by omega) hj) (qle_refl _)) ?_)))))))
      refine Eq.trans (k_ifcN (seeP (U 3 0) (U 4 0) (U 5 0) t j) rfl b2i_eq0) ?_
      rw [sm]
      refine cif_eq (fun c => ?_) (fun c => ?_)
      · rw [cif_pos c]
        refine Eq.trans (k_pushi 1 rfl rfl) (Eq.trans (k_iload rfl rfl) (Eq.trans (k_bin (c := bShl 1 t) rfl (iI_of _).symm) (Eq.trans (k_goto rfl) (Eq.trans (k_bin (c := bOr v (bShl 1 t)) rfl (iI_of _).symm) (Eq.trans (kx_iast rfl hS rfl hj) (Eq.trans (k_iinc 1 rfl rfl rfl) (Eq.trans (k_goto rfl) ?_)))))))
        rw [up]
        rfl
      · rw [cif_neg c]
        refine Eq.trans (k_pushi 0 rfl rfl) (Eq.trans (k_bin (c := bOr v 0) rfl (iI_of _).symm) (Eq.trans (kx_iast rfl hS rfl hj) (Eq.trans (k_iinc 1 rfl rfl rfl) (Eq.trans (k_goto rfl) ?_))))
        rw [up, bOr_0 hb]
        rfl) hn.1 ()
    try dsimp only at e
    have e0 : setF f j (maskI (fun t => seeP (U 3 0) (U 4 0) (U 5 0) t j) 0) = f := by
      show setF f j 0 = f
      rw [← hf]
      exact setF_id
    rw [e0] at e
    refine ⟨sI (U 2 0 8), ?_⟩
    refine Eq.trans (k_iload rfl rfl) (Eq.trans (k_pushi 32 rfl rfl) (Eq.trans (Eq.trans (k_icmpc (32 ≤ j) rfl (iI_le (by decide) (by constructor <;> omega))) (cif_neg (by omega))) (Eq.trans (k_pushi 0 rfl rfl) (Eq.trans (k_store rfl) (Eq.trans e ?_)))))
    exact Eq.trans (k_iload rfl rfl) (Eq.trans (k_aload rfl rfl) (Eq.trans (kx_getfr rfl rfl rfl) (Eq.trans (k_pushi 1 rfl rfl) (Eq.trans (kx_ialdE rfl rfl rfl ⟨by decide, by decide⟩ (n8 _)) (Eq.trans (Eq.trans (k_icmpc (U 2 0 8 ≤ U 2 0 8) rfl (iI_le (by constructor <;> omega) (by constructor <;> omega))) (cif_pos (Int.le_refl _))) (Eq.trans (k_iinc 1 rfl rfl rfl) (k_goto rfl)))))))
  -- all positions
  obtain ⟨l4, e1⟩ := loop_to (fun j s l => RUN (d + 3) 244 (23, [sR 33 0, sI (bShl 1 (U 2 0 8) - 1), sR 46 m, sI j, l, none, none], []) (HX m (qX q) (setA (upV V 33 0 6 0) 46 m s))) (fun i j => if 0 ≤ j ∧ j < i then seerM U j else 0) 0 32 (by
    intro j l h1 h2
    obtain ⟨l4', e⟩ := inner (fun k => if 0 ≤ k ∧ k < j then seerM U k else 0) j l ⟨h1, h2⟩ (if_neg (by omega))
    refine ⟨l4', e.trans ?_⟩
    have : setF (fun k => if 0 ≤ k ∧ k < j then seerM U k else 0) j (seerM U j) = (fun k => if 0 ≤ k ∧ k < j + 1 then seerM U k else 0) := by
      funext k
      show (if k = j then seerM U j else (if 0 ≤ k ∧ k < j then seerM U k else 0)) = _
      by_cases c : k = j
      · rw [if_pos c, if_pos (by omega), c]
      · rw [if_neg c]
        by_cases c2 : 0 ≤ k ∧ k < j
        · rw [if_pos c2, if_pos (by omega)]
        · rw [if_neg c2, if_neg (by omega)]
    rw [this]) (by decide) none
  try dsimp only at e1
  have e00 : (fun j : Int => if 0 ≤ j ∧ j < 0 then seerM U j else 0) = (fun _ => 0) := by
    funext j
    exact if_neg (by omega)
  rw [e00] at e1
  generalize hF : (fun j : Int => if 0 ≤ j ∧ j < 32 then seerM U j else 0) = F at e1
  have hFj : ∀ j, 0 ≤ j → j < 32 → setA (upV V 33 0 6 0) 46 m F 46 m j = seerM U j := fun j h1 h2 => by
    rw [setA_rdg, ← hF]
    exact if_pos ⟨h1, h2⟩
  -- one set
  have one : ∀ (x f : Int) (l5 l6 : Option AV), 0 ≤ x ∧ x < bShl 1 (U 2 0 8) → 0 ≤ f ∧ f ≤ 8 → ∃ l5' l6', RUN (d + 3) 244 (89, [sR 33 0, sI (bShl 1 (U 2 0 8) - 1), sR 46 m, sI f, sI x, l5, l6], []) (HX m (qX q) (setA (upV V 33 0 6 0) 46 m F)) = RUN (d + 3) 244 (89, [sR 33 0, sI (bShl 1 (U 2 0 8) - 1), sR 46 m, sI (cif (cov (U 2 0 8) (seesV U) (tbit x)) (min f (popF x)) f), sI (x + 1), l5', l6'], []) (HX m (qX q) (setA (upV V 33 0 6 0) 46 m F)) := by
    intro x f l5 l6 hx hf
    have hx2 : 0 ≤ x ∧ x < 256 := by omega
    obtain ⟨_, e⟩ := loop_to (fun p s (_ : Unit) => RUN (d + 3) 244 (101, [sR 33 0, sI (bShl 1 (U 2 0 8) - 1), sR 46 m, sI f, sI x, sI s, sI p], []) (HX m (qX q) (setA (upV V 33 0 6 0) 46 m F))) (fun p => b2i (∀ j, 0 ≤ j → j < p → (seerM U j = 0 ∨ ¬ bAnd (seerM U j) x = 0))) 0 32 (by
      intro p l h1 h2
      refine ⟨(), ?_⟩
      try dsimp only
      have hpj : 0 ≤ p ∧ p < ((32 : Nat) : Int) := ⟨h1, h2⟩
      refine Eq.trans (k_iload rfl rfl) (Eq.trans (k_pushi 32 rfl rfl) (Eq.trans (Eq.trans (k_icmpc (32 ≤ p) rfl (iI_le (by decide) (by constructor <;> omega))) (cif_neg (by omega))) (Eq.trans (k_iload rfl rfl) (Eq.trans (k_ifcN (∀ j, 0 ≤ j → j < p → (seerM U j = 0 ∨ ¬ bAnd (seerM U j) x = 0)) rfl b2i_eq0) ?_))))
      refine cif_eq (fun c => ?_) (fun c => ?_)
      · refine Eq.trans (k_aload rfl rfl) (Eq.trans (k_iload rfl rfl) (Eq.trans (kx_ialdE rfl hS rfl hpj (hFj p h1 h2)) (Eq.trans (k_ifc (seerM U p = 0) rfl (iI_eq0 (maskI_R _ _))) ?_)))
        have yes : (seerM U p = 0 ∨ ¬ bAnd (seerM U p) x = 0) → RUN (d + 3) 244 (130, [sR 33 0, sI (bShl 1 (U 2 0 8) - 1), sR 46 m, sI f, sI x, sI (b2i (∀ j, 0 ≤ j → j < p → (seerM U j = 0 ∨ ¬ bAnd (seerM U j) x = 0))), sI p], []) (HX m (qX q) (setA (upV V 33 0 6 0) 46 m F)) = RUN (d + 3) 244 (101, [sR 33 0, sI (bShl 1 (U 2 0 8) - 1), sR 46 m, sI f, sI x, sI (b2i (∀ j, 0 ≤ j → j < p + 1 → (seerM U j = 0 ∨ ¬ bAnd (seerM U j) x = 0))), sI (p + 1)], []) (HX m (qX q) (setA (upV V 33 0 6 0) 46 m F)) := fun z => by
          rw [b2i_pos (P := ∀ j, 0 ≤ j → j < p + 1 → (seerM U j = 0 ∨ ¬ bAnd (seerM U j) x = 0)) (fun j a b => by
            by_cases e : j = p
            · rw [e]; exact z
            · exact c j a (by omega))]
          exact Eq.trans (k_pushi 1 rfl rfl) (Eq.trans (k_goto rfl) (Eq.trans (k_store rfl) (Eq.trans (k_iinc 1 rfl rfl rfl) (k_goto rfl))))
        refine cif_eq (fun c2 => yes (Or.inl c2)) (fun c2 => ?_)
        refine Eq.trans (k_aload rfl rfl) (Eq.trans (k_iload rfl rfl) (Eq.trans (kx_ialdE rfl hS rfl hpj (hFj p h1 h2)) (Eq.trans (k_iload rfl rfl) (Eq.trans (k_bin (c := bAnd (seerM U p) x) rfl (iI_of _).symm) (Eq.trans (k_ifc (bAnd (seerM U p) x = 0) rfl (iI_eq0 (bAnd_R _ _))) ?_)))))
        refine cif_eq (fun c3 => ?_) (fun c3 => yes (Or.inr c3))
        rw [b2i_neg (P := ∀ j, 0 ≤ j → j < p + 1 → (seerM U j = 0 ∨ ¬ bAnd (seerM U j) x = 0)) (fun z => by
          rcases z p h1 (by omega) with z | z
          · exact c2 z
          · exact z c3)]
        exact Eq.trans (k_pushi 0 rfl rfl) (Eq.trans (k_store rfl) (Eq.trans (k_iinc 1 rfl rfl rfl) (k_goto rfl)))
      · rw [b2i_neg (P := ∀ j, 0 ≤ j → j < p + 1 → (seerM U j = 0 ∨ ¬ bAnd (seerM U j) x = 0)) (fun z => c fun j a b => z j a (by omega))]
        exact Eq.trans (k_pushi 0 rfl rfl) (Eq.trans (k_store rfl) (Eq.trans (k_iinc 1 rfl rfl rfl) (k_goto rfl)))) (by decide) ()
    try dsimp only at e
    rw [b2i_pos (P := ∀ j, 0 ≤ j → j < 0 → (seerM U j = 0 ∨ ¬ bAnd (seerM U j) x = 0)) (fun j a b => by omega)] at e
    have hc := seer_cov (x := x) hn hx2
    refine ⟨sI (b2i (∀ j, 0 ≤ j → j < 32 → (seerM U j = 0 ∨ ¬ bAnd (seerM U j) x = 0))), sI 32, ?_⟩
    refine Eq.trans (k_iload rfl rfl) (Eq.trans (k_iload rfl rfl) (Eq.trans (Eq.trans (k_icmpc (bShl 1 (U 2 0 8) - 1 < x) rfl (iI_lt (by constructor <;> omega) (by constructor <;> omega))) (cif_neg (by omega))) (Eq.trans (k_pushi 1 rfl rfl) (Eq.trans (k_store rfl) (Eq.trans (k_pushi 0 rfl rfl) (Eq.trans (k_store rfl) (Eq.trans e ?_)))))))
    refine Eq.trans (k_iload rfl rfl) (Eq.trans (k_pushi 32 rfl rfl) (Eq.trans (Eq.trans (k_icmpc ((32 : Int) ≤ 32) rfl (iI_le (by decide) (by decide))) (cif_pos (by decide))) (Eq.trans (k_iload rfl rfl) (Eq.trans (k_ifcN (∀ j, 0 ≤ j → j < 32 → (seerM U j = 0 ∨ ¬ bAnd (seerM U j) x = 0)) rfl b2i_eq0) ?_))))
    have pr := popF_R x
    refine cif_eq (fun c => ?_) (fun c => ?_)
    · rw [cif_pos (hc.mp c)]
      exact Eq.trans (k_iload rfl rfl) (Eq.trans (k_iload rfl rfl) (Eq.trans (RUN_cix rfl rfl rfl (s_245x hx2) (qle_refl _)) (Eq.trans (k_m2 rfl rfl (iI_min (by constructor <;> omega) pr)) (Eq.trans (k_goto rfl) (Eq.trans (k_store rfl) (Eq.trans (k_iinc 1 rfl rfl rfl) (k_goto rfl)))))))
    · rw [cif_neg (fun z => c (hc.mpr z))]
      exact Eq.trans (k_iload rfl rfl) (Eq.trans (k_store rfl) (Eq.trans (k_iinc 1 rfl rfl rfl) (k_goto rfl)))
  -- all sets
  have sets : ∀ (k : Nat) (x f : Int) (l5 l6 : Option AV), x + k = bShl 1 (U 2 0 8) → 0 ≤ x → (∃ T, cov (U 2 0 8) (seesV U) T ∧ cntI T (U 2 0 8) = f) → (∀ z, 0 ≤ z → z < x → cov (U 2 0 8) (seesV U) (tbit z) → f ≤ popF z) →
      RUN (d + 3) 244 (89, [sR 33 0, sI (bShl 1 (U 2 0 8) - 1), sR 46 m, sI f, sI x, l5, l6], []) (HX m (qX q) (setA (upV V 33 0 6 0) 46 m F)) = rI (watchN (U 2 0 8) (seesV U)) (HM (qX q) (setA (upV V 33 0 6 0) 46 m F)) := by
    intro k
    induction k with
    | zero =>
      intro x f l5 l6 hx h0 hT hle
      obtain ⟨T, t1, t2⟩ := hT
      have hb := cntI_b T hn.1
      have hw : watchN (U 2 0 8) (seesV U) = f := watchN_eq ⟨⟨T, t1, t2⟩, fun T' hT' => by
        obtain ⟨z, z1, z2, z3, z4⟩ := mask_of hn T'
        have := hle z z1 (by omega) ((cov_congr z4).mpr hT')
        omega⟩
      rw [hw]
      refine Eq.trans (k_iload rfl rfl) (Eq.trans (k_iload rfl rfl) (Eq.trans (Eq.trans (k_icmpc (bShl 1 (U 2 0 8) - 1 < x) rfl (iI_lt (by constructor <;> omega) (by constructor <;> omega))) (cif_pos (by omega))) (Eq.trans (k_iload rfl rfl) (kx_ret rfl trivial hq))))
    | succ k ih =>
      intro x f l5 l6 hx h0 hT hle
      obtain ⟨T, t1, t2⟩ := id hT
      have hb := cntI_b T hn.1
      obtain ⟨l5', l6', e⟩ := one x f l5 l6 (by omega) (by omega)
      refine e.trans (ih (x + 1) _ l5' l6' (by omega) (by omega) ?_ ?_)
      · by_cases c : cov (U 2 0 8) (seesV U) (tbit x)
        · rw [cif_pos c]
          by_cases c2 : f ≤ popF x
          · rw [Int.min_eq_left c2]
            exact hT
          · rw [Int.min_eq_right (by omega)]
            exact ⟨tbit x, c, (pop_of hn ⟨h0, by omega⟩).symm⟩
        · rw [cif_neg c]
          exact hT
      · intro z z1 z2 z3
        by_cases c : cov (U 2 0 8) (seesV U) (tbit x)
        · rw [cif_pos c]
          by_cases y : z = x
          · rw [y]; omega
          · have := hle z z1 (by omega) z3
            omega
        · rw [cif_neg c]
          by_cases y : z = x
          · rw [y] at z3; exact absurd z3 c
          · exact hle z z1 (by omega) z3
  refine ⟨setA (upV V 33 0 6 0) 46 m F, fun a b h => setA_offg (by omega), start.trans (e1.trans ?_)⟩
  refine Eq.trans (k_iload rfl rfl) (Eq.trans (k_pushi 32 rfl rfl) (Eq.trans (Eq.trans (k_icmpc ((32 : Int) ≤ 32) rfl (iI_le (by decide) (by decide))) (cif_pos (by decide))) (Eq.trans (k_aload rfl rfl) (Eq.trans (kx_getfr rfl rfl rfl) (Eq.trans (k_pushi 1 rfl rfl) (Eq.trans (kx_ialdE rfl rfl rfl ⟨by decide, by decide⟩ (n8 _)) (Eq.trans (k_store rfl) (Eq.trans (k_pushi 0 rfl rfl) (Eq.trans (k_store rfl) ?_)))))))))
  exact sets (bShl 1 (U 2 0 8)).toNat 0 (U 2 0 8) none none (by omega) (Int.le_refl _) ⟨fun _ => True, cov_all, cntI_true hn.1 (fun _ _ _ => trivial)⟩ (fun z a b => by omega)
