/-! the class tries commands (out of the parts of whole that speak of the class alone) -/
/-- nobody stands where another one stands -/
def distR (r : Nat) (U : VV) : Prop := ∀ a b, 0 ≤ a ∧ a < U 2 r 8 → 0 ≤ b ∧ b < U 2 r 8 → ¬ a = b → ¬ U 4 r a = U 4 r b
/-- behind the last tower nothing was counted, nothing is logged -/
def zeroR (r : Nat) (U : VV) : Prop := ∀ t, U 2 r 8 ≤ t → t < 8 → U 7 r t = 0 ∧ U 8 r t = 0
/-- row r of the class is in order -/
def RI (B : Int) (r : Nat) (U : VV) : Prop := rowB B r U ∧ distR r U ∧ zeroR r U

theorem RI_off {B : Int} {r : Nat} {U W : VV} (h : ∀ a, 2 ≤ a → a ≤ 10 → W a r = U a r) (k : RI B r U) : RI B r W := by
  refine ⟨rowB_off h k.1, ?_, ?_⟩
  · unfold distR
    rw [h 2 (by decide) (by decide), h 4 (by decide) (by decide)]
    exact k.2.1
  · unfold zeroR
    rw [h 2 (by decide) (by decide), h 7 (by decide) (by decide), h 8 (by decide) (by decide)]
    exact k.2.2
theorem RI_mono {B C : Int} {r : Nat} {U : VV} (h : RI B r U) (hB : B ≤ C) : RI C r U := ⟨rowB_mono h.1 hB, h.2⟩
theorem RI_copy {B : Int} {r r0 : Nat} {U : VV} (hr : r ≠ r0) (k : RI B r0 U) : RI B r (copyV U r r0) := by
  have hn := k.1.1
  refine ⟨rowB_copy k.1 hr, fun a b ha hb hab => ?_, fun t h1 h2 => ?_⟩
  · rw [copyV_8f] at ha hb
    rw [copyV_4 (by omega), copyV_4 (by omega)]
    exact k.2.1 a b ha hb hab
  · rw [copyV_8f] at h1
    rw [copyV_7 (by omega), copyV_8 (by omega)]
    exact k.2.2 t h1 h2
theorem RI_8 {B : Int} {r : Nat} {U : VV} (k : RI B r U) : ∀ t, 0 ≤ t ∧ t < 8 → 0 ≤ U 8 r t ∧ U 8 r t ≤ 8 := k.1.2.2.2.2.2.2.2.1
/-- a tower added, in the class's words -/
def towU (U : VV) (a b c : Int) : VV := upV (upV (upV (upV U 4 0 (U 2 0 8) a) 5 0 (U 2 0 8) b) 6 0 (U 2 0 8) c) 2 0 8 (U 2 0 8 + 1)
section
variable {B : Int} {U : VV}
theorem RI_ground {p v : Int} (k : RI B 0 U) (hv : 0 ≤ v ∧ v ≤ 9) : RI B 0 (upV U 3 0 p v) := by
  obtain ⟨h, hd, hz⟩ := k
  refine ⟨⟨h.1, h.2.1, fun j hj => ?_, h.2.2.2⟩, hd, hz⟩
  show 0 ≤ (if j = p then v else U 3 0 j) ∧ (if j = p then v else U 3 0 j) ≤ 9
  by_cases c : j = p
  · rw [if_pos c]; exact hv
  · rw [if_neg c]; exact h.2.2.1 j hj
theorem RI_wind {v : Int} (k : RI B 0 U) (hv : -9 ≤ v ∧ v ≤ 9) : RI B 0 (upV U 2 0 9 v) := by
  obtain ⟨h, hd, hz⟩ := k
  exact ⟨⟨h.1, hv, h.2.2⟩, hd, hz⟩
theorem RI_mood {p v : Int} (k : RI B 0 U) (hv : 0 ≤ v ∧ v < 4) : RI B 0 (upV U 6 0 p v) := by
  obtain ⟨h, hd, hz⟩ := k
  refine ⟨⟨h.1, h.2.1, h.2.2.1, h.2.2.2.1, h.2.2.2.2.1, fun j hj => ?_, h.2.2.2.2.2.2⟩, hd, hz⟩
  show 0 ≤ (if j = p then v else U 6 0 j) ∧ (if j = p then v else U 6 0 j) ≤ 3
  by_cases c : j = p
  · rw [if_pos c]; omega
  · rw [if_neg c]; exact h.2.2.2.2.2.1 j hj
theorem RI_add {a b c : Int} (k : RI B 0 U) (hn : U 2 0 8 < 8) (ha : 0 ≤ a ∧ a < 32) (hb : 1 ≤ b ∧ b ≤ 9) (hc : 0 ≤ c ∧ c < 4) (hno : fstI (posIs (U 4 0) a) (U 2 0 8) = -1) : RI B 0 (towU U a b c) := by
  obtain ⟨h, hd, hz⟩ := k
  have h1 := h.1
  have q4 : ∀ t, towU U a b c 4 0 t = if t = U 2 0 8 then a else U 4 0 t := fun t => rfl
  have q5 : ∀ t, towU U a b c 5 0 t = if t = U 2 0 8 then b else U 5 0 t := fun t => rfl
  have q6 : ∀ t, towU U a b c 6 0 t = if t = U 2 0 8 then c else U 6 0 t := fun t => rfl
  have q2 : towU U a b c 2 0 8 = U 2 0 8 + 1 := rfl
  have free : ∀ t, 0 ≤ t ∧ t < U 2 0 8 → ¬ U 4 0 t = a := fun t ht z => by
    rcases fstI_cases (posIs (U 4 0) a) (U 2 0 8) with ⟨z1, -⟩ | ⟨-, z2⟩
    · omega
    · exact z2 t ht.1 ht.2 z
  refine ⟨⟨by show 0 ≤ U 2 0 8 + 1 ∧ U 2 0 8 + 1 ≤ 8; omega, h.2.1, h.2.2.1, fun t ht => ?_, fun t ht => ?_, fun t ht => ?_, h.2.2.2.2.2.2⟩, fun x y hx hy hxy => ?_, fun t h1 h2 => hz t (by rw [q2] at h1; omega) h2⟩
  · rw [q4]
    by_cases e : t = U 2 0 8
    · rw [if_pos e]; omega
    · rw [if_neg e]; exact h.2.2.2.1 t ht
  · rw [q5]
    by_cases e : t = U 2 0 8
    · rw [if_pos e]; omega
    · rw [if_neg e]; exact h.2.2.2.2.1 t ht
  · rw [q6]
    by_cases e : t = U 2 0 8
    · rw [if_pos e]; omega
    · rw [if_neg e]; exact h.2.2.2.2.2.1 t ht
  · rw [q2] at hx hy
    rw [q4, q4]
    by_cases e1 : x = U 2 0 8
    · rw [if_pos e1, if_neg (by omega)]
      exact fun z => free y (by omega) z.symm
    · rw [if_neg e1]
      by_cases e2 : y = U 2 0 8
      · rw [if_pos e2]
        exact free x (by omega)
      · rw [if_neg e2]
        exact hd x y (by omega) (by omega) hxy
end
section
variable {B : Int} {U V W : VV}
theorem passV_two {P : Nat → Int} {l : Int} (h : ∀ a, 2 ≤ a → a ≤ 10 → W a 0 = U a 0) : ∀ (k : Nat) (a : Nat), 2 ≤ a → a ≤ 10 → passV W P l k a 0 = passV U P l k a 0 := by
  intro k
  induction k with
  | zero => intro a h1 h2; exact h a h1 h2
  | succ k ih =>
    intro a h1 h2
    by_cases c : 7 ≤ a ∧ a ≤ 9
    · have i7 := ih 7 (by omega) (by omega)
      have i8 := ih 8 (by omega) (by omega)
      have i9 := ih 9 (by omega) (by omega)
      have hc : a = 7 ∨ a = 8 ∨ a = 9 := by omega
      rcases hc with rfl | rfl | rfl
      · show upV (passV W P l k) 7 0 (P k) (passV W P l k 7 0 (P k) + 1) 7 0 = upV (passV U P l k) 7 0 (P k) (passV U P l k 7 0 (P k) + 1) 7 0
        funext j
        rw [upV_at, upV_at, i7]
      · show logN (passV W P l k 8 0) (P (k + 1)) = logN (passV U P l k 8 0) (P (k + 1))
        rw [i8]
      · show logT (passV W P l k 9 0) (passV W P l k 8 0 (P (k + 1))) (P (k + 1)) l = logT (passV U P l k 9 0) (passV U P l k 8 0 (P (k + 1))) (P (k + 1)) l
        rw [i8, i9]
    · rw [passV_off (by omega), passV_off (by omega)]
      exact h a h1 h2
theorem sentV_two {P : Nat → Int} {l : Int} {k : Nat} (h : ∀ a, 2 ≤ a → a ≤ 10 → W a 0 = U a 0) : ∀ (a : Nat), 2 ≤ a → a ≤ 10 → sentV W P l k a 0 = sentV U P l k a 0 := by
  intro a h1 h2
  have e := passV_two (P := P) (l := l) h k
  unfold sentV
  by_cases c : a = 10
  · subst c
    funext j
    rw [upV_at, upV_at, e 10 (by decide) (by decide)]
  · rw [upV_off2 (by omega), upV_off2 (by omega), e a h1 h2]
theorem sentV_off {P : Nat → Int} {l : Int} {k : Nat} {a b : Nat} (h : ¬ (7 ≤ a ∧ a ≤ 10) ∨ b ≠ 0) : sentV U P l k a b = U a b := by
  unfold sentV
  rw [upV_off2 (by omega), passV_off (by omega)]
theorem zeroR_pass {P : Nat → Int} {l : Int} (hz : zeroR 0 U) : ∀ k : Nat, (∀ i : Nat, i ≤ k → 0 ≤ P i ∧ P i < U 2 0 8) → zeroR 0 (passV U P l k) := by
  intro k
  induction k with
  | zero => intro _; exact hz
  | succ k ih =>
    intro hP t h1 h2
    have := ih (fun i hi => hP i (by omega))
    have e2 : passV U P l k 2 0 = U 2 0 := passV_off (by omega) k
    have e2' : passV U P l (k + 1) 2 0 = U 2 0 := passV_off (by omega) (k + 1)
    rw [e2'] at h1
    have h0 := this t (by rw [e2]; exact h1) h2
    have p0 := hP k (by omega)
    have p1 := hP (k + 1) (by omega)
    constructor
    · show upV (passV U P l k) 7 0 (P k) _ 7 0 t = 0
      rw [upV_at, if_neg (by omega)]
      exact h0.1
    · show setF (passV U P l k 8 0) (P (k + 1)) _ t = 0
      unfold setF
      rw [if_neg (by omega)]
      exact h0.2
theorem RI_sent {P : Nat → Int} {l : Int} {k : Nat} (h : RI B 0 U) (hl : 97 ≤ l ∧ l < 113) (hk : k ≤ 7) (hP : ∀ i : Nat, i ≤ k → 0 ≤ P i ∧ P i < U 2 0 8) : RI (B + 10) 0 (sentV U P l k) := by
  obtain ⟨h1, h2, h3⟩ := h
  have hn := h1.1
  have r1 := rowB_pass h1 (l := l) (P := P) (by omega) k (fun i hi => by have := hP i hi; omega)
  have e2 : sentV U P l k 2 0 = U 2 0 := sentV_off (by omega)
  have e4 : sentV U P l k 4 0 = U 4 0 := sentV_off (by omega)
  refine ⟨?_, ?_, ?_⟩
  · have r2 := rowB_mono r1 (C := B + 10) (by omega)
    refine ⟨r2.1, r2.2.1, r2.2.2.1, r2.2.2.2.1, r2.2.2.2.2.1, r2.2.2.2.2.2.1, r2.2.2.2.2.2.2.1, r2.2.2.2.2.2.2.2.1, r2.2.2.2.2.2.2.2.2.1, fun j hj => ?_⟩
    show 0 ≤ (if j = l - 97 then _ else passV U P l k 10 0 j) ∧ (if j = l - 97 then _ else passV U P l k 10 0 j) ≤ B + 10
    have rj := r1.2.2.2.2.2.2.2.2.2 j hj
    have rl := r1.2.2.2.2.2.2.2.2.2 (l - 97) (by omega)
    by_cases c : j = l - 97
    · rw [if_pos c]; omega
    · rw [if_neg c]; omega
  · unfold distR
    rw [e2, e4]
    exact h2
  · exact zeroR_pass h3 k hP
end
section
variable {d y pc nx : Nat} {ls : List (Option AV)} {st : List AV} {q : QQ} {V : VV}
theorem k_aaldN {b n : Nat} {g : Nat → AV} {e : Int} {a : Nat} {v : AV} (hcd : am_cd y pc = i_aald nx) (hS : am_S0 q.1.1 q.1.2 a b = some (Sum.inl (6, n, g))) (hn : n < 2147483648) (he : 0 ≤ e ∧ e < (n : Int)) (hg : am_kv (iI (V a b e)) = v) : RUN d y (pc, ls, aI (iI e) :: aR a b :: st) (HM q V) = RUN d y (nx, ls, v :: st) (HM q V) := by
  refine RUN_gi hcd (cs := [vp_in (iI e) n]) ?_ ⟨iI_in he hn, trivial⟩
  show (match am_S0 q.1.1 q.1.2 a b with
    | some (Sum.inl (4, n, g)) => goC (vp_in (iI e) n) nx ls (g (iI e).toNatClampNeg :: st) (HM q V)
    | some (Sum.inl (5, n, g)) => goC (vp_in (iI e) n) nx ls (g (iI e).toNatClampNeg :: st) (HM q V)
    | some (Sum.inl (6, n, g)) => goC (vp_in (iI e) n) nx ls (am_kv (lft V a b (iI e).toNatClampNeg) :: st) (HM q V)
    | some (Sum.inl (8, n, g)) => goC (vp_in (iI e) n) nx ls (g (iI e).toNatClampNeg :: st) (HM q V)
    | _ => stuck) = _
  rw [hS]
  try dsimp only
  rw [lft_at V a b he.1 (by omega), hg]
  try rfl
theorem k_ord {b : Nat} {v : Int32} {w : AV} (n : Int) (hcd : am_cd y pc = i_ord nx) (hS : am_PS q.1.1 q.1.2.1 b = some (Sum.inr (90, [aI v, w]))) (hs : Nat.ble st.length 4 = true) (hv : v = iI n) : RUN d y (pc, ls, aR 0 b :: st) (HM q V) = RUN d y (nx, ls, aI (iI n) :: st) (HM q V) := by
  subst hv
  refine RUN_gi hcd (cs := [(90 : Nat) = 90 ∧ Nat.ble st.length 4 = true]) ?_ ⟨⟨rfl, hs⟩, trivial⟩
  show (match am_PS q.1.1 q.1.2.1 b with
    | some (Sum.inr (c', fs)) => (match fs.getD 0 aN with
      | Sum.inl v => goC (c' = 90 ∧ Nat.ble st.length 4 = true) nx ls (aI v :: st) (HM q V)
      | _ => stuck)
    | _ => stuck) = _
  rw [hS]
  rfl
/-- a table of numbers that is there from the start -/
theorem k_ialdK {b n : Nat} {g : Nat → AV} {e : Int} {v : Int32} (z : Int) (hcd : am_cd y pc = i_iald nx) (hS : am_PS q.1.1 q.1.2.1 b = some (Sum.inl (9, n, g))) (hn : n < 2147483648) (he : 0 ≤ e ∧ e < (n : Int)) (hg : g e.toNat = aI v) (hv : v = iI z) : RUN d y (pc, ls, aI (iI e) :: aR 0 b :: st) (HM q V) = RUN d y (nx, ls, aI (iI z) :: st) (HM q V) := by
  subst hv
  refine RUN_gi hcd (cs := [vp_in (iI e) n]) ?_ ⟨iI_in he hn, trivial⟩
  show (match am_PS q.1.1 q.1.2.1 b with
    | some (Sum.inl (0, n, g)) => goC (vp_in (iI e) n) nx ls (aI (lft V 0 b (iI e).toNatClampNeg) :: st) (HM q V)
    | some (Sum.inl (9, n, g)) => goC (vp_in (iI e) n) nx ls (g (iI e).toNatClampNeg :: st) (HM q V)
    | _ => stuck) = _
  rw [hS, iI_nat (by omega)]
  exact congrArg (fun v => goC (vp_in (iI e) n) nx ls (v :: st) (HM q V)) hg
end
section
variable {d : Nat} {q : QQ} {V : VV} {i n : Int}
theorem s_192 {b : Nat} (hi : 0 ≤ i ∧ i < 10) (hb : am_kv (iI (V 29 0 i)) = aR 0 b) : RUN d 192 (am_en 192 [aR 27 0, aI (iI i)]) (HM q V) = some (Sum.inl (some (aR 0 b)), HM q V) := by
  refine (show RUN d 192 (0, [sR 27 0, sI i], []) (HM q V) = _ from Eq.trans (k_iload rfl rfl) (Eq.trans (Eq.trans (k_ifc (i < 0) rfl (iI_lt0 (by constructor <;> omega))) (cif_neg (by omega))) (Eq.trans (k_iload rfl rfl) (Eq.trans (k_pushi 10 rfl rfl) (Eq.trans (Eq.trans (k_icmpc (10 ≤ i) rfl (iI_le (by decide) (by constructor <;> omega))) (cif_neg (by omega))) (Eq.trans (k_aload rfl rfl) (Eq.trans (k_getfr rfl rfl rfl) (Eq.trans (k_iload rfl rfl) (Eq.trans (k_aaldN (n := 10) rfl rfl (by decide) (by omega) hb) (Eq.trans (k_goto rfl) (k_aret rfl rfl)))))))))))
theorem s_193 {j : Int} (hi : 0 ≤ i ∧ i < 10) (hj : 0 ≤ j ∧ j < 3) : RUN d 193 (am_en 193 [aR 27 0, aI (iI i), aI (iI j)]) (HM q V) = rI (V 30 0 (i * 3 + j)) (HM q V) := by
  refine (show RUN d 193 (0, [sR 27 0, sI i, sI j, none], []) (HM q V) = _ from Eq.trans (k_iload rfl rfl) (Eq.trans (k_pushi 3 rfl rfl) (Eq.trans (k_bin rfl (iI_mul _ _)) (Eq.trans (k_iload rfl rfl) (Eq.trans (k_bin rfl (iI_add _ _)) (Eq.trans (k_store rfl) (Eq.trans (k_iload rfl rfl) (Eq.trans (Eq.trans (k_ifc (i * 3 + j < 0) rfl (iI_lt0 (by constructor <;> omega))) (cif_neg (by omega))) (Eq.trans (k_iload rfl rfl) (Eq.trans (k_aload rfl rfl) (Eq.trans (k_getfr rfl rfl rfl) (Eq.trans (k_alen rfl rfl) (Eq.trans (Eq.trans (k_icmpc (30 ≤ i * 3 + j) rfl (iI_le (by decide) (by constructor <;> omega))) (cif_neg (by omega))) (Eq.trans (k_aload rfl rfl) (Eq.trans (k_getfr rfl rfl rfl) (Eq.trans (k_iload rfl rfl) (Eq.trans (k_iald rfl rfl rfl (by omega)) (Eq.trans (k_goto rfl) (k_iret rfl trivial)))))))))))))))))))
/-- up to the switch over the kinds -/
theorem try_head {b : Nat} {o z : Int} {v : Int32} {w : AV} {n : Nat} (hi : 0 ≤ i ∧ i < 10) (hb : am_kv (iI (V 29 0 i)) = aR 0 b) (hS : am_PS q.1.1 q.1.2.1 b = some (Sum.inr (90, [aI v, w]))) (hv : v = iI o) (ho : 0 ≤ o ∧ o < 5) (hz : nI (cond (Nat.beq o.toNat 4) 0 (o.toNat + 1)) = iI z) (hn : am_tsw 1 4 [84, 92, 102, 110] 120 (iI z) = n) :
    RUN (d + 1) 191 (am_en 191 [aR 1 0, aI (iI i)]) (HM q V) = RUN (d + 1) 191 (n, [sR 1 0, sI i, sR 0 b, sI (V 30 0 (i * 3 + 0)), sI (V 30 0 (i * 3 + 1)), sI (V 30 0 (i * 3 + 2))], []) (HM q V) := by
  refine (show RUN (d + 1) 191 (0, [sR 1 0, sI i, none, none, none, none], []) (HM q V) = _ from Eq.trans (k_aload rfl rfl) (Eq.trans (k_getfr rfl rfl rfl) (Eq.trans (k_iload rfl rfl) (Eq.trans (RUN_ci rfl rfl rfl (s_192 hi hb) (qle_refl _)) (Eq.trans (k_astore rfl) (Eq.trans (k_aload rfl rfl) (Eq.trans (k_ifnonnull rfl) ?_)))))))
  refine Eq.trans (k_aload rfl rfl) (Eq.trans (k_getfr rfl rfl rfl) (Eq.trans (k_iload rfl rfl) (Eq.trans (k_pushi 0 rfl rfl) (Eq.trans (RUN_ci rfl rfl rfl (s_193 hi (by decide)) (qle_refl _)) (Eq.trans (k_store rfl) ?_)))))
  refine Eq.trans (k_aload rfl rfl) (Eq.trans (k_getfr rfl rfl rfl) (Eq.trans (k_iload rfl rfl) (Eq.trans (k_pushi 1 rfl rfl) (Eq.trans (RUN_ci rfl rfl rfl (s_193 hi (by decide)) (qle_refl _)) (Eq.trans (k_store rfl) ?_)))))
  refine Eq.trans (k_aload rfl rfl) (Eq.trans (k_getfr rfl rfl rfl) (Eq.trans (k_iload rfl rfl) (Eq.trans (k_pushi 2 rfl rfl) (Eq.trans (RUN_ci rfl rfl rfl (s_193 hi (by decide)) (qle_refl _)) (Eq.trans (k_store rfl) ?_)))))
  refine Eq.trans (k_push rfl) (Eq.trans (k_aload rfl rfl) (Eq.trans (k_ord o rfl hS rfl hv) (Eq.trans (k_ialdK (n := 5) z rfl rfl (by decide) (by omega) (v := nI (cond (Nat.beq o.toNat 4) 0 (o.toNat + 1))) rfl hz) (k_tsw rfl hn))))
end
theorem okI_68 {T : Int → Int} {L p : Int} : okI T L 68 p = dig T L p ∧ endI T L 68 p = cif (dig T L p) (p + 1) p ∧ valI T L 68 p = T p - 48 := by
  refine ⟨cif_pos rfl, cif_pos rfl, cif_pos rfl⟩
theorem okI_78 {T : Int → Int} {L p : Int} : okI T L 78 p = dig T L p ∧ endI T L 78 p = cif (dig T L p) (cif (dig T L (p + 1)) (p + 1 + 1) (p + 1)) p ∧ valI T L 78 p = cif (dig T L (p + 1)) (10 * (T p - 48) + T (p + 1) - 48) (T p - 48) := by
  refine ⟨?_, ?_, ?_⟩
  · unfold okI; rw [cif_neg (by decide), cif_neg (by decide), cif_pos rfl]
  · unfold endI; rw [cif_neg (by decide), cif_neg (by decide), cif_pos rfl]
  · unfold valI; rw [cif_neg (by decide), cif_neg (by decide), cif_pos rfl]
theorem okI_76 {T : Int → Int} {L p : Int} : okI T L 76 p = ltr T L p ∧ endI T L 76 p = cif (ltr T L p) (p + 1) p ∧ valI T L 76 p = T p := by
  refine ⟨?_, ?_, ?_⟩
  · unfold okI; rw [cif_neg (by decide), cif_pos rfl]
  · unfold endI; rw [cif_neg (by decide), cif_pos rfl]
  · unfold valI; rw [cif_neg (by decide), cif_pos rfl]
theorem okI_l {T : Int → Int} {L c p : Int} (h : ¬ isV c) : okI T L c p = (p < L ∧ T p = c) ∧ endI T L c p = cif (p < L ∧ T p = c) (p + 1) p := by
  have h1 : ¬ c = 68 := fun z => h (Or.inl z)
  have h2 : ¬ c = 76 := fun z => h (Or.inr (Or.inl z))
  have h3 : ¬ c = 78 := fun z => h (Or.inr (Or.inr (Or.inl z)))
  have h4 : ¬ c = 87 := fun z => h (Or.inr (Or.inr (Or.inr z)))
  refine ⟨?_, ?_⟩
  · unfold okI; rw [cif_neg h1, cif_neg h2, cif_neg h3, cif_neg h4]
  · unfold endI; rw [cif_neg h1, cif_neg h2, cif_neg h3, cif_neg h4]
section
variable {T : Int → Int} {L : Int}
theorem okI_87 {p : Int} : okI T L 87 p = dig T L (wP T L p) ∧ endI T L 87 p = cif (dig T L (wP T L p)) (wP T L p + 1) (wP T L p) ∧ valI T L 87 p = cif (mns T L p) (-(T (p + 1) - 48)) (T p - 48) := by
  refine ⟨?_, ?_, ?_⟩
  · unfold okI; rw [cif_neg (by decide), cif_neg (by decide), cif_neg (by decide), cif_pos rfl]
  · unfold endI; rw [cif_neg (by decide), cif_neg (by decide), cif_neg (by decide), cif_pos rfl]
  · unfold valI; rw [cif_neg (by decide), cif_neg (by decide), cif_neg (by decide)]
end
def bndV (c v : Int) : Prop := if c = 68 then 0 ≤ v ∧ v ≤ 9 else if c = 76 then 97 ≤ v ∧ v < 113 else if c = 78 then 0 ≤ v ∧ v ≤ 99 else -9 ≤ v ∧ v ≤ 9
def valsOK : List Int → List Int → Prop
  | [], l => l = []
  | c :: F, l => if c = 68 ∨ c = 76 ∨ c = 78 ∨ c = 87 then ∃ v m, l = v :: m ∧ bndV c v ∧ valsOK F m else valsOK F l
theorem bnd_of {T : Int → Int} {L c p : Int} (hv : isV c) (ok : okI T L c p) : bndV c (valI T L c p) := by
  unfold bndV
  by_cases c1 : c = 68
  · rw [if_pos c1]
    subst c1
    obtain ⟨k1, k2, k3⟩ := okI_68 (T := T) (L := L) (p := p)
    rw [k1] at ok
    rw [k3]
    have := ok.2
    omega
  · rw [if_neg c1]
    by_cases c2 : c = 76
    · rw [if_pos c2]
      subst c2
      obtain ⟨k1, k2, k3⟩ := okI_76 (T := T) (L := L) (p := p)
      rw [k1] at ok
      rw [k3]
      have := ok.2
      omega
    · rw [if_neg c2]
      by_cases c3 : c = 78
      · rw [if_pos c3]
        subst c3
        obtain ⟨k1, k2, k3⟩ := okI_78 (T := T) (L := L) (p := p)
        rw [k1] at ok
        rw [k3]
        have h1 := ok.2
        by_cases z : dig T L (p + 1)
        · rw [cif_pos z]
          have h2 := z.2
          omega
        · rw [cif_neg z]
          omega
      · rw [if_neg c3]
        have c4 : c = 87 := by
          rcases hv with z | z | z | z
          · exact absurd z c1
          · exact absurd z c2
          · exact absurd z c3
          · exact z
        subst c4
        obtain ⟨k1, k2, k3⟩ := okI_87 (T := T) (L := L) (p := p)
        rw [k1] at ok
        rw [k3]
        unfold wP at ok
        by_cases z : mns T L p
        · rw [cif_pos z] at ok ⊢
          have := ok.2
          omega
        · rw [cif_neg z] at ok ⊢
          have := ok.2
          omega
theorem runF_vals {T : Int → Int} {L : Int} : ∀ (F : List Int) (p : Int), (runF T L F p).1 → valsOK F (runF T L F p).2.2 := by
  intro F
  induction F with
  | nil => intro p _; exact rfl
  | cons c F ih =>
    intro p h
    by_cases k : okI T L c p
    · rw [runF_ok k] at h ⊢
      have hi := ih _ h
      show valsOK (c :: F) (cif (isV c) [valI T L c p] [] ++ (runF T L F (endI T L c p)).2.2)
      unfold valsOK
      by_cases v : isV c
      · rw [if_pos (show c = 68 ∨ c = 76 ∨ c = 78 ∨ c = 87 from v), cif_pos v]
        exact ⟨_, _, rfl, bnd_of v k, hi⟩
      · rw [if_neg (show ¬ (c = 68 ∨ c = 76 ∨ c = 78 ∨ c = 87) from v), cif_neg v]
        exact hi
    · rw [runF_no k] at h
      exact absurd h id
/-- a command with its values -/
def cmdOK (x : Int × List Int) : Prop := (x.1 = 103 ∧ ∃ a b, x.2 = [a, b] ∧ (0 ≤ a ∧ a ≤ 99) ∧ 0 ≤ b ∧ b ≤ 9) ∨ (x.1 = 116 ∧ ∃ a b c, x.2 = [a, b, c] ∧ (0 ≤ a ∧ a ≤ 99) ∧ (0 ≤ b ∧ b ≤ 9) ∧ 0 ≤ c ∧ c ≤ 9) ∨ (x.1 = 109 ∧ ∃ a b, x.2 = [a, b] ∧ (0 ≤ a ∧ a ≤ 9) ∧ 0 ≤ b ∧ b ≤ 9) ∨ (x.1 = 119 ∧ ∃ a, x.2 = [a] ∧ -9 ≤ a ∧ a ≤ 9) ∨
  (x.1 = 115 ∧ ∃ a b c, x.2 = [a, b, c] ∧ (0 ≤ a ∧ a ≤ 9) ∧ (0 ≤ b ∧ b ≤ 9) ∧ 97 ≤ c ∧ c < 113)
theorem vals_103 {l : List Int} (h : valsOK (frm 103) l) : ∃ a b, l = [a, b] ∧ (0 ≤ a ∧ a ≤ 99) ∧ 0 ≤ b ∧ b ≤ 9 := by
  obtain ⟨a, m, e1, h1, b, m2, e2, h2, e3⟩ : ∃ v m, l = v :: m ∧ bndV 78 v ∧ ∃ v2 m2, m = v2 :: m2 ∧ bndV 68 v2 ∧ m2 = [] := h
  subst e3 e2 e1
  exact ⟨a, b, rfl, h1, h2⟩
theorem vals_116 {l : List Int} (h : valsOK (frm 116) l) : ∃ a b c, l = [a, b, c] ∧ (0 ≤ a ∧ a ≤ 99) ∧ (0 ≤ b ∧ b ≤ 9) ∧ 0 ≤ c ∧ c ≤ 9 := by
  obtain ⟨a, m, e1, h1, b, m2, e2, h2, c, m3, e3, h3, e4⟩ : ∃ v m, l = v :: m ∧ bndV 78 v ∧ ∃ v2 m2, m = v2 :: m2 ∧ bndV 68 v2 ∧ ∃ v3 m3, m2 = v3 :: m3 ∧ bndV 68 v3 ∧ m3 = [] := h
  subst e4 e3 e2 e1
  exact ⟨a, b, c, rfl, h1, h2, h3⟩
theorem vals_109 {l : List Int} (h : valsOK (frm 109) l) : ∃ a b, l = [a, b] ∧ (0 ≤ a ∧ a ≤ 9) ∧ 0 ≤ b ∧ b ≤ 9 := by
  obtain ⟨a, m, e1, h1, b, m2, e2, h2, e3⟩ : ∃ v m, l = v :: m ∧ bndV 68 v ∧ ∃ v2 m2, m = v2 :: m2 ∧ bndV 68 v2 ∧ m2 = [] := h
  subst e3 e2 e1
  exact ⟨a, b, rfl, h1, h2⟩
theorem vals_119 {l : List Int} (h : valsOK (frm 119) l) : ∃ a, l = [a] ∧ -9 ≤ a ∧ a ≤ 9 := by
  obtain ⟨a, m, e1, h1, e3⟩ : ∃ v m, l = v :: m ∧ bndV 87 v ∧ m = [] := h
  subst e3 e1
  exact ⟨a, rfl, h1⟩
theorem vals_115 {l : List Int} (h : valsOK (frm 115) l) : ∃ a b c, l = [a, b, c] ∧ (0 ≤ a ∧ a ≤ 9) ∧ (0 ≤ b ∧ b ≤ 9) ∧ 97 ≤ c ∧ c < 113 := by
  obtain ⟨a, m, e1, h1, b, m2, e2, h2, c, m3, e3, h3, e4⟩ : ∃ v m, l = v :: m ∧ bndV 68 v ∧ ∃ v2 m2, m = v2 :: m2 ∧ bndV 68 v2 ∧ ∃ v3 m3, m2 = v3 :: m3 ∧ bndV 76 v3 ∧ m3 = [] := h
  subst e4 e3 e2 e1
  exact ⟨a, b, c, rfl, h1, h2, h3⟩
theorem cmd_ok {T : Int → Int} {L p : Int} (h : (cmdR T L p).1) : cmdOK (hereC T L p, (cmdR T L p).2.2) := by
  have hv := runF_vals (T := T) (L := L) (frm (hereC T L p)) p h
  by_cases c1 : hereC T L p = 103
  · rw [c1] at hv
    exact Or.inl ⟨c1, by have := vals_103 hv; unfold cmdR; rw [c1]; exact this⟩
  by_cases c2 : hereC T L p = 116
  · rw [c2] at hv
    exact Or.inr (Or.inl ⟨c2, by have := vals_116 hv; unfold cmdR; rw [c2]; exact this⟩)
  by_cases c3 : hereC T L p = 109
  · rw [c3] at hv
    exact Or.inr (Or.inr (Or.inl ⟨c3, by have := vals_109 hv; unfold cmdR; rw [c3]; exact this⟩))
  by_cases c4 : hereC T L p = 119
  · rw [c4] at hv
    exact Or.inr (Or.inr (Or.inr (Or.inl ⟨c4, by have := vals_119 hv; unfold cmdR; rw [c4]; exact this⟩)))
  have eF : frm (hereC T L p) = frm 115 := by
    unfold frm
    rw [if_neg c1, if_neg c2, if_neg c3, if_neg c4]
    rfl
  have e5 : hereC T L p = 115 := by
    have h' : (runF T L (frm 115) p).1 := by
      unfold cmdR at h
      rw [eF] at h
      exact h
    have ok : okI T L 115 p := Classical.byContradiction fun z => by
      have h2 : (runF T L (115 :: [101, 110, 100, 32, 68, 62, 68, 58, 76]) p).1 := h'
      rw [runF_no z] at h2
      exact h2
    have ok2 : p < L ∧ T p = 115 := by
      rw [(okI_l (T := T) (L := L) (c := 115) (p := p) (by unfold isV; decide)).1] at ok
      exact ok
    unfold hereC
    rw [cif_pos ok2.1]
    exact ok2.2
  rw [e5] at hv
  exact Or.inr (Or.inr (Or.inr (Or.inr ⟨e5, by have := vals_115 hv; unfold cmdR; rw [e5]; exact this⟩)))
theorem prs_ok {T : Int → Int} {L : Int} : ∀ (f : Nat) (p : Int), (prs T L f p).1 → ∀ x ∈ (prs T L f p).2.2, cmdOK x := by
  intro f
  induction f with
  | zero => intro p h; exact absurd h id
  | succ f ih =>
    intro p h x hx
    by_cases c1 : (cmdR T L p).1
    · by_cases c2 : (cmdR T L p).2.1 = L
      · have e : prs T L (f + 1) p = (True, L, [(hereC T L p, (cmdR T L p).2.2)]) := (cif_pos c1).trans (cif_pos c2)
        rw [e] at hx
        rw [List.mem_singleton.mp hx]
        exact cmd_ok c1
      · by_cases c3 : T (cmdR T L p).2.1 = 59
        · have e : prs T L (f + 1) p = ((prs T L f ((cmdR T L p).2.1 + 1)).1, (prs T L f ((cmdR T L p).2.1 + 1)).2.1, (hereC T L p, (cmdR T L p).2.2) :: (prs T L f ((cmdR T L p).2.1 + 1)).2.2) := (cif_pos c1).trans ((cif_neg c2).trans (cif_pos c3))
          rw [e] at hx h
          rcases List.mem_cons.mp hx with z | z
          · rw [z]; exact cmd_ok c1
          · exact ih _ h x z
        · have e : prs T L (f + 1) p = (False, (cmdR T L p).2.1, []) := (cif_pos c1).trans ((cif_neg c2).trans (cif_neg c3))
          rw [e] at h
          exact absurd h id
    · have e : prs T L (f + 1) p = (False, (cmdR T L p).2.1, []) := cif_neg c1
      rw [e] at h
      exact absurd h id
theorem prs_len {T : Int → Int} {L : Int} : ∀ (f : Nat) (p : Int), (prs T L f p).2.2.length ≤ f := by
  intro f
  induction f with
  | zero => intro p; exact Nat.le_refl _
  | succ f ih =>
    intro p
    by_cases c1 : (cmdR T L p).1
    · by_cases c2 : (cmdR T L p).2.1 = L
      · have e : prs T L (f + 1) p = (True, L, [(hereC T L p, (cmdR T L p).2.2)]) := (cif_pos c1).trans (cif_pos c2)
        rw [e]
        show 1 ≤ f + 1
        omega
      · by_cases c3 : T (cmdR T L p).2.1 = 59
        · have e : prs T L (f + 1) p = ((prs T L f ((cmdR T L p).2.1 + 1)).1, (prs T L f ((cmdR T L p).2.1 + 1)).2.1, (hereC T L p, (cmdR T L p).2.2) :: (prs T L f ((cmdR T L p).2.1 + 1)).2.2) := (cif_pos c1).trans ((cif_neg c2).trans (cif_pos c3))
          rw [e]
          have := ih ((cmdR T L p).2.1 + 1)
          show (prs T L f ((cmdR T L p).2.1 + 1)).2.2.length + 1 ≤ f + 1
          omega
        · have e : prs T L (f + 1) p = (False, (cmdR T L p).2.1, []) := (cif_pos c1).trans ((cif_neg c2).trans (cif_neg c3))
          rw [e]
          exact Nat.zero_le _
    · have e : prs T L (f + 1) p = (False, (cmdR T L p).2.1, []) := cif_neg c1
      rw [e]
      exact Nat.zero_le _
def offT (U W : VV) : Prop := (∀ a b, ¬ (2 ≤ a ∧ a ≤ 10 ∧ b = 0) → ¬ (14 ≤ a ∧ a ≤ 21) → ¬ a = 1 → W a b = U a b) ∧ ∀ j, ¬ (j = 11 ∨ j = 12) → W 1 0 j = U 1 0 j
/-- the class's state while commands are tried -/
def clsI (B : Int) (U : VV) : Prop := RI B 0 U ∧ relok U ∧ smok U
/-- the first who can't read it -/
noncomputable def gbI (U : VV) (a b c : Int) : Nat := Classical.epsilon (fun i : Nat => i < pN U a b ∧ garb U (pP U a b i) c ∧ ∀ j : Nat, j < i → ¬ garb U (pP U a b j) c)
/-- what a command comes to in the class -/
noncomputable def clsS (U : VV) (x : Int × List Int) : Int × VV := match x.2 with
  | [a] => (1, upV U 2 0 9 a)
  | [a, b] => if x.1 = 103 then cif (0 ≤ a ∧ a < 32) (1, upV U 3 0 a b) (0, U) else cif ((0 ≤ a ∧ a < U 2 0 8) ∧ 0 ≤ b ∧ b < 4) (1, upV U 6 0 a b) (0, U)
  | [a, b, c] => if x.1 = 116 then cif (((0 ≤ a ∧ a < 32) ∧ 1 ≤ b ∧ b ≤ 9 ∧ 0 ≤ c ∧ c < 4) ∧ U 2 0 8 < 8 ∧ fstI (posIs (U 4 0) a) (U 2 0 8) = -1) (1, towU U a b c) (0, U)
      else cif ((0 ≤ a ∧ a < U 2 0 8) ∧ 0 ≤ b ∧ b < U 2 0 8) (cif (pR U a b) (cif (∃ i : Nat, i < pN U a b ∧ garb U (pP U a b i) c) (0, upV (upV (foundV U a b) 1 0 11 2) 1 0 12 (pP U a b (gbI U a b c + 1))) (1, sentV (foundV U a b) (pP U a b) c (pN U a b))) (0, upV (upV (lostV U b) 1 0 11 1) 1 0 12 a)) (0, U)
  | _ => (0, U)
/-- the class did it -/
def stpC (d : Nat) (B i : Int) (U : VV) (k : Int) (U' : VV) : Prop := (∀ q : QQ, RUN (d + 5) 191 (am_en 191 [aR 1 0, aI (iI i)]) (HM q U) = rI k (HM q U')) ∧ offT U U' ∧ (k = 0 ∨ k = 1) ∧ relok U' ∧ smok U' ∧ (k = 1 → clsI (B + 10) U')
section
variable {d : Nat} {B i : Int} {U V : VV}
theorem offT_refl (U : VV) : offT U U := ⟨fun _ _ _ _ _ => rfl, fun _ _ => rfl⟩
theorem offT_row {A : Nat} {e x : Int} (h : 2 ≤ A ∧ A ≤ 10) : offT U (upV U A 0 e x) := ⟨fun a b z1 z2 z3 => upV_off2 (by omega), fun j z => by rw [upV_off2 (by omega)]⟩
theorem val0 {W : VV} {a b : Int} {l : List Int} (h : valsAt W a (b :: l)) : W 30 0 (a + 0) = b := h 0 (Nat.succ_pos _)
theorem val1 {W : VV} {a b c : Int} {l : List Int} (h : valsAt W a (b :: c :: l)) : W 30 0 (a + 1) = c := h 1 (Nat.succ_lt_succ (Nat.succ_pos _))
theorem val2 {W : VV} {a b c e : Int} {l : List Int} (h : valsAt W a (b :: c :: e :: l)) : W 30 0 (a + 2) = e := h 2 (Nat.succ_lt_succ (Nat.succ_lt_succ (Nat.succ_pos _)))
theorem no01 {α : Prop} (z : (0 : Int) = 1) : α := absurd z (by decide)
theorem no10 {α : Prop} (z : (1 : Int) = 0) : α := absurd z (by decide)
theorem stc_103 {a b : Int} (hB : B ≤ 999900) (s : clsI B U) (hi : 0 ≤ i ∧ i < 10) (cu : cmdAt U i (103, [a, b])) (ha : 0 ≤ a ∧ a ≤ 99) (hb : 0 ≤ b ∧ b ≤ 9) : stpC d B i U (clsS U (103, [a, b])).1 (clsS U (103, [a, b])).2 := by
  obtain ⟨ri, rl, sm⟩ := s
  have rk : rowok U := rowok_of ri.1 (by omega)
  have r1 : R32 a := by constructor <;> omega
  have r2 : R32 b := by constructor <;> omega
  have ec : ∀ q : QQ, RUN (d + 5) 191 (am_en 191 [aR 1 0, aI (iI i)]) (HM q U) = RUN (d + 5) 191 (84, [sR 1 0, sI i, sR 0 3, sI a, sI b, sI (U 30 0 (i * 3 + 2))], []) (HM q U) := fun q => by
    rw [try_head (d := d + 4) (b := 3) (o := 0) (z := 1) (v := 0) (n := 84) hi (by rw [cu.1]; rfl) rfl rfl (by decide) rfl rfl, val0 cu.2, val1 cu.2]
  by_cases c : 0 ≤ a ∧ a < 32
  · have e : clsS U (103, [a, b]) = (1, upV U 3 0 a b) := cif_pos c
    rw [e]
    exact ⟨fun q => (ec q).trans (Eq.trans (k_aload rfl rfl) (Eq.trans (k_iload rfl rfl) (Eq.trans (k_iload rfl rfl) (Eq.trans (RUN_ci rfl rfl rfl ((e_195 (d := d + 2) rk r1 r2).trans (cif_pos ⟨c, hb⟩)) (qle_refl _)) (k_iret rfl (iI_bool (Or.inr rfl))))))), offT_row (by decide), Or.inr rfl, rl, sm, fun _ => ⟨RI_mono (RI_ground ri hb) (by omega), rl, sm⟩⟩
  · have e : clsS U (103, [a, b]) = (0, U) := cif_neg c
    rw [e]
    exact ⟨fun q => (ec q).trans (Eq.trans (k_aload rfl rfl) (Eq.trans (k_iload rfl rfl) (Eq.trans (k_iload rfl rfl) (Eq.trans (RUN_ci rfl rfl rfl ((e_195 (d := d + 2) rk r1 r2).trans (cif_neg (fun z => c z.1))) (qle_refl _)) (k_iret rfl (iI_bool (Or.inl rfl))))))), offT_refl U, Or.inl rfl, rl, sm, no01⟩
theorem stc_109 {a b : Int} (hB : B ≤ 999900) (s : clsI B U) (hi : 0 ≤ i ∧ i < 10) (cu : cmdAt U i (109, [a, b])) (ha : 0 ≤ a ∧ a ≤ 9) (hb : 0 ≤ b ∧ b ≤ 9) : stpC d B i U (clsS U (109, [a, b])).1 (clsS U (109, [a, b])).2 := by
  obtain ⟨ri, rl, sm⟩ := s
  have rk : rowok U := rowok_of ri.1 (by omega)
  have r1 : R32 a := by constructor <;> omega
  have r2 : R32 b := by constructor <;> omega
  have ec : ∀ q : QQ, RUN (d + 5) 191 (am_en 191 [aR 1 0, aI (iI i)]) (HM q U) = RUN (d + 5) 191 (102, [sR 1 0, sI i, sR 0 5, sI a, sI b, sI (U 30 0 (i * 3 + 2))], []) (HM q U) := fun q => by
    rw [try_head (d := d + 4) (b := 5) (o := 2) (z := 3) (v := 2) (n := 102) hi (by rw [cu.1]; rfl) rfl rfl (by decide) rfl rfl, val0 cu.2, val1 cu.2]
  by_cases c : (0 ≤ a ∧ a < U 2 0 8) ∧ 0 ≤ b ∧ b < 4
  · have e : clsS U (109, [a, b]) = (1, upV U 6 0 a b) := cif_pos c
    rw [e]
    exact ⟨fun q => (ec q).trans (Eq.trans (k_aload rfl rfl) (Eq.trans (k_iload rfl rfl) (Eq.trans (k_iload rfl rfl) (Eq.trans (RUN_ci rfl rfl rfl (((e_197 (d := d + 3) rk r1 r2).trans (cif_pos c.1)).trans (cif_pos c.2)) (qle_refl _)) (k_iret rfl (iI_bool (Or.inr rfl))))))), offT_row (by decide), Or.inr rfl, rl, sm, fun _ => ⟨RI_mono (RI_mood ri c.2) (by omega), rl, sm⟩⟩
  · have e : clsS U (109, [a, b]) = (0, U) := cif_neg c
    rw [e]
    have e1 : ∀ q : QQ, RUN (d + 4) 197 (am_en 197 [aR 1 0, aI (iI a), aI (iI b)]) (HM q U) = rI 0 (HM q U) := fun q => by
      rw [e_197 (d := d + 3) rk r1 r2]
      exact cif_eq (fun z => cif_neg (fun y => c ⟨z, y⟩)) (fun _ => rfl)
    exact ⟨fun q => (ec q).trans (Eq.trans (k_aload rfl rfl) (Eq.trans (k_iload rfl rfl) (Eq.trans (k_iload rfl rfl) (Eq.trans (RUN_ci rfl rfl rfl (e1 q) (qle_refl _)) (k_iret rfl (iI_bool (Or.inl rfl))))))), offT_refl U, Or.inl rfl, rl, sm, no01⟩
theorem stc_119 {a : Int} (s : clsI B U) (hi : 0 ≤ i ∧ i < 10) (cu : cmdAt U i (119, [a])) (ha : -9 ≤ a ∧ a ≤ 9) : stpC d B i U (clsS U (119, [a])).1 (clsS U (119, [a])).2 := by
  obtain ⟨ri, rl, sm⟩ := s
  have ec : ∀ q : QQ, RUN (d + 5) 191 (am_en 191 [aR 1 0, aI (iI i)]) (HM q U) = RUN (d + 5) 191 (110, [sR 1 0, sI i, sR 0 6, sI a, sI (U 30 0 (i * 3 + 1)), sI (U 30 0 (i * 3 + 2))], []) (HM q U) := fun q => by
    rw [try_head (d := d + 4) (b := 6) (o := 3) (z := 4) (v := 3) (n := 110) hi (by rw [cu.1]; rfl) rfl rfl (by decide) rfl rfl, val0 cu.2]
  exact ⟨fun q => (ec q).trans (Eq.trans (k_aload rfl rfl) (Eq.trans (k_getfr rfl rfl rfl) (Eq.trans (k_iload rfl rfl) (Eq.trans (k_putfi 9 rfl rfl rfl rfl trivial) (Eq.trans (k_pushi 1 rfl rfl) (k_iret rfl (iI_bool (Or.inr rfl)))))))), offT_row (by decide), Or.inr rfl, rl, sm, fun _ => ⟨RI_mono (RI_wind ri ha) (by omega), rl, sm⟩⟩
theorem stc_116 {a b c : Int} (hB : B ≤ 999900) (s : clsI B U) (hi : 0 ≤ i ∧ i < 10) (cu : cmdAt U i (116, [a, b, c])) (ha : 0 ≤ a ∧ a ≤ 99) (hb : 0 ≤ b ∧ b ≤ 9) (hc : 0 ≤ c ∧ c ≤ 9) : stpC d B i U (clsS U (116, [a, b, c])).1 (clsS U (116, [a, b, c])).2 := by
  obtain ⟨ri, rl, sm⟩ := s
  have rk : rowok U := rowok_of ri.1 (by omega)
  have hn := rk_n rk
  have r1 : R32 a := by constructor <;> omega
  have r2 : R32 b := by constructor <;> omega
  have r3 : R32 c := by constructor <;> omega
  have ec : ∀ q : QQ, RUN (d + 5) 191 (am_en 191 [aR 1 0, aI (iI i)]) (HM q U) = RUN (d + 5) 191 (92, [sR 1 0, sI i, sR 0 4, sI a, sI b, sI c], []) (HM q U) := fun q => by
    rw [try_head (d := d + 4) (b := 4) (o := 1) (z := 2) (v := 1) (n := 92) hi (by rw [cu.1]; rfl) rfl rfl (by decide) rfl rfl, val0 cu.2, val1 cu.2, val2 cu.2]
  by_cases c1 : ((0 ≤ a ∧ a < 32) ∧ 1 ≤ b ∧ b ≤ 9 ∧ 0 ≤ c ∧ c < 4) ∧ U 2 0 8 < 8 ∧ fstI (posIs (U 4 0) a) (U 2 0 8) = -1
  · have e : clsS U (116, [a, b, c]) = (1, towU U a b c) := cif_pos c1
    rw [e]
    have et : offT U (towU U a b c) := ⟨fun a' b' z1 z2 z3 => by unfold towU; rw [upV_off2 (by omega), upV_off2 (by omega), upV_off2 (by omega), upV_off2 (by omega)], fun j z => by unfold towU; rw [upV_off2 (by omega), upV_off2 (by omega), upV_off2 (by omega), upV_off2 (by omega)]⟩
    refine ⟨fun q => (ec q).trans (Eq.trans (k_aload rfl rfl) (Eq.trans (k_iload rfl rfl) (Eq.trans (k_iload rfl rfl) (Eq.trans (k_iload rfl rfl) (Eq.trans (RUN_ci rfl rfl rfl (((((e_196 (d := d + 2) rk r1 r2 r3).trans (cif_pos c1.1)).trans (cif_pos c1.2)).trans (cif_pos c1.2.1)).trans (cif_neg (by omega))) (qle_refl _)) (k_iret rfl (iI_bool (Or.inr rfl)))))))), et, Or.inr rfl, rl, sm, fun _ => ⟨RI_mono (RI_add ri c1.2.1 c1.1.1 (by omega) (by omega) c1.2.2) (by omega), rl, sm⟩⟩
  · have e : clsS U (116, [a, b, c]) = (0, U) := cif_neg c1
    rw [e]
    have e1 : ∀ q : QQ, RUN (d + 4) 196 (am_en 196 [aR 1 0, aI (iI a), aI (iI b), aI (iI c)]) (HM q U) = rI 0 (HM q U) := fun q => by
      rw [e_196 (d := d + 2) rk r1 r2 r3]
      exact cif_eq (fun z => cif_neg (fun y => c1 ⟨z, y⟩)) (fun _ => rfl)
    exact ⟨fun q => (ec q).trans (Eq.trans (k_aload rfl rfl) (Eq.trans (k_iload rfl rfl) (Eq.trans (k_iload rfl rfl) (Eq.trans (k_iload rfl rfl) (Eq.trans (RUN_ci rfl rfl rfl (e1 q) (qle_refl _)) (k_iret rfl (iI_bool (Or.inl rfl)))))))), offT_refl U, Or.inl rfl, rl, sm, no01⟩
end
section
variable {U W : VV}
theorem smok_eq (h : W 23 0 = U 23 0) (k : smok U) : smok W := by
  unfold smok; rw [h]; exact k
theorem relok_eq (h : ∀ a b, 17 ≤ a → a ≤ 20 → W a b = U a b) (rl : relok U) : relok W := by
  unfold relok
  refine ⟨fun i j hi hj => ?_, fun i j hi hj => ?_, fun j hj => ?_⟩
  · rw [h 17 _ (by omega) (by omega)]; exact rl.1 i j hi hj
  · rw [h 19 _ (by omega) (by omega)]; exact rl.2.1 i j hi hj
  · rw [h 20 0 (by omega) (by omega)]; exact rl.2.2 j hj
end
/-- the class's sight and relays -/
def offSw (V W : VV) : Prop := ∀ a b, ¬ (14 ≤ a ∧ a ≤ 21) → W a b = V a b
theorem offSw_refl (V : VV) : offSw V V := fun _ _ _ => rfl
theorem offSw_trans {U V W : VV} (h : offSw U V) (k : offSw V W) : offSw U W := fun a b z => (k a b z).trans (h a b z)
theorem offSw_setA {V : VV} {a : Nat} {f : Int → Int} (h : 14 ≤ a ∧ a ≤ 21) : offSw V (setA V a 0 f) := fun a' b' z => setA_off (by omega)
theorem offSw_up {V : VV} {a b : Nat} {e v : Int} (h : 14 ≤ a ∧ a ≤ 21) : offSw V (upV V a b e v) := fun a' b' z => upV_off2 (by omega)
theorem offSw_grid {V : VV} {A : Nat} {w : Int → Int → Int} {n i j : Int} (h : 14 ≤ A ∧ A ≤ 21) : offSw V (gridV A V w n i j) := fun a b z => by
  funext k
  unfold gridV
  rw [beq_no (by omega)]
  rfl
theorem offSw_row {V : VV} {A : Nat} {f : Int → Int} {i : Int} (h : 14 ≤ A ∧ A ≤ 21) : offSw V (rowV A V f i) := fun a b z => by
  funext k
  unfold rowV
  rw [beq_no (show a ≠ A by omega)]
  rfl
theorem offSw_path {V : VV} {P : Nat → Int} {len D : Int} : offSw V (pathV V P len D) := fun a b z => by
  funext k
  unfold pathV
  rw [beq_no (show a ≠ 15 by omega), beq_no (show a ≠ 21 by omega)]
  rfl
theorem offSw_steps {V : VV} : offSw V (stepsV V) := offSw_grid (by decide)
theorem offSw_settle {V : VV} {x : Int} : offSw V (settleV V x) := offSw_setA (by decide)
theorem offSw_look {V : VV} : offSw V (lookV V) := offSw_row (by decide)
theorem offSw_found {V : VV} {x y : Int} : offSw V (foundV V x y) := offSw_trans (offSw_trans offSw_steps offSw_settle) offSw_path
theorem offSw_lost {V : VV} {y : Int} : offSw V (lostV V y) := offSw_trans (offSw_trans offSw_steps offSw_settle) (offSw_up (by decide))
section
variable {d : Nat} {B i : Int} {U V : VV} {a b c : Int}
theorem offT_S {W : VV} (h : offSw U W) : offT U W := ⟨fun a b z1 z2 z3 => h a b z2, fun j _ => by rw [h 1 0 (by omega)]⟩
theorem offT_ref {W : VV} {x y : Int} (h : offT U W) : offT U (upV (upV W 1 0 11 x) 1 0 12 y) := ⟨fun a b z1 z2 z3 => by rw [upV_off2 (by omega), upV_off2 (by omega)]; exact h.1 a b z1 z2 z3, fun j z => by rw [upV_at, if_neg (by omega), upV_at, if_neg (by omega)]; exact h.2 j z⟩
theorem offT_sent {W : VV} {P : Nat → Int} {l : Int} {k : Nat} (h : offT U W) : offT U (sentV W P l k) := ⟨fun a b z1 z2 z3 => by rw [sentV_off (by omega)]; exact h.1 a b z1 z2 z3, fun j z => by rw [sentV_off (by omega)]; exact h.2 j z⟩
theorem gb_is {j : Nat} (h1 : j < pN U a b) (h2 : garb U (pP U a b j) c) (h3 : ∀ i : Nat, i < j → ¬ garb U (pP U a b i) c) : gbI U a b c = j := by
  have h := Classical.epsilon_spec (p := fun i : Nat => i < pN U a b ∧ garb U (pP U a b i) c ∧ ∀ j : Nat, j < i → ¬ garb U (pP U a b j) c) ⟨j, h1, h2, h3⟩
  have h : gbI U a b c < pN U a b ∧ garb U (pP U a b (gbI U a b c)) c ∧ ∀ j : Nat, j < gbI U a b c → ¬ garb U (pP U a b j) c := h
  rcases Nat.lt_trichotomy (gbI U a b c) j with z | z | z
  · exact absurd h.2.1 (h3 _ z)
  · exact z
  · exact absurd h2 (h.2.2 _ z)
theorem stc_115 (hB : B ≤ 999900) (s : clsI B U) (hi : 0 ≤ i ∧ i < 10) (cu : cmdAt U i (115, [a, b, c])) (ha : 0 ≤ a ∧ a ≤ 9) (hb : 0 ≤ b ∧ b ≤ 9) (hc : 97 ≤ c ∧ c < 113) : stpC d B i U (clsS U (115, [a, b, c])).1 (clsS U (115, [a, b, c])).2 := by
  obtain ⟨ri, rl, sm⟩ := s
  have rk : rowok U := rowok_of ri.1 (by omega)
  have hn := rk_n rk
  have r1 : R32 a := by constructor <;> omega
  have r2 : R32 b := by constructor <;> omega
  have ec : ∀ q : QQ, RUN (d + 5) 191 (am_en 191 [aR 1 0, aI (iI i)]) (HM q U) = RUN (d + 5) 191 (120, [sR 1 0, sI i, sR 0 7, sI a, sI b, sI c], []) (HM q U) := fun q => by
    rw [try_head (d := d + 4) (b := 7) (o := 4) (z := 0) (v := 4) (n := 120) hi (by rw [cu.1]; rfl) rfl rfl (by decide) rfl rfl, val0 cu.2, val1 cu.2, val2 cu.2]
  have stop : ∀ q : QQ, RUN (d + 5) 191 (154, [sR 1 0, sI i, sR 0 7, sI a, sI b, sI c], []) (HM q U) = rI 0 (HM q U) := fun q => Eq.trans (k_pushi 0 rfl rfl) (k_iret rfl (iI_bool (Or.inl rfl)))
  by_cases t : (0 ≤ a ∧ a < U 2 0 8) ∧ 0 ≤ b ∧ b < U 2 0 8
  · have mid : ∀ (q : QQ) (k : Int) (W : VV), (k = 0 ∨ k = 1) → RUN (d + 4) 132 (am_en 132 [aR 1 0, aI (iI a), aI (iI b), aI (iI c)]) (HM q U) = rI k (HM q W) → RUN (d + 5) 191 (am_en 191 [aR 1 0, aI (iI i)]) (HM q U) = rI k (HM q W) := fun q k W hk e => by
      refine (ec q).trans (Eq.trans (k_aload rfl rfl) (Eq.trans (k_iload rfl rfl) (Eq.trans (RUN_ci rfl rfl rfl (s_70 rk r1) (qle_refl _)) (Eq.trans (Eq.trans (k_ifcN (0 ≤ a ∧ a < U 2 0 8) rfl b2i_eq0) (cif_pos t.1)) ?_))))
      refine Eq.trans (k_aload rfl rfl) (Eq.trans (k_iload rfl rfl) (Eq.trans (RUN_ci rfl rfl rfl (s_70 rk r2) (qle_refl _)) (Eq.trans (Eq.trans (k_ifcN (0 ≤ b ∧ b < U 2 0 8) rfl b2i_eq0) (cif_pos t.2)) ?_)))
      refine Eq.trans (k_aload rfl rfl) (Eq.trans (k_iload rfl rfl) (Eq.trans (k_iload rfl rfl) (Eq.trans (k_iload rfl rfl) (Eq.trans (k_un (c := c) rfl ((iI_i2c c).trans (by rw [show c % 65536 = c by omega]))) (Eq.trans (RUN_ci rfl rfl rfl e (qle_refl _)) ?_)))))
      rcases hk with rfl | rfl
      · exact Eq.trans (Eq.trans (k_ifc ((0 : Int) = 0) rfl (iI_eq0 (show R32 (0 : Int) by decide))) (cif_pos rfl)) (Eq.trans (k_pushi 0 rfl rfl) (k_iret rfl (iI_bool (Or.inl rfl))))
      · exact Eq.trans (Eq.trans (k_ifc ((1 : Int) = 0) rfl (iI_eq0 (show R32 (1 : Int) by decide))) (cif_neg (by decide))) (Eq.trans (k_pushi 1 rfl rfl) (Eq.trans (k_goto rfl) (k_iret rfl (iI_bool (Or.inr rfl)))))
    have cs := fun q : QQ => s_132 (d := d) (q := q) ri.1 (by omega) rl sm t.1 t.2 hc
    by_cases p : pR U a b
    · obtain ⟨f1, f2, f3, f4, f5, f6, f7⟩ := found_p rk rl t.1 t.2 p
      by_cases g : ∃ j : Nat, j < pN U a b ∧ garb U (pP U a b j) c
      · have e : clsS U (115, [a, b, c]) = (0, upV (upV (foundV U a b) 1 0 11 2) 1 0 12 (pP U a b (gbI U a b c + 1))) := (cif_pos t).trans ((cif_pos p).trans (cif_pos g))
        rw [e]
        refine ⟨fun q => mid q 0 _ (Or.inl rfl) ?_, offT_ref (offT_S offSw_found), Or.inl rfl, f7, sm, no01⟩
        rcases cs q with ⟨z, -⟩ | ⟨-, j, j1, j2, j3, j4⟩ | ⟨-, z, -⟩
        · exact absurd p z
        · rw [gb_is j1 j2 j3]
          exact j4
        · obtain ⟨j, j1, j2⟩ := g
          exact absurd j2 (z j j1)
      · have e : clsS U (115, [a, b, c]) = (1, sentV (foundV U a b) (pP U a b) c (pN U a b)) := (cif_pos t).trans ((cif_pos p).trans (cif_neg g))
        rw [e]
        have rf : RI B 0 (foundV U a b) := RI_off (fun x z1 z2 => offSw_found x 0 (by omega)) ri
        have s23 : sentV (foundV U a b) (pP U a b) c (pN U a b) 23 0 = foundV U a b 23 0 := sentV_off (by omega)
        have sm2 : smok (sentV (foundV U a b) (pP U a b) c (pN U a b)) := smok_eq (U := foundV U a b) s23 sm
        refine ⟨fun q => mid q 1 _ (Or.inr rfl) ?_, offT_sent (offT_S offSw_found), Or.inr rfl, relok_eq (fun x y z1 z2 => sentV_off (by omega)) f7, sm2, fun _ => ⟨RI_sent rf hc f2 (fun j hj => (f6 j hj).2), relok_eq (fun x y z1 z2 => sentV_off (by omega)) f7, sm2⟩⟩
        rcases cs q with ⟨z, -⟩ | ⟨-, j, j1, j2, -⟩ | ⟨-, -, z⟩
        · exact absurd p z
        · exact absurd ⟨j, j1, j2⟩ g
        · exact z
    · have e : clsS U (115, [a, b, c]) = (0, upV (upV (lostV U b) 1 0 11 1) 1 0 12 a) := (cif_pos t).trans (cif_neg p)
      rw [e]
      refine ⟨fun q => mid q 0 _ (Or.inl rfl) ?_, offT_ref (offT_S offSw_lost), Or.inl rfl, lost_rl rk rl t.2, sm, no01⟩
      rcases cs q with ⟨-, z⟩ | ⟨z, -⟩ | ⟨z, -⟩
      · exact z
      · exact absurd z p
      · exact absurd z p
  · have e : clsS U (115, [a, b, c]) = (0, U) := cif_neg t
    rw [e]
    refine ⟨fun q => ?_, offT_refl U, Or.inl rfl, rl, sm, no01⟩
    refine (ec q).trans (Eq.trans (k_aload rfl rfl) (Eq.trans (k_iload rfl rfl) (Eq.trans (RUN_ci rfl rfl rfl (s_70 rk r1) (qle_refl _)) (Eq.trans (k_ifcN (0 ≤ a ∧ a < U 2 0 8) rfl b2i_eq0) (cif_eq (fun t1 => ?_) (fun _ => stop q))))))
    exact Eq.trans (k_aload rfl rfl) (Eq.trans (k_iload rfl rfl) (Eq.trans (RUN_ci rfl rfl rfl (s_70 rk r2) (qle_refl _)) (Eq.trans (Eq.trans (k_ifcN (0 ≤ b ∧ b < U 2 0 8) rfl b2i_eq0) (cif_neg (fun z => t ⟨t1, z⟩))) (stop q))))
theorem stc_all {x : Int × List Int} (hB : B ≤ 999900) (s : clsI B U) (hi : 0 ≤ i ∧ i < 10) (cu : cmdAt U i x) (h : cmdOK x) : stpC d B i U (clsS U x).1 (clsS U x).2 := by
  obtain ⟨x1, x2⟩ := x
  rcases h with ⟨h, a, b, e, ha, hb⟩ | ⟨h, a, b, c, e, ha, hb, hc⟩ | ⟨h, a, b, e, ha, hb⟩ | ⟨h, a, e, ha⟩ | ⟨h, a, b, c, e, ha, hb, hc⟩
  · obtain rfl : x1 = 103 := h
    obtain rfl : x2 = [a, b] := e
    exact stc_103 hB s hi cu ha hb
  · obtain rfl : x1 = 116 := h
    obtain rfl : x2 = [a, b, c] := e
    exact stc_116 hB s hi cu ha hb hc
  · obtain rfl : x1 = 109 := h
    obtain rfl : x2 = [a, b] := e
    exact stc_109 hB s hi cu ha hb
  · obtain rfl : x1 = 119 := h
    obtain rfl : x2 = [a] := e
    exact stc_119 s hi cu ha
  · obtain rfl : x1 = 115 := h
    obtain rfl : x2 = [a, b, c] := e
    exact stc_115 hB s hi cu ha hb hc
end
noncomputable def runC : Int → List (Int × List Int) → VV → Int × VV
  | _, [], U => (-1, U)
  | i, x :: xs, U => cif ((clsS U x).1 = 1) (runC (i + 1) xs (clsS U x).2) (i, (clsS U x).2)
theorem offT_trans {U V W : VV} (h : offT U V) (k : offT V W) : offT U W := ⟨fun a b z1 z2 z3 => (k.1 a b z1 z2 z3).trans (h.1 a b z1 z2 z3), fun j z => (k.2 j z).trans (h.2 j z)⟩
theorem lc_go {d : Nat} : ∀ (xs : List (Int × List Int)) (i : Int) (U : VV) (B : Int), clsI B U → U 27 0 6 = i + xs.length → 0 ≤ i → i + xs.length ≤ 10 → B + 10 * xs.length ≤ 999900 → (∀ j : Nat, j < xs.length → cmdAt U (i + j) (xs.getD j (0, []))) → (∀ x ∈ xs, cmdOK x) →
    offT U (runC i xs U).2 ∧ relok (runC i xs U).2 ∧ smok (runC i xs U).2 ∧ ((runC i xs U).1 = -1 → clsI (B + 10 * xs.length) (runC i xs U).2) ∧ ((runC i xs U).1 = -1 ∨ 0 ≤ (runC i xs U).1 ∧ (runC i xs U).1 ≤ 9) ∧
      ∀ (q : QQ) (l : Option AV), RUN (d + 6) 171 (54, [sR 1 0, l, sI i], []) (HM q U) = cif ((runC i xs U).1 = -1) (RUN (d + 6) 171 (106, [sR 1 0, l, sI (i + xs.length)], []) (HM q (runC i xs U).2)) (RUN (d + 6) 171 (73, [sR 1 0, l, sI (runC i xs U).1], []) (HM q (runC i xs U).2)) := by
  intro xs
  induction xs with
  | nil =>
    intro i U B ci h6 hi hn hB ca ok
    have h6 : U 27 0 6 = i + 0 := h6
    refine ⟨offT_refl U, ci.2.1, ci.2.2, fun _ => ⟨RI_mono ci.1 (by omega), ci.2⟩, Or.inl rfl, fun q l => ?_⟩
    have e : (runC i [] U).1 = -1 := rfl
    rw [cif_pos e]
    have hn : i + 0 ≤ 10 := hn
    refine Eq.trans (k_iload rfl rfl) (Eq.trans (k_aload rfl rfl) (Eq.trans (k_getfr rfl rfl rfl) (Eq.trans (k_getfi 6 rfl rfl rfl rfl) (Eq.trans (Eq.trans (k_icmpc (U 27 0 6 ≤ i) rfl (iI_le (by constructor <;> omega) (by constructor <;> omega))) (cif_pos (by omega))) ?_))))
    rw [show i + (([] : List (Int × List Int)).length : Int) = i from Int.add_zero i]
    rfl
  | cons x xs ih =>
    intro i U B ci h6 hi hn hB ca ok
    have h6 : U 27 0 6 = i + ((xs.length + 1 : Nat) : Int) := h6
    have hn : i + ((xs.length + 1 : Nat) : Int) ≤ 10 := hn
    have hB : B + 10 * ((xs.length + 1 : Nat) : Int) ≤ 999900 := hB
    have c0 := ca 0 (Nat.succ_pos _)
    rw [show i + ((0 : Nat) : Int) = i by omega] at c0
    have c0 : cmdAt U i x := c0
    obtain ⟨s1, s2, s3, s4, s5, s6⟩ := stc_all (d := d) (by omega) ci ⟨hi, by omega⟩ c0 (ok x List.mem_cons_self)
    have go : ∀ (q : QQ) (l : Option AV), RUN (d + 6) 171 (54, [sR 1 0, l, sI i], []) (HM q U) = cif ((clsS U x).1 = 1) (RUN (d + 6) 171 (54, [sR 1 0, l, sI (i + 1)], []) (HM q (clsS U x).2)) (RUN (d + 6) 171 (73, [sR 1 0, l, sI i], []) (HM q (clsS U x).2)) := fun q l => by
      refine Eq.trans (k_iload rfl rfl) (Eq.trans (k_aload rfl rfl) (Eq.trans (k_getfr rfl rfl rfl) (Eq.trans (k_getfi 6 rfl rfl rfl rfl) (Eq.trans (Eq.trans (k_icmpc (U 27 0 6 ≤ i) rfl (iI_le (by constructor <;> omega) (by constructor <;> omega))) (cif_neg (by omega))) ?_))))
      refine Eq.trans (k_aload rfl rfl) (Eq.trans (k_iload rfl rfl) (Eq.trans (RUN_ci rfl rfl rfl (s1 q) (qle_refl _)) ?_))
      rcases s3 with z | z
      · rw [z, cif_neg (by decide)]
        exact (k_ifcN ((0 : Int) = 0) rfl (iI_ne0 (show R32 (0 : Int) by decide))).trans (cif_pos rfl)
      · rw [z, cif_pos rfl]
        exact Eq.trans (Eq.trans (k_ifcN ((1 : Int) = 0) rfl (iI_ne0 (show R32 (1 : Int) by decide))) (cif_neg (by decide))) (Eq.trans (k_iinc 1 rfl rfl rfl) (k_goto rfl))
    by_cases c : (clsS U x).1 = 1
    · have e : runC i (x :: xs) U = runC (i + 1) xs (clsS U x).2 := cif_pos c
      have e27 : (clsS U x).2 27 0 6 = U 27 0 6 := by rw [s2.1 27 0 (by omega) (by omega) (by omega)]
      obtain ⟨j1, j2, j3, j4, j5, j6⟩ := ih (i + 1) (clsS U x).2 (B + 10) (s6 c) (by rw [e27, h6]; omega) (by omega) (by omega) (by omega) (fun j hj => by
        have := ca (j + 1) (Nat.succ_lt_succ hj)
        rw [show i + ((j + 1 : Nat) : Int) = i + 1 + j by omega] at this
        obtain ⟨y1, y2⟩ := this
        exact ⟨by rw [s2.1 29 0 (by omega) (by omega) (by omega)]; exact y1, fun z hz => by rw [s2.1 30 0 (by omega) (by omega) (by omega)]; exact y2 z hz⟩) (fun y hy => ok y (List.mem_cons_of_mem _ hy))
      rw [e]
      refine ⟨offT_trans s2 j1, j2, j3, fun z => ?_, j5, fun q l => ?_⟩
      · obtain ⟨y1, y2⟩ := j4 z
        refine ⟨RI_mono y1 ?_, y2⟩
        show B + 10 + 10 * (xs.length : Int) ≤ B + 10 * ((xs.length + 1 : Nat) : Int)
        omega
      · rw [go q l, cif_pos c, j6 q l]
        rw [show i + (((x :: xs).length : Nat) : Int) = i + 1 + xs.length by show i + ((xs.length + 1 : Nat) : Int) = _; omega]
    · have e : runC i (x :: xs) U = (i, (clsS U x).2) := cif_neg c
      rw [e]
      have hne : ¬ ((i, (clsS U x).2) : Int × VV).1 = -1 := fun z => by
        have : i = -1 := z
        omega
      refine ⟨s2, s4, s5, fun z => absurd z hne, Or.inr ⟨hi, ?_⟩, fun q l => ?_⟩
      · show i ≤ 9
        omega
      · rw [go q l, cif_neg c, cif_neg hne]
