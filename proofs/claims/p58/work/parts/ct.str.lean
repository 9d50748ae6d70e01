/-! the machine's own texts: builders and their growth -/
theorem sh_r0 (a : Int32) : a >>> (iI 0 &&& 31) = a := by
  show a >>> (0 : Int32) = a
  exact Int32.shiftRight_zero
theorem sh_l0 (a : Int32) : a <<< (iI 0 &&& 31) = a := by
  show a <<< (0 : Int32) = a
  exact Int32.shiftLeft_zero
section
variable {d b : Nat} {q : QQ} {V : VV} {fs : List AV}
theorem c_360 (hb : q.1.2.2 b = some (Sum.inr (9, fs))) (hf : fs.getD 1 aN = aI 0) (h1 : V 46 b 1 = 0) : RUN d 360 (am_en 360 [aR 46 b]) (HM q V) = rI 1 (HM q V) := by
  refine (show RUN d 360 (0, [sR 46 b], []) (HM q V) = _ from ?_)
  refine Eq.trans (k_pushi 1 rfl rfl) ?_
  refine Eq.trans (Eq.trans (k_ifc ((1 : Int) = 0) rfl (iI_eq0 ⟨by decide, by decide⟩)) (cif_neg (by decide))) ?_
  refine Eq.trans (k_aload rfl rfl) ?_
  refine Eq.trans (k_getfi 1 rfl rfl hb hf) ?_
  rw [h1]
  refine Eq.trans (Eq.trans (k_ifcN ((0 : Int) = 0) rfl (iI_ne0 ⟨by decide, by decide⟩)) (cif_pos rfl)) ?_
  refine Eq.trans (k_pushi 1 rfl rfl) ?_
  refine Eq.trans (k_goto rfl) ?_
  exact k_iret rfl (iI_bool (z := 1) (by decide))
theorem c_361 {x : Int} (h : 0 ≤ x ∧ x < 128) : RUN d 361 (am_en 361 [aI (iI x)]) (HM q V) = rI 1 (HM q V) := by
  refine (show RUN d 361 (0, [sI x], []) (HM q V) = _ from ?_)
  refine Eq.trans (k_iload rfl rfl) ?_
  refine Eq.trans (k_pushi 255 rfl rfl) ?_
  refine Eq.trans (Eq.trans (k_icmpc ((255 : Int) < x) rfl (iI_lt ⟨by decide, by decide⟩ (by omega))) (cif_neg (by omega))) ?_
  refine Eq.trans (k_pushi 1 rfl rfl) ?_
  refine Eq.trans (k_goto rfl) ?_
  exact k_iret rfl (iI_bool (z := 1) (by decide))
theorem c_357 {x0 x1 x2 : Int} (h0 : 0 ≤ x0 ∧ x0 < 2000) (h1 : -2000 ≤ x1 ∧ x1 < 2000) (h2 : 1 ≤ x2 ∧ x2 < 3000) : RUN d 357 (am_en 357 [aI (iI x0), aI (iI x1), aI (iI x2)]) (HM q V) = rI (x0 + max x1 x2) (HM q V) := by
  refine (show RUN d 357 (0, [sI x0, sI x1, sI x2, none], []) (HM q V) = _ from ?_)
  refine Eq.trans (k_iload rfl rfl) ?_
  refine Eq.trans (k_iload rfl rfl) ?_
  refine Eq.trans (k_iload rfl rfl) ?_
  refine Eq.trans (k_m2 rfl rfl (iI_max (by omega) (by omega))) ?_
  refine Eq.trans (k_bin rfl (iI_add _ _)) ?_
  refine Eq.trans (k_store rfl) ?_
  refine Eq.trans (k_pushi 0 rfl rfl) ?_
  refine Eq.trans (k_iload rfl rfl) ?_
  refine Eq.trans (Eq.trans (k_icmpc (x0 + max x1 x2 ≤ 0) rfl (iI_le (by omega) ⟨by decide, by decide⟩)) (cif_neg (by omega))) ?_
  refine Eq.trans (k_iload rfl rfl) ?_
  refine Eq.trans (k_pushi 2147483639 rfl rfl) ?_
  refine Eq.trans (Eq.trans (k_icmpc ((2147483639 : Int) < x0 + max x1 x2) rfl (iI_lt ⟨by decide, by decide⟩ (by omega))) (cif_neg (by omega))) ?_
  refine Eq.trans (k_iload rfl rfl) ?_
  exact k_iret rfl trivial
theorem c_356 {m c : Nat} {x1 : Int} (hb : q.1.2.2 b = some (Sum.inr (9, [aR 46 m, aI 0, aI 0, aI 0]))) (hm : q.1.2.2 m = some (Sum.inl (7, c, fun _ => aN))) (h1 : V 46 b 1 = 0) (hc : c < 200) (hx : 0 ≤ x1 ∧ x1 < 1000) : RUN (d + 1) 356 (am_en 356 [aR 46 b, aI (iI x1)]) (HM q V) = rI ((c : Int) + max (x1 - c) (c + 2)) (HM q V) := by
  refine (show RUN (d + 1) 356 (0, [sR 46 b, sI x1, none, none, none, none], []) (HM q V) = _ from ?_)
  refine Eq.trans (k_aload rfl rfl) ?_
  refine Eq.trans (k_getfr rfl hb rfl) ?_
  refine Eq.trans (k_alen rfl hm) ?_
  refine Eq.trans (k_store rfl) ?_
  refine Eq.trans (k_iload rfl rfl) ?_
  refine Eq.trans (k_aload rfl rfl) ?_
  refine Eq.trans (k_getfi 1 rfl rfl hb rfl) ?_
  rw [h1]
  refine Eq.trans (k_bin rfl (sh_l0 _)) ?_
  refine Eq.trans (k_store rfl) ?_
  refine Eq.trans (k_iload rfl rfl) ?_
  refine Eq.trans (k_iload rfl rfl) ?_
  refine Eq.trans (k_bin rfl (iI_sub _ _)) ?_
  refine Eq.trans (k_store rfl) ?_
  refine Eq.trans (k_iload rfl rfl) ?_
  refine Eq.trans (k_iload rfl rfl) ?_
  refine Eq.trans (k_iload rfl rfl) ?_
  refine Eq.trans (k_pushi (2) rfl rfl) ?_
  refine Eq.trans (k_aload rfl rfl) ?_
  refine Eq.trans (k_getfi 1 rfl rfl hb rfl) ?_
  rw [h1]
  refine Eq.trans (k_bin rfl (sh_l0 _)) ?_
  refine Eq.trans (k_bin rfl (iI_add _ _)) ?_
  refine Eq.trans (RUN_ci rfl rfl rfl (c_357 (by omega) (by omega) (by omega)) (qle_refl _)) ?_
  refine Eq.trans (k_store rfl) ?_
  refine Eq.trans (k_iload rfl rfl) ?_
  refine Eq.trans (k_pushi (2147483647) rfl rfl) ?_
  refine Eq.trans (Eq.trans (k_icmpcN ((c : Int) + max (x1 - c) (c + 2) = 2147483647) rfl (iI_ne (by omega) ⟨by decide, by decide⟩)) (cif_neg (by omega))) ?_
  refine Eq.trans (k_iload rfl rfl) ?_
  refine Eq.trans (k_aload rfl rfl) ?_
  refine Eq.trans (k_getfi 1 rfl rfl hb rfl) ?_
  rw [h1]
  refine Eq.trans (k_bin rfl (sh_r0 _)) ?_
  exact k_iret rfl trivial
theorem c_359 {m c : Nat} {x1 : Int} (hn : 136 ≤ q.2.1.1) (hm : q.1.2.2 m = some (Sum.inl (7, c, fun _ => aN))) (hmn : m < q.2.1.1) (hf : ∀ j : Int, 0 ≤ j → j < c → -128 ≤ V 46 m j ∧ V 46 m j ≤ 127) (hc : c < 200) (hx : (c : Int) < x1 ∧ x1 < 1000) : RUN d 359 (am_en 359 [aR 46 m, aI (iI x1)]) (HM q V) = some (Sum.inl (some (aR 46 q.2.1.1)), HM (newQ q (some (Sum.inl (7, x1.toNat, fun _ => aN))) x1.toNat) (cpV (setA V 46 q.2.1.1 (fun _ => 0)) 46 q.2.1.1 46 m 0 0 c)) := by
  have hm2 : (newQ q (some (Sum.inl (7, x1.toNat, fun _ => aN))) x1.toNat).1.2.2 m = some (Sum.inl (7, c, fun _ => aN)) := by
    rw [newQ_old (by omega)]
    exact hm
  have hV : setA V 46 q.2.1.1 (fun _ => 0) 46 m = V 46 m := set46_off (Or.inr (by omega))
  refine (show RUN d 359 (0, [sR 46 m, sI x1, none], []) (HM q V) = _ from ?_)
  refine Eq.trans (k_iload rfl rfl) ?_
  refine Eq.trans (k_aload rfl rfl) ?_
  refine Eq.trans (k_alen rfl hm) ?_
  refine Eq.trans (Eq.trans (k_icmpcN (x1 = (c : Int)) rfl (iI_ne (by omega) (by omega))) (cif_neg (by omega))) ?_
  refine Eq.trans (k_iload rfl rfl) ?_
  refine Eq.trans (k_newB46 rfl hn (by omega)) ?_
  refine Eq.trans (k_astore rfl) ?_
  refine Eq.trans (k_aload rfl rfl) ?_
  refine Eq.trans (k_pushi (0) rfl rfl) ?_
  refine Eq.trans (k_aload rfl rfl) ?_
  refine Eq.trans (k_pushi (0) rfl rfl) ?_
  refine Eq.trans (k_aload rfl rfl) ?_
  refine Eq.trans (k_alen rfl hm2) ?_
  refine Eq.trans (k_iload rfl rfl) ?_
  refine Eq.trans (k_m2 rfl rfl (iI_min (by omega) (by omega))) ?_
  rw [show min (c : Int) x1 = c by omega]
  refine Eq.trans (k_acpyB46 rfl rfl newQ_at hm2 (fun j j1 j2 => by rw [hV]; exact hf j j1 j2) ⟨by decide, by decide⟩ ⟨by decide, by decide⟩ (by omega) (by omega) (by omega)) ?_
  refine Eq.trans (k_aload rfl rfl) ?_
  exact k_aretR rfl
end
/-- a builder: its row, room, how much stands there -/
def BD (n0 : Nat) (q : QQ) (V : VV) (b m c : Nat) (n : Int) : Prop := (q.1.2.2 b = some (Sum.inr (9, [aR 46 m, aI 0, aI 0, aI 0])) ∧ q.1.2.2 m = some (Sum.inl (7, c, fun _ => aN))) ∧ (V 46 b 1 = 0 ∧ V 46 b 3 = n) ∧ (¬ b = m ∧ n0 ≤ b ∧ n0 ≤ m ∧ b < q.2.1.1 ∧ m < q.2.1.1 ∧ 136 ≤ n0) ∧ (0 ≤ n ∧ n ≤ c ∧ c < 200) ∧ ∀ j : Int, 0 ≤ j → j < c → -128 ≤ V 46 m j ∧ V 46 m j ≤ 127
/-- nothing but later cells from n0 on was touched -/
def FS (n0 m s : Nat) (q : QQ) (V : VV) (q' : QQ) (W : VV) : Prop := adv m s n0 q q' ∧ ∀ a x, (¬ a = 46 ∨ x < n0) → W a x = V a x
theorem FS.refl {n0 m s : Nat} {q : QQ} {V : VV} : FS n0 m s q V q V := ⟨adv_refl q, fun _ _ _ => rfl⟩
theorem FS.trans {n0 m s m' s' : Nat} {q q' q2 : QQ} {V W U : VV} (h : FS n0 m s q V q' W) (k : FS n0 m' s' q' W q2 U) : FS n0 (m + m') (s + s') q V q2 U := ⟨h.1.trans k.1, fun a x z => (k.2 a x z).trans (h.2 a x z)⟩
theorem FS.mono {n0 n1 m s m' s' : Nat} {q q' : QQ} {V W : VV} (h : FS n0 m s q V q' W) (hm : m ≤ m') (hs : s ≤ s') (hn : n1 ≤ n0) : FS n1 m' s' q V q' W := ⟨h.1.mono hm hs hn, fun a x z => h.2 a x (by omega)⟩
theorem FS.qle {n0 m s : Nat} {q q' : QQ} {V W : VV} (h : FS n0 m s q V q' W) : qle q q' := h.1.qle
theorem FS.st {n0 b : Nat} {q : QQ} {V : VV} {e v : Int} (hb : n0 ≤ b) : FS n0 0 0 q V q (upV V 46 b e v) := ⟨adv_refl q, fun a x z => upV_off2 (by omega)⟩
theorem cp46_off {V : VV} {b a0 b0 : Nat} {sp dp n : Int} {a' b' : Nat} (h : ¬ a' = 46 ∨ ¬ b' = b) : cpV V 46 b a0 b0 sp dp n a' b' = V a' b' := cpV_off (by omega)
section
variable {d n0 b m c : Nat} {q : QQ} {V : VV} {n : Int}
theorem c_355 {x1 : Int} (h : BD n0 q V b m c n) (hx : n ≤ x1 ∧ x1 ≤ 70) : ∃ q' V' m' c', RUN (d + 2) 355 (am_en 355 [aR 46 b, aI (iI x1)]) (HM q V) = rV (HM q' V') ∧ BD n0 q' V' b m' c' n ∧ x1 ≤ c' ∧ (∀ j, 0 ≤ j → j < n → V' 46 m' j = V 46 m j) ∧ ((∀ x, ¬ x = b → x < q.2.1.1 → q'.1.2.2 x = q.1.2.2 x) ∧ (∀ x, x < q.2.1.1 → V' 46 x = V 46 x) ∧ (m' = m ∨ m' = q.2.1.1)) ∧ FS n0 1 200 q V q' V' := by
  obtain ⟨⟨hb, hm⟩, ⟨v1, v3⟩, ⟨bm, b1, b2, b3, b4, b5⟩, ⟨n1, n2, n3⟩, hf⟩ := id h
  by_cases cc : x1 - (c : Int) ≤ 0
  · refine ⟨q, V, m, c, ?_, h, by omega, fun _ _ _ => rfl, ⟨fun _ _ _ => rfl, fun _ _ => rfl, Or.inl rfl⟩, FS.refl⟩
    refine (show RUN (d + 2) 355 (0, [sR 46 b, sI x1, none], []) (HM q V) = _ from ?_)
    refine Eq.trans (k_aload rfl rfl) ?_
    refine Eq.trans (k_getfr rfl hb rfl) ?_
    refine Eq.trans (k_alen rfl hm) ?_
    refine Eq.trans (k_aload rfl rfl) ?_
    refine Eq.trans (k_getfi 1 rfl rfl hb rfl) ?_
    rw [v1]
    refine Eq.trans (k_bin rfl (sh_r0 _)) ?_
    refine Eq.trans (k_store rfl) ?_
    refine Eq.trans (k_iload rfl rfl) ?_
    refine Eq.trans (k_iload rfl rfl) ?_
    refine Eq.trans (k_bin rfl (iI_sub _ _)) ?_
    refine Eq.trans (Eq.trans (k_ifc (x1 - (c : Int) ≤ 0) rfl (iI_le0 (by omega))) (cif_pos cc)) ?_
    exact k_ret rfl
  · have hN : ((c : Int) < (c : Int) + max (x1 - c) (c + 2)) ∧ (c : Int) + max (x1 - c) (c + 2) < 1000 := by omega
    have hcap : (((c : Int) + max (x1 - c) (c + 2)).toNat : Int) = (c : Int) + max (x1 - c) (c + 2) := by omega
    generalize hq2 : newQ q (some (Sum.inl (7, ((c : Int) + max (x1 - c) (c + 2)).toNat, fun _ => aN))) ((c : Int) + max (x1 - c) (c + 2)).toNat = q2
    generalize hV2 : cpV (setA V 46 q.2.1.1 (fun _ => 0)) 46 q.2.1.1 46 m 0 0 c = V2
    have e359 := c_359 (d := d + 1) (by omega) hm b4 hf (by omega) hN
    rw [hq2, hV2] at e359
    have q2b : q2.1.2.2 b = some (Sum.inr (9, [aR 46 m, aI 0, aI 0, aI 0])) := by
      rw [← hq2, newQ_old (by omega)]
      exact hb
    have q2n : q2.1.2.2 q.2.1.1 = some (Sum.inl (7, ((c : Int) + max (x1 - c) (c + 2)).toNat, fun _ => aN)) := by
      rw [← hq2]
      exact newQ_at
    have q2c : q2.2.1 = (q.2.1.1 + 1, q.2.1.2 + ((c : Int) + max (x1 - c) (c + 2)).toNat) := by
      rw [← hq2]
      rfl
    have a2 : adv 1 200 n0 q q2 := by
      rw [← hq2]
      exact newQ_adv.mono (Nat.le_refl _) (by omega) (by omega)
    have vo : ∀ a x, (¬ a = 46 ∨ ¬ x = q.2.1.1) → V2 a x = V a x := fun a x z => by
      rw [← hV2, cp46_off z]
      exact set46_off z
    have vn : ∀ j : Int, V2 46 q.2.1.1 j = if 0 ≤ j ∧ j < 0 + (c : Int) then V 46 m (0 + (j - 0)) else 0 := fun j => by
      rw [← hV2]
      unfold cpV
      rw [cond_on, set46_off (Or.inr (by omega)), set46_at]
      rfl
    refine ⟨setQ q2 b (some (Sum.inr (9, [aR 46 q.2.1.1, aI 0, aI 0, aI 0]))), V2, q.2.1.1, ((c : Int) + max (x1 - c) (c + 2)).toNat, ?_, ⟨⟨setQ_at, ?_⟩, ⟨by rw [vo 46 b (by omega)]; exact v1, by rw [vo 46 b (by omega)]; exact v3⟩, ⟨by omega, b1, by omega, ?_, ?_, b5⟩, ⟨n1, by omega, by omega⟩, fun j j1 j2 => ?_⟩, by omega, fun j j1 j2 => ?_, ⟨fun x z1 z2 => ?_, fun x z => vo 46 x (by omega), Or.inr rfl⟩, ⟨a2.trans (setQ_adv b1), fun a x z => vo a x (by omega)⟩⟩
    · refine (show RUN (d + 2) 355 (0, [sR 46 b, sI x1, none], []) (HM q V) = _ from ?_)
      refine Eq.trans (k_aload rfl rfl) ?_
      refine Eq.trans (k_getfr rfl hb rfl) ?_
      refine Eq.trans (k_alen rfl hm) ?_
      refine Eq.trans (k_aload rfl rfl) ?_
      refine Eq.trans (k_getfi 1 rfl rfl hb rfl) ?_
      rw [v1]
      refine Eq.trans (k_bin rfl (sh_r0 _)) ?_
      refine Eq.trans (k_store rfl) ?_
      refine Eq.trans (k_iload rfl rfl) ?_
      refine Eq.trans (k_iload rfl rfl) ?_
      refine Eq.trans (k_bin rfl (iI_sub _ _)) ?_
      refine Eq.trans (Eq.trans (k_ifc (x1 - (c : Int) ≤ 0) rfl (iI_le0 (by omega))) (cif_neg cc)) ?_
      refine Eq.trans (k_aload rfl rfl) ?_
      refine Eq.trans (k_aload rfl rfl) ?_
      refine Eq.trans (k_getfr rfl hb rfl) ?_
      refine Eq.trans (k_aload rfl rfl) ?_
      refine Eq.trans (k_iload rfl rfl) ?_
      refine Eq.trans (RUN_ci rfl (c1_46 hb rfl) rfl (c_356 hb hm v1 n3 (by omega)) (qle_refl _)) ?_
      refine Eq.trans (k_aload rfl rfl) ?_
      refine Eq.trans (k_getfi 1 rfl rfl hb rfl) ?_
      rw [v1]
      refine Eq.trans (k_bin rfl (sh_l0 _)) ?_
      refine Eq.trans (RUN_ci rfl rfl rfl e359 a2.qle) ?_
      refine Eq.trans (k_putfr46 rfl q2b) ?_
      exact k_ret rfl
    · rw [setQ_old (by omega)]
      exact q2n
    · show b < q2.2.1.1
      rw [q2c]
      show b < q.2.1.1 + 1
      omega
    · show q.2.1.1 < q2.2.1.1
      rw [q2c]
      show q.2.1.1 < q.2.1.1 + 1
      omega
    · rw [vn]
      split
      · exact hf _ (by omega) (by omega)
      · omega
    · rw [vn, if_pos (by omega), show 0 + (j - 0) = j by omega]
    · rw [setQ_old z1, ← hq2, newQ_old (by omega)]
end
