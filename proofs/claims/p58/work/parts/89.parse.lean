/-! a text is parsed -/
theorem kh_step {d : Nat} {q : QQ} {V : VV} {i kb : Nat} {F : List Int} {c : Int} {l4 : Option AV} (hk : kindO q kb F) (io : inok V) (hc : F.getD 0 0 = c) (h0 : 0 < F.length) (hi : i < 5) (hkb : aR 0 (3 + i) = aR 0 kb) :
    RUN (d + 4) 174 (9, [sR 27 0, sR 0 2, sI 5, sI i, l4], []) (HM q V) = cif (hereP V c) (some (Sum.inl (some (aR 0 kb)), HM q V)) (RUN (d + 4) 174 (9, [sR 27 0, sR 0 2, sI 5, sI ((i : Int) + 1), sR 0 kb], []) (HM q V)) := by
  obtain ⟨v, sb, bb, g, k1, k2, k3⟩ := hk
  obtain ⟨g1, g2, g3⟩ := k3 0 h0
  rw [hc] at g1 g2 g3
  refine Eq.trans (k_iload rfl rfl) (Eq.trans (k_iload rfl rfl) (Eq.trans (Eq.trans (k_icmpc ((5 : Int) ≤ i) rfl (iI_le (by decide) (by constructor <;> omega))) (cif_neg (by omega))) (Eq.trans (k_aload rfl rfl) (Eq.trans (k_iload rfl rfl) (Eq.trans (k_aaldK (b := 2) (n := 5) rfl rfl (by decide) (by omega) ((congrArg (fun z : Nat => aR 0 (3 + z)) (show ((i : Int)).toNat = i from rfl)).trans hkb)) (Eq.trans (k_astore rfl) (Eq.trans (k_aload rfl rfl) (Eq.trans (k_aload rfl rfl) (Eq.trans (k_getw rfl k1 rfl) (Eq.trans (k_pushi 0 rfl rfl) (Eq.trans (RUN_ci rfl (call1 k2.1 rfl) rfl (s_175z k2 (i := 0) ⟨by decide, by omega⟩ g1 ⟨g2, g3⟩) (qle_refl _)) (Eq.trans (RUN_ci rfl rfl rfl (s_180 io (by constructor <;> omega)) (qle_refl _)) (Eq.trans (k_ifcN (hereP V c) rfl b2i_eq0) (k_cifs (fun _ => ?_) (fun _ => ?_)))))))))))))))
  · exact Eq.trans (k_aload rfl rfl) (k_aret rfl rfl)
  · exact Eq.trans (k_iinc 1 rfl rfl rfl) (k_goto rfl)
theorem s_174 {d : Nat} {q : QQ} {V : VV} (io : inok V) : RUN (d + 4) 174 (am_en 174 [aR 27 0]) (HM q V) =
    cif (hereP V 103) (some (Sum.inl (some (aR 0 3)), HM q V)) (cif (hereP V 116) (some (Sum.inl (some (aR 0 4)), HM q V)) (cif (hereP V 109) (some (Sum.inl (some (aR 0 5)), HM q V)) (cif (hereP V 119) (some (Sum.inl (some (aR 0 6)), HM q V)) (cif (hereP V 115) (some (Sum.inl (some (aR 0 7)), HM q V)) (some (Sum.inl (some aN), HM q V)))))) := by
  obtain ⟨k0, k1, k2, k3, k4⟩ := kinds_are q
  show RUN (d + 4) 174 (0, [sR 27 0, none, none, none, none], []) (HM q V) = _
  refine Eq.trans (k_push rfl) (Eq.trans (k_astore rfl) (Eq.trans (k_aload rfl rfl) (Eq.trans (k_alen0 (b := 2) (t := 8) (n := 5) rfl rfl) (Eq.trans (k_store rfl) (Eq.trans (k_pushi 0 rfl rfl) (Eq.trans (k_store rfl) ?_))))))
  refine Eq.trans (kh_step (i := 0) k0 io rfl (by decide) (by decide) rfl) ?_
  refine k_cifs (fun _ => rfl) (fun _ => ?_)
  refine Eq.trans (kh_step (i := 1) k1 io rfl (by decide) (by decide) rfl) ?_
  refine k_cifs (fun _ => rfl) (fun _ => ?_)
  refine Eq.trans (kh_step (i := 2) k2 io rfl (by decide) (by decide) rfl) ?_
  refine k_cifs (fun _ => rfl) (fun _ => ?_)
  refine Eq.trans (kh_step (i := 3) k3 io rfl (by decide) (by decide) rfl) ?_
  refine k_cifs (fun _ => rfl) (fun _ => ?_)
  refine Eq.trans (kh_step (i := 4) k4 io rfl (by decide) (by decide) rfl) ?_
  refine k_cifs (fun _ => rfl) (fun _ => ?_)
  exact Eq.trans (k_iload rfl rfl) (Eq.trans (k_iload rfl rfl) (Eq.trans (Eq.trans (k_icmpc ((5 : Int) ≤ 5) rfl (iI_le (by decide) (by decide))) (cif_pos (by decide))) (Eq.trans (k_push rfl) (k_aret rfl rfl))))
theorem here_iff {V : VV} {c : Int} (hc : 0 ≤ c) : hereP V c ↔ hereC (V 28 0) (V 27 0 4) (V 27 0 5) = c := by
  unfold hereP hereC
  by_cases k : V 27 0 5 < V 27 0 4
  · rw [cif_pos k]
    exact ⟨fun z => z.2, fun z => ⟨k, z⟩⟩
  · rw [cif_neg k]
    exact ⟨fun z => absurd z.1 k, fun z => by omega⟩
/-- the cells that parsing changes -/
def offP (V W : VV) : Prop := (∀ a b, ¬ (a = 27 ∨ a = 29 ∨ a = 30) ∨ b ≠ 0 → W a b = V a b) ∧ (∀ j, ¬ (j = 3 ∨ j = 5 ∨ j = 6) → W 27 0 j = V 27 0 j)
theorem offP_trans {U V W : VV} (h : offP U V) (k : offP V W) : offP U W := ⟨fun a b z => (k.1 a b z).trans (h.1 a b z), fun j z => (k.2 j z).trans (h.2 j z)⟩
theorem offP_I {V W : VV} (h : offI V W) : offP V W := ⟨fun a b z => h.1 a b (by omega), fun j z => h.2 j (by omega)⟩
/-- the command k is kept -/
def cmdAt (W : VV) (k : Int) (x : Int × List Int) : Prop := W 29 0 k = kindNo x.1 ∧ valsAt W (k * 3) x.2
/-- a command was taken, or wasn't -/
def tookC (V W : VV) : Prop :=
  offP V W ∧ W 27 0 6 = V 27 0 6 ∧ inok W ∧ W 27 0 5 = (cmdR (V 28 0) (V 27 0 4) (V 27 0 5)).2.1 ∧ ((cmdR (V 28 0) (V 27 0 4) (V 27 0 5)).1 → cmdAt W (V 27 0 6) (hereC (V 28 0) (V 27 0 4) (V 27 0 5), (cmdR (V 28 0) (V 27 0 4) (V 27 0 5)).2.2)) ∧
    (∀ s, s < V 27 0 6 → W 29 0 s = V 29 0 s) ∧ (∀ s, s < V 27 0 6 * 3 → W 30 0 s = V 30 0 s)
theorem tcK {d : Nat} {q : QQ} {V : VV} {kb : Nat} {c : Int} (io : inok V) (h1 : V 27 0 5 ≤ V 27 0 4) (h2 : V 27 0 6 ≤ 9) (hk : kindO q kb (frm c)) (hkb : 3 ≤ kb ∧ kb < 8) (hno : kindNo c = ((kb - 2 : Nat) : Int)) (hlv : ∀ j, j < (frm c).length → 1 ≤ cntV ((frm c).drop j)) (hcn : cntV (frm c) ≤ 3) (hc : hereC (V 28 0) (V 27 0 4) (V 27 0 5) = c)
    (e174 : RUN (d + 4) 174 (am_en 174 [aR 27 0]) (HM q V) = some (Sum.inl (some (aR 0 kb)), HM q V)) : ∃ W, tookC V W ∧ RUN (d + 5) 173 (am_en 173 [aR 27 0]) (HM q V) = rI (b2i (cmdR (V 28 0) (V 27 0 4) (V 27 0 5)).1) (HM q W) := by
  obtain ⟨i1, i2, i3, i4, i5⟩ := id io
  have ioU : inok (upV (upV V 29 0 (V 27 0 6) ((kb - 2 : Nat) : Int)) 27 0 3 0) := ⟨i1, i2, i3, (show (0 : Int) ≤ 0 ∧ (0 : Int) ≤ 30 from ⟨by decide, by decide⟩), i5⟩
  obtain ⟨W, w1, w2, w3, w4, w5, w6⟩ := tc_go (d := d + 1) (q := q) hk hlv (frm c) 0 (upV (upV V 29 0 (V 27 0 6) ((kb - 2 : Nat) : Int)) 27 0 3 0) rfl (by omega) ioU h1 h2 (by show (0 : Int) + cntV (frm c) ≤ 3; omega)
  have eR : cmdR (V 28 0) (V 27 0 4) (V 27 0 5) = runF (V 28 0) (V 27 0 4) (frm c) (V 27 0 5) := by unfold cmdR; rw [hc]
  have w2' : W 27 0 5 = (runF (V 28 0) (V 27 0 4) (frm c) (V 27 0 5)).2.1 := w2
  have w3' : (runF (V 28 0) (V 27 0 4) (frm c) (V 27 0 5)).1 → valsAt W (V 27 0 6 * 3 + 0) (runF (V 28 0) (V 27 0 4) (frm c) (V 27 0 5)).2.2 := w3
  have w4' : ∀ s, s < V 27 0 6 * 3 + 0 → W 30 0 s = V 30 0 s := w4
  obtain ⟨b1, b2, b3⟩ := runF_b (T := V 28 0) (L := V 27 0 4) (frm c) (V 27 0 5) h1
  have oU : offP V (upV (upV V 29 0 (V 27 0 6) ((kb - 2 : Nat) : Int)) 27 0 3 0) := by
    refine ⟨fun a b h => ?_, fun j h => ?_⟩
    · rw [upV_off2 (by omega), upV_off2 (by omega)]
    · show (if j = 3 then 0 else V 27 0 j) = _
      rw [if_neg (by omega)]
  have e29 : ∀ s, W 29 0 s = if s = V 27 0 6 then ((kb - 2 : Nat) : Int) else V 29 0 s := fun s => by
    rw [w1.1 29 0 (by omega)]
    rfl
  refine ⟨W, ⟨offP_trans oU (offP_I w1), w1.2 6 (by omega), inok_off w1 ioU (by rw [w2']; omega) (by have : (0 : Int) ≤ W 27 0 3 := w5.1; omega), by rw [eR]; exact w2', fun k => ⟨?_, ?_⟩, fun s hs => ?_, fun s hs => w4' s (by omega)⟩, ?_⟩
  · rw [e29, if_pos rfl, hc, hno]
  · rw [eR] at k ⊢
    have := w3' k
    rw [Int.add_zero] at this
    exact this
  · rw [e29, if_neg (by omega)]
  · rw [eR]
    show RUN (d + 5) 173 (0, [sR 27 0, none, none], []) (HM q V) = _
    refine Eq.trans (k_aload rfl rfl) (Eq.trans (RUN_ci rfl rfl rfl e174 (qle_refl _)) (Eq.trans (k_astore rfl) (Eq.trans (k_aload rfl rfl) (Eq.trans (k_ifnonnull rfl) (Eq.trans (k_aload rfl rfl) (Eq.trans (k_getfr rfl rfl rfl) (Eq.trans (k_aload rfl rfl) (Eq.trans (k_getfi 6 rfl rfl rfl rfl) (Eq.trans (k_aload rfl rfl) (Eq.trans (k_aastK (n := 10) rfl rfl (by decide) (by omega) hkb) (Eq.trans (k_aload rfl rfl) (Eq.trans (k_pushi 0 rfl rfl) (Eq.trans (k_putfi 3 rfl rfl rfl rfl trivial) (Eq.trans (k_pushi 0 rfl rfl) (Eq.trans (k_store rfl) ?_)))))))))))))))
    exact w6
theorem s_173 {d : Nat} {q : QQ} {V : VV} (io : inok V) (h1 : V 27 0 5 ≤ V 27 0 4) (h2 : V 27 0 6 ≤ 9) : ∃ W, tookC V W ∧ RUN (d + 5) 173 (am_en 173 [aR 27 0]) (HM q V) = rI (b2i (cmdR (V 28 0) (V 27 0 4) (V 27 0 5)).1) (HM q W) := by
  obtain ⟨k0, k1, k2, k3, k4⟩ := kinds_are q
  have e := s_174 (d := d) (q := q) io
  by_cases c1 : hereP V 103
  · rw [cif_pos c1] at e
    exact tcK io h1 h2 k0 (by decide) (by decide) (by decide) (by decide) ((here_iff (by decide)).mp c1) e
  rw [cif_neg c1] at e
  by_cases c2 : hereP V 116
  · rw [cif_pos c2] at e
    exact tcK io h1 h2 k1 (by decide) (by decide) (by decide) (by decide) ((here_iff (by decide)).mp c2) e
  rw [cif_neg c2] at e
  by_cases c3 : hereP V 109
  · rw [cif_pos c3] at e
    exact tcK io h1 h2 k2 (by decide) (by decide) (by decide) (by decide) ((here_iff (by decide)).mp c3) e
  rw [cif_neg c3] at e
  by_cases c4 : hereP V 119
  · rw [cif_pos c4] at e
    exact tcK io h1 h2 k3 (by decide) (by decide) (by decide) (by decide) ((here_iff (by decide)).mp c4) e
  rw [cif_neg c4] at e
  by_cases c5 : hereP V 115
  · rw [cif_pos c5] at e
    exact tcK io h1 h2 k4 (by decide) (by decide) (by decide) (by decide) ((here_iff (by decide)).mp c5) e
  rw [cif_neg c5] at e
  have n1 := fun z => c1 ((here_iff (by decide)).mpr z)
  have n2 := fun z => c2 ((here_iff (by decide)).mpr z)
  have n3 := fun z => c3 ((here_iff (by decide)).mpr z)
  have n4 := fun z => c4 ((here_iff (by decide)).mpr z)
  have eF : frm (hereC (V 28 0) (V 27 0 4) (V 27 0 5)) = 115 :: [101, 110, 100, 32, 68, 62, 68, 58, 76] := by
    unfold frm
    rw [if_neg n1, if_neg n2, if_neg n3, if_neg n4]
  have no : okI (V 28 0) (V 27 0 4) 115 (V 27 0 5) = (V 27 0 5 < V 27 0 4 ∧ V 28 0 (V 27 0 5) = 115) := by unfold okI; rw [cif_neg (by decide), cif_neg (by decide), cif_neg (by decide), cif_neg (by decide)]
  have en : endI (V 28 0) (V 27 0 4) 115 (V 27 0 5) = cif (V 27 0 5 < V 27 0 4 ∧ V 28 0 (V 27 0 5) = 115) (V 27 0 5 + 1) (V 27 0 5) := by unfold endI; rw [cif_neg (by decide), cif_neg (by decide), cif_neg (by decide), cif_neg (by decide)]
  have eR : cmdR (V 28 0) (V 27 0 4) (V 27 0 5) = (False, V 27 0 5, []) := by
    unfold cmdR
    rw [eF, runF_no (by rw [no]; exact c5), en, cif_neg (show ¬ (V 27 0 5 < V 27 0 4 ∧ V 28 0 (V 27 0 5) = 115) from c5)]
  refine ⟨V, ⟨⟨fun _ _ _ => rfl, fun _ _ => rfl⟩, rfl, io, by rw [eR], fun z => by rw [eR] at z; exact absurd z id, fun _ _ => rfl, fun _ _ => rfl⟩, ?_⟩
  rw [eR]
  show RUN (d + 5) 173 (0, [sR 27 0, none, none], []) (HM q V) = _
  refine (Eq.trans (k_aload rfl rfl) (Eq.trans (RUN_ci rfl rfl rfl e (qle_refl _)) (Eq.trans (k_astoreV rfl rfl rfl) (Eq.trans (k_aloadV rfl rfl rfl) (Eq.trans (k_ifnonnullN rfl) (Eq.trans (k_pushi 0 rfl rfl) (k_iret rfl (iI_bool (Or.inl rfl))))))))).trans (rI0_b id)
theorem parse_go {d : Nat} {q : QQ} : ∀ (f : Nat) (k : Int) (V : VV), f + k = 10 → 0 ≤ k → inok V → V 27 0 5 ≤ V 27 0 4 → V 27 0 6 = k →
    ∃ W, offP V W ∧ inok W ∧ W 27 0 5 = (prs (V 28 0) (V 27 0 4) f (V 27 0 5)).2.1 ∧ ((prs (V 28 0) (V 27 0 4) f (V 27 0 5)).1 → W 27 0 6 = k + (prs (V 28 0) (V 27 0 4) f (V 27 0 5)).2.2.length ∧ ∀ i : Nat, i < (prs (V 28 0) (V 27 0 4) f (V 27 0 5)).2.2.length → cmdAt W (k + i) ((prs (V 28 0) (V 27 0 4) f (V 27 0 5)).2.2.getD i (0, []))) ∧
      (∀ s, s < k → W 29 0 s = V 29 0 s) ∧ (∀ s, s < k * 3 → W 30 0 s = V 30 0 s) ∧ RUN (d + 6) 172 (10, [sR 27 0], []) (HM q V) = rI (b2i (prs (V 28 0) (V 27 0 4) f (V 27 0 5)).1) (HM q W) := by
  intro f
  induction f with
  | zero =>
    intro k V hf hk io h1 h6
    refine ⟨V, ⟨fun _ _ _ => rfl, fun _ _ => rfl⟩, io, rfl, fun z => absurd z id, fun _ _ => rfl, fun _ _ => rfl, ?_⟩
    refine Eq.trans (Eq.trans (k_aload rfl rfl) (Eq.trans (k_getfi 6 rfl rfl rfl rfl) (Eq.trans (k_pushi 10 rfl rfl) (Eq.trans (Eq.trans (k_icmpc (10 ≤ V 27 0 6) rfl (iI_le (by decide) (by constructor <;> omega))) (cif_pos (by omega))) (Eq.trans (k_pushi 0 rfl rfl) (k_iret rfl (iI_bool (Or.inl rfl)))))))) (rI0_b id)
  | succ f ih =>
    intro k V hf hk io h1 h6
    obtain ⟨U, ⟨u1, u2, u3, u4, u5, u6, u7⟩, u8⟩ := s_173 (d := d) (q := q) io h1 (by omega)
    obtain ⟨b1, b2, b3⟩ := runF_b (T := V 28 0) (L := V 27 0 4) (frm (hereC (V 28 0) (V 27 0 4) (V 27 0 5))) (V 27 0 5) h1
    have b1 : V 27 0 5 ≤ (cmdR (V 28 0) (V 27 0 4) (V 27 0 5)).2.1 := b1
    have b2 : (cmdR (V 28 0) (V 27 0 4) (V 27 0 5)).2.1 ≤ V 27 0 4 := b2
    have e4 : U 27 0 4 = V 27 0 4 := u1.2 4 (by omega)
    have eT : U 28 0 = V 28 0 := u1.1 28 0 (by omega)
    obtain ⟨i1, i2, i3, i4, i5⟩ := id io
    obtain ⟨j1, j2, j3, j4, j5⟩ := id u3
    have go : RUN (d + 6) 172 (10, [sR 27 0], []) (HM q V) = cif (cmdR (V 28 0) (V 27 0 4) (V 27 0 5)).1 (RUN (d + 6) 172 (28, [sR 27 0], []) (HM q U)) (rI 0 (HM q U)) := by
      refine Eq.trans (k_aload rfl rfl) (Eq.trans (k_getfi 6 rfl rfl rfl rfl) (Eq.trans (k_pushi 10 rfl rfl) (Eq.trans (Eq.trans (k_icmpc (10 ≤ V 27 0 6) rfl (iI_le (by decide) (by constructor <;> omega))) (cif_neg (by omega))) (Eq.trans (k_aload rfl rfl) (Eq.trans (RUN_ci rfl rfl rfl u8 (qle_refl _)) (Eq.trans (k_ifc (cmdR (V 28 0) (V 27 0 4) (V 27 0 5)).1 rfl b2i_ne0) (k_cifs (fun _ => rfl) (fun _ => ?_))))))))
      exact Eq.trans (k_pushi 0 rfl rfl) (k_iret rfl (iI_bool (Or.inl rfl)))
    rw [go]
    by_cases ok : (cmdR (V 28 0) (V 27 0 4) (V 27 0 5)).1
    · rw [cif_pos ok]
      have u5' := u5 ok
      have ioX : inok (upV U 27 0 6 (U 27 0 6 + 1)) := ⟨j1, j2, by show 0 ≤ U 27 0 6 + 1 ∧ U 27 0 6 + 1 ≤ 10; omega, j4, j5⟩
      have oX : offP V (upV U 27 0 6 (U 27 0 6 + 1)) := by
        refine offP_trans u1 ⟨fun a b h => ?_, fun j h => ?_⟩
        · rw [upV_off2 (by omega)]
        · show (if j = 6 then _ else U 27 0 j) = _
          rw [if_neg (by omega)]
      have e5 : U 27 0 5 = (cmdR (V 28 0) (V 27 0 4) (V 27 0 5)).2.1 := u4
      have go2 : RUN (d + 6) 172 (28, [sR 27 0], []) (HM q U) = cif (U 27 0 5 = U 27 0 4) (rI 1 (HM q (upV U 27 0 6 (U 27 0 6 + 1)))) (cif (hereP (upV U 27 0 6 (U 27 0 6 + 1)) 59) (RUN (d + 6) 172 (10, [sR 27 0], []) (HM q (upV (upV U 27 0 6 (U 27 0 6 + 1)) 27 0 5 (U 27 0 5 + 1)))) (rI 0 (HM q (upV U 27 0 6 (U 27 0 6 + 1))))) := by
        refine Eq.trans (k_aload rfl rfl) (Eq.trans (k_dupR rfl) (Eq.trans (k_getfi 6 rfl rfl rfl rfl) (Eq.trans (k_pushi 1 rfl rfl) (Eq.trans (k_bin rfl (iI_add _ _)) (Eq.trans (k_putfi 6 rfl rfl rfl rfl trivial) (Eq.trans (k_aload rfl rfl) (Eq.trans (k_getfi 5 rfl rfl rfl rfl) (Eq.trans (k_aload rfl rfl) (Eq.trans (k_getfi 4 rfl rfl rfl rfl) (Eq.trans (k_icmpcN (U 27 0 5 = U 27 0 4) rfl (iI_ne (show R32 (U 27 0 5) by constructor <;> omega) (show R32 (U 27 0 4) by constructor <;> omega))) (k_cifs (fun _ => ?_) (fun _ => ?_))))))))))))
        · exact Eq.trans (k_pushi 1 rfl rfl) (k_iret rfl (iI_bool (Or.inr rfl)))
        · refine Eq.trans (k_aload rfl rfl) (Eq.trans (k_pushi 59 rfl rfl) (k_split (hereP (upV U 27 0 6 (U 27 0 6 + 1)) 59) (fun c => Eq.trans (RUN_ci rfl rfl rfl ((e_188 ioX (by decide)).trans (cif_pos c)) (qle_refl _)) ?_) (fun c => Eq.trans (RUN_ci rfl rfl rfl ((e_188 ioX (by decide)).trans (cif_neg c)) (qle_refl _)) ?_)))
          · exact (k_ifcN (1 = 0) rfl (iI_ne0 (by decide))).trans (cif_neg (by decide))
          · exact (Eq.trans (k_ifcN (0 = 0) rfl (iI_ne0 (by decide))) (cif_pos rfl)).trans (Eq.trans (k_pushi 0 rfl rfl) (k_iret rfl (iI_bool (Or.inl rfl))))
      rw [go2]
      have kp : ∀ Z : VV, Z 29 0 = U 29 0 → Z 30 0 = U 30 0 → (∀ s, s < k → Z 29 0 s = V 29 0 s) ∧ (∀ s, s < k * 3 → Z 30 0 s = V 30 0 s) ∧ cmdAt Z k (hereC (V 28 0) (V 27 0 4) (V 27 0 5), (cmdR (V 28 0) (V 27 0 4) (V 27 0 5)).2.2) := by
        intro Z z1 z2
        refine ⟨fun s hs => ?_, fun s hs => ?_, ?_, fun i hi => ?_⟩
        · rw [z1]; exact u6 s (by omega)
        · rw [z2]; exact u7 s (by omega)
        · rw [z1, ← h6]; exact u5'.1
        · rw [z2, ← h6]; exact u5'.2 i hi
      by_cases c1 : U 27 0 5 = U 27 0 4
      · have eP : prs (V 28 0) (V 27 0 4) (f + 1) (V 27 0 5) = (True, V 27 0 4, [(hereC (V 28 0) (V 27 0 4) (V 27 0 5), (cmdR (V 28 0) (V 27 0 4) (V 27 0 5)).2.2)]) := (cif_pos ok).trans (cif_pos (by rw [← e5, c1, e4]))
        rw [cif_pos c1, eP]
        obtain ⟨a1, a2, a3⟩ := kp (upV U 27 0 6 (U 27 0 6 + 1)) rfl rfl
        refine ⟨_, oX, ioX, ?_, fun _ => ⟨?_, fun i hi => ?_⟩, a1, a2, rI1_b trivial⟩
        · show U 27 0 5 = V 27 0 4
          rw [c1, e4]
        · show U 27 0 6 + 1 = k + ((0 + 1 : Nat) : Int)
          omega
        · have hi0 : i = 0 := by
            have : i < 1 := hi
            omega
          subst hi0
          rw [show k + ((0 : Nat) : Int) = k by omega]
          exact a3
      · rw [cif_neg c1]
        by_cases c2 : hereP (upV U 27 0 6 (U 27 0 6 + 1)) 59
        · rw [cif_pos c2]
          have c2a : U 27 0 5 < U 27 0 4 := c2.1
          have c2b : U 28 0 (U 27 0 5) = 59 := c2.2
          have ioY : inok (upV (upV U 27 0 6 (U 27 0 6 + 1)) 27 0 5 (U 27 0 5 + 1)) := ⟨j1, by show 0 ≤ U 27 0 5 + 1 ∧ U 27 0 5 + 1 ≤ 60; omega, by show 0 ≤ U 27 0 6 + 1 ∧ U 27 0 6 + 1 ≤ 10; omega, j4, j5⟩
          have eP : prs (V 28 0) (V 27 0 4) (f + 1) (V 27 0 5) = ((prs (V 28 0) (V 27 0 4) f ((cmdR (V 28 0) (V 27 0 4) (V 27 0 5)).2.1 + 1)).1, (prs (V 28 0) (V 27 0 4) f ((cmdR (V 28 0) (V 27 0 4) (V 27 0 5)).2.1 + 1)).2.1, (hereC (V 28 0) (V 27 0 4) (V 27 0 5), (cmdR (V 28 0) (V 27 0 4) (V 27 0 5)).2.2) :: (prs (V 28 0) (V 27 0 4) f ((cmdR (V 28 0) (V 27 0 4) (V 27 0 5)).2.1 + 1)).2.2) :=
            (cif_pos ok).trans ((cif_neg (by rw [← e5]; rw [e4] at c1; exact c1)).trans (cif_pos (by rw [← e5, ← eT]; exact c2b)))
          obtain ⟨W, w1, w2, w3, w4, w5, w6, w7⟩ := ih (k + 1) (upV (upV U 27 0 6 (U 27 0 6 + 1)) 27 0 5 (U 27 0 5 + 1)) (by omega) (by omega) ioY (by show U 27 0 5 + 1 ≤ U 27 0 4; omega) (by show U 27 0 6 + 1 = k + 1; omega)
          have x4 : upV (upV U 27 0 6 (U 27 0 6 + 1)) 27 0 5 (U 27 0 5 + 1) 27 0 4 = V 27 0 4 := e4
          have xT : upV (upV U 27 0 6 (U 27 0 6 + 1)) 27 0 5 (U 27 0 5 + 1) 28 0 = V 28 0 := eT
          have x5 : upV (upV U 27 0 6 (U 27 0 6 + 1)) 27 0 5 (U 27 0 5 + 1) 27 0 5 = (cmdR (V 28 0) (V 27 0 4) (V 27 0 5)).2.1 + 1 := by show U 27 0 5 + 1 = _; rw [e5]
          rw [x4, xT, x5] at w3 w4 w7
          obtain ⟨a1, a2, a3⟩ := kp (upV (upV U 27 0 6 (U 27 0 6 + 1)) 27 0 5 (U 27 0 5 + 1)) rfl rfl
          have oY : offP V (upV (upV U 27 0 6 (U 27 0 6 + 1)) 27 0 5 (U 27 0 5 + 1)) := by
            refine offP_trans oX ⟨fun a b h => ?_, fun j h => ?_⟩
            · rw [upV_off2 (by omega)]
            · show (if j = 5 then _ else upV U 27 0 6 (U 27 0 6 + 1) 27 0 j) = _
              rw [if_neg (by omega)]
          rw [eP]
          refine ⟨W, offP_trans oY w1, w2, w3, fun z => ⟨?_, fun i hi => ?_⟩, fun s hs => ?_, fun s hs => ?_, w7⟩
          · have := (w4 z).1
            show W 27 0 6 = k + ((_ + 1 : Nat) : Int)
            omega
          · cases i with
            | zero =>
              rw [show k + ((0 : Nat) : Int) = k by omega]
              refine ⟨?_, fun i hi => ?_⟩
              · rw [w5 k (by omega)]; exact a3.1
              · have hl : (cmdR (V 28 0) (V 27 0 4) (V 27 0 5)).2.2.length ≤ 3 := by
                  have l1 := runF_len (T := V 28 0) (L := V 27 0 4) (frm (hereC (V 28 0) (V 27 0 4) (V 27 0 5))) (V 27 0 5) ok
                  have l2 : cntV (frm (hereC (V 28 0) (V 27 0 4) (V 27 0 5))) ≤ 3 := by
                    unfold frm
                    repeat' split
                    all_goals decide
                  have l3 : (((cmdR (V 28 0) (V 27 0 4) (V 27 0 5)).2.2.length : Nat) : Int) = cntV (frm (hereC (V 28 0) (V 27 0 4) (V 27 0 5))) := l1
                  omega
                have hi' : i < (cmdR (V 28 0) (V 27 0 4) (V 27 0 5)).2.2.length := hi
                rw [w6 _ (by omega)]
                exact a3.2 i hi
            | succ i =>
              have hi' : i < (prs (V 28 0) (V 27 0 4) f ((cmdR (V 28 0) (V 27 0 4) (V 27 0 5)).2.1 + 1)).2.2.length := Nat.lt_of_succ_lt_succ hi
              have := (w4 z).2 i hi'
              rw [show k + ((i + 1 : Nat) : Int) = k + 1 + i by omega]
              exact this
          · rw [w5 s (by omega)]; exact a1 s hs
          · rw [w6 s (by omega)]; exact a2 s hs
        · rw [cif_neg c2]
          have hn : ¬ V 28 0 (cmdR (V 28 0) (V 27 0 4) (V 27 0 5)).2.1 = 59 := by
            intro z
            refine c2 ⟨?_, ?_⟩
            · show U 27 0 5 < U 27 0 4
              omega
            · show U 28 0 (U 27 0 5) = 59
              rw [eT, e5]
              exact z
          have eP : prs (V 28 0) (V 27 0 4) (f + 1) (V 27 0 5) = (False, (cmdR (V 28 0) (V 27 0 4) (V 27 0 5)).2.1, []) :=
            (cif_pos ok).trans ((cif_neg (by rw [← e5]; rw [e4] at c1; exact c1)).trans (cif_neg hn))
          obtain ⟨a1, a2, a3⟩ := kp (upV U 27 0 6 (U 27 0 6 + 1)) rfl rfl
          rw [eP]
          exact ⟨_, oX, ioX, e5, fun z => absurd z id, a1, a2, rI0_b id⟩
    · rw [cif_neg ok]
      have eP : prs (V 28 0) (V 27 0 4) (f + 1) (V 27 0 5) = (False, (cmdR (V 28 0) (V 27 0 4) (V 27 0 5)).2.1, []) := cif_neg ok
      rw [eP]
      exact ⟨U, u1, u3, u4, fun z => absurd z id, fun s hs => u6 s (by omega), fun s hs => u7 s (by omega), rI0_b id⟩
theorem s_172 {d : Nat} {q : QQ} {V : VV} (io : inok V) :
    ∃ W, offP V W ∧ inok W ∧ W 27 0 5 = (prs (V 28 0) (V 27 0 4) 10 0).2.1 ∧ ((prs (V 28 0) (V 27 0 4) 10 0).1 → W 27 0 6 = (prs (V 28 0) (V 27 0 4) 10 0).2.2.length ∧ ∀ i : Nat, i < (prs (V 28 0) (V 27 0 4) 10 0).2.2.length → cmdAt W i ((prs (V 28 0) (V 27 0 4) 10 0).2.2.getD i (0, []))) ∧
      RUN (d + 6) 172 (am_en 172 [aR 27 0]) (HM q V) = rI (b2i (prs (V 28 0) (V 27 0 4) 10 0).1) (HM q W) := by
  obtain ⟨i1, i2, i3, i4, i5⟩ := io
  obtain ⟨W, w1, w2, w3, w4, -, -, w7⟩ := parse_go (d := d) (q := q) 10 0 (upV (upV V 27 0 5 0) 27 0 6 0) (by decide) (by decide) ⟨i1, (show (0 : Int) ≤ 0 ∧ (0 : Int) ≤ 60 from ⟨by decide, by decide⟩), (show (0 : Int) ≤ 0 ∧ (0 : Int) ≤ 10 from ⟨by decide, by decide⟩), i4, i5⟩ i1.1 rfl
  have w3' : W 27 0 5 = (prs (V 28 0) (V 27 0 4) 10 0).2.1 := w3
  have w4' : (prs (V 28 0) (V 27 0 4) 10 0).1 → W 27 0 6 = 0 + ((prs (V 28 0) (V 27 0 4) 10 0).2.2.length : Int) ∧ ∀ i : Nat, i < (prs (V 28 0) (V 27 0 4) 10 0).2.2.length → cmdAt W (0 + (i : Int)) ((prs (V 28 0) (V 27 0 4) 10 0).2.2.getD i (0, [])) := w4
  refine ⟨W, offP_trans ⟨fun a b h => ?_, fun j h => ?_⟩ w1, w2, w3', fun z => ⟨?_, fun i hi => ?_⟩, ?_⟩
  · rw [upV_off2 (by omega), upV_off2 (by omega)]
  · show (if j = 6 then _ else if j = 5 then _ else V 27 0 j) = _
    rw [if_neg (by omega), if_neg (by omega)]
  · have := (w4' z).1
    omega
  · have := (w4' z).2 i hi
    rw [Int.zero_add] at this
    exact this
  · exact (show RUN (d + 6) 172 (0, [sR 27 0], []) (HM q V) = _ from Eq.trans (k_aload rfl rfl) (Eq.trans (k_pushi 0 rfl rfl) (Eq.trans (k_putfi 5 rfl rfl rfl rfl trivial) (Eq.trans (k_aload rfl rfl) (Eq.trans (k_pushi 0 rfl rfl) (Eq.trans (k_putfi 6 rfl rfl rfl rfl trivial) w7))))))
