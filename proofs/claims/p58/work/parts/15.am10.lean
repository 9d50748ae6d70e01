/-! the facts of the start, at any later state; throws; calls -/
theorem am_nest_moved {s U : State} (hW : s.WarmedH U.vm) : ∀ w, w ∈ am_nest → va_Nw w s → va_Nw w U := by
  intro w hw h
  simp only [am_nest, List.mem_cons, List.not_mem_nil, or_false] at hw
  rcases hw with rfl | rfl | rfl | rfl | rfl | rfl | rfl | rfl | rfl | rfl | rfl | rfl | rfl | rfl | rfl | rfl | rfl | rfl
  · exact va_Nw.warmM hW h
  · exact va_Nw.warmM hW h
  · exact va_Nw.warmM hW h
  · exact va_Nw.warmM hW h
  · exact va_Nw.warmC hW h
  · exact va_Nw.warmC hW h
  · exact va_Nw.warmC hW h
  · exact va_Nw.warmC hW h
  · exact va_Nw.warmC hW h
  · exact va_Nw.warmC hW h
  · exact va_Nw.warmC hW h
  · exact word_at hW (Or.inl rfl) h
  · exact word_at hW (Or.inl rfl) h
  · exact word_at hW (Or.inl rfl) h
  · exact word_at hW (Or.inl rfl) h
  · exact va_Nw.warmD hW h
  · exact va_Nw.warmD hW h
  · exact va_Nw.warmD hW h
theorem am_idx_bare (vm : Vm) (comp : ClassId) : (vm.bare.classes.findIdx? fun (x : Class) => match x.kind with | .array component _ => component == comp | _ => false) = (vm.classes.findIdx? fun (x : Class) => match x.kind with | .array component _ => component == comp | _ => false) := by
  simp only [Vm.bare, Array.findIdx?_map]
  rfl
theorem arrayOverA_moved {t : FieldType} {u U : State} (hvm : u.vm.Alike U.vm) (h : (Cond.arrayOver (.array t)).before #[] u = true) : (Cond.arrayOver (.array t)).before #[] U = true := by
  obtain ⟨comp, c, k, h1, h2, h3, h4, h5⟩ := arrayOverA_spec h
  obtain ⟨k', hk', he⟩ := hvm.2.2 _ _ h3
  have hi : (U.vm.classes.findIdx? fun (x : Class) => match x.kind with | .array component _ => component == comp | _ => false) = some c := by
    rw [← am_idx_bare]
    first | rw [hvm.bare_eq] | rw [← hvm.bare_eq]
    rw [am_idx_bare]
    exact h2
  have hkind : k'.kind = .array comp (.array t) := by rw [he]; exact h4
  have f1 : U.vm.findClass (FieldType.array t).toString = some comp := by rw [hvm.findClass]; exact h1
  have f2 : U.vm.findClass ("[" ++ (FieldType.array t).toString) = some c := by rw [hvm.findClass]; exact h5
  unfold Cond.before Cond.holds
  simp only [Cond.value]
  rw [f1, Option.bind_some]
  refine (congrArg (fun o : Option Nat => (o.bind (fun c => (U.vm.classes[c]?).map fun (k : Class) => match k.kind with | .array _ ty => decide (ty = FieldType.array t) && decide (U.vm.findClass ("[" ++ (FieldType.array t).toString) = some c) | _ => false) == some true)) hi).trans ?_
  simp [hk', hkind, f2]
theorem am_wk_moved {k : C0} {s U : State} (hvm : s.vm.Alike U.vm) {b : Nat} {sc : SC} (h : am_wk k s b sc) : am_wk k U b sc := by
  rcases sc with _ | ⟨t, n, g⟩ | ⟨c, fs⟩
  · trivial
  · exact ⟨h.1, va_T.moved hvm h.2⟩
  · exact ⟨h.1, va_O.moved hvm h.2.1, fun f hf => va_OF.moved hvm (h.2.2 f hf)⟩
theorem STAT.moved {k : C0} {s U : State} (hW : s.WarmedH U.vm) (S : STAT k s) : STAT k U := by
  have hvm := hW.alike
  obtain ⟨s1, s2, s3, s4, s5, s6, s7, s8, s9, s10, s11⟩ := S
  exact ⟨fun c q hq => u_Kn_moved hvm (s1 c q hq), fun t ht => ⟨arrOfT_moved hvm (s2 t ht).1, va_RA.moved hvm (s2 t ht).2⟩, fun b => am_wk_moved hvm (s3 b), fun j hj => va_Z.moved hvm (s4 j hj), fun q hq => vk_R.warm hW (s5 q hq), fun q hq => (s6 q hq).imp fun _ h => vk_R.warm hW h,
    ⟨vx_Zq.moved hvm s7.1, vx_Zq.moved hvm s7.2⟩, fun w hw => am_nest_moved hW w hw (s8 w hw), ⟨va_AO.moved hvm s9.1, va_AO.moved hvm s9.2.1, arrayOverA_moved hvm s9.2.2⟩, fun x z hx hz hne => va_Nc.moved hvm (s10 x z hx hz hne), s11⟩
/-- where the classes of the throws lie in SmokeRelay's pool -/
def am_exk (j : Nat) : Nat × Nat := match j with
  | 0 => (96, 100)
  | 1 => (120, 124)
  | 2 => (316, 320)
  | 3 => (157, 161)
  | 4 => (264, 268)
  | _ => (298, 302)
def am_ex13 : ByteArray := ⟨#[0x2a, 0x2b, 0xb7, 0x00, 0x0d, 0xb1]⟩
def am_exr (j : Nat) : Nat × ByteArray := match j with
  | 3 => (13, am_ex13)
  | _ => (7, Bundle.six)
theorem am_exr_0 (j : Nat) : decode (am_exr j).2 0 = .ok (.aload_n 0, 1) ∧ decode (am_exr j).2 1 = .ok (.aload_n 1, 1) ∧ decode (am_exr j).2 2 = .ok (.invokespecial (am_exr j).1, 3) ∧ decode (am_exr j).2 5 = .ok (.return_, 1) := by
  have h6 : decode Bundle.six 0 = .ok (.aload_n 0, 1) ∧ decode Bundle.six 1 = .ok (.aload_n 1, 1) ∧ decode Bundle.six 2 = .ok (.invokespecial 7, 3) ∧ decode Bundle.six 5 = .ok (.return_, 1) := ⟨by decide +kernel, by decide +kernel, by decide +kernel, by decide +kernel⟩
  unfold am_exr
  split
  · exact ⟨by decide +kernel, by decide +kernel, by decide +kernel, by decide +kernel⟩
  · exact h6
abbrev am_sup : List String := ["java/lang/RuntimeException", "java/lang/Exception"]
theorem am_hat : ∀ j, j < 6 → ((Bundle.ownAtomsX "SmokeRelay" (am_exk j).2 (am_exn j) (am_exr j).1 (am_exr j).2 am_sup).filter vx_no).all (fun w => (decide (w ∈ lw_tbl) && goodWord w) || decide (w ∈ am_nest)) = true := by decide +kernel
theorem am_hgood : ∀ j, j < 6 → (Cond.classLink "SmokeRelay" (am_exk j).1 (am_exn j) :: Cond.initialized (am_exn j) :: (Bundle.ownAtomsX "SmokeRelay" (am_exk j).2 (am_exn j) (am_exr j).1 (am_exr j).2 am_sup).filter vx_no).all vx_ot = true := by decide +kernel
theorem am_hlink : ∀ j, j < 6 → Cond.classLink "SmokeRelay" (am_exk j).1 (am_exn j) ∈ lw_tbl ∧ Cond.initialized (am_exn j) ∈ lw_tbl ∧ Bundle.fit (am_exn j) = true := by decide +kernel
/-- the facts for a throw -/
theorem am_thr {x : CX} {y j : Nat} (C : CT x y) (hj : j < 6) : (∀ w ∈ (Bundle.ownAtomsX "SmokeRelay" (am_exk j).2 (am_exn j) (am_exr j).1 (am_exr j).2 am_sup).filter vx_no, w.before x.2.2.2.2.2.2.2.2.2.2.1 (xS x) = true) := by
  intro w hw
  have h1 := List.all_eq_true.mp (am_hat j hj) w hw
  simp only [Bool.or_eq_true, Bool.and_eq_true, decide_eq_true_eq] at h1
  rcases h1 with ⟨h2, h3⟩ | h2
  · exact C.wa h2 h3
  · obtain ⟨k, o, hE, ⟨d, n9, sl0⟩, p, l, e, R, s, m, args, below, meth, c⟩ := x
    have h3 : va_Nw w s := C.2.2.1.2.2.2.2.2.2.2.1 w h2
    refine va_Nw.use ?_ h3
    simp only [am_nest, List.mem_cons, List.not_mem_nil, or_false] at h2
    rcases h2 with rfl | rfl | rfl | rfl | rfl | rfl | rfl | rfl | rfl | rfl | rfl | rfl | rfl | rfl | rfl | rfl | rfl | rfl <;> rfl
theorem s_throw {y pc j is : Nat} {tx : String} (hj : j < 6) (hown : (am_mi y).1.cls = "SmokeRelay") (hh : (am_mi y).2.2.2.2.1 = []) (htx : ("SmokeRelay", is, tx) ∈ am_txt) (d0 : decode (am_mi y).2.1 pc = .ok (.new (am_exk j).1, 3)) (d3 : decode (am_mi y).2.1 (pc + 3) = .ok (.dup, 1))
    (d4 : (decode (am_mi y).2.1 (pc + 4) = .ok (.ldc is, 2) ∧ decode (am_mi y).2.1 (pc + 6) = .ok (.invokespecial (am_exk j).2, 3) ∧ decode (am_mi y).2.1 (pc + 9) = .ok (.athrow, 1)) ∨ (decode (am_mi y).2.1 (pc + 4) = .ok (.ldc_w is, 3) ∧ decode (am_mi y).2.1 (pc + 7) = .ok (.invokespecial (am_exk j).2, 3) ∧ decode (am_mi y).2.1 (pc + 10) = .ok (.athrow, 1))) : Snd y pc (i_throw j) := by
  intro x C fr h hpc ha
  obtain ⟨pc', ls, st⟩ := fr
  obtain rfl : pc' = pc := hpc
  unfold i_throw at ha ⊢
  dsimp only at ha ⊢
  split at ha
  · rename_i hble
    refine ⟨⟨Nat.le_succ _, Nat.le_add_right _ _⟩, fun ho hhE H locs cells slots lsC hp => ?_⟩
    have hat := am_thr C hj
    have hlk := am_hlink j hj
    have hk := C.wa hlk.1 rfl
    have hini := C.wa hlk.2.1 rfl
    have hgood := fun w hw => List.all_eq_true.mp (am_hgood j hj) w hw
    have hcat := am_cats (xK x) C.fmt st hble
    obtain ⟨k, o, hE, ⟨d, n9, sl0⟩, p, l, e, R, s, m, args, below, meth, c⟩ := x
    cases ho
    cases hhE
    obtain ⟨sa, hsa⟩ := C.2.2.1.2.2.2.2.2.1 _ htx
    have hR1 : d + 16 ≤ R.frames := C.2.2.2.2.1.1
    have hR2 : 45 * d + 400 ≤ R.locals := C.2.2.2.2.1.2.1
    have hR3 : hN h + 1 ≤ R.cells + n9 := C.2.2.2.2.1.2.2.1
    have hR4 : hL h + 6 ≤ R.slots + sl0 := C.2.2.2.2.1.2.2.2
    have hq1 : cells + n9 = hN h := hp.2.2.1
    have hq2 : slots + sl0 = hL h := hp.2.2.2.1
    have hHz : H.size = (kH k).size + hN h := hp.1.1
    have hc : ((st.map (am_cv k)).map fun v => v.category).sum ≤ 8 := hcat
    have hown2 : s.vm.findClass "SmokeRelay" = some m.cls := by rw [← hown]; exact C.1.2.2.2.1
    have htab : ∀ z ∈ c.exceptionTable.toList, False := by
      intro z hz
      have h9 : c.exceptionTable.toList = tableOf (am_mi y).2.2.2.2.1 := C.1.2.2.2.2.2.2.1
      rw [h9, hh] at hz
      cases hz
    have hkept : ∀ a : Nat, a < (kH k).size → ¬ frA k a → s.heap[a]? = (kH k)[a]? := fun a ha _ => C.2.2.2.2.2.2 a ha
    have hU := C.2.2.1.2.2.2.2.2.2.1.1.kept hkept
    have hNn := C.2.2.1.2.2.2.2.2.2.1.2.kept hkept
    have hsz : s.heap.size = (kH k).size + n9 := C.2.2.2.2.2.1
    have hS : va_S (frA k) s.heap H locs := ⟨by rw [hsz, hHz]; omega, fun q h1 h2 => by
      have h3 : q < (kH k).size := Nat.not_le.mp h2
      rw [C.2.2.2.2.2.2 q h3]
      exact hp.1.2.1 q h3, hp.2.1⟩
    have g1 : am_sup.length + 3 < R.frames := by show 2 + 3 < R.frames; omega
    have g2 : ((st.map (am_cv k)).map fun v => v.category).sum + (13 * (am_sup.length + 1) + 43) ≤ R.locals := by show _ + (13 * (2 + 1) + 43) ≤ _; omega
    have g3 : cells + 1 ≤ R.cells := by omega
    have g4 : slots + 6 ≤ R.slots := by omega
    have g5 : cells + 1 ≤ hN h + 1 - n9 := by omega
    have g6 : slots + 6 ≤ hL h + 6 - sl0 := by omega
    obtain ⟨x0, x1, x2, x5⟩ := am_exr_0 j
    have hout : ∀ (H1 : Heap) (pc2 : Nat), H1.size = H.size + 1 → (∀ q, q < H.size → H1[q]? = H[q]?) → (∃ ce : Cell, H1[H.size]? = some ce ∧ ce.vm = .none ∧ s.vm.findClass (am_exn j) = some ce.cls) → decode (am_mi y).2.1 pc2 = .ok (.athrow, 1) →
        W p l e R s m args below meth c H1 locs (cells + 1) (slots + 6) (vx_MQ below (QcA k (Sum.inr j) (h.1, (hN h + 1, hL h + 6), h.2.2)) (XcA k (Sum.inr j) (h.1, (hN h + 1, hL h + 6), h.2.2)) args s (hN h + 1 - n9) (hL h + 6 - sl0) (frA k)) (F0 m pc2 lsC (.ref H.size :: st.map (am_cv k))) := by
      intro H1 pc2 z1 o1 hce e9
      obtain ⟨ce, hc1, hc2, hc3⟩ := hce
      refine vx_athrow C.1.1 C.1.2.1 e9 (vx_out (fun z hz => (htab z hz).elim) C.1.2.2.2.2.2.1 hc1 hc2 hc3 (fun t ht _ => ?_) hp.2.1 g5 g6)
      exact ⟨j, rfl, hj, rfl, by rw [ht]; exact hp.1.junk 1 (hL h + 6) z1 o1⟩
    rcases d4 with ⟨e4, e6, e9⟩ | ⟨e4, e7, e10⟩
    · exact am_makeX C.1.1 C.1.2.1 C.2.2.2.1 x0 x1 x2 x5 hown2 hlk.2.2 (by decide) hk hini hsa hat hgood hU hNn hS (hp.2.2.2.2.1.1.trans C.1.2.2.1.symm) d0 d3 e4 e6 g1 g2 g3 g4 (fun H1 z1 o1 hce => hout H1 _ z1 o1 hce e9)
    · exact am_makeXW C.1.1 C.1.2.1 C.2.2.2.1 x0 x1 x2 x5 hown2 hlk.2.2 (by decide) hk hini hsa hat hgood hU hNn hS (hp.2.2.2.2.1.1.trans C.1.2.2.1.symm) d0 d3 e4 e7 g1 g2 g3 g4 (fun H1 z1 o1 hce => hout H1 _ z1 o1 hce e10)
  · exact absurd ha.1 id
