/-! Kind.ordinal: its class, java/lang/Enum, is not among the words said to be initialized; so its frame is walked by hand, in one instruction of the small machine -/
section AMO
variable {p : Program} {l : Launch} {e : Env} {R : Room} {s : State} {m : MethodId} {args : Array Value} {below : List Frame} {meth : Method} {c : Code} {H : Heap} {locs : List Loc} {cells slots : Nat} {Q : State → Prop}
abbrev am_ordY : MethodName := ⟨"java/lang/Enum", "ordinal", "()I"⟩
theorem am_ordW {own : String} {index : Nat} {b : Nat} {v : Int32} {cc bytes : ByteArray} {nL pc : Nat} {ls : Array Slot} {rest : List Value} (hexec : p.tables.exec = Jvm.exec) (hb : c.code = cc) (hml : c.maxLocals = nL) (hown : s.vm.findClass own = some m.cls)
    (hlink : (Cond.methodLink own index am_ordX).before args s = true) (hsame : (Cond.sameMethod "SmokeRelay$Kind" "java/lang/Enum" "ordinal" "()I").before args s = true) (hsel : (Cond.selects "SmokeRelay$Kind" am_ordX am_ordY).before args s = true) (hinst : (Cond.instanceMethod am_ordY).before args s = true) (hcode : (Cond.code am_ordY bytes 1 (some .int)).before args s = true) (hfl : (Cond.fieldLink "java/lang/Enum" 7 "java/lang/Enum" "ordinal" "I").before args s = true)
    (d0 : decode bytes 0 = .ok (.aload_n 0, 1)) (d1 : decode bytes 1 = .ok (.getfield 7, 3)) (d4 : decode bytes 4 = .ok (.ireturn, 1))
    (hcell : ∃ cellB : Cell, H[b]? = some cellB ∧ cellB.vm.isStatics = false ∧ s.vm.findClass "SmokeRelay$Kind" = some cellB.cls) (hOF : ∃ (cf : ClassId) (k : Class) (i : Nat) (f : Field) (cell : Cell), s.fieldFound? "java/lang/Enum" "ordinal" "I" = some (cf, k, i, f) ∧ f.isStatic = false ∧ H[b]? = some cell ∧ cell.vm ≠ .unknown ∧ cell.slots[f.slot]? = some (.int v))
    (hls : ls.size = nL) (hW : (rest.map fun v => v.category).sum ≤ 8) (hR1 : 2 ≤ R.frames) (hR2 : 100 ≤ R.locals) (hdg : decode cc pc = .ok (.invokevirtual index, 3)) (hc : cells ≤ R.cells) (hs : slots ≤ R.slots)
    (K : W p l e R s m args below meth c H locs cells slots Q (F0 m (pc + 3) ls (.int v :: rest))) : W p l e R s m args below meth c H locs cells slots Q (F0 m pc ls (.ref b :: rest)) := by
  intro T hT X
  obtain ⟨cellB, hcB, hobj, hcls⟩ := hcell
  have hd0 : va_Decl s ⟨"java/lang/Enum", am_ordX.name, am_ordX.desc⟩ := va_Decl.of hinst hcode
  obtain ⟨r0, r, hn, hrm, hstR, hsigR⟩ := hd0
  obtain ⟨cn, ck, r1, hcn, hck, hni, hf, hn1⟩ := Cond.sameMethod_found hsame
  cases hn.symm.trans hn1
  obtain ⟨mk, methM, hnamed, hmethM, -, habM⟩ := Cond.instanceMethod_spec hinst
  obtain ⟨c2, r2, m2, q1, q2, q3, q4, kP, hkP, hkPi⟩ := Cond.selects_spec hsel
  cases hcls.symm.trans q1
  cases hf.symm.trans q2
  cases hnamed.symm.trans q3
  obtain ⟨methM', cM, hmethM', hcM, hbM, hlM, hretM, hlocksM, -, hsigM⟩ := Cond.code_spec hnamed hcode
  cases hmethM.symm.trans hmethM'
  have hselP : selectMethod e.platform s.vm cellB.cls r0 = .method mk := by rw [Launch.admits_selectMethod X.admits]; exact q4
  have hlen0 : ∀ sig, parseMethodDescriptor am_ordX.desc = some sig → ([] : List Value).length = sig.parameters.length := fun sig h => by
    have h2 : (parseMethodDescriptor "()I").map (fun d => d.parameters.length) = some 0 := by decide +kernel
    have h3 : parseMethodDescriptor am_ordX.desc = parseMethodDescriptor "()I" := rfl
    rw [← h3, h] at h2
    exact (Option.some.inj h2).symm
  obtain ⟨vm₁, X₁, hstep₁⟩ := X.invokevirtualUp hexec hown hlink hsame ⟨by decide, by decide⟩ hn hrm hstR (a := b) (cell := cellB) (by rw [hT]; exact hcB)
    (fun z h => by rw [h] at hobj; cases hobj) hselP hmethM habM hkP hkPi (g := F0 m pc ls (.ref b :: rest)) rfl (argsL := []) (rest := rest) (hlen0 _ hsigR) rfl (by rw [hb]; exact hdg)
  have hW₁ := X₁.warmed
  generalize hU : T.setVm vm₁ = U at X₁ hstep₁ hW₁
  have hUH : U.heap = H := by rw [← hU]; exact hT
  have hg0 : ({ F0 m pc ls (.ref b :: rest) with stack := rest } : JFrame) = F0 m pc ls rest := rfl
  have hmU : U.vm.method? mk = some methM := by rw [hW₁.alike.method?]; exact hmethM
  have h : At U (F0 m pc ls rest).method c below := X₁.here
  have htop := h.top
  have hnot : e.platform.stackFull (((U.setTop (F0 m pc ls rest)).threads[(U.setTop (F0 m pc ls rest)).cur]?).getD { frames := [] }) (U.setTop (F0 m pc ls rest)).frames cM.maxLocals = false :=
    X₁.notFull (g := F0 m pc ls rest) (hls.trans hml.symm) (by omega) (by
      show 2 * 0 + (rest.map fun v => v.category).sum + (cM.maxLocals + 11) ≤ R.locals
      rw [hlM]
      omega)
  have hroom : (U.calling (F0 m pc ls rest) mk #[.ref b]).hasRoom e.platform { frames := 1, cells := 0, slots := 0, locals := 0 } = true :=
    X₁.room_calling (g := F0 m pc ls rest) (R' := { frames := 1, cells := 0, slots := 0, locals := 0 }) (hls.trans hml.symm) hmU hcM hR1 (by
      show 2 * 0 + (rest.map fun v => v.category).sum + (cM.maxLocals + 11) + 0 ≤ R.locals
      rw [hlM]
      omega) hc hs
  have hcodeU : (U.calling (F0 m pc ls rest) mk #[.ref b]).code? m = some c := by
    have h9 := h.code
    rw [State.code?_eq] at h9 ⊢
    simpa [State.calling, State.pushFrame, State.setFrames] using h9
  have hcur : (U.calling (F0 m pc ls rest) mk #[.ref b]).cur < (U.calling (F0 m pc ls rest) mk #[.ref b]).threads.size := State.cur_lt_of_frames (State.frames_calling htop _ _ _)
  obtain ⟨th, hth, -⟩ := State.frames_cons (State.frames_calling htop (F0 m pc ls rest) mk #[.ref b])
  have hent : (U.setTop (F0 m pc ls rest)).pushFrame (.java (entryFrame mk #[.ref b] cM.maxLocals)) = (U.calling (F0 m pc ls rest) mk #[.ref b]).setFrames (.java (entryFrame mk #[.ref b] cM.maxLocals) :: .java (F0 m pc ls rest) :: U.frames.tail) := by
    rw [State.calling_eq htop, State.setFrames_setFrames, State.pushFrame, State.frames_setTop' _ htop]
    obtain ⟨g₀, hg⟩ := Option.isSome_iff_exists.mp htop
    obtain ⟨r9, hr9⟩ := State.topJava?_eq_some.mp hg
    rw [State.setTop_of_frames _ hr9, State.setFrames_setFrames]
  have hnamedU : U.methodNamed? am_ordY = some mk := X₁.named hnamed
  have hplain : U.plainMethod mk := State.plainMethod.of_named (x := am_ordY) (by decide +kernel) hnamedU hmU
  have hAt := At.enter (g := F0 m pc ls rest) h #[.ref b] hmU hcM hplain
  have hf9 := frames_entered (g := F0 m pc ls rest) htop (.java (entryFrame mk #[.ref b] cM.maxLocals))
  have hS : Stand p l e { frames := 1, cells := 0, slots := 0, locals := 0 } (U.calling (F0 m pc ls rest) mk #[.ref b]) mk #[.ref b] (.java (F0 m pc ls rest) :: U.frames.tail) methM cM ((U.setTop (F0 m pc ls rest)).pushFrame (.java (entryFrame mk #[.ref b] cM.maxLocals))) [] 0 0 := by
    refine ⟨X₁.admits, X₁.cas, X₁.clock, State.frames_calling htop _ _ _, hroom, ?_, ?_, hcM, ⟨hAt.top, ⟨[], by rw [hf9]; rfl⟩, hAt.running, hAt.runnable, hAt.alone, hAt.code, hAt.plain⟩, by rw [hf9]; rfl, ?_, ?_, ?_, ?_⟩
    · have hd9 : decode c.code pc = .ok (.invokevirtual index, 3) := by rw [hb]; exact hdg
      simp [State.hears, hcodeU, hd9, Except.toOption]
    · exact hmU
    · rw [hent]; exact State.WarmedH.refl _
    · rw [hent, State.stackLimits_setFrames]
    · rw [hent, State.stackBytes_setFrames]
    · have h9 := (State.sameButNew.refl (U.calling (F0 m pc ls rest) mk #[.ref b]) hth).setFrames (.java (entryFrame mk #[.ref b] cM.maxLocals) :: .java (F0 m pc ls rest) :: U.frames.tail) hcur
      rw [hent]
      exact h9
  have hmkE : (U.calling (F0 m pc ls rest) mk #[.ref b]).vm.findClass "java/lang/Enum" = some mk.cls := by
    show U.vm.findClass "java/lang/Enum" = some mk.cls
    exact findClass_of_methodNamed hnamedU
  have hfl2 : (Cond.fieldLink "java/lang/Enum" 7 "java/lang/Enum" "ordinal" "I").before #[.ref b] (U.calling (F0 m pc ls rest) mk #[.ref b]) = true := by
    rw [State.calling_eq htop, Cond.before_setFrames]
    exact word_at hW₁ (Or.inl rfl) hfl
  obtain ⟨cf0, kf0, fi0, ff0, cellF0, g1, g2, g3, g4, g5⟩ := hOF
  have hO : va_OF "java/lang/Enum" "ordinal" "I" (.int v) b (fun _ => False) s H := ⟨cf0, kf0, fi0, ff0, cellF0, g1, g2, g3, g4, g5, id⟩
  obtain ⟨cf, kf, fi, ff, cellF, e1, e2, e3, e4, e5, -⟩ := va_OF.moved (U := U.calling (F0 m pc ls rest) mk #[.ref b]) hW₁.alike hO
  have hl0 := lv_entry ([.ref b]) (n := cM.maxLocals) (by rw [hlM]; exact Nat.le_refl _)
  have hWC : W p l e { frames := 1, cells := 0, slots := 0, locals := 0 } (U.calling (F0 m pc ls rest) mk #[.ref b]) mk #[.ref b] (.java (F0 m pc ls rest) :: U.frames.tail) methM cM H [] 0 0 (MQ (.java (F0 m pc ls rest) :: U.frames.tail) (fun _ _ o t => o = .returned (some (.int v)) ∧ t.heap = H) #[.ref b] (U.calling (F0 m pc ls rest) mk #[.ref b]) 0 0 (fun _ => False)) (entryFrame mk ([.ref b] : List Value).toArray cM.maxLocals) := by
    rw [lg_entry_eq]
    refine lv_aload_n hexec hbM d0 rfl (lv_at hl0 0 rfl) ?_
    refine W.getf hexec hbM hmkE hfl2 e1 e2 e3 e4 e5 rfl rfl d1 ?_
    exact W.iret hexec hbM hretM (fun t ht _ => ⟨rfl, ht⟩) (fun q hq => absurd hq List.not_mem_nil) d4 hlocksM
  obtain ⟨t, hst, o, hrun, hend, ⟨rfl, hth9⟩, L, hfe, hL9⟩ := hWC ((U.setTop (F0 m pc ls rest)).pushFrame (.java (entryFrame mk #[.ref b] cM.maxLocals))) hUH hS
  have hLn : L = [] := by
    cases L with
    | nil => rfl
    | cons q r => exact (hL9 q List.mem_cons_self).elim
  subst hLn
  have htail : U.frames.tail = below := X₁.tail
  obtain ⟨nS, hn1, hn2⟩ := hst
  have hst2 : Steps p.tables e below (((U.setTop (F0 m pc ls rest)).pushFrame (.java (entryFrame mk #[.ref b] cM.maxLocals))).setTop (entryFrame mk ([.ref b] : List Value).toArray cM.maxLocals)) t := by
    refine ⟨nS, hn1, fun j hj => ?_⟩
    have h9 := hn2 j hj
    rw [htail] at h9
    exact Within.weaken (mid := [.java (F0 m pc ls rest)]) h9
  obtain ⟨-, hW₂, hsb⟩ := hfe
  obtain ⟨e9, q2, q3, q4, q5, q6⟩ := hsb
  obtain ⟨g₀, hg0⟩ := Option.isSome_iff_exists.mp htop
  obtain ⟨r9, hr9⟩ := State.topJava?_eq_some.mp hg0
  have hr' : (({ U with heap := t.heap, slotsUsed := t.slotsUsed } : State).setVm t.vm).frames = .java g₀ :: r9 := hr9
  have e10 : t = ({ (U.calling (F0 m pc ls rest) mk #[.ref b]).setFrames t.frames with heap := t.heap, slotsUsed := t.slotsUsed } : State).setVm t.vm := by
    have h11 : t = ({ t with vm := (U.calling (F0 m pc ls rest) mk #[.ref b]).vm } : State).setVm t.vm := rfl
    rw [e9] at h11
    exact h11
  obtain ⟨c₂, i₂, len₂, hc₂, hd₂, hf₂⟩ := hend
  have hW' : U.WarmedH t.vm := hW₂
  have hcc : c₂ = c := by
    have h11 : t.code? m = U.code? m := by
      rw [State.code?_eq, State.code?_eq, hW'.alike.method?]
    exact Option.some.inj (hc₂.symm.trans (h11.trans h.code))
  subst hcc
  have hlen3 : len₂ = 3 := by
    have hd9 : decode c₂.code pc = .ok (.invokevirtual index, 3) := by rw [hb]; exact hdg
    have hd10 : decode c₂.code pc = .ok (i₂, len₂) := hd₂
    rw [hd9] at hd10
    cases hd10
    rfl
  subst hlen3
  have hs₂ : t = (({ U with heap := t.heap, slotsUsed := t.slotsUsed } : State).setVm t.vm).setTop (F0 m (pc + 3) ls (.int v :: rest)) := by
    refine e10.trans ?_
    rw [hf₂, State.calling_eq htop, State.setFrames_setFrames, State.setTop_of_frames _ hr', hr9]
    rfl
  have hsame9 : U.sameButNew ({ U with heap := t.heap, slotsUsed := t.slotsUsed } : State) [] 0 0 := by
    refine ⟨?_, q2, q3, q4, q5, q6⟩
    obtain ⟨tt, ht, -⟩ := State.frames_cons hr9
    show ({ U with heap := t.heap, slotsUsed := t.slotsUsed } : State) = { U.setFrames U.frames with heap := t.heap, slotsUsed := t.slotsUsed }
    rw [State.setFrames_self ht]
  have X₂ : Stand p l e R s m args below meth c₂ (({ U with heap := t.heap, slotsUsed := t.slotsUsed } : State).setVm t.vm) (locs ++ []) (cells + 0) (slots + 0) :=
    ⟨X₁.admits, X₁.cas, X₁.clock, X₁.frames, X₁.room, X₁.hears, X₁.method, X₁.code, (X₁.here.setHeapUsed t.heap t.slotsUsed).setVm hW'.alike, X₁.tail, State.WarmedH.trans X₁.warmed hW', X₁.limits, X₁.bytes, X₁.same.trans (hsame9.setVm s.vm)⟩
  rw [List.append_nil] at X₂
  obtain ⟨t2, a1, b1⟩ := K (({ U with heap := t.heap, slotsUsed := t.slotsUsed } : State).setVm t.vm) hth9 X₂
  refine ⟨t2, hstep₁ _ fun acts => ?_, b1⟩
  rw [doInvoke_enter (g := F0 m pc ls rest) htop acts hmU hcM hlocksM hnot]
  refine hst2.trans ?_
  rw [hs₂]
  exact a1
end AMO
