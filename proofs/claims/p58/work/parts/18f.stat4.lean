/-! what holds at the start: strings -/
theorem str_ex {s : State} {args : Array Value} {own tx : String} {k : Nat} (h : (Cond.stringRef own k tx).before args s = true) : ∃ a : Nat, vk_R own k tx a s := by
  have h0 : (Cond.stringRef own k tx).before #[] s = true := h
  simp only [Cond.before, Cond.holds, Cond.value] at h
  cases hr : s.resolvedAt? own k with
  | none => cases hc : s.vm.findClass own <;> simp [hr, hc] at h
  | some r =>
    cases r with
    | string a =>
      refine ⟨a, h0, ?_⟩
      unfold State.resolvedAt? at hr
      simp only [Term.eval]
      cases hc : s.vm.findClass own with
      | none => simp [hc] at hr
      | some c =>
        cases hk : s.vm.classes[c]? with
        | none => simp [hc, hk] at hr
        | some kk =>
          simp [hc, hk] at hr ⊢
          simp [hr]
    | _ => cases hc : s.vm.findClass own <;> simp [hr, hc] at h
theorem txt_in : ∀ q ∈ am_txt, Cond.stringRef q.1 q.2.1 q.2.2 ∈ lw_tbl := by decide +kernel
theorem sz_6 {s : State} {args : Array Value} (hts : ∀ w ∈ lw_tbl, w.before args s = true) : ∀ q, q ∈ am_txt → ∃ a, vk_R q.1 q.2.1 q.2.2 a s := fun q hq => str_ex (hts _ (txt_in q hq))
theorem str_in : ∀ q ∈ am_str, Cond.stringRef q.1 q.2.1 q.2.2.1 ∈ lw_tbl := by decide +kernel
