/-! a store beside a place of two words -/
theorem FR.st1d {k : C0} {nL : Nat} {w : Nat → Bool} {lsC lsC' : Array Slot} {ls : List (Option AV)} (h : FR k nL w lsC ls) (hk : k.2.2.2.2.2.2 = .null ∨ ∃ a, k.2.2.2.2.2.2 = .ref a) {i : Nat} {v : AV} (hv : am_c2 v = false) (hi : ∀ w, ls[i - 1]? = some (some w) → am_c2 w = false) (hn : i < nL)
    (h2 : lv_has lsC' nL ((i, am_cv k v) :: (am_toL k 0 ls).filter (fun q => !(q.1 == i) && !(q.1 + 1 == i && q.2.category == 2)))) : FR k nL w lsC' (ls.set i (some v)) := by
  obtain ⟨-, hlen, hc⟩ := h
  refine ⟨⟨h2.1, h2.2.1, fun q hq => ?_⟩, by rw [List.length_set]; exact hlen, fun j w hj hw => ?_⟩
  · obtain ⟨w, -, hw1, hw2⟩ := (am_toL_mem k _ 0 q).mp hq
    rw [Nat.sub_zero] at hw1
    by_cases e : q.1 = i
    · rw [e, List.getElem?_set_self (by rw [hlen]; exact hn)] at hw1
      have e2 : v = w := by simpa using hw1
      subst e2
      have e3 := h2.2.2 (i, am_cv k v) List.mem_cons_self
      rw [e, hw2]
      exact e3
    · rw [List.getElem?_set_ne (fun z => e z.symm)] at hw1
      refine h2.2.2 q (List.mem_cons_of_mem _ (List.mem_filter.mpr ⟨(am_toL_mem k ls 0 q).mpr ⟨w, Nat.zero_le _, hw1, hw2⟩, ?_⟩))
      have e1 : (q.1 == i) = false := by simpa using e
      rw [e1]
      by_cases e2 : q.1 + 1 = i
      · have hcat : am_c2 w = false := by
          refine hi w ?_
          rw [← e2, Nat.add_sub_cancel]
          exact hw1
        rw [hw2, am_cv_cat k hk w, hcat]
        simp
      · simp [e2]
  · by_cases e : j = i
    · subst e
      rw [List.getElem?_set_self (by rw [hlen]; exact hn)] at hj
      have e2 : v = w := by simpa using hj
      subst e2
      rw [hv] at hw
      cases hw
    · rw [List.getElem?_set_ne (fun z => e z.symm)] at hj
      exact hc j w hj hw
def i_storeC (i nx : Nat) : Ins := fun fr h => match fr.2.2 with
  | Sum.inl x :: st => goC (∀ w, fr.2.1[i - 1]? = some (some w) → am_c2 w = false) nx (fr.2.1.set i (some (aI x))) st h
  | _ => stuck
theorem snd_storeC {y pc i nx : Nat} (hs : i < (am_mi y).2.2.1)
    (row : ∀ x : CX, CT x y → ∀ H locs cells slots (lsC : Array Slot) rest v lv, lv_has lsC (am_mi y).2.2.1 lv → (∀ lsC', lv_has lsC' (am_mi y).2.2.1 ((i, Value.int v) :: lv.filter (fun q => !(q.1 == i) && !(q.1 + 1 == i && q.2.category == 2))) → WX x H locs cells slots (F0 (xM x) nx lsC' rest)) → WX x H locs cells slots (F0 (xM x) pc lsC (.int v :: rest))) : Snd y pc (i_storeC i nx) := by
  intro x C fr h hpc ha
  obtain ⟨pc', ls, st⟩ := fr
  obtain rfl : pc' = pc := hpc
  unfold i_storeC at ha ⊢
  dsimp only at ha ⊢
  split at ha
  · rename_i v st'
    exact ⟨⟨Nat.le_refl _, Nat.le_refl _⟩, fun _ _ K H locs cells slots lsC hp => row x C H locs cells slots lsC _ v _ hp.2.2.2.2.1 (fun lsC' h2 => K H locs cells slots lsC' ⟨hp.1, hp.2.1, hp.2.2.1, hp.2.2.2.1, FR.st1d hp.2.2.2.2 C.fmt (v := aI v) rfl ha.1 hs h2⟩)⟩
  · exact absurd ha.1 id
theorem s_istoreC {y pc nx i : Nat} (hd : decode (am_mi y).2.1 pc = .ok (.istore i, 2)) (hs : i < (am_mi y).2.2.1) (hn : pc + 2 = nx) : Snd y pc (i_storeC i nx) := by
  subst hn
  refine snd_storeC hs fun x C H locs cells slots lsC rest v lv hl K => ?_
  obtain ⟨k, o, hE, ⟨d, n0, sl0⟩, p, l, e, R, s, m, args, below, meth, c⟩ := x
  exact lv_istore C.1.1 C.1.2.1 hd hl hs rfl K
