/-! the values of a command that was read -/
def bndV (c v : Int) : Prop := if c = 68 then 0 ≤ v ∧ v ≤ 9 else if c = 76 then 97 ≤ v ∧ v < 113 else if c = 78 then 0 ≤ v ∧ v ≤ 99 else -9 ≤ v ∧ v ≤ 9
def valsOK : List Int → List Int → Prop
  | [], l => l = []
  | c :: F, l => if c = 68 ∨ c = 76 ∨ c = 78 ∨ c = 87 then ∃ v m, l = v :: m ∧ bndV c v ∧ valsOK F m else valsOK F l
theorem bnd_of {T : Int → Int} {L c p : Int} (hv : isV c) (ok : okI T L c p) : bndV c (valI T L c p) := by
  unfold bndV
  by_cases c1 : c = 68
  · rw [if_pos c1]
    subst c1
    obtain ⟨k1, k2, k3⟩ := okI_68 (T := T) (L := L) (p := p)
    rw [k1] at ok
    rw [k3]
    have := ok.2
    omega
  · rw [if_neg c1]
    by_cases c2 : c = 76
    · rw [if_pos c2]
      subst c2
      obtain ⟨k1, k2, k3⟩ := okI_76 (T := T) (L := L) (p := p)
      rw [k1] at ok
      rw [k3]
      have := ok.2
      omega
    · rw [if_neg c2]
      by_cases c3 : c = 78
      · rw [if_pos c3]
        subst c3
        obtain ⟨k1, k2, k3⟩ := okI_78 (T := T) (L := L) (p := p)
        rw [k1] at ok
        rw [k3]
        have h1 := ok.2
        by_cases z : dig T L (p + 1)
        · rw [cif_pos z]
          have h2 := z.2
          omega
        · rw [cif_neg z]
          omega
      · rw [if_neg c3]
        have c4 : c = 87 := by
          rcases hv with z | z | z | z
          · exact absurd z c1
          · exact absurd z c2
          · exact absurd z c3
          · exact z
        subst c4
        obtain ⟨k1, k2, k3⟩ := okI_87 (T := T) (L := L) (p := p)
        rw [k1] at ok
        rw [k3]
        unfold wP at ok
        by_cases z : mns T L p
        · rw [cif_pos z] at ok ⊢
          have := ok.2
          omega
        · rw [cif_neg z] at ok ⊢
          have := ok.2
          omega
theorem runF_vals {T : Int → Int} {L : Int} : ∀ (F : List Int) (p : Int), (runF T L F p).1 → valsOK F (runF T L F p).2.2 := by
  intro F
  induction F with
  | nil => intro p _; exact rfl
  | cons c F ih =>
    intro p h
    by_cases k : okI T L c p
    · rw [runF_ok k] at h ⊢
      have hi := ih _ h
      show valsOK (c :: F) (cif (isV c) [valI T L c p] [] ++ (runF T L F (endI T L c p)).2.2)
      unfold valsOK
      by_cases v : isV c
      · rw [if_pos (show c = 68 ∨ c = 76 ∨ c = 78 ∨ c = 87 from v), cif_pos v]
        exact ⟨_, _, rfl, bnd_of v k, hi⟩
      · rw [if_neg (show ¬ (c = 68 ∨ c = 76 ∨ c = 78 ∨ c = 87) from v), cif_neg v]
        exact hi
    · rw [runF_no k] at h
      exact absurd h id
/-- a command with its values -/
def cmdOK (x : Int × List Int) : Prop := (x.1 = 103 ∧ ∃ a b, x.2 = [a, b] ∧ (0 ≤ a ∧ a ≤ 99) ∧ 0 ≤ b ∧ b ≤ 9) ∨ (x.1 = 116 ∧ ∃ a b c, x.2 = [a, b, c] ∧ (0 ≤ a ∧ a ≤ 99) ∧ (0 ≤ b ∧ b ≤ 9) ∧ 0 ≤ c ∧ c ≤ 9) ∨ (x.1 = 109 ∧ ∃ a b, x.2 = [a, b] ∧ (0 ≤ a ∧ a ≤ 9) ∧ 0 ≤ b ∧ b ≤ 9) ∨ (x.1 = 119 ∧ ∃ a, x.2 = [a] ∧ -9 ≤ a ∧ a ≤ 9) ∨
  (x.1 = 115 ∧ ∃ a b c, x.2 = [a, b, c] ∧ (0 ≤ a ∧ a ≤ 9) ∧ (0 ≤ b ∧ b ≤ 9) ∧ 97 ≤ c ∧ c < 113)
theorem vals_103 {l : List Int} (h : valsOK (frm 103) l) : ∃ a b, l = [a, b] ∧ (0 ≤ a ∧ a ≤ 99) ∧ 0 ≤ b ∧ b ≤ 9 := by
  obtain ⟨a, m, e1, h1, b, m2, e2, h2, e3⟩ : ∃ v m, l = v :: m ∧ bndV 78 v ∧ ∃ v2 m2, m = v2 :: m2 ∧ bndV 68 v2 ∧ m2 = [] := h
  subst e3 e2 e1
  exact ⟨a, b, rfl, h1, h2⟩
theorem vals_116 {l : List Int} (h : valsOK (frm 116) l) : ∃ a b c, l = [a, b, c] ∧ (0 ≤ a ∧ a ≤ 99) ∧ (0 ≤ b ∧ b ≤ 9) ∧ 0 ≤ c ∧ c ≤ 9 := by
  obtain ⟨a, m, e1, h1, b, m2, e2, h2, c, m3, e3, h3, e4⟩ : ∃ v m, l = v :: m ∧ bndV 78 v ∧ ∃ v2 m2, m = v2 :: m2 ∧ bndV 68 v2 ∧ ∃ v3 m3, m2 = v3 :: m3 ∧ bndV 68 v3 ∧ m3 = [] := h
  subst e4 e3 e2 e1
  exact ⟨a, b, c, rfl, h1, h2, h3⟩
theorem vals_109 {l : List Int} (h : valsOK (frm 109) l) : ∃ a b, l = [a, b] ∧ (0 ≤ a ∧ a ≤ 9) ∧ 0 ≤ b ∧ b ≤ 9 := by
  obtain ⟨a, m, e1, h1, b, m2, e2, h2, e3⟩ : ∃ v m, l = v :: m ∧ bndV 68 v ∧ ∃ v2 m2, m = v2 :: m2 ∧ bndV 68 v2 ∧ m2 = [] := h
  subst e3 e2 e1
  exact ⟨a, b, rfl, h1, h2⟩
theorem vals_119 {l : List Int} (h : valsOK (frm 119) l) : ∃ a, l = [a] ∧ -9 ≤ a ∧ a ≤ 9 := by
  obtain ⟨a, m, e1, h1, e3⟩ : ∃ v m, l = v :: m ∧ bndV 87 v ∧ m = [] := h
  subst e3 e1
  exact ⟨a, rfl, h1⟩
theorem vals_115 {l : List Int} (h : valsOK (frm 115) l) : ∃ a b c, l = [a, b, c] ∧ (0 ≤ a ∧ a ≤ 9) ∧ (0 ≤ b ∧ b ≤ 9) ∧ 97 ≤ c ∧ c < 113 := by
  obtain ⟨a, m, e1, h1, b, m2, e2, h2, c, m3, e3, h3, e4⟩ : ∃ v m, l = v :: m ∧ bndV 68 v ∧ ∃ v2 m2, m = v2 :: m2 ∧ bndV 68 v2 ∧ ∃ v3 m3, m2 = v3 :: m3 ∧ bndV 76 v3 ∧ m3 = [] := h
  subst e4 e3 e2 e1
  exact ⟨a, b, c, rfl, h1, h2, h3⟩
theorem cmd_ok {T : Int → Int} {L p : Int} (h : (cmdR T L p).1) : cmdOK (hereC T L p, (cmdR T L p).2.2) := by
  have hv := runF_vals (T := T) (L := L) (frm (hereC T L p)) p h
  by_cases c1 : hereC T L p = 103
  · rw [c1] at hv
    exact Or.inl ⟨c1, by have := vals_103 hv; unfold cmdR; rw [c1]; exact this⟩
  by_cases c2 : hereC T L p = 116
  · rw [c2] at hv
    exact Or.inr (Or.inl ⟨c2, by have := vals_116 hv; unfold cmdR; rw [c2]; exact this⟩)
  by_cases c3 : hereC T L p = 109
  · rw [c3] at hv
    exact Or.inr (Or.inr (Or.inl ⟨c3, by have := vals_109 hv; unfold cmdR; rw [c3]; exact this⟩))
  by_cases c4 : hereC T L p = 119
  · rw [c4] at hv
    exact Or.inr (Or.inr (Or.inr (Or.inl ⟨c4, by have := vals_119 hv; unfold cmdR; rw [c4]; exact this⟩)))
  have eF : frm (hereC T L p) = frm 115 := by
    unfold frm
    rw [if_neg c1, if_neg c2, if_neg c3, if_neg c4]
    rfl
  have e5 : hereC T L p = 115 := by
    have h' : (runF T L (frm 115) p).1 := by
      unfold cmdR at h
      rw [eF] at h
      exact h
    have ok : okI T L 115 p := Classical.byContradiction fun z => by
      have h2 : (runF T L (115 :: [101, 110, 100, 32, 68, 62, 68, 58, 76]) p).1 := h'
      rw [runF_no z] at h2
      exact h2
    have ok2 : p < L ∧ T p = 115 := by
      rw [(okI_l (T := T) (L := L) (c := 115) (p := p) (by unfold isV; decide)).1] at ok
      exact ok
    unfold hereC
    rw [cif_pos ok2.1]
    exact ok2.2
  rw [e5] at hv
  exact Or.inr (Or.inr (Or.inr (Or.inr ⟨e5, by have := vals_115 hv; unfold cmdR; rw [e5]; exact this⟩)))
theorem prs_ok {T : Int → Int} {L : Int} : ∀ (f : Nat) (p : Int), (prs T L f p).1 → ∀ x ∈ (prs T L f p).2.2, cmdOK x := by
  intro f
  induction f with
  | zero => intro p h; exact absurd h id
  | succ f ih =>
    intro p h x hx
    by_cases c1 : (cmdR T L p).1
    · by_cases c2 : (cmdR T L p).2.1 = L
      · have e : prs T L (f + 1) p = (True, L, [(hereC T L p, (cmdR T L p).2.2)]) := (cif_pos c1).trans (cif_pos c2)
        rw [e] at hx
        rw [List.mem_singleton.mp hx]
        exact cmd_ok c1
      · by_cases c3 : T (cmdR T L p).2.1 = 59
        · have e : prs T L (f + 1) p = ((prs T L f ((cmdR T L p).2.1 + 1)).1, (prs T L f ((cmdR T L p).2.1 + 1)).2.1, (hereC T L p, (cmdR T L p).2.2) :: (prs T L f ((cmdR T L p).2.1 + 1)).2.2) := (cif_pos c1).trans ((cif_neg c2).trans (cif_pos c3))
          rw [e] at hx h
          rcases List.mem_cons.mp hx with z | z
          · rw [z]; exact cmd_ok c1
          · exact ih _ h x z
        · have e : prs T L (f + 1) p = (False, (cmdR T L p).2.1, []) := (cif_pos c1).trans ((cif_neg c2).trans (cif_neg c3))
          rw [e] at h
          exact absurd h id
    · have e : prs T L (f + 1) p = (False, (cmdR T L p).2.1, []) := cif_neg c1
      rw [e] at h
      exact absurd h id
theorem prs_len {T : Int → Int} {L : Int} : ∀ (f : Nat) (p : Int), (prs T L f p).2.2.length ≤ f := by
  intro f
  induction f with
  | zero => intro p; exact Nat.le_refl _
  | succ f ih =>
    intro p
    by_cases c1 : (cmdR T L p).1
    · by_cases c2 : (cmdR T L p).2.1 = L
      · have e : prs T L (f + 1) p = (True, L, [(hereC T L p, (cmdR T L p).2.2)]) := (cif_pos c1).trans (cif_pos c2)
        rw [e]
        show 1 ≤ f + 1
        omega
      · by_cases c3 : T (cmdR T L p).2.1 = 59
        · have e : prs T L (f + 1) p = ((prs T L f ((cmdR T L p).2.1 + 1)).1, (prs T L f ((cmdR T L p).2.1 + 1)).2.1, (hereC T L p, (cmdR T L p).2.2) :: (prs T L f ((cmdR T L p).2.1 + 1)).2.2) := (cif_pos c1).trans ((cif_neg c2).trans (cif_pos c3))
          rw [e]
          have := ih ((cmdR T L p).2.1 + 1)
          show (prs T L f ((cmdR T L p).2.1 + 1)).2.2.length + 1 ≤ f + 1
          omega
        · have e : prs T L (f + 1) p = (False, (cmdR T L p).2.1, []) := (cif_pos c1).trans ((cif_neg c2).trans (cif_neg c3))
          rw [e]
          exact Nat.zero_le _
    · have e : prs T L (f + 1) p = (False, (cmdR T L p).2.1, []) := cif_neg c1
      rw [e]
      exact Nat.zero_le _
