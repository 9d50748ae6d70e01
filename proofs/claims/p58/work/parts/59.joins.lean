/-! the cost of a code: the two rarest are joined until one is left -/
/-- the first n numbers of a row, the last first -/
def lst (f : Int → Int) : Nat → List Int
  | 0 => []
  | n + 1 => f n :: lst f n
theorem lst_congr {f g : Int → Int} {n : Nat} (h : ∀ i : Int, 0 ≤ i → i < n → f i = g i) : lst f n = lst g n := by
  induction n with
  | zero => rfl
  | succ n ih =>
    unfold lst
    rw [ih (fun i h1 h2 => h i h1 (by omega)), h n (by omega) (by omega)]
theorem mem_lst {f : Int → Int} {n : Nat} {x : Int} : x ∈ lst f n ↔ ∃ i : Int, 0 ≤ i ∧ i < n ∧ f i = x := by
  induction n with
  | zero =>
    unfold lst
    constructor
    · intro h; cases h
    · rintro ⟨i, h1, h2, _⟩; omega
  | succ n ih =>
    unfold lst
    rw [List.mem_cons, ih]
    constructor
    · rintro (h | ⟨i, h1, h2, h3⟩)
      · exact ⟨n, by omega, by omega, h.symm⟩
      · exact ⟨i, h1, by omega, h3⟩
    · rintro ⟨i, h1, h2, h3⟩
      by_cases e : i = n
      · left; rw [← h3, e]
      · right; exact ⟨i, h1, by omega, h3⟩
theorem lst_len {f : Int → Int} {n : Nat} : (lst f n).length = n := by
  induction n with
  | zero => rfl
  | succ n ih =>
    unfold lst
    rw [List.length_cons, ih]
def setF (f : Int → Int) (i v : Int) : Int → Int := fun j => if j = i then v else f j
theorem setF_same {f : Int → Int} {i v : Int} : setF f i v i = v := by
  unfold setF
  exact if_pos rfl
theorem setF_ne {f : Int → Int} {i v j : Int} (h : j ≠ i) : setF f i v j = f j := by
  unfold setF
  exact if_neg h
theorem lst_set {f : Int → Int} {i v : Int} {n : Nat} (h0 : 0 ≤ i) (h : i < n) : (f i :: lst (setF f i v) n).Perm (v :: lst f n) := by
  induction n with
  | zero => omega
  | succ n ih =>
    unfold lst
    by_cases e : i = n
    · rw [← e, setF_same, lst_congr (g := f) (fun j h1 h2 => setF_ne (by omega))]
      exact List.Perm.swap _ _ _
    · rw [setF_ne (by omega)]
      exact (List.Perm.swap _ _ _).trans (((ih (by omega)).cons _).trans (List.Perm.swap _ _ _))
/-- a number of the first n + 1 changes its place with the last of them -/
theorem lst_swap {f : Int → Int} {i : Int} {n : Nat} (h0 : 0 ≤ i) (h : i ≤ n) : (lst (setF (setF f i (f n)) n (f i)) (n + 1)).Perm (lst f (n + 1)) := by
  unfold lst
  rw [setF_same, lst_congr (g := setF f i (f n)) (fun j h1 h2 => setF_ne (by omega))]
  by_cases e : i = n
  · rw [e, lst_congr (g := f) (fun j h1 h2 => setF_ne (by omega))]
  · exact lst_set h0 (by omega)
/-- the sum -/
def sumL : List Int → Int
  | [] => 0
  | x :: l => x + sumL l
theorem sumL_perm {l m : List Int} (h : l.Perm m) : sumL l = sumL m := by
  induction h with
  | nil => rfl
  | cons x _ ih => show x + sumL _ = x + sumL _; rw [ih]
  | swap x y l => show y + (x + sumL l) = x + (y + sumL l); omega
  | trans _ _ h1 h2 => rw [h1, h2]
theorem sumL_nn {l : List Int} (h : ∀ x, x ∈ l → 0 ≤ x) : 0 ≤ sumL l := by
  induction l with
  | nil => exact Int.le_refl _
  | cons x l ih =>
    have h1 := h x (List.mem_cons_self ..)
    have h2 := ih (fun y hy => h y (List.mem_cons_of_mem _ hy))
    show 0 ≤ x + sumL l
    omega
theorem sumL_mem {l : List Int} (h : ∀ x, x ∈ l → 0 ≤ x) {y : Int} (hy : y ∈ l) : y ≤ sumL l := by
  induction l with
  | nil => cases hy
  | cons x l ih =>
    have h1 := h x (List.mem_cons_self ..)
    have h2 := sumL_nn (fun y hy => h y (List.mem_cons_of_mem _ hy))
    show y ≤ x + sumL l
    rcases List.mem_cons.1 hy with e | e
    · omega
    · have := ih (fun y hy => h y (List.mem_cons_of_mem _ hy)) e
      omega
/-- c is the cost of joining, n times, the two rarest of l -/
def HC : Nat → List Int → Int → Prop
  | 0, l, c => l.length ≤ 1 ∧ c = 0
  | n + 1, l, c => ∃ a b l' c', l.Perm (a :: b :: l') ∧ a ≤ b ∧ (∀ x, x ∈ l' → b ≤ x) ∧ HC n ((a + b) :: l') c' ∧ c = a + b + c'
theorem HC_uniq {n : Nat} : ∀ {l m : List Int} {c e : Int}, l.Perm m → HC n l c → HC n m e → c = e := by
  induction n with
  | zero =>
    intro l m c e _ h1 h2
    rw [h1.2, h2.2]
  | succ n ih =>
    rintro l m c e hp ⟨a, b, l', c', p1, o1, m1, r1, e1⟩ ⟨a2, b2, l2, c2, p2, o2, m2, r2, e2⟩
    have hq : (a :: b :: l').Perm (a2 :: b2 :: l2) := p1.symm.trans (hp.trans p2)
    have k1 : ∀ x, x ∈ a :: b :: l' → a ≤ x := by
      intro x hx
      rcases List.mem_cons.1 hx with e | hx
      · omega
      · rcases List.mem_cons.1 hx with e | hx
        · omega
        · have := m1 x hx; omega
    have k2 : ∀ x, x ∈ a2 :: b2 :: l2 → a2 ≤ x := by
      intro x hx
      rcases List.mem_cons.1 hx with e | hx
      · omega
      · rcases List.mem_cons.1 hx with e | hx
        · omega
        · have := m2 x hx; omega
    have ea : a = a2 := by
      have h1 := k1 a2 (hq.mem_iff.2 (List.mem_cons_self ..))
      have h2 := k2 a (hq.mem_iff.1 (List.mem_cons_self ..))
      omega
    subst ea
    have hq2 := hq.cons_inv
    have eb : b = b2 := by
      have h1 : b ≤ b2 := by
        rcases List.mem_cons.1 (hq2.mem_iff.2 (List.mem_cons_self ..)) with e | hx
        · omega
        · exact m1 _ hx
      have h2 : b2 ≤ b := by
        rcases List.mem_cons.1 (hq2.mem_iff.1 (List.mem_cons_self ..)) with e | hx
        · omega
        · exact m2 _ hx
      omega
    subst eb
    rw [e1, e2, ih (hq2.cons_inv.cons (a + b)) r1 r2]
theorem HC_perm {n : Nat} {l m : List Int} {c : Int} (h : l.Perm m) (h1 : HC n l c) : HC n m c := by
  cases n with
  | zero => exact ⟨by rw [← h.length_eq]; exact h1.1, h1.2⟩
  | succ n =>
    obtain ⟨a, b, l', c', p, r⟩ := h1
    exact ⟨a, b, l', c', h.symm.trans p, r⟩
/-- the cost of the code -/
def bcost (l : List Int) (c : Int) : Prop := (l.length = 1 → l = [c]) ∧ (l.length ≠ 1 → HC (l.length - 1) l c)
theorem bcost_uniq {l m : List Int} {c e : Int} (h : l.Perm m) (h1 : bcost l c) (h2 : bcost m e) : c = e := by
  have hl := h.length_eq
  by_cases k : l.length = 1
  · have a1 := h1.1 k
    have a2 := h2.1 (by omega)
    rw [a1, a2] at h
    have := h.mem_iff.1 (List.mem_cons_self ..)
    exact List.mem_singleton.1 this
  · have a1 := h1.2 k
    have a2 := h2.2 (by omega)
    rw [← hl] at a2
    exact HC_uniq h a1 a2
/-- the numbers above 0 among the first n -/
noncomputable def posL (f : Int → Int) : Nat → List Int
  | 0 => []
  | n + 1 => cif (f n ≤ 0) (posL f n) (f n :: posL f n)
theorem posL_len {f : Int → Int} {n : Nat} : (posL f n).length ≤ n := by
  induction n with
  | zero => exact Nat.le_refl _
  | succ n ih =>
    unfold posL
    by_cases h : f n ≤ 0
    · rw [cif_pos h]; omega
    · rw [cif_neg h, List.length_cons]; omega
theorem posL_mem {f : Int → Int} {n : Nat} {x : Int} (h : x ∈ posL f n) : 0 < x := by
  induction n with
  | zero => cases h
  | succ n ih =>
    unfold posL at h
    by_cases c : f n ≤ 0
    · rw [cif_pos c] at h; exact ih h
    · rw [cif_neg c] at h
      rcases List.mem_cons.1 h with e | e
      · omega
      · exact ih e
theorem posL_sum {f : Int → Int} {n : Nat} {B : Int} (h : ∀ i : Int, 0 ≤ i → i < n → f i ≤ B) (hB : 0 ≤ B) : sumL (posL f n) ≤ n * B := by
  induction n with
  | zero =>
    show (0 : Int) ≤ ((0 : Nat) : Int) * B
    rw [Int.natCast_zero, Int.zero_mul]
    exact Int.le_refl _
  | succ n ih =>
    have h1 := ih (fun i a b => h i a (by omega))
    have h2 := h n (by omega) (by omega)
    have e : ((n + 1 : Nat) : Int) * B = n * B + B := by rw [Int.natCast_add, Int.add_mul]; simp
    unfold posL
    by_cases c : f n ≤ 0
    · rw [cif_pos c, e]; omega
    · rw [cif_neg c, e]
      show f n + sumL (posL f n) ≤ _
      omega
theorem posL_congr {f g : Int → Int} {n : Nat} (h : ∀ i : Int, 0 ≤ i → i < n → f i = g i) : posL f n = posL g n := by
  induction n with
  | zero => rfl
  | succ n ih =>
    unfold posL
    rw [ih (fun i h1 h2 => h i h1 (by omega)), h n (by omega) (by omega)]
