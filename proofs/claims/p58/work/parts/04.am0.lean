/-! the small machine: its heap, its frames, what a concrete heap must hold -/
abbrev AH : Type := (Nat → Nat → SC) × (Nat × Nat) × (Nat → Nat → Nat → Int32) × (Nat → Nat → Nat → Int64) × (Nat → Nat → Nat → UInt64)
abbrev hS (h : AH) : Nat → Nat → SC := h.1
abbrev hN (h : AH) : Nat := h.2.1.1
abbrev hL (h : AH) : Nat := h.2.1.2
abbrev hI (h : AH) : Nat → Nat → Nat → Int32 := h.2.2.1
abbrev hJ (h : AH) : Nat → Nat → Nat → Int64 := h.2.2.2.1
abbrev hD (h : AH) : Nat → Nat → Nat → UInt64 := h.2.2.2.2
abbrev Fr : Type := Nat × List (Option AV) × List AV
abbrev Out : Type := Option AV ⊕ Nat
abbrev Act : Type := (Fr × AH) ⊕ (Nat × List AV × Fr) ⊕ (Out × AH) ⊕ Unit
abbrev Ins : Type := Fr → AH → List Prop × Act
/-- a run's fixed facts: the script, the addresses of what is there at the start, the numbers of classes, the heap at the start, the value of a static that nobody looks at -/
abbrev C0 : Type := (Nat × (Nat → Int32)) × (Nat → Nat) × (Nat → ClassId) × (Nat → Nat → Nat) × (Nat → ClassId) × Heap × Value
abbrev kH (k : C0) : Heap := k.2.2.2.2.2.1
def am_adr (k : C0) (a b : Nat) : Nat := cond (Nat.beq a 0) (k.2.1 b) ((kH k).size + am_ix a b)
def am_cv (k : C0) (v : AV) : Value := match v with
  | Sum.inl x => .int x
  | Sum.inr (Sum.inl q) => .ref (am_adr k q.1 q.2)
  | Sum.inr (Sum.inr (Sum.inl x)) => .long x
  | Sum.inr (Sum.inr (Sum.inr (Sum.inl x))) => .float x
  | Sum.inr (Sum.inr (Sum.inr (Sum.inr (Sum.inl x)))) => .double x
  | Sum.inr (Sum.inr (Sum.inr (Sum.inr (Sum.inr false)))) => .null
  | Sum.inr (Sum.inr (Sum.inr (Sum.inr (Sum.inr true)))) => k.2.2.2.2.2.2
def am_c2 (v : AV) : Bool := match v with
  | Sum.inr (Sum.inr (Sum.inl _)) => true
  | Sum.inr (Sum.inr (Sum.inr (Sum.inr (Sum.inl _)))) => true
  | _ => false
def am_rf (v : AV) : Bool := match v with
  | Sum.inr (Sum.inl _) => true
  | Sum.inr (Sum.inr (Sum.inr (Sum.inr (Sum.inr _)))) => true
  | _ => false
/-- how a kind is kept as a number in an array of kinds -/
def am_kv (x : Int32) : AV := if x = 0 then aN else aR 0 (2 + x.toNatClampNeg)
/-- an array's entry, and an object's field, as a value -/
def am_ent (k : C0) (h : AH) (a b t : Nat) (g : Nat → AV) (j : Nat) : Value := match t with
  | 0 => .int (hI h a b j)
  | 1 => .int (hI h a b j)
  | 2 => .long (hJ h a b j)
  | 3 => .double (hD h a b j)
  | 6 => am_cv k (am_kv (hI h a b j))
  | 7 => .int (hI h a b j)
  | _ => am_cv k (g j)
def am_fld (h : AH) (a b : Nat) (fs : List AV) (j : Nat) : AV := match fs.getD j aN with
  | Sum.inl _ => aI (hI h a b j)
  | v => v
def am_cell (k : C0) (h : AH) (a b : Nat) (sc : SC) (H : Heap) : Prop := match sc with
  | none => True
  | some (Sum.inl (t, n, g)) => t < 8 ∧ H[am_adr k a b]? = some (arrV (k.2.2.2.2.1 t) n (am_ent k h a b t g))
  | some (Sum.inr (c, fs)) => ∃ r : vw_C, am_cl[c]? = some r ∧ fs.length = r.2.2 ∧ t_OB (am_adr k a b) (k.2.2.1 c) r.2.2 (k.2.2.2.1 c) H (fun j => am_cv k (am_fld h a b fs j))
/-- the concrete heap is as the small machine's says -/
def DYN (k : C0) (h : AH) (H : Heap) : Prop :=
  H.size = (kH k).size + hN h ∧ (∀ q, q < (kH k).size → H[q]? = (kH k)[q]?) ∧ (∀ b, hS h 0 b = am_PS k.1.1 k.1.2 b) ∧
  ∀ a b, a ≠ 0 → hS h a b ≠ none → (am_ix a b < hN h ∧ am_al (am_ix a b) = (a, b)) ∧ am_cell k h a b (hS h a b) H
abbrev frA (k : C0) : Nat → Prop := fun q => (kH k).size ≤ q
/-- what the tables and the heap of the start say -/
def am_wk (k : C0) (s : State) (b : Nat) (sc : SC) : Prop := match sc with
  | none => True
  | some (Sum.inl (t, n, g)) => (t = 8 ∨ t = 9 ∨ t = 10) ∧ va_T (am_wT t) (k.2.1 b) n (fun j => am_cv k (g j)) (frA k) s (kH k)
  | some (Sum.inr (c, fs)) => (c = 90 ∨ c = 91) ∧ va_O (am_wC c) (k.2.1 b) (frA k) s (kH k) ∧ ∀ f, f < 2 → va_OF (am_wF c f).1 (am_wF c f).2.1 (am_wF c f).2.2 (am_cv k (fs.getD f aN)) (k.2.1 b) (frA k) s (kH k)
def am_nest : List Cond := [.methodLinkNest "SmokeRelay" 9 ⟨"SmokeRelay$Row", "<init>", "()V"⟩ "SmokeRelay", .methodLinkNest "SmokeRelay$History" 22 ⟨"SmokeRelay$Row", "<init>", "()V"⟩ "SmokeRelay", .methodLinkNest "SmokeRelay" 63 ⟨"SmokeRelay$Input", "<init>", "()V"⟩ "SmokeRelay", .methodLinkNest "SmokeRelay" 70 ⟨"SmokeRelay$Output", "<init>", "()V"⟩ "SmokeRelay",
  .castable "java/lang/IllegalArgumentException" "java/lang/IllegalArgumentException", .castable "java/lang/IllegalStateException" "java/lang/IllegalStateException", .castable "java/lang/IndexOutOfBoundsException" "java/lang/IndexOutOfBoundsException", .castable "java/util/NoSuchElementException" "java/util/NoSuchElementException", .castable "java/lang/UnsupportedOperationException" "java/lang/UnsupportedOperationException", .castable "java/lang/ArithmeticException" "java/lang/ArithmeticException", .castable "[B" "java/lang/Cloneable", .selects "java/lang/StringBuilder" ⟨"java/lang/AbstractStringBuilder", "ensureCapacityInternal", "(I)V"⟩ ⟨"java/lang/AbstractStringBuilder", "ensureCapacityInternal", "(I)V"⟩, .selects "java/lang/StringBuilder" ⟨"java/lang/AbstractStringBuilder", "newCapacity", "(I)I"⟩ ⟨"java/lang/AbstractStringBuilder", "newCapacity", "(I)I"⟩, .selects "java/lang/StringBuilder" ⟨"java/lang/AbstractStringBuilder", "putStringAt", "(ILjava/lang/String;)V"⟩ ⟨"java/lang/AbstractStringBuilder", "putStringAt", "(ILjava/lang/String;)V"⟩, .selects "java/lang/StringBuilder" ⟨"java/lang/AbstractStringBuilder", "inflateIfNeededFor", "(Ljava/lang/String;)V"⟩ ⟨"java/lang/AbstractStringBuilder", "inflateIfNeededFor", "(Ljava/lang/String;)V"⟩,
  .declares ⟨"java/lang/RuntimeException", "<init>", "(Ljava/lang/String;)V"⟩, .declares ⟨"java/lang/Exception", "<init>", "(Ljava/lang/String;)V"⟩, .declares ⟨"java/lang/Throwable", "<init>", "(Ljava/lang/String;)V"⟩]
def STAT (k : C0) (s : State) : Prop :=
  (∀ (c : Nat) (q : vw_C), am_cl[c]? = some q → u_Kn s q.1 q.2.1 q.2.2 (k.2.2.1 c) (k.2.2.2.1 c)) ∧
  (∀ t, t < 8 → ArrOfT s (k.2.2.2.2.1 t) (am_ty t) ∧ va_RA s (k.2.2.2.2.1 t) (am_ty t)) ∧
  (∀ b, am_wk k s b (am_PS k.1.1 k.1.2 b)) ∧
  (∀ j, j < 6 → va_Z (am_st j).1 (am_st j).2.1 (am_st j).2.2.1 (am_cv k (am_st j).2.2.2) (frA k) s (kH k)) ∧
  (∀ q, q ∈ am_str → vk_R q.1 q.2.1 q.2.2.1 (k.2.1 q.2.2.2) s) ∧
  (∀ q, q ∈ am_txt → ∃ a, vk_R q.1 q.2.1 q.2.2 a s) ∧
  (vx_Zq Bundle.tN "UNASSIGNED_STACK" Bundle.steD (frA k) s (kH k) ∧ vx_Zq Bundle.tN "SUPPRESSED_SENTINEL" Bundle.listD (frA k) s (kH k)) ∧
  (∀ w, w ∈ am_nest → va_Nw w s) ∧
  (va_AO "SmokeRelay$Row" s ∧ va_AO "SmokeRelay$Kind" s ∧ (Cond.arrayOver (.array .int)).before #[] s = true) ∧
  (∀ x z, x < 6 → z < 5 → x ≠ z → va_Nc (am_exn x) (am_exn z) s) ∧
  (k.2.2.2.2.2.2 = .null ∨ ∃ a, k.2.2.2.2.2.2 = .ref a)
/-- the locals, as a list by number -/
def am_toL (k : C0) : Nat → List (Option AV) → List (Nat × Value)
  | _, [] => []
  | i, none :: t => am_toL k (i + 1) t
  | i, some v :: t => (i, am_cv k v) :: am_toL k (i + 1) t
theorem am_toL_mem (k : C0) : ∀ (ls : List (Option AV)) (i : Nat) (q : Nat × Value), q ∈ am_toL k i ls ↔ ∃ v, i ≤ q.1 ∧ ls[q.1 - i]? = some (some v) ∧ q.2 = am_cv k v
  | [], i, q => by simp [am_toL]
  | none :: t, i, q => by
    rw [am_toL, am_toL_mem k t (i + 1) q]
    constructor
    · rintro ⟨v, h1, h2, h3⟩
      refine ⟨v, by omega, ?_, h3⟩
      rw [show q.1 - i = (q.1 - (i + 1)) + 1 by omega, List.getElem?_cons_succ]
      exact h2
    · rintro ⟨v, h1, h2, h3⟩
      by_cases e : q.1 = i
      · rw [e, Nat.sub_self] at h2
        simp at h2
      · refine ⟨v, by omega, ?_, h3⟩
        rw [show q.1 - i = (q.1 - (i + 1)) + 1 by omega, List.getElem?_cons_succ] at h2
        exact h2
  | some w :: t, i, q => by
    rw [am_toL, List.mem_cons, am_toL_mem k t (i + 1) q]
    constructor
    · rintro (rfl | ⟨v, h1, h2, h3⟩)
      · exact ⟨w, Nat.le_refl _, by simp, rfl⟩
      · refine ⟨v, by omega, ?_, h3⟩
        rw [show q.1 - i = (q.1 - (i + 1)) + 1 by omega, List.getElem?_cons_succ]
        exact h2
    · rintro ⟨v, h1, h2, h3⟩
      by_cases e : q.1 = i
      · left
        rw [e, Nat.sub_self] at h2
        simp at h2
        subst h2
        exact Prod.ext e h3
      · right
        refine ⟨v, by omega, ?_, h3⟩
        rw [show q.1 - i = (q.1 - (i + 1)) + 1 by omega, List.getElem?_cons_succ] at h2
        exact h2
/-- the frame's locals are as listed; values of two words stand at the places w alone -/
def FR (k : C0) (nL : Nat) (w : Nat → Bool) (lsC : Array Slot) (ls : List (Option AV)) : Prop :=
  lv_has lsC nL (am_toL k 0 ls) ∧ ls.length = nL ∧ ∀ j v, ls[j]? = some (some v) → am_c2 v = true → w j = true ∧ j + 1 < nL
theorem FR.at {k : C0} {nL : Nat} {dbl : Nat → Bool} {lsC : Array Slot} {ls : List (Option AV)} (h : FR k nL dbl lsC ls) {i : Nat} {v : AV} (hi : ls[i]? = some (some v)) : lsC[i]? = some (.val (am_cv k v)) :=
  h.1.2.2 (i, am_cv k v) ((am_toL_mem k ls 0 _).mpr ⟨v, Nat.zero_le _, hi, rfl⟩)
theorem am_cv_cat (k : C0) (hk : k.2.2.2.2.2.2 = .null ∨ ∃ a, k.2.2.2.2.2.2 = .ref a) (v : AV) : (am_cv k v).category = (if am_c2 v = true then 2 else 1) := by
  rcases v with x | q | x | x | x | (_ | _)
  · rfl
  · rfl
  · rfl
  · rfl
  · rfl
  · rfl
  · show (k.2.2.2.2.2.2).category = 1
    rcases hk with e | ⟨a, e⟩ <;> rw [e] <;> rfl
theorem am_cv_rf (k : C0) (hk : k.2.2.2.2.2.2 = .null ∨ ∃ a, k.2.2.2.2.2.2 = .ref a) (v : AV) (h : am_rf v = true) : am_cv k v = .null ∨ ∃ a, am_cv k v = .ref a := by
  rcases v with x | q | x | x | x | (_ | _)
  · cases h
  · exact Or.inr ⟨_, rfl⟩
  · cases h
  · cases h
  · cases h
  · exact Or.inl rfl
  · exact hk
theorem am_okw_no {w : Nat → Bool} {i : Nat} (h : w i = true) : ¬ am_okw w (i + 1) = true := by
  show ¬ (!(w i)) = true
  rw [h]
  decide
theorem FR.st1 {k : C0} {nL : Nat} {w : Nat → Bool} {lsC lsC' : Array Slot} {ls : List (Option AV)} (h : FR k nL w lsC ls) (hk : k.2.2.2.2.2.2 = .null ∨ ∃ a, k.2.2.2.2.2.2 = .ref a) {i : Nat} {v : AV} (hv : am_c2 v = false) (hi : am_okw w i = true) (hn : i < nL)
    (h2 : lv_has lsC' nL ((i, am_cv k v) :: (am_toL k 0 ls).filter (fun q => !(q.1 == i) && !(q.1 + 1 == i && q.2.category == 2)))) : FR k nL w lsC' (ls.set i (some v)) := by
  obtain ⟨-, hlen, hc⟩ := h
  refine ⟨⟨h2.1, h2.2.1, fun q hq => ?_⟩, by rw [List.length_set]; exact hlen, fun j w hj hw => ?_⟩
  · obtain ⟨w, -, hw1, hw2⟩ := (am_toL_mem k _ 0 q).mp hq
    rw [Nat.sub_zero] at hw1
    by_cases e : q.1 = i
    · rw [e, List.getElem?_set_self (by rw [hlen]; exact hn)] at hw1
      have e2 : v = w := by simpa using hw1
      subst e2
      have e3 := h2.2.2 (i, am_cv k v) List.mem_cons_self
      rw [e, hw2]
      exact e3
    · rw [List.getElem?_set_ne (fun z => e z.symm)] at hw1
      refine h2.2.2 q (List.mem_cons_of_mem _ (List.mem_filter.mpr ⟨(am_toL_mem k ls 0 q).mpr ⟨w, Nat.zero_le _, hw1, hw2⟩, ?_⟩))
      have e1 : (q.1 == i) = false := by simpa using e
      rw [e1]
      by_cases e2 : q.1 + 1 = i
      · have hcat : am_c2 w = false := by
          cases hcw : am_c2 w with
          | false => rfl
          | true =>
            obtain ⟨d1, d2⟩ := hc q.1 w hw1 hcw
            subst e2
            exact absurd hi (am_okw_no d1)
        rw [hw2, am_cv_cat k hk w, hcat]
        simp
      · simp [e2]
  · by_cases e : j = i
    · subst e
      rw [List.getElem?_set_self (by rw [hlen]; exact hn)] at hj
      have e2 : v = w := by simpa using hj
      subst e2
      rw [hv] at hw
      cases hw
    · rw [List.getElem?_set_ne (fun z => e z.symm)] at hj
      exact hc j w hj hw
theorem FR.st2 {k : C0} {nL : Nat} {w : Nat → Bool} {lsC lsC' : Array Slot} {ls : List (Option AV)} (h : FR k nL w lsC ls) {i : Nat} {v : AV} (hv : am_c2 v = true) (hwi : w i = true) (hi : am_okw w i = true) (hn : i + 1 < nL)
    (h2 : lv_has lsC' nL ((i, am_cv k v) :: (am_toL k 0 ls).filter (fun q => !(q.1 == i) && (!(q.1 == i + 1) && !(q.1 + 1 == i && q.2.category == 2))))) (hk : k.2.2.2.2.2.2 = .null ∨ ∃ a, k.2.2.2.2.2.2 = .ref a) : FR k nL w lsC' ((ls.set i (some v)).set (i + 1) none) := by
  obtain ⟨-, hlen, hc⟩ := h
  refine ⟨⟨h2.1, h2.2.1, fun q hq => ?_⟩, by rw [List.length_set, List.length_set]; exact hlen, fun j w hj hw => ?_⟩
  · obtain ⟨w, -, hw1, hw2⟩ := (am_toL_mem k _ 0 q).mp hq
    rw [Nat.sub_zero] at hw1
    by_cases e0 : q.1 = i + 1
    · rw [e0, List.getElem?_set_self (by rw [List.length_set, hlen]; omega)] at hw1
      simp at hw1
    · rw [List.getElem?_set_ne (fun z => e0 z.symm)] at hw1
      by_cases e : q.1 = i
      · rw [e, List.getElem?_set_self (by rw [hlen]; omega)] at hw1
        have e2 : v = w := by simpa using hw1
        subst e2
        have e3 := h2.2.2 (i, am_cv k v) List.mem_cons_self
        rw [e, hw2]
        exact e3
      · rw [List.getElem?_set_ne (fun z => e z.symm)] at hw1
        refine h2.2.2 q (List.mem_cons_of_mem _ (List.mem_filter.mpr ⟨(am_toL_mem k ls 0 q).mpr ⟨w, Nat.zero_le _, hw1, hw2⟩, ?_⟩))
        have e1 : (q.1 == i) = false := by simpa using e
        have e2 : (q.1 == i + 1) = false := by simpa using e0
        rw [e1, e2]
        by_cases e2 : q.1 + 1 = i
        · have hcat : am_c2 w = false := by
            cases hcw : am_c2 w with
            | false => rfl
            | true =>
              obtain ⟨d1, d2⟩ := hc q.1 w hw1 hcw
              subst e2
              exact absurd hi (am_okw_no d1)
          rw [hw2, am_cv_cat k hk w, hcat]
          simp
        · simp [e2]
  · by_cases e0 : j = i + 1
    · subst e0
      rw [List.getElem?_set_self (by rw [List.length_set, hlen]; omega)] at hj
      simp at hj
    · by_cases e : j = i
      · subst e
        exact ⟨hwi, hn⟩
      · rw [List.getElem?_set_ne (fun z => e0 z.symm), List.getElem?_set_ne (fun z => e z.symm)] at hj
        exact hc j w hj hw
