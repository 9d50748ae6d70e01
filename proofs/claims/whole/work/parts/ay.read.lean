/-! the calls that change nothing, on both sides -/
theorem pop_mask (P : Int → Prop) : popF (maskI P 32) = cntI P 32 := by
  rw [popF_cnt]
  exact cntI_congr fun j h1 h2 => (tbit_maskI P (by decide) ⟨h1, h2⟩).trans ⟨fun z => z.2, fun z => ⟨h2, z⟩⟩
theorem op_12 {d : Nat} {B : Int} {H : VV} (h : CR B H H) (hB : B ≤ 999990) : OP B (d + 12) 12 [aR 1 0] (cmL []) 227 [aR 33 0] H := by
  have rk := CR_rk h hB
  have mr := CR_mr h
  have rl := CR_rl h
  have sm := CR_sm h
  have hn := rk_n rk
  have hd := CR_d h
  exact OP_ok (fun q => e_12 rk) (fun q => e_227 rk mr) rfl rfl (CR_6 h)
theorem op_24 {d : Nat} {B : Int} {H : VV} (h : CR B H H) (hB : B ≤ 999990) : OP B (d + 12) 24 [aR 1 0] (cmL []) 249 [aR 33 0] H := by
  have rk := CR_rk h hB
  have mr := CR_mr h
  have rl := CR_rl h
  have sm := CR_sm h
  have hn := rk_n rk
  have hd := CR_d h
  exact OP_ok (fun q => e_24 rk) (fun q => e_249 rk mr) rfl rfl (CR_6 h)
theorem op_52 {d : Nat} {B : Int} {H : VV} (h : CR B H H) (hB : B ≤ 999990) : OP B (d + 12) 52 [aR 1 0] (cmL []) 304 [aR 33 0] H := by
  have rk := CR_rk h hB
  have mr := CR_mr h
  have rl := CR_rl h
  have sm := CR_sm h
  have hn := rk_n rk
  have hd := CR_d h
  exact OP_ok (fun q => e_52) (fun q => e_304) h.2.2.2.2.1.2.1.symm rfl (CR_6 h)
theorem op_72 {d : Nat} {B : Int} {H : VV} {x1 : Int} (h : CR B H H) (hB : B ≤ 999990) (r1 : R32 x1) : OP B (d + 12) 72 [aR 1 0, aI (iI x1)] (cmL [(0, 1)]) 225 [aR 33 0, aI (iI x1)] H := by
  have rk := CR_rk h hB
  have mr := CR_mr h
  have rl := CR_rl h
  have sm := CR_sm h
  have hn := rk_n rk
  have hd := CR_d h
  by_cases c : 0 ≤ x1 ∧ x1 < 32
  · exact OP_ok (fun q => (e_72 rk r1).trans (cif_pos (by first | assumption | omega))) (fun q => (e_225 rk mr r1).trans (cif_pos (by first | assumption | omega))) rfl rfl (CR_6 h)
  · exact OP_ex (j := 0) (k := 1) (fun q => (e_72 rk r1).trans (cif_neg (by first | assumption | omega))) rfl rfl (by decide) (fun q => (e_225 rk mr r1).trans (cif_neg (by first | assumption | omega))) rfl (CR_6 h)
theorem op_75 {d : Nat} {B : Int} {H : VV} {x1 : Int} (h : CR B H H) (hB : B ≤ 999990) (r1 : R32 x1) : OP B (d + 12) 75 [aR 1 0, aI (iI x1)] (cmL [(2, 1)]) 228 [aR 33 0, aI (iI x1)] H := by
  have rk := CR_rk h hB
  have mr := CR_mr h
  have rl := CR_rl h
  have sm := CR_sm h
  have hn := rk_n rk
  have hd := CR_d h
  by_cases c : 0 ≤ x1 ∧ x1 < H 2 0 8
  · exact OP_ok (fun q => (e_75 rk r1).trans (cif_pos (by first | assumption | omega))) (fun q => (s_228 rk mr r1).trans (cif_pos (by first | assumption | omega))) rfl rfl (CR_6 h)
  · exact OP_ex (j := 2) (k := 1) (fun q => (e_75 rk r1).trans (cif_neg (by first | assumption | omega))) rfl rfl (by decide) (fun q => (s_228 rk mr r1).trans (cif_neg (by first | assumption | omega))) rfl (CR_6 h)
theorem op_77 {d : Nat} {B : Int} {H : VV} {x1 : Int} (h : CR B H H) (hB : B ≤ 999990) (r1 : R32 x1) : OP B (d + 12) 77 [aR 1 0, aI (iI x1)] (cmL [(2, 1)]) 230 [aR 33 0, aI (iI x1)] H := by
  have rk := CR_rk h hB
  have mr := CR_mr h
  have rl := CR_rl h
  have sm := CR_sm h
  have hn := rk_n rk
  have hd := CR_d h
  by_cases c : 0 ≤ x1 ∧ x1 < H 2 0 8
  · exact OP_ok (fun q => (e_77 rk r1).trans (cif_pos (by first | assumption | omega))) (fun q => (e_230 rk mr r1).trans (cif_pos (by first | assumption | omega))) rfl rfl (CR_6 h)
  · exact OP_ex (j := 2) (k := 1) (fun q => (e_77 rk r1).trans (cif_neg (by first | assumption | omega))) rfl rfl (by decide) (fun q => (e_230 rk mr r1).trans (cif_neg (by first | assumption | omega))) rfl (CR_6 h)
theorem op_79 {d : Nat} {B : Int} {H : VV} {x1 : Int} (h : CR B H H) (hB : B ≤ 999990) (r1 : R32 x1) : OP B (d + 12) 79 [aR 1 0, aI (iI x1)] (cmL [(2, 1)]) 232 [aR 33 0, aI (iI x1)] H := by
  have rk := CR_rk h hB
  have mr := CR_mr h
  have rl := CR_rl h
  have sm := CR_sm h
  have hn := rk_n rk
  have hd := CR_d h
  by_cases c : 0 ≤ x1 ∧ x1 < H 2 0 8
  · exact OP_ok (fun q => (e_79 rk r1).trans (cif_pos (by first | assumption | omega))) (fun q => (s_232 rk mr r1).trans (cif_pos (by first | assumption | omega))) rfl rfl (CR_6 h)
  · exact OP_ex (j := 2) (k := 1) (fun q => (e_79 rk r1).trans (cif_neg (by first | assumption | omega))) rfl rfl (by decide) (fun q => (s_232 rk mr r1).trans (cif_neg (by first | assumption | omega))) rfl (CR_6 h)
theorem op_140 {d : Nat} {B : Int} {H : VV} {x1 : Int} (h : CR B H H) (hB : B ≤ 999990) (r1 : R32 x1) : OP B (d + 12) 140 [aR 1 0, aI (iI x1)] (cmL [(2, 1)]) 274 [aR 33 0, aI (iI x1)] H := by
  have rk := CR_rk h hB
  have mr := CR_mr h
  have rl := CR_rl h
  have sm := CR_sm h
  have hn := rk_n rk
  have hd := CR_d h
  by_cases c : 0 ≤ x1 ∧ x1 < H 2 0 8
  · exact OP_ok (fun q => (e_140 rk r1).trans (cif_pos (by first | assumption | omega))) (fun q => (s_274 rk mr r1).trans (cif_pos (by first | assumption | omega))) rfl rfl (CR_6 h)
  · exact OP_ex (j := 2) (k := 1) (fun q => (e_140 rk r1).trans (cif_neg (by first | assumption | omega))) rfl rfl (by decide) (fun q => (s_274 rk mr r1).trans (cif_neg (by first | assumption | omega))) rfl (CR_6 h)
theorem op_142 {d : Nat} {B : Int} {H : VV} {x1 : Int} (h : CR B H H) (hB : B ≤ 999990) (r1 : R32 x1) : OP B (d + 12) 142 [aR 1 0, aI (iI x1)] (cmL [(2, 1)]) 275 [aR 33 0, aI (iI x1)] H := by
  have rk := CR_rk h hB
  have mr := CR_mr h
  have rl := CR_rl h
  have sm := CR_sm h
  have hn := rk_n rk
  have hd := CR_d h
  by_cases c : 0 ≤ x1 ∧ x1 < H 2 0 8
  · exact OP_ok (fun q => (e_142 rk r1).trans (cif_pos (by first | assumption | omega))) (fun q => (s_275 rk mr r1).trans (cif_pos (by first | assumption | omega))) rfl rfl (CR_6 h)
  · exact OP_ex (j := 2) (k := 1) (fun q => (e_142 rk r1).trans (cif_neg (by first | assumption | omega))) rfl rfl (by decide) (fun q => (s_275 rk mr r1).trans (cif_neg (by first | assumption | omega))) rfl (CR_6 h)
theorem op_81 {d : Nat} {B : Int} {H : VV} {x1 : Int} (h : CR B H H) (hB : B ≤ 999990) (r1 : R32 x1) : OP B (d + 12) 81 [aR 1 0, aI (iI x1)] (cmL [(0, 1), (3, 2)]) 233 [aR 33 0, aI (iI x1)] H := by
  have rk := CR_rk h hB
  have mr := CR_mr h
  have rl := CR_rl h
  have sm := CR_sm h
  have hn := rk_n rk
  have hd := CR_d h
  by_cases c : 0 ≤ x1 ∧ x1 < 32
  · by_cases c2 : fstI (posIs (H 4 0) x1) (H 2 0 8) = -1
    · exact OP_ex (j := 3) (k := 2) (fun q => ((e_81 rk r1).trans (cif_pos (by first | assumption | omega))).trans (cif_pos (by first | assumption | omega))) rfl rfl (by decide) (fun q => ((s_233 rk mr hd r1).trans (cif_pos (by first | assumption | omega))).trans (cif_pos (by first | assumption | omega))) rfl (CR_6 h)
    · exact OP_ok (fun q => ((e_81 rk r1).trans (cif_pos (by first | assumption | omega))).trans (cif_neg (by first | assumption | omega))) (fun q => ((s_233 rk mr hd r1).trans (cif_pos (by first | assumption | omega))).trans (cif_neg (by first | assumption | omega))) rfl rfl (CR_6 h)
  · exact OP_ex (j := 0) (k := 1) (fun q => (e_81 rk r1).trans (cif_neg (by first | assumption | omega))) rfl rfl (by decide) (fun q => (s_233 rk mr hd r1).trans (cif_neg (by first | assumption | omega))) rfl (CR_6 h)
theorem op_87 {d : Nat} {B : Int} {H : VV} {x1 x2 : Int} (h : CR B H H) (hB : B ≤ 999990) (r1 : R32 x1) (r2 : R32 x2) : OP B (d + 12) 87 [aR 1 0, aI (iI x1), aI (iI x2)] (cmL [(2, 1)]) 235 [aR 33 0, aI (iI x1), aI (iI x2)] H := by
  have rk := CR_rk h hB
  have mr := CR_mr h
  have rl := CR_rl h
  have sm := CR_sm h
  have hn := rk_n rk
  have hd := CR_d h
  by_cases c1 : 0 ≤ x1 ∧ x1 < H 2 0 8
  · by_cases c2 : 0 ≤ x2 ∧ x2 < H 2 0 8
    · by_cases c3 : seeT (H 3 0) (H 4 0) (H 5 0) x1 x2
      · exact OP_ok (fun q => ((e_87 rk r1 r2).trans (cif_pos (by first | assumption | omega))).trans (cif_pos (by first | assumption | omega))) (fun q => ((e_235 rk mr r1 r2).trans (cif_pos (by first | assumption | omega))).trans (cif_pos (by first | assumption | omega))) (b2i_pos c3).symm rfl (CR_6 h)
      · exact OP_ok (fun q => ((e_87 rk r1 r2).trans (cif_pos (by first | assumption | omega))).trans (cif_pos (by first | assumption | omega))) (fun q => ((e_235 rk mr r1 r2).trans (cif_pos (by first | assumption | omega))).trans (cif_neg (by first | assumption | omega))) (b2i_neg c3).symm rfl (CR_6 h)
    · exact OP_ex (j := 2) (k := 1) (fun q => ((e_87 rk r1 r2).trans (cif_pos (by first | assumption | omega))).trans (cif_neg (by first | assumption | omega))) rfl rfl (by decide) (fun q => (e_235 rk mr r1 r2).trans (cif_neg (by first | assumption | omega))) rfl (CR_6 h)
  · exact OP_ex (j := 2) (k := 1) (fun q => (e_87 rk r1 r2).trans (cif_neg (by first | assumption | omega))) rfl rfl (by decide) (fun q => (e_235 rk mr r1 r2).trans (cif_neg (by first | assumption | omega))) rfl (CR_6 h)
theorem op_90 {d : Nat} {B : Int} {H : VV} {x1 x2 : Int} (h : CR B H H) (hB : B ≤ 999990) (r1 : R32 x1) (r2 : R32 x2) : OP B (d + 12) 90 [aR 1 0, aI (iI x1), aI (iI x2)] (cmL [(2, 1)]) 239 [aR 33 0, aI (iI x1), aI (iI x2)] H := by
  have rk := CR_rk h hB
  have mr := CR_mr h
  have rl := CR_rl h
  have sm := CR_sm h
  have hn := rk_n rk
  have hd := CR_d h
  by_cases c1 : 0 ≤ x1 ∧ x1 < H 2 0 8
  · by_cases c2 : 0 ≤ x2 ∧ x2 < H 2 0 8
    · by_cases c3 : seeT (H 3 0) (H 4 0) (H 5 0) x1 x2
      · exact OP_ok (fun q => ((e_90 rk r1 r2 (fun z1 z2 z3 => hd x1 x2 z1 z2 z3)).trans (cif_pos (by first | assumption | omega))).trans (cif_pos (by first | assumption | omega))) (fun q => ((e_239 rk mr r1 r2).trans (cif_pos (by first | assumption | omega))).trans (cif_pos (by first | assumption | omega))) (b2i_pos c3).symm rfl (CR_6 h)
      · exact OP_ok (fun q => ((e_90 rk r1 r2 (fun z1 z2 z3 => hd x1 x2 z1 z2 z3)).trans (cif_pos (by first | assumption | omega))).trans (cif_pos (by first | assumption | omega))) (fun q => ((e_239 rk mr r1 r2).trans (cif_pos (by first | assumption | omega))).trans (cif_neg (by first | assumption | omega))) (b2i_neg c3).symm rfl (CR_6 h)
    · exact OP_ex (j := 2) (k := 1) (fun q => ((e_90 rk r1 r2 (fun z1 z2 z3 => hd x1 x2 z1 z2 z3)).trans (cif_pos (by first | assumption | omega))).trans (cif_neg (by first | assumption | omega))) rfl rfl (by decide) (fun q => (e_239 rk mr r1 r2).trans (cif_neg (by first | assumption | omega))) rfl (CR_6 h)
  · exact OP_ex (j := 2) (k := 1) (fun q => (e_90 rk r1 r2 (fun z1 z2 z3 => hd x1 x2 z1 z2 z3)).trans (cif_neg (by first | assumption | omega))) rfl rfl (by decide) (fun q => (e_239 rk mr r1 r2).trans (cif_neg (by first | assumption | omega))) rfl (CR_6 h)
theorem op_92 {d : Nat} {B : Int} {H : VV} {x1 x2 : Int} (h : CR B H H) (hB : B ≤ 999990) (r1 : R32 x1) (r2 : R32 x2) : OP B (d + 12) 92 [aR 1 0, aI (iI x1), aI (iI x2)] (cmL [(2, 1), (0, 2)]) 240 [aR 33 0, aI (iI x1), aI (iI x2)] H := by
  have rk := CR_rk h hB
  have mr := CR_mr h
  have rl := CR_rl h
  have sm := CR_sm h
  have hn := rk_n rk
  have hd := CR_d h
  by_cases c1 : 0 ≤ x1 ∧ x1 < H 2 0 8
  · by_cases c2 : 0 ≤ x2 ∧ x2 < 32
    · by_cases c3 : seeP (H 3 0) (H 4 0) (H 5 0) x1 x2
      · exact OP_ok (fun q => ((e_92 rk r1 r2).trans (cif_pos (by first | assumption | omega))).trans (cif_pos (by first | assumption | omega))) (fun q => (((e_240 rk mr r1 r2).trans (cif_pos (by first | assumption | omega))).trans (cif_pos (by first | assumption | omega))).trans (cif_pos (by first | assumption | omega))) (b2i_pos c3).symm rfl (CR_6 h)
      · exact OP_ok (fun q => ((e_92 rk r1 r2).trans (cif_pos (by first | assumption | omega))).trans (cif_pos (by first | assumption | omega))) (fun q => (((e_240 rk mr r1 r2).trans (cif_pos (by first | assumption | omega))).trans (cif_pos (by first | assumption | omega))).trans (cif_neg (by first | assumption | omega))) (b2i_neg c3).symm rfl (CR_6 h)
    · exact OP_ex (j := 0) (k := 2) (fun q => ((e_92 rk r1 r2).trans (cif_pos (by first | assumption | omega))).trans (cif_neg (by first | assumption | omega))) rfl rfl (by decide) (fun q => ((e_240 rk mr r1 r2).trans (cif_pos (by first | assumption | omega))).trans (cif_neg (by first | assumption | omega))) rfl (CR_6 h)
  · exact OP_ex (j := 2) (k := 1) (fun q => (e_92 rk r1 r2).trans (cif_neg (by first | assumption | omega))) rfl rfl (by decide) (fun q => (e_240 rk mr r1 r2).trans (cif_neg (by first | assumption | omega))) rfl (CR_6 h)
theorem op_94 {d : Nat} {B : Int} {H : VV} {x1 : Int} (h : CR B H H) (hB : B ≤ 999990) (r1 : R32 x1) : OP B (d + 12) 94 [aR 1 0, aI (iI x1)] (cmL [(2, 1)]) 242 [aR 33 0, aI (iI x1)] H := by
  have rk := CR_rk h hB
  have mr := CR_mr h
  have rl := CR_rl h
  have sm := CR_sm h
  have hn := rk_n rk
  have hd := CR_d h
  by_cases c : 0 ≤ x1 ∧ x1 < H 2 0 8
  · exact OP_ok (fun q => (e_94 rk r1).trans (cif_pos (by first | assumption | omega))) (fun q => (s_242 rk mr r1).trans (cif_pos (by first | assumption | omega))) (pop_mask _).symm rfl (CR_6 h)
  · exact OP_ex (j := 2) (k := 1) (fun q => (e_94 rk r1).trans (cif_neg (by first | assumption | omega))) rfl rfl (by decide) (fun q => (s_242 rk mr r1).trans (cif_neg (by first | assumption | omega))) rfl (CR_6 h)
theorem op_96 {d : Nat} {B : Int} {H : VV} {x1 : Int} (h : CR B H H) (hB : B ≤ 999990) (r1 : R32 x1) : OP B (d + 12) 96 [aR 1 0, aI (iI x1)] (cmL [(0, 1)]) 243 [aR 33 0, aI (iI x1)] H := by
  have rk := CR_rk h hB
  have mr := CR_mr h
  have rl := CR_rl h
  have sm := CR_sm h
  have hn := rk_n rk
  have hd := CR_d h
  by_cases c : 0 ≤ x1 ∧ x1 < 32
  · exact OP_ok (fun q => (s_96 rk r1).trans (cif_pos (by first | assumption | omega))) (fun q => (s_243 rk mr r1).trans (cif_pos (by first | assumption | omega))) rfl rfl (CR_6 h)
  · exact OP_ex (j := 0) (k := 1) (fun q => (s_96 rk r1).trans (cif_neg (by first | assumption | omega))) rfl rfl (by decide) (fun q => (s_243 rk mr r1).trans (cif_neg (by first | assumption | omega))) rfl (CR_6 h)
theorem op_101 {d : Nat} {B : Int} {H : VV} {x1 x2 : Int} (h : CR B H H) (hB : B ≤ 999990) (r1 : R32 x1) (r2 : R32 x2) : OP B (d + 12) 101 [aR 1 0, aI (iI x1), aI (iI x2)] (cmL [(2, 1), (3, 2)]) 250 [aR 33 0, aI (iI x1), aI (iI x2)] H := by
  have rk := CR_rk h hB
  have mr := CR_mr h
  have rl := CR_rl h
  have sm := CR_sm h
  have hn := rk_n rk
  have hd := CR_d h
  by_cases c1 : 0 ≤ x1 ∧ x1 < H 2 0 8
  · by_cases c2 : 0 ≤ x2 ∧ x2 < H 2 0 8
    · by_cases c3 : seeT (H 3 0) (H 4 0) (H 5 0) x1 x2
      · exact OP_ok (fun q => (((e_101 rk r1 r2).trans (cif_pos (by first | assumption | omega))).trans (cif_pos (by first | assumption | omega))).trans (cif_pos (by first | assumption | omega))) (fun q => ((e_250 rk mr r1 r2).trans (cif_pos (by first | assumption | omega))).trans (cif_pos (by first | assumption | omega))) rfl rfl (CR_6 h)
      · exact OP_ex (j := 3) (k := 2) (fun q => (((e_101 rk r1 r2).trans (cif_pos (by first | assumption | omega))).trans (cif_pos (by first | assumption | omega))).trans (cif_neg (by first | assumption | omega))) rfl rfl (by decide) (fun q => ((e_250 rk mr r1 r2).trans (cif_pos (by first | assumption | omega))).trans (cif_neg (by first | assumption | omega))) rfl (CR_6 h)
    · exact OP_ex (j := 2) (k := 1) (fun q => ((e_101 rk r1 r2).trans (cif_pos (by first | assumption | omega))).trans (cif_neg (by first | assumption | omega))) rfl rfl (by decide) (fun q => (e_250 rk mr r1 r2).trans (cif_neg (by first | assumption | omega))) rfl (CR_6 h)
  · exact OP_ex (j := 2) (k := 1) (fun q => (e_101 rk r1 r2).trans (cif_neg (by first | assumption | omega))) rfl rfl (by decide) (fun q => (e_250 rk mr r1 r2).trans (cif_neg (by first | assumption | omega))) rfl (CR_6 h)
theorem op_115 {d : Nat} {B : Int} {H : VV} {x1 : Int} (h : CR B H H) (hB : B ≤ 999990) (r1 : R32 x1) : OP B (d + 12) 115 [aR 1 0, aI (iI x1)] (cmL [(0, 1)]) 260 [aR 33 0, aI (iI x1)] H := by
  have rk := CR_rk h hB
  have mr := CR_mr h
  have rl := CR_rl h
  have sm := CR_sm h
  have hn := rk_n rk
  have hd := CR_d h
  by_cases c : 97 ≤ x1 ∧ x1 < 113
  · exact OP_ok (fun q => ((e_115 sm r1).trans (cif_neg (by first | assumption | omega))).trans (cif_pos (by first | assumption | omega))) (fun q => (e_260 r1).trans (cif_pos (by first | assumption | omega))) (sm (x1 - 97) (by omega)).symm rfl (CR_6 h)
  · by_cases c2 : x1 < 97
    · exact OP_ex (j := 0) (k := 1) (fun q => (e_115 sm r1).trans (cif_pos (by first | assumption | omega))) rfl rfl (by decide) (fun q => (e_260 r1).trans (cif_neg (by first | assumption | omega))) rfl (CR_6 h)
    · exact OP_ex (j := 0) (k := 1) (fun q => ((e_115 sm r1).trans (cif_neg (by first | assumption | omega))).trans (cif_neg (by first | assumption | omega))) rfl rfl (by decide) (fun q => (e_260 r1).trans (cif_neg (by first | assumption | omega))) rfl (CR_6 h)
theorem op_119 {d : Nat} {B : Int} {H : VV} {x1 : Int} (h : CR B H H) (hB : B ≤ 999990) (r1 : R32 x1) : OP B (d + 12) 119 [aR 1 0, aI (iI x1)] (cmL [(0, 1), (3, 2)]) 263 [aR 33 0, aI (iI x1)] H := by
  have rk := CR_rk h hB
  have mr := CR_mr h
  have rl := CR_rl h
  have sm := CR_sm h
  have hn := rk_n rk
  have hd := CR_d h
  by_cases c : 0 ≤ x1 ∧ x1 < 256
  · have nb := nrV_b c
    by_cases c2 : nrD x1 ≤ 1
    · exact OP_ok (fun q => ((((e_119 r1).trans (cif_neg (by first | assumption | omega))).trans (cif_pos (by first | assumption | omega))).trans (cif_pos (by first | assumption | omega))).trans (cif_neg (by first | assumption | omega))) (fun q => ((e_263 r1).trans (cif_pos (by first | assumption | omega))).trans (cif_pos (by first | assumption | omega))) rfl rfl (CR_6 h)
    · exact OP_ex (j := 3) (k := 2) (fun q => (((e_119 r1).trans (cif_neg (by first | assumption | omega))).trans (cif_pos (by first | assumption | omega))).trans (cif_neg (by first | assumption | omega))) rfl rfl (by decide) (fun q => ((e_263 r1).trans (cif_pos (by first | assumption | omega))).trans (cif_neg (by first | assumption | omega))) rfl (CR_6 h)
  · by_cases c2 : x1 < 0
    · exact OP_ex (j := 0) (k := 1) (fun q => (e_119 r1).trans (cif_pos (by first | assumption | omega))) rfl rfl (by decide) (fun q => (e_263 r1).trans (cif_neg (by first | assumption | omega))) rfl (CR_6 h)
    · exact OP_ex (j := 0) (k := 1) (fun q => ((e_119 r1).trans (cif_neg (by first | assumption | omega))).trans (cif_neg (by first | assumption | omega))) rfl rfl (by decide) (fun q => (e_263 r1).trans (cif_neg (by first | assumption | omega))) rfl (CR_6 h)
theorem op_122 {d : Nat} {B : Int} {H : VV} {x1 : Int} (h : CR B H H) (hB : B ≤ 999990) (r1 : R32 x1) : OP B (d + 12) 122 [aR 1 0, aI (iI x1)] (cmL [(0, 1), (3, 2)]) 266 [aR 33 0, aI (iI x1)] H := by
  have rk := CR_rk h hB
  have mr := CR_mr h
  have rl := CR_rl h
  have sm := CR_sm h
  have hn := rk_n rk
  have hd := CR_d h
  by_cases c : 0 ≤ x1 ∧ x1 < 256
  · have nb := nrV_b c
    by_cases c2 : nrD x1 ≤ 1
    · exact OP_ok (fun q => ((((e_122 sm r1).trans (cif_neg (by first | assumption | omega))).trans (cif_pos (by first | assumption | omega))).trans (cif_pos (by first | assumption | omega))).trans (cif_neg (by first | assumption | omega))) (fun q => ((e_266 r1).trans (cif_pos (by first | assumption | omega))).trans (cif_pos (by first | assumption | omega))) rfl rfl (CR_6 h)
    · exact OP_ex (j := 3) (k := 2) (fun q => (((e_122 sm r1).trans (cif_neg (by first | assumption | omega))).trans (cif_pos (by first | assumption | omega))).trans (cif_neg (by first | assumption | omega))) rfl rfl (by decide) (fun q => ((e_266 r1).trans (cif_pos (by first | assumption | omega))).trans (cif_neg (by first | assumption | omega))) rfl (CR_6 h)
  · by_cases c2 : x1 < 0
    · exact OP_ex (j := 0) (k := 1) (fun q => (e_122 sm r1).trans (cif_pos (by first | assumption | omega))) rfl rfl (by decide) (fun q => (e_266 r1).trans (cif_neg (by first | assumption | omega))) rfl (CR_6 h)
    · exact OP_ex (j := 0) (k := 1) (fun q => ((e_122 sm r1).trans (cif_neg (by first | assumption | omega))).trans (cif_neg (by first | assumption | omega))) rfl rfl (by decide) (fun q => (e_266 r1).trans (cif_neg (by first | assumption | omega))) rfl (CR_6 h)
theorem op_124 {d : Nat} {B : Int} {H : VV} {x1 : Int} (h : CR B H H) (hB : B ≤ 999990) (r1 : R32 x1) : OP B (d + 12) 124 [aR 1 0, aI (iI x1)] (cmL [(0, 1)]) 267 [aR 33 0, aI (iI x1)] H := by
  have rk := CR_rk h hB
  have mr := CR_mr h
  have rl := CR_rl h
  have sm := CR_sm h
  have hn := rk_n rk
  have hd := CR_d h
  by_cases c : 0 ≤ x1 ∧ x1 < 256
  · exact OP_ok (fun q => ((e_124 sm r1).trans (cif_neg (by first | assumption | omega))).trans (cif_pos (by first | assumption | omega))) (fun q => (e_267 r1).trans (cif_pos (by first | assumption | omega))) rfl rfl (CR_6 h)
  · by_cases c2 : x1 < 0
    · exact OP_ex (j := 0) (k := 1) (fun q => (e_124 sm r1).trans (cif_pos (by first | assumption | omega))) rfl rfl (by decide) (fun q => (e_267 r1).trans (cif_neg (by first | assumption | omega))) rfl (CR_6 h)
    · exact OP_ex (j := 0) (k := 1) (fun q => ((e_124 sm r1).trans (cif_neg (by first | assumption | omega))).trans (cif_neg (by first | assumption | omega))) rfl rfl (by decide) (fun q => (e_267 r1).trans (cif_neg (by first | assumption | omega))) rfl (CR_6 h)
theorem op_127 {d : Nat} {B : Int} {H : VV} {x1 x2 : Int} (h : CR B H H) (hB : B ≤ 999990) (r1 : R32 x1) (r2 : R32 x2) : OP B (d + 12) 127 [aR 1 0, aI (iI x1), aI (iI x2)] (cmL [(2, 1), (0, 2)]) 268 [aR 33 0, aI (iI x1), aI (iI x2)] H := by
  have rk := CR_rk h hB
  have mr := CR_mr h
  have rl := CR_rl h
  have sm := CR_sm h
  have hn := rk_n rk
  have hd := CR_d h
  by_cases c1 : 0 ≤ x1 ∧ x1 < H 2 0 8
  · by_cases c2 : 97 ≤ x2 ∧ x2 < 113
    · exact OP_ok (fun q => (((e_127 rk sm r1 r2).trans (cif_pos (by first | assumption | omega))).trans (cif_neg (by first | assumption | omega))).trans (cif_pos (by first | assumption | omega))) (fun q => ((e_268 rk mr r1 r2).trans (cif_pos (by first | assumption | omega))).trans (cif_pos (by first | assumption | omega))) rfl rfl (CR_6 h)
    · by_cases c3 : x2 < 97
      · exact OP_ex (j := 0) (k := 2) (fun q => ((e_127 rk sm r1 r2).trans (cif_pos (by first | assumption | omega))).trans (cif_pos (by first | assumption | omega))) rfl rfl (by decide) (fun q => ((e_268 rk mr r1 r2).trans (cif_pos (by first | assumption | omega))).trans (cif_neg (by first | assumption | omega))) rfl (CR_6 h)
      · exact OP_ex (j := 0) (k := 2) (fun q => (((e_127 rk sm r1 r2).trans (cif_pos (by first | assumption | omega))).trans (cif_neg (by first | assumption | omega))).trans (cif_neg (by first | assumption | omega))) rfl rfl (by decide) (fun q => ((e_268 rk mr r1 r2).trans (cif_pos (by first | assumption | omega))).trans (cif_neg (by first | assumption | omega))) rfl (CR_6 h)
  · exact OP_ex (j := 2) (k := 1) (fun q => (e_127 rk sm r1 r2).trans (cif_neg (by first | assumption | omega))) rfl rfl (by decide) (fun q => (e_268 rk mr r1 r2).trans (cif_neg (by first | assumption | omega))) rfl (CR_6 h)
theorem op_144 {d : Nat} {B : Int} {H : VV} {x1 x2 : Int} (h : CR B H H) (hB : B ≤ 999990) (r1 : R32 x1) (r2 : R32 x2) : OP B (d + 12) 144 [aR 1 0, aI (iI x1), aI (iI x2)] (cmL [(2, 1), (3, 2)]) 276 [aR 33 0, aI (iI x1), aI (iI x2)] H := by
  have rk := CR_rk h hB
  have mr := CR_mr h
  have rl := CR_rl h
  have sm := CR_sm h
  have hn := rk_n rk
  have hd := CR_d h
  have h8 := fun t => RI_8 h.1 t
  by_cases c1 : 0 ≤ x1 ∧ x1 < H 2 0 8
  · have h8 := h8 x1 (by omega)
    by_cases c2 : 0 ≤ x2 ∧ x2 < H 8 0 x1
    · exact OP_ok (fun q => (((e_144 rk r1 r2 (fun _ _ _ => by omega)).trans (cif_pos (by first | assumption | omega))).trans (cif_neg (by first | assumption | omega))).trans (cif_pos (by first | assumption | omega))) (fun q => ((e_276 rk mr r1 r2 (fun _ _ => by omega)).trans (cif_pos (by first | assumption | omega))).trans (cif_pos (by first | assumption | omega))) (by rw [show x1 * 8 + (H 8 0 x1 - 1 - x2) = 8 * x1 + H 8 0 x1 - 1 - x2 by omega]) rfl (CR_6 h)
    · by_cases c3 : x2 < 0
      · exact OP_ex (j := 3) (k := 2) (fun q => ((e_144 rk r1 r2 (fun _ _ _ => by omega)).trans (cif_pos (by first | assumption | omega))).trans (cif_pos (by first | assumption | omega))) rfl rfl (by decide) (fun q => ((e_276 rk mr r1 r2 (fun _ _ => by omega)).trans (cif_pos (by first | assumption | omega))).trans (cif_neg (by first | assumption | omega))) rfl (CR_6 h)
      · exact OP_ex (j := 3) (k := 2) (fun q => (((e_144 rk r1 r2 (fun _ _ _ => by omega)).trans (cif_pos (by first | assumption | omega))).trans (cif_neg (by first | assumption | omega))).trans (cif_neg (by first | assumption | omega))) rfl rfl (by decide) (fun q => ((e_276 rk mr r1 r2 (fun _ _ => by omega)).trans (cif_pos (by first | assumption | omega))).trans (cif_neg (by first | assumption | omega))) rfl (CR_6 h)
  · exact OP_ex (j := 2) (k := 1) (fun q => (e_144 rk r1 r2 (fun _ _ _ => by omega)).trans (cif_neg (by first | assumption | omega))) rfl rfl (by decide) (fun q => (e_276 rk mr r1 r2 (fun _ _ => by omega)).trans (cif_neg (by first | assumption | omega))) rfl (CR_6 h)
theorem op_147 {d : Nat} {B : Int} {H : VV} {x1 : Int} (h : CR B H H) (hB : B ≤ 999990) (r1 : R32 x1) : OP B (d + 12) 147 [aR 1 0, aI (iI x1)] (cmL [(0, 1)]) 277 [aR 33 0, aI (iI x1)] H := by
  have rk := CR_rk h hB
  have mr := CR_mr h
  have rl := CR_rl h
  have sm := CR_sm h
  have hn := rk_n rk
  have hd := CR_d h
  by_cases c : 97 ≤ x1 ∧ x1 < 113
  · exact OP_ok (fun q => ((e_147 rk r1).trans (cif_neg (by first | assumption | omega))).trans (cif_pos (by first | assumption | omega))) (fun q => (e_277 rk mr r1).trans (cif_pos (by first | assumption | omega))) rfl rfl (CR_6 h)
  · by_cases c2 : x1 < 97
    · exact OP_ex (j := 0) (k := 1) (fun q => (e_147 rk r1).trans (cif_pos (by first | assumption | omega))) rfl rfl (by decide) (fun q => (e_277 rk mr r1).trans (cif_neg (by first | assumption | omega))) rfl (CR_6 h)
    · exact OP_ex (j := 0) (k := 1) (fun q => ((e_147 rk r1).trans (cif_neg (by first | assumption | omega))).trans (cif_neg (by first | assumption | omega))) rfl rfl (by decide) (fun q => (e_277 rk mr r1).trans (cif_neg (by first | assumption | omega))) rfl (CR_6 h)
