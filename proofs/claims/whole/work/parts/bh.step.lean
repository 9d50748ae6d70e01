/-! the law's loop -/
section
variable {d : Nat} {B i : Int} {H : VV} {q : QQ}
theorem qu2_refl (q : QQ) : qu2 q q := qu2_qup (qup_refl q)
theorem fin_go {am : Nat} {x : Int} (ht : am_tsw 0 54 [280, 348, 428, 496, 552, 565, 621, 677, 733, 789, 845, 920, 995, 1070, 1126, 1182, 1195, 1208, 1264, 1277, 1345, 1413, 1481, 1549, 1629, 1642, 1700, 1756, 1812, 1868, 1938, 2020, 2109, 2165, 2221, 2289, 2347, 2360, 2373, 2417, 2461, 2526, 2592, 2648, 2716, 2772, 2828, 2841, 2899, 2943, 2987, 3031, 3075, 3088, 3101] 3145 (iI x) = am) (a b c : Option AV) {V' : VV} {q' : QQ} {a' b' c' : Option AV} (e : RUN (d + 14) 307 (am, LSa i a b c, []) (HM q H) = RUN (d + 14) 307 (3145, LSa i a' b' c', []) (HM q' V')) : RUN (d + 14) 307 (44, LSa i a b c, [aI (iI x)]) (HM q H) = RUN (d + 14) 307 (28, LSa (i + 4) a' b' c', []) (HM q' V') :=
  Eq.trans (k_tsw rfl ht) (Eq.trans e (Eq.trans (k_iinc 4 rfl rfl rfl) (k_goto rfl)))
theorem law_at {x : Int} (hx : 0 ≤ x ∧ x < 64) (h : CR B H H) (hB : B ≤ 999000) (h9 : 149 ≤ q.2.1.1) (hi : 0 ≤ i ∧ i + 3 < (q.1.1 : Int)) (hn : q.1.1 < 2147483648) (a b c : Option AV) : ∃ (q' : QQ) (V : VV) (a' b' c' : Option AV), qu2 q q' ∧ CR (B + 100) V V ∧ RUN (d + 14) 307 (44, LSa i a b c, [aI (iI x)]) (HM q H) = RUN (d + 14) 307 (28, LSa (i + 4) a' b' c', []) (HM q' V) := by
  have fin : ∀ {am : Nat}, am_tsw 0 54 [280, 348, 428, 496, 552, 565, 621, 677, 733, 789, 845, 920, 995, 1070, 1126, 1182, 1195, 1208, 1264, 1277, 1345, 1413, 1481, 1549, 1629, 1642, 1700, 1756, 1812, 1868, 1938, 2020, 2109, 2165, 2221, 2289, 2347, 2360, 2373, 2417, 2461, 2526, 2592, 2648, 2716, 2772, 2828, 2841, 2899, 2943, 2987, 3031, 3075, 3088, 3101] 3145 (iI x) = am → Nxt B (d + 14) am i q H → ∃ (q' : QQ) (V : VV) (a' b' c' : Option AV), qu2 q q' ∧ CR (B + 100) V V ∧ RUN (d + 14) 307 (44, LSa i a b c, [aI (iI x)]) (HM q H) = RUN (d + 14) 307 (28, LSa (i + 4) a' b' c', []) (HM q' V) := by
    intro am ht nx
    obtain ⟨q', V, a', b', c', n1, n2, n3⟩ := nx a b c
    exact ⟨q', V, a', b', c', n1, n2, fin_go ht a b c n3⟩
  by_cases c0 : x = 0
  · exact fin (am := 280) (tsw_eq c0 rfl) (cse_0 h9 hi hn (op_56 (d := d) h (by omega) ag_R ag_R))
  by_cases c1 : x = 1
  · exact fin (am := 348) (tsw_eq c1 rfl) (cse_1 h9 hi hn (op_61 (d := d) h (by omega) ag_R ag_R ag_R))
  by_cases c2 : x = 2
  · exact fin (am := 428) (tsw_eq c2 rfl) (cse_2 h9 hi hn (op_68 (d := d) h (by omega) ag_R ag_R))
  by_cases c3 : x = 3
  · exact fin (am := 496) (tsw_eq c3 rfl) (cse_3 h9 hi hn (op_72 (d := d) h (by omega) ag_R))
  by_cases c4 : x = 4
  · exact fin (am := 552) (tsw_eq c4 rfl) (cse_4 h9 (op_12 (d := d + 1) h (by omega)))
  by_cases c5 : x = 5
  · exact fin (am := 565) (tsw_eq c5 rfl) (cse_5 h9 hi hn (op_75 (d := d) h (by omega) ag_R))
  by_cases c6 : x = 6
  · exact fin (am := 621) (tsw_eq c6 rfl) (cse_6 h9 hi hn (op_77 (d := d) h (by omega) ag_R))
  by_cases c7 : x = 7
  · exact fin (am := 677) (tsw_eq c7 rfl) (cse_7 h9 hi hn (op_79 (d := d) h (by omega) ag_R))
  by_cases c8 : x = 8
  · exact fin (am := 733) (tsw_eq c8 rfl) (cse_8 h9 hi hn (op_81 (d := d) h (by omega) ag_R))
  by_cases c9 : x = 9
  · exact fin (am := 789) (tsw_eq c9 rfl) (cse_9 h9 hi hn (op_83 (d := d) h (by omega) ag_R))
  by_cases c10 : x = 10
  · exact fin (am := 845) (tsw_eq c10 rfl) (cse_10 h9 hi hn (op_87 (d := d) h (by omega) ag_R ag_R))
  by_cases c11 : x = 11
  · exact fin (am := 920) (tsw_eq c11 rfl) (cse_11 h9 hi hn (op_90 (d := d) h (by omega) ag_R ag_R))
  by_cases c12 : x = 12
  · exact fin (am := 995) (tsw_eq c12 rfl) (cse_12 h9 hi hn (op_92 (d := d) h (by omega) ag_R ag_R))
  by_cases c13 : x = 13
  · exact fin (am := 1070) (tsw_eq c13 rfl) (cse_13 h9 hi hn (op_94 (d := d) h (by omega) ag_R))
  by_cases c14 : x = 14
  · exact fin (am := 1126) (tsw_eq c14 rfl) (cse_14 h9 hi hn (op_96 (d := d) h (by omega) ag_R))
  by_cases c15 : x = 15
  · exact fin (am := 1182) (tsw_eq c15 rfl) (cse_15 h9 (op_13 (d := d + 1) h (by omega)))
  by_cases c16 : x = 16
  · exact fin (am := 1195) (tsw_eq c16 rfl) (cse_16 h9 (op_21 (d := d + 1) h (by omega)))
  by_cases c17 : x = 17
  · exact fin (am := 1208) (tsw_eq c17 rfl) (cse_17 h9 hi hn (op_98 (d := d) h (by omega) ag_R))
  by_cases c18 : x = 18
  · exact fin (am := 1264) (tsw_eq c18 rfl) (cse_18 h9 (op_24 (d := d + 1) h (by omega)))
  by_cases c19 : x = 19
  · exact fin (am := 1277) (tsw_eq c19 rfl) (cse_19 h9 hi hn (op_101 (d := d) h (by omega) ag_R ag_R))
  by_cases c20 : x = 20
  · exact fin (am := 1345) (tsw_eq c20 rfl) (cse_20 h9 hi hn (op_103 (d := d) h (by omega) ag_R ag_R))
  by_cases c21 : x = 21
  · exact fin (am := 1413) (tsw_eq c21 rfl) (cse_21 h9 hi hn (op_108 (d := d) h (by omega) ag_R ag_R))
  by_cases c22 : x = 22
  · exact fin (am := 1481) (tsw_eq c22 rfl) (cse_22 h9 hi hn (op_111 (d := d) h (by omega) ag_R ag_R))
  by_cases c23 : x = 23
  · exact fin (am := 1549) (tsw_eq c23 rfl) (cse_23 h9 hi hn (op_113 (d := d) h (by omega) ag_R ag_R ag_R))
  by_cases c24 : x = 24
  · exact fin (am := 1629) (tsw_eq c24 rfl) (cse_24 h9 (op_25 (d := d + 1) h (by omega)))
  by_cases c25 : x = 25
  · exact fin (am := 1642) (tsw_eq c25 rfl) (cse_25 h9 hi hn (op_115 (d := d) h (by omega) (by constructor <;> omega)))
  by_cases c26 : x = 26
  · exact fin (am := 1700) (tsw_eq c26 rfl) (cse_26 h9 hi hn (op_119 (d := d) h (by omega) ag_R))
  by_cases c27 : x = 27
  · exact fin (am := 1756) (tsw_eq c27 rfl) (cse_27 h9 hi hn (op_122 (d := d) h (by omega) ag_R))
  by_cases c28 : x = 28
  · exact fin (am := 1812) (tsw_eq c28 rfl) (cse_28 h9 hi hn (op_124 (d := d) h (by omega) ag_R))
  by_cases c29 : x = 29
  · exact fin (am := 1868) (tsw_eq c29 rfl) (cse_29 h9 hi hn (op_127 (d := d) h (by omega) ag_R (by constructor <;> omega)))
  by_cases c30 : x = 30
  · exact fin (am := 1938) (tsw_eq c30 rfl) (cse_30 h9 hi hn (op_131 (d := d) h (by omega) ag_R ag_R (by constructor <;> omega)))
  by_cases c31 : x = 31
  · exact fin (am := 2020) (tsw_eq c31 rfl) (cse_31 h9 hi hn (op_138 (d := d) h (by omega) ag_R ag_R (by constructor <;> omega)))
  by_cases c32 : x = 32
  · exact fin (am := 2109) (tsw_eq c32 rfl) (cse_32 h9 hi hn (op_140 (d := d) h (by omega) ag_R))
  by_cases c33 : x = 33
  · exact fin (am := 2165) (tsw_eq c33 rfl) (cse_33 h9 hi hn (op_142 (d := d) h (by omega) ag_R))
  by_cases c34 : x = 34
  · exact fin (am := 2221) (tsw_eq c34 rfl) (cse_34 h9 hi hn (op_144 (d := d) h (by omega) ag_R ag_R))
  by_cases c35 : x = 35
  · exact fin (am := 2289) (tsw_eq c35 rfl) (cse_35 h9 hi hn (op_147 (d := d) h (by omega) (by constructor <;> omega)))
  by_cases c36 : x = 36
  · exact fin (am := 2347) (tsw_eq c36 rfl) (cse_36 h9 (op_32 (d := d + 1) h (by omega)))
  by_cases c37 : x = 37
  · exact fin (am := 2360) (tsw_eq c37 rfl) (cse_37 h9 (op_37 (d := d + 1) h (by omega)))
  by_cases c38 : x = 38
  · exact fin (am := 2373) (tsw_eq c38 rfl) (cse_38 h9 (op_149 (d := d) h))
  by_cases c39 : x = 39
  · exact fin (am := 2417) (tsw_eq c39 rfl) (cse_39 h9 (op_151 (d := d) h))
  by_cases c40 : x = 40
  · exact fin (am := 2461) (tsw_eq c40 rfl) (cse_40 h (by omega))
  by_cases c41 : x = 41
  · exact fin (am := 2526) (tsw_eq c41 rfl) (cse_41 h (by omega))
  by_cases c42 : x = 42
  · exact fin (am := 2592) (tsw_eq c42 rfl) (cse_42 h9 hi hn (op_157 (d := d) h (by omega) ag_R))
  by_cases c43 : x = 43
  · exact fin (am := 2648) (tsw_eq c43 rfl) (cse_43 h9 hi hn (op_162 (d := d) h (by omega) ag_R ag_R))
  by_cases c44 : x = 44
  · exact fin (am := 2716) (tsw_eq c44 rfl) (cse_44 h9 hi hn (op_164 (d := d) h ag_R))
  by_cases c45 : x = 45
  · exact fin (am := 2772) (tsw_eq c45 rfl) (cse_45 h9 hi hn (op_166 (d := d) h ag_R))
  by_cases c46 : x = 46
  · exact fin (am := 2828) (tsw_eq c46 rfl) (cse_46 h9 (op_41 (d := d + 1) h (by omega)))
  by_cases c47 : x = 47
  · exact fin (am := 2841) (tsw_eq c47 rfl) (cse_47 h9 hi hn (op_168 (d := d) h (by omega)))
  by_cases c48 : x = 48
  · exact fin (am := 2899) (tsw_eq c48 rfl) (cse_48 h9 (op_171 (d := d) h (by omega)))
  by_cases c49 : x = 49
  · exact fin (am := 2943) (tsw_eq c49 rfl) (cse_49 h9 (op_199 (d := d) h))
  by_cases c50 : x = 50
  · exact fin (am := 2987) (tsw_eq c50 rfl) (cse_50 h9 (op_201 (d := d) h))
  by_cases c51 : x = 51
  · exact fin (am := 3031) (tsw_eq c51 rfl) (cse_51 h9 (op_203 (d := d) h))
  by_cases c52 : x = 52
  · exact fin (am := 3075) (tsw_eq c52 rfl) (cse_52 h9 (op_52 (d := d + 1) h (by omega)))
  by_cases c53 : x = 53
  · exact fin (am := 3088) (tsw_eq c53 rfl) (cse_53 h9 (op_53 (d := d + 1) h (by omega)))
  by_cases c54 : x = 54
  · exact fin (am := 3101) (tsw_eq c54 rfl) (cse_54 h9 (op_206 (d := d) h (by omega)))
  refine ⟨q, H, a, b, c, qu2_refl q, CR_mono h (by omega), fin_go (am := 3145) (tsw_out (by constructor <;> omega) (by omega)) a b c rfl⟩
end
