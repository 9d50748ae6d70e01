/-! the guarded calls -/
theorem wr_55_0 {D : Nat} {q q' : QQ} {V V' : VV} {x1 x2 : Int} (hc : RUN D 56 (am_en 56 [aR 1 0, aI (iI x1), aI (iI x2)]) (HM q V) = rX 0 (HM q' V')) (hq : qle q q') : RUN (D + 1) 55 (am_en 55 [aR 1 0, aI (iI x1), aI (iI x2), aR 44 0]) (HM q V) = rI 1 (HM q' V') :=
  (show RUN (D + 1) 55 (0, [sR 1 0, sI x1, sI x2, sR 44 0, none], []) (HM q V) = _ from (Eq.trans (k_aload rfl rfl) (Eq.trans (k_pushi 0 rfl rfl) (Eq.trans (k_aload rfl rfl) (Eq.trans (k_iload rfl rfl) (Eq.trans (k_iload rfl rfl) (Eq.trans (RUN_ch rfl rfl rfl hc hq rfl rfl (cat_of (nx := 15) (i := 4) (by decide +kernel) rfl)) (Eq.trans (k_pushi 1 rfl rfl) (k_iret rfl trivial)))))))))
theorem wr_55_ok {D : Nat} {q q' : QQ} {V V' : VV} {x1 x2 : Int} {v : Int} (hc : RUN D 56 (am_en 56 [aR 1 0, aI (iI x1), aI (iI x2)]) (HM q V) = rI v (HM q' V')) (hq : qle q q') : RUN (D + 1) 55 (am_en 55 [aR 1 0, aI (iI x1), aI (iI x2), aR 44 0]) (HM q V) = rI 0 (HM (qJ q' (i2L v)) V') := 
  (show RUN (D + 1) 55 (0, [sR 1 0, sI x1, sI x2, sR 44 0, none], []) (HM q V) = _ from (Eq.trans (k_aload rfl rfl) (Eq.trans (k_pushi 0 rfl rfl) (Eq.trans (k_aload rfl rfl) (Eq.trans (k_iload rfl rfl) (Eq.trans (k_iload rfl rfl) (Eq.trans (RUN_ci rfl rfl rfl hc hq) (Eq.trans (k_i2l rfl) (Eq.trans (k_last rfl) (Eq.trans (k_goto rfl) (Eq.trans (k_pushi 0 rfl rfl) (k_iret rfl trivial))))))))))))
theorem wrT_55 {D : Nat} {q : QQ} {H U : VV} {x1 x2 : Int} {k v : Int} (h : Oc (RUN D 56 (am_en 56 [aR 1 0, aI (iI x1), aI (iI x2)]) (HM q H)) (cmL [(0, 1)]) q k v U) : Wr (RUN (D + 1) 55 (am_en 55 [aR 1 0, aI (iI x1), aI (iI x2), aR 44 0]) (HM q H)) q k (i2L v) U := by
  rcases h with ⟨rfl, e⟩ | ⟨h1, h2, j, hj, hk, e⟩
  · exact ⟨_, qup_J q _, fun _ => qJ_at q _, wr_55_ok e (qle_refl q)⟩
  · have hk : (if j = 0 then 1 else 0) = k := hk
    by_cases c0 : j = 0
    · rw [if_pos c0] at hk
      subst hk c0
      exact ⟨_, qup_thr q, fun z => absurd z (by decide), wr_55_0 e (qle_thr q)⟩
    rw [if_neg c0] at hk
    omega
theorem wr_60_0 {D : Nat} {q q' : QQ} {V V' : VV} {x1 x2 x3 : Int} (hc : RUN D 61 (am_en 61 [aR 1 0, aI (iI x1), aI (iI x2), aI (iI x3)]) (HM q V) = rX 0 (HM q' V')) (hq : qle q q') : RUN (D + 1) 60 (am_en 60 [aR 1 0, aI (iI x1), aI (iI x2), aI (iI x3), aR 44 0]) (HM q V) = rI 1 (HM q' V') :=
  (show RUN (D + 1) 60 (0, [sR 1 0, sI x1, sI x2, sI x3, sR 44 0, none], []) (HM q V) = _ from (Eq.trans (k_aload rfl rfl) (Eq.trans (k_pushi 0 rfl rfl) (Eq.trans (k_aload rfl rfl) (Eq.trans (k_iload rfl rfl) (Eq.trans (k_iload rfl rfl) (Eq.trans (k_iload rfl rfl) (Eq.trans (RUN_ch rfl rfl rfl hc hq rfl rfl (cat_of (nx := 17) (i := 5) (by decide +kernel) rfl)) (Eq.trans (k_pushi 1 rfl rfl) (k_iret rfl trivial))))))))))
theorem wr_60_1 {D : Nat} {q q' : QQ} {V V' : VV} {x1 x2 x3 : Int} (hc : RUN D 61 (am_en 61 [aR 1 0, aI (iI x1), aI (iI x2), aI (iI x3)]) (HM q V) = rX 1 (HM q' V')) (hq : qle q q') : RUN (D + 1) 60 (am_en 60 [aR 1 0, aI (iI x1), aI (iI x2), aI (iI x3), aR 44 0]) (HM q V) = rI 2 (HM q' V') :=
  (show RUN (D + 1) 60 (0, [sR 1 0, sI x1, sI x2, sI x3, sR 44 0, none], []) (HM q V) = _ from (Eq.trans (k_aload rfl rfl) (Eq.trans (k_pushi 0 rfl rfl) (Eq.trans (k_aload rfl rfl) (Eq.trans (k_iload rfl rfl) (Eq.trans (k_iload rfl rfl) (Eq.trans (k_iload rfl rfl) (Eq.trans (RUN_ch rfl rfl rfl hc hq rfl rfl (cat_of (nx := 21) (i := 5) (by decide +kernel) rfl)) (Eq.trans (k_pushi 2 rfl rfl) (k_iret rfl trivial))))))))))
theorem wr_60_ok {D : Nat} {q q' : QQ} {V V' : VV} {x1 x2 x3 : Int} {v : Int} (hc : RUN D 61 (am_en 61 [aR 1 0, aI (iI x1), aI (iI x2), aI (iI x3)]) (HM q V) = rI v (HM q' V')) (hq : qle q q') : RUN (D + 1) 60 (am_en 60 [aR 1 0, aI (iI x1), aI (iI x2), aI (iI x3), aR 44 0]) (HM q V) = rI 0 (HM (qJ q' (i2L v)) V') := 
  (show RUN (D + 1) 60 (0, [sR 1 0, sI x1, sI x2, sI x3, sR 44 0, none], []) (HM q V) = _ from (Eq.trans (k_aload rfl rfl) (Eq.trans (k_pushi 0 rfl rfl) (Eq.trans (k_aload rfl rfl) (Eq.trans (k_iload rfl rfl) (Eq.trans (k_iload rfl rfl) (Eq.trans (k_iload rfl rfl) (Eq.trans (RUN_ci rfl rfl rfl hc hq) (Eq.trans (k_i2l rfl) (Eq.trans (k_last rfl) (Eq.trans (k_goto rfl) (Eq.trans (k_pushi 0 rfl rfl) (k_iret rfl trivial)))))))))))))
theorem wrT_60 {D : Nat} {q : QQ} {H U : VV} {x1 x2 x3 : Int} {k v : Int} (h : Oc (RUN D 61 (am_en 61 [aR 1 0, aI (iI x1), aI (iI x2), aI (iI x3)]) (HM q H)) (cmL [(0, 1), (1, 2)]) q k v U) : Wr (RUN (D + 1) 60 (am_en 60 [aR 1 0, aI (iI x1), aI (iI x2), aI (iI x3), aR 44 0]) (HM q H)) q k (i2L v) U := by
  rcases h with ⟨rfl, e⟩ | ⟨h1, h2, j, hj, hk, e⟩
  · exact ⟨_, qup_J q _, fun _ => qJ_at q _, wr_60_ok e (qle_refl q)⟩
  · have hk : (if j = 0 then 1 else (if j = 1 then 2 else 0)) = k := hk
    by_cases c0 : j = 0
    · rw [if_pos c0] at hk
      subst hk c0
      exact ⟨_, qup_thr q, fun z => absurd z (by decide), wr_60_0 e (qle_thr q)⟩
    rw [if_neg c0] at hk
    by_cases c1 : j = 1
    · rw [if_pos c1] at hk
      subst hk c1
      exact ⟨_, qup_thr q, fun z => absurd z (by decide), wr_60_1 e (qle_thr q)⟩
    rw [if_neg c1] at hk
    omega
theorem wr_67_2 {D : Nat} {q q' : QQ} {V V' : VV} {x1 x2 : Int} (hc : RUN D 68 (am_en 68 [aR 1 0, aI (iI x1), aI (iI x2)]) (HM q V) = rX 2 (HM q' V')) (hq : qle q q') : RUN (D + 1) 67 (am_en 67 [aR 1 0, aI (iI x1), aI (iI x2), aR 44 0]) (HM q V) = rI 1 (HM q' V') :=
  (show RUN (D + 1) 67 (0, [sR 1 0, sI x1, sI x2, sR 44 0, none], []) (HM q V) = _ from (Eq.trans (k_aload rfl rfl) (Eq.trans (k_pushi 0 rfl rfl) (Eq.trans (k_aload rfl rfl) (Eq.trans (k_iload rfl rfl) (Eq.trans (k_iload rfl rfl) (Eq.trans (RUN_ch rfl rfl rfl hc hq rfl rfl (cat_of (nx := 15) (i := 4) (by decide +kernel) rfl)) (Eq.trans (k_pushi 1 rfl rfl) (k_iret rfl trivial)))))))))
theorem wr_67_0 {D : Nat} {q q' : QQ} {V V' : VV} {x1 x2 : Int} (hc : RUN D 68 (am_en 68 [aR 1 0, aI (iI x1), aI (iI x2)]) (HM q V) = rX 0 (HM q' V')) (hq : qle q q') : RUN (D + 1) 67 (am_en 67 [aR 1 0, aI (iI x1), aI (iI x2), aR 44 0]) (HM q V) = rI 2 (HM q' V') :=
  (show RUN (D + 1) 67 (0, [sR 1 0, sI x1, sI x2, sR 44 0, none], []) (HM q V) = _ from (Eq.trans (k_aload rfl rfl) (Eq.trans (k_pushi 0 rfl rfl) (Eq.trans (k_aload rfl rfl) (Eq.trans (k_iload rfl rfl) (Eq.trans (k_iload rfl rfl) (Eq.trans (RUN_ch rfl rfl rfl hc hq rfl rfl (cat_of (nx := 19) (i := 4) (by decide +kernel) rfl)) (Eq.trans (k_pushi 2 rfl rfl) (k_iret rfl trivial)))))))))
theorem wr_67_ok {D : Nat} {q q' : QQ} {V V' : VV} {x1 x2 : Int} {v : Int} (hc : RUN D 68 (am_en 68 [aR 1 0, aI (iI x1), aI (iI x2)]) (HM q V) = rI v (HM q' V')) (hq : qle q q') : RUN (D + 1) 67 (am_en 67 [aR 1 0, aI (iI x1), aI (iI x2), aR 44 0]) (HM q V) = rI 0 (HM (qJ q' (i2L v)) V') := 
  (show RUN (D + 1) 67 (0, [sR 1 0, sI x1, sI x2, sR 44 0, none], []) (HM q V) = _ from (Eq.trans (k_aload rfl rfl) (Eq.trans (k_pushi 0 rfl rfl) (Eq.trans (k_aload rfl rfl) (Eq.trans (k_iload rfl rfl) (Eq.trans (k_iload rfl rfl) (Eq.trans (RUN_ci rfl rfl rfl hc hq) (Eq.trans (k_i2l rfl) (Eq.trans (k_last rfl) (Eq.trans (k_goto rfl) (Eq.trans (k_pushi 0 rfl rfl) (k_iret rfl trivial))))))))))))
theorem wrT_67 {D : Nat} {q : QQ} {H U : VV} {x1 x2 : Int} {k v : Int} (h : Oc (RUN D 68 (am_en 68 [aR 1 0, aI (iI x1), aI (iI x2)]) (HM q H)) (cmL [(2, 1), (0, 2)]) q k v U) : Wr (RUN (D + 1) 67 (am_en 67 [aR 1 0, aI (iI x1), aI (iI x2), aR 44 0]) (HM q H)) q k (i2L v) U := by
  rcases h with ⟨rfl, e⟩ | ⟨h1, h2, j, hj, hk, e⟩
  · exact ⟨_, qup_J q _, fun _ => qJ_at q _, wr_67_ok e (qle_refl q)⟩
  · have hk : (if j = 2 then 1 else (if j = 0 then 2 else 0)) = k := hk
    by_cases c2 : j = 2
    · rw [if_pos c2] at hk
      subst hk c2
      exact ⟨_, qup_thr q, fun z => absurd z (by decide), wr_67_2 e (qle_thr q)⟩
    rw [if_neg c2] at hk
    by_cases c0 : j = 0
    · rw [if_pos c0] at hk
      subst hk c0
      exact ⟨_, qup_thr q, fun z => absurd z (by decide), wr_67_0 e (qle_thr q)⟩
    rw [if_neg c0] at hk
    omega
theorem wr_71_0 {D : Nat} {q q' : QQ} {V V' : VV} {x1 : Int} (hc : RUN D 72 (am_en 72 [aR 1 0, aI (iI x1)]) (HM q V) = rX 0 (HM q' V')) (hq : qle q q') : RUN (D + 1) 71 (am_en 71 [aR 1 0, aI (iI x1), aR 44 0]) (HM q V) = rI 1 (HM q' V') :=
  (show RUN (D + 1) 71 (0, [sR 1 0, sI x1, sR 44 0, none], []) (HM q V) = _ from (Eq.trans (k_aload rfl rfl) (Eq.trans (k_pushi 0 rfl rfl) (Eq.trans (k_aload rfl rfl) (Eq.trans (k_iload rfl rfl) (Eq.trans (RUN_ch rfl rfl rfl hc hq rfl rfl (cat_of (nx := 13) (i := 3) (by decide +kernel) rfl)) (Eq.trans (k_pushi 1 rfl rfl) (k_iret rfl trivial))))))))
theorem wr_71_ok {D : Nat} {q q' : QQ} {V V' : VV} {x1 : Int} {v : Int} (hc : RUN D 72 (am_en 72 [aR 1 0, aI (iI x1)]) (HM q V) = rI v (HM q' V')) (hq : qle q q') : RUN (D + 1) 71 (am_en 71 [aR 1 0, aI (iI x1), aR 44 0]) (HM q V) = rI 0 (HM (qJ q' (i2L v)) V') := 
  (show RUN (D + 1) 71 (0, [sR 1 0, sI x1, sR 44 0, none], []) (HM q V) = _ from (Eq.trans (k_aload rfl rfl) (Eq.trans (k_pushi 0 rfl rfl) (Eq.trans (k_aload rfl rfl) (Eq.trans (k_iload rfl rfl) (Eq.trans (RUN_ci rfl rfl rfl hc hq) (Eq.trans (k_i2l rfl) (Eq.trans (k_last rfl) (Eq.trans (k_goto rfl) (Eq.trans (k_pushi 0 rfl rfl) (k_iret rfl trivial)))))))))))
theorem wrT_71 {D : Nat} {q : QQ} {H U : VV} {x1 : Int} {k v : Int} (h : Oc (RUN D 72 (am_en 72 [aR 1 0, aI (iI x1)]) (HM q H)) (cmL [(0, 1)]) q k v U) : Wr (RUN (D + 1) 71 (am_en 71 [aR 1 0, aI (iI x1), aR 44 0]) (HM q H)) q k (i2L v) U := by
  rcases h with ⟨rfl, e⟩ | ⟨h1, h2, j, hj, hk, e⟩
  · exact ⟨_, qup_J q _, fun _ => qJ_at q _, wr_71_ok e (qle_refl q)⟩
  · have hk : (if j = 0 then 1 else 0) = k := hk
    by_cases c0 : j = 0
    · rw [if_pos c0] at hk
      subst hk c0
      exact ⟨_, qup_thr q, fun z => absurd z (by decide), wr_71_0 e (qle_thr q)⟩
    rw [if_neg c0] at hk
    omega
theorem wr_74_2 {D : Nat} {q q' : QQ} {V V' : VV} {x1 : Int} (hc : RUN D 75 (am_en 75 [aR 1 0, aI (iI x1)]) (HM q V) = rX 2 (HM q' V')) (hq : qle q q') : RUN (D + 1) 74 (am_en 74 [aR 1 0, aI (iI x1), aR 44 0]) (HM q V) = rI 1 (HM q' V') :=
  (show RUN (D + 1) 74 (0, [sR 1 0, sI x1, sR 44 0, none], []) (HM q V) = _ from (Eq.trans (k_aload rfl rfl) (Eq.trans (k_pushi 0 rfl rfl) (Eq.trans (k_aload rfl rfl) (Eq.trans (k_iload rfl rfl) (Eq.trans (RUN_ch rfl rfl rfl hc hq rfl rfl (cat_of (nx := 13) (i := 3) (by decide +kernel) rfl)) (Eq.trans (k_pushi 1 rfl rfl) (k_iret rfl trivial))))))))
theorem wr_74_ok {D : Nat} {q q' : QQ} {V V' : VV} {x1 : Int} {v : Int} (hc : RUN D 75 (am_en 75 [aR 1 0, aI (iI x1)]) (HM q V) = rI v (HM q' V')) (hq : qle q q') : RUN (D + 1) 74 (am_en 74 [aR 1 0, aI (iI x1), aR 44 0]) (HM q V) = rI 0 (HM (qJ q' (i2L v)) V') := 
  (show RUN (D + 1) 74 (0, [sR 1 0, sI x1, sR 44 0, none], []) (HM q V) = _ from (Eq.trans (k_aload rfl rfl) (Eq.trans (k_pushi 0 rfl rfl) (Eq.trans (k_aload rfl rfl) (Eq.trans (k_iload rfl rfl) (Eq.trans (RUN_ci rfl rfl rfl hc hq) (Eq.trans (k_i2l rfl) (Eq.trans (k_last rfl) (Eq.trans (k_goto rfl) (Eq.trans (k_pushi 0 rfl rfl) (k_iret rfl trivial)))))))))))
theorem wrT_74 {D : Nat} {q : QQ} {H U : VV} {x1 : Int} {k v : Int} (h : Oc (RUN D 75 (am_en 75 [aR 1 0, aI (iI x1)]) (HM q H)) (cmL [(2, 1)]) q k v U) : Wr (RUN (D + 1) 74 (am_en 74 [aR 1 0, aI (iI x1), aR 44 0]) (HM q H)) q k (i2L v) U := by
  rcases h with ⟨rfl, e⟩ | ⟨h1, h2, j, hj, hk, e⟩
  · exact ⟨_, qup_J q _, fun _ => qJ_at q _, wr_74_ok e (qle_refl q)⟩
  · have hk : (if j = 2 then 1 else 0) = k := hk
    by_cases c2 : j = 2
    · rw [if_pos c2] at hk
      subst hk c2
      exact ⟨_, qup_thr q, fun z => absurd z (by decide), wr_74_2 e (qle_thr q)⟩
    rw [if_neg c2] at hk
    omega
theorem wr_76_2 {D : Nat} {q q' : QQ} {V V' : VV} {x1 : Int} (hc : RUN D 77 (am_en 77 [aR 1 0, aI (iI x1)]) (HM q V) = rX 2 (HM q' V')) (hq : qle q q') : RUN (D + 1) 76 (am_en 76 [aR 1 0, aI (iI x1), aR 44 0]) (HM q V) = rI 1 (HM q' V') :=
  (show RUN (D + 1) 76 (0, [sR 1 0, sI x1, sR 44 0, none], []) (HM q V) = _ from (Eq.trans (k_aload rfl rfl) (Eq.trans (k_pushi 0 rfl rfl) (Eq.trans (k_aload rfl rfl) (Eq.trans (k_iload rfl rfl) (Eq.trans (RUN_ch rfl rfl rfl hc hq rfl rfl (cat_of (nx := 13) (i := 3) (by decide +kernel) rfl)) (Eq.trans (k_pushi 1 rfl rfl) (k_iret rfl trivial))))))))
theorem wr_76_ok {D : Nat} {q q' : QQ} {V V' : VV} {x1 : Int} {v : Int} (hc : RUN D 77 (am_en 77 [aR 1 0, aI (iI x1)]) (HM q V) = rI v (HM q' V')) (hq : qle q q') : RUN (D + 1) 76 (am_en 76 [aR 1 0, aI (iI x1), aR 44 0]) (HM q V) = rI 0 (HM (qJ q' (i2L v)) V') := 
  (show RUN (D + 1) 76 (0, [sR 1 0, sI x1, sR 44 0, none], []) (HM q V) = _ from (Eq.trans (k_aload rfl rfl) (Eq.trans (k_pushi 0 rfl rfl) (Eq.trans (k_aload rfl rfl) (Eq.trans (k_iload rfl rfl) (Eq.trans (RUN_ci rfl rfl rfl hc hq) (Eq.trans (k_i2l rfl) (Eq.trans (k_last rfl) (Eq.trans (k_goto rfl) (Eq.trans (k_pushi 0 rfl rfl) (k_iret rfl trivial)))))))))))
theorem wrT_76 {D : Nat} {q : QQ} {H U : VV} {x1 : Int} {k v : Int} (h : Oc (RUN D 77 (am_en 77 [aR 1 0, aI (iI x1)]) (HM q H)) (cmL [(2, 1)]) q k v U) : Wr (RUN (D + 1) 76 (am_en 76 [aR 1 0, aI (iI x1), aR 44 0]) (HM q H)) q k (i2L v) U := by
  rcases h with ⟨rfl, e⟩ | ⟨h1, h2, j, hj, hk, e⟩
  · exact ⟨_, qup_J q _, fun _ => qJ_at q _, wr_76_ok e (qle_refl q)⟩
  · have hk : (if j = 2 then 1 else 0) = k := hk
    by_cases c2 : j = 2
    · rw [if_pos c2] at hk
      subst hk c2
      exact ⟨_, qup_thr q, fun z => absurd z (by decide), wr_76_2 e (qle_thr q)⟩
    rw [if_neg c2] at hk
    omega
theorem wr_78_2 {D : Nat} {q q' : QQ} {V V' : VV} {x1 : Int} (hc : RUN D 79 (am_en 79 [aR 1 0, aI (iI x1)]) (HM q V) = rX 2 (HM q' V')) (hq : qle q q') : RUN (D + 1) 78 (am_en 78 [aR 1 0, aI (iI x1), aR 44 0]) (HM q V) = rI 1 (HM q' V') :=
  (show RUN (D + 1) 78 (0, [sR 1 0, sI x1, sR 44 0, none], []) (HM q V) = _ from (Eq.trans (k_aload rfl rfl) (Eq.trans (k_pushi 0 rfl rfl) (Eq.trans (k_aload rfl rfl) (Eq.trans (k_iload rfl rfl) (Eq.trans (RUN_ch rfl rfl rfl hc hq rfl rfl (cat_of (nx := 13) (i := 3) (by decide +kernel) rfl)) (Eq.trans (k_pushi 1 rfl rfl) (k_iret rfl trivial))))))))
theorem wr_78_ok {D : Nat} {q q' : QQ} {V V' : VV} {x1 : Int} {v : Int} (hc : RUN D 79 (am_en 79 [aR 1 0, aI (iI x1)]) (HM q V) = rI v (HM q' V')) (hq : qle q q') : RUN (D + 1) 78 (am_en 78 [aR 1 0, aI (iI x1), aR 44 0]) (HM q V) = rI 0 (HM (qJ q' (i2L v)) V') := 
  (show RUN (D + 1) 78 (0, [sR 1 0, sI x1, sR 44 0, none], []) (HM q V) = _ from (Eq.trans (k_aload rfl rfl) (Eq.trans (k_pushi 0 rfl rfl) (Eq.trans (k_aload rfl rfl) (Eq.trans (k_iload rfl rfl) (Eq.trans (RUN_ci rfl rfl rfl hc hq) (Eq.trans (k_i2l rfl) (Eq.trans (k_last rfl) (Eq.trans (k_goto rfl) (Eq.trans (k_pushi 0 rfl rfl) (k_iret rfl trivial)))))))))))
theorem wrT_78 {D : Nat} {q : QQ} {H U : VV} {x1 : Int} {k v : Int} (h : Oc (RUN D 79 (am_en 79 [aR 1 0, aI (iI x1)]) (HM q H)) (cmL [(2, 1)]) q k v U) : Wr (RUN (D + 1) 78 (am_en 78 [aR 1 0, aI (iI x1), aR 44 0]) (HM q H)) q k (i2L v) U := by
  rcases h with ⟨rfl, e⟩ | ⟨h1, h2, j, hj, hk, e⟩
  · exact ⟨_, qup_J q _, fun _ => qJ_at q _, wr_78_ok e (qle_refl q)⟩
  · have hk : (if j = 2 then 1 else 0) = k := hk
    by_cases c2 : j = 2
    · rw [if_pos c2] at hk
      subst hk c2
      exact ⟨_, qup_thr q, fun z => absurd z (by decide), wr_78_2 e (qle_thr q)⟩
    rw [if_neg c2] at hk
    omega
theorem wr_80_0 {D : Nat} {q q' : QQ} {V V' : VV} {x1 : Int} (hc : RUN D 81 (am_en 81 [aR 1 0, aI (iI x1)]) (HM q V) = rX 0 (HM q' V')) (hq : qle q q') : RUN (D + 1) 80 (am_en 80 [aR 1 0, aI (iI x1), aR 44 0]) (HM q V) = rI 1 (HM q' V') :=
  (show RUN (D + 1) 80 (0, [sR 1 0, sI x1, sR 44 0, none], []) (HM q V) = _ from (Eq.trans (k_aload rfl rfl) (Eq.trans (k_pushi 0 rfl rfl) (Eq.trans (k_aload rfl rfl) (Eq.trans (k_iload rfl rfl) (Eq.trans (RUN_ch rfl rfl rfl hc hq rfl rfl (cat_of (nx := 13) (i := 3) (by decide +kernel) rfl)) (Eq.trans (k_pushi 1 rfl rfl) (k_iret rfl trivial))))))))
theorem wr_80_3 {D : Nat} {q q' : QQ} {V V' : VV} {x1 : Int} (hc : RUN D 81 (am_en 81 [aR 1 0, aI (iI x1)]) (HM q V) = rX 3 (HM q' V')) (hq : qle q q') : RUN (D + 1) 80 (am_en 80 [aR 1 0, aI (iI x1), aR 44 0]) (HM q V) = rI 2 (HM q' V') :=
  (show RUN (D + 1) 80 (0, [sR 1 0, sI x1, sR 44 0, none], []) (HM q V) = _ from (Eq.trans (k_aload rfl rfl) (Eq.trans (k_pushi 0 rfl rfl) (Eq.trans (k_aload rfl rfl) (Eq.trans (k_iload rfl rfl) (Eq.trans (RUN_ch rfl rfl rfl hc hq rfl rfl (cat_of (nx := 16) (i := 3) (by decide +kernel) rfl)) (Eq.trans (k_pushi 2 rfl rfl) (k_iret rfl trivial))))))))
theorem wr_80_ok {D : Nat} {q q' : QQ} {V V' : VV} {x1 : Int} {v : Int} (hc : RUN D 81 (am_en 81 [aR 1 0, aI (iI x1)]) (HM q V) = rI v (HM q' V')) (hq : qle q q') : RUN (D + 1) 80 (am_en 80 [aR 1 0, aI (iI x1), aR 44 0]) (HM q V) = rI 0 (HM (qJ q' (i2L v)) V') := 
  (show RUN (D + 1) 80 (0, [sR 1 0, sI x1, sR 44 0, none], []) (HM q V) = _ from (Eq.trans (k_aload rfl rfl) (Eq.trans (k_pushi 0 rfl rfl) (Eq.trans (k_aload rfl rfl) (Eq.trans (k_iload rfl rfl) (Eq.trans (RUN_ci rfl rfl rfl hc hq) (Eq.trans (k_i2l rfl) (Eq.trans (k_last rfl) (Eq.trans (k_goto rfl) (Eq.trans (k_pushi 0 rfl rfl) (k_iret rfl trivial)))))))))))
theorem wrT_80 {D : Nat} {q : QQ} {H U : VV} {x1 : Int} {k v : Int} (h : Oc (RUN D 81 (am_en 81 [aR 1 0, aI (iI x1)]) (HM q H)) (cmL [(0, 1), (3, 2)]) q k v U) : Wr (RUN (D + 1) 80 (am_en 80 [aR 1 0, aI (iI x1), aR 44 0]) (HM q H)) q k (i2L v) U := by
  rcases h with ⟨rfl, e⟩ | ⟨h1, h2, j, hj, hk, e⟩
  · exact ⟨_, qup_J q _, fun _ => qJ_at q _, wr_80_ok e (qle_refl q)⟩
  · have hk : (if j = 0 then 1 else (if j = 3 then 2 else 0)) = k := hk
    by_cases c0 : j = 0
    · rw [if_pos c0] at hk
      subst hk c0
      exact ⟨_, qup_thr q, fun z => absurd z (by decide), wr_80_0 e (qle_thr q)⟩
    rw [if_neg c0] at hk
    by_cases c3 : j = 3
    · rw [if_pos c3] at hk
      subst hk c3
      exact ⟨_, qup_thr q, fun z => absurd z (by decide), wr_80_3 e (qle_thr q)⟩
    rw [if_neg c3] at hk
    omega
theorem wr_82_3 {D : Nat} {q q' : QQ} {V V' : VV} {x1 : Int} (hc : RUN D 83 (am_en 83 [aR 1 0, aI (iI x1)]) (HM q V) = rX 3 (HM q' V')) (hq : qle q q') : RUN (D + 1) 82 (am_en 82 [aR 1 0, aI (iI x1), aR 44 0]) (HM q V) = rI 1 (HM q' V') :=
  (show RUN (D + 1) 82 (0, [sR 1 0, sI x1, sR 44 0, none], []) (HM q V) = _ from (Eq.trans (k_aload rfl rfl) (Eq.trans (k_pushi 0 rfl rfl) (Eq.trans (k_aload rfl rfl) (Eq.trans (k_iload rfl rfl) (Eq.trans (RUN_ch rfl rfl rfl hc hq rfl rfl (cat_of (nx := 13) (i := 3) (by decide +kernel) rfl)) (Eq.trans (k_pushi 1 rfl rfl) (k_iret rfl trivial))))))))
theorem wr_82_ok {D : Nat} {q q' : QQ} {V V' : VV} {x1 : Int} {v : Int} (hc : RUN D 83 (am_en 83 [aR 1 0, aI (iI x1)]) (HM q V) = rI v (HM q' V')) (hq : qle q q') : RUN (D + 1) 82 (am_en 82 [aR 1 0, aI (iI x1), aR 44 0]) (HM q V) = rI 0 (HM (qJ q' (i2L v)) V') := 
  (show RUN (D + 1) 82 (0, [sR 1 0, sI x1, sR 44 0, none], []) (HM q V) = _ from (Eq.trans (k_aload rfl rfl) (Eq.trans (k_pushi 0 rfl rfl) (Eq.trans (k_aload rfl rfl) (Eq.trans (k_iload rfl rfl) (Eq.trans (RUN_ci rfl rfl rfl hc hq) (Eq.trans (k_i2l rfl) (Eq.trans (k_last rfl) (Eq.trans (k_goto rfl) (Eq.trans (k_pushi 0 rfl rfl) (k_iret rfl trivial)))))))))))
theorem wrT_82 {D : Nat} {q : QQ} {H U : VV} {x1 : Int} {k v : Int} (h : Oc (RUN D 83 (am_en 83 [aR 1 0, aI (iI x1)]) (HM q H)) (cmL [(3, 1)]) q k v U) : Wr (RUN (D + 1) 82 (am_en 82 [aR 1 0, aI (iI x1), aR 44 0]) (HM q H)) q k (i2L v) U := by
  rcases h with ⟨rfl, e⟩ | ⟨h1, h2, j, hj, hk, e⟩
  · exact ⟨_, qup_J q _, fun _ => qJ_at q _, wr_82_ok e (qle_refl q)⟩
  · have hk : (if j = 3 then 1 else 0) = k := hk
    by_cases c3 : j = 3
    · rw [if_pos c3] at hk
      subst hk c3
      exact ⟨_, qup_thr q, fun z => absurd z (by decide), wr_82_3 e (qle_thr q)⟩
    rw [if_neg c3] at hk
    omega
theorem wr_86_2 {D : Nat} {q q' : QQ} {V V' : VV} {x1 x2 : Int} (hc : RUN D 87 (am_en 87 [aR 1 0, aI (iI x1), aI (iI x2)]) (HM q V) = rX 2 (HM q' V')) (hq : qle q q') : RUN (D + 1) 86 (am_en 86 [aR 1 0, aI (iI x1), aI (iI x2), aR 44 0]) (HM q V) = rI 1 (HM q' V') :=
  (show RUN (D + 1) 86 (0, [sR 1 0, sI x1, sI x2, sR 44 0, none], []) (HM q V) = _ from (Eq.trans (k_aload rfl rfl) (Eq.trans (k_pushi 0 rfl rfl) (Eq.trans (k_aload rfl rfl) (Eq.trans (k_iload rfl rfl) (Eq.trans (k_iload rfl rfl) (Eq.trans (RUN_ch rfl rfl rfl hc hq rfl rfl (cat_of (nx := 22) (i := 4) (by decide +kernel) rfl)) (Eq.trans (k_pushi 1 rfl rfl) (k_iret rfl trivial)))))))))
theorem wr_86_ok {D : Nat} {q q' : QQ} {V V' : VV} {x1 x2 : Int} {v : Int} (hc : RUN D 87 (am_en 87 [aR 1 0, aI (iI x1), aI (iI x2)]) (HM q V) = rI v (HM q' V')) (hq : qle q q') : RUN (D + 1) 86 (am_en 86 [aR 1 0, aI (iI x1), aI (iI x2), aR 44 0]) (HM q V) = rI 0 (HM (qJ q' (cif (iI v = 0) 0 1)) V') := by
  refine (show RUN (D + 1) 86 (0, [sR 1 0, sI x1, sI x2, sR 44 0, none], []) (HM q V) = _ from (Eq.trans (k_aload rfl rfl) (Eq.trans (k_pushi 0 rfl rfl) (Eq.trans (k_aload rfl rfl) (Eq.trans (k_iload rfl rfl) (Eq.trans (k_iload rfl rfl) (Eq.trans (RUN_ci rfl rfl rfl hc hq) (Eq.trans (k_ifc (iI v = 0) rfl Iff.rfl) ?_))))))))
  by_cases c : iI v = 0
  · rw [cif_pos c, cif_pos c]
    exact (Eq.trans (k_push rfl) (Eq.trans (k_last rfl) (Eq.trans (k_goto rfl) (Eq.trans (k_pushi 0 rfl rfl) (k_iret rfl trivial)))))
  · rw [cif_neg c, cif_neg c]
    exact (Eq.trans (k_push rfl) (Eq.trans (k_goto rfl) (Eq.trans (k_last rfl) (Eq.trans (k_goto rfl) (Eq.trans (k_pushi 0 rfl rfl) (k_iret rfl trivial))))))
theorem wrT_86 {D : Nat} {q : QQ} {H U : VV} {x1 x2 : Int} {k v : Int} (h : Oc (RUN D 87 (am_en 87 [aR 1 0, aI (iI x1), aI (iI x2)]) (HM q H)) (cmL [(2, 1)]) q k v U) : Wr (RUN (D + 1) 86 (am_en 86 [aR 1 0, aI (iI x1), aI (iI x2), aR 44 0]) (HM q H)) q k (cif (iI v = 0) 0 1) U := by
  rcases h with ⟨rfl, e⟩ | ⟨h1, h2, j, hj, hk, e⟩
  · exact ⟨_, qup_J q _, fun _ => qJ_at q _, wr_86_ok e (qle_refl q)⟩
  · have hk : (if j = 2 then 1 else 0) = k := hk
    by_cases c2 : j = 2
    · rw [if_pos c2] at hk
      subst hk c2
      exact ⟨_, qup_thr q, fun z => absurd z (by decide), wr_86_2 e (qle_thr q)⟩
    rw [if_neg c2] at hk
    omega
theorem wr_89_2 {D : Nat} {q q' : QQ} {V V' : VV} {x1 x2 : Int} (hc : RUN D 90 (am_en 90 [aR 1 0, aI (iI x1), aI (iI x2)]) (HM q V) = rX 2 (HM q' V')) (hq : qle q q') : RUN (D + 1) 89 (am_en 89 [aR 1 0, aI (iI x1), aI (iI x2), aR 44 0]) (HM q V) = rI 1 (HM q' V') :=
  (show RUN (D + 1) 89 (0, [sR 1 0, sI x1, sI x2, sR 44 0, none], []) (HM q V) = _ from (Eq.trans (k_aload rfl rfl) (Eq.trans (k_pushi 0 rfl rfl) (Eq.trans (k_aload rfl rfl) (Eq.trans (k_iload rfl rfl) (Eq.trans (k_iload rfl rfl) (Eq.trans (RUN_ch rfl rfl rfl hc hq rfl rfl (cat_of (nx := 22) (i := 4) (by decide +kernel) rfl)) (Eq.trans (k_pushi 1 rfl rfl) (k_iret rfl trivial)))))))))
theorem wr_89_ok {D : Nat} {q q' : QQ} {V V' : VV} {x1 x2 : Int} {v : Int} (hc : RUN D 90 (am_en 90 [aR 1 0, aI (iI x1), aI (iI x2)]) (HM q V) = rI v (HM q' V')) (hq : qle q q') : RUN (D + 1) 89 (am_en 89 [aR 1 0, aI (iI x1), aI (iI x2), aR 44 0]) (HM q V) = rI 0 (HM (qJ q' (cif (iI v = 0) 0 1)) V') := by
  refine (show RUN (D + 1) 89 (0, [sR 1 0, sI x1, sI x2, sR 44 0, none], []) (HM q V) = _ from (Eq.trans (k_aload rfl rfl) (Eq.trans (k_pushi 0 rfl rfl) (Eq.trans (k_aload rfl rfl) (Eq.trans (k_iload rfl rfl) (Eq.trans (k_iload rfl rfl) (Eq.trans (RUN_ci rfl rfl rfl hc hq) (Eq.trans (k_ifc (iI v = 0) rfl Iff.rfl) ?_))))))))
  by_cases c : iI v = 0
  · rw [cif_pos c, cif_pos c]
    exact (Eq.trans (k_push rfl) (Eq.trans (k_last rfl) (Eq.trans (k_goto rfl) (Eq.trans (k_pushi 0 rfl rfl) (k_iret rfl trivial)))))
  · rw [cif_neg c, cif_neg c]
    exact (Eq.trans (k_push rfl) (Eq.trans (k_goto rfl) (Eq.trans (k_last rfl) (Eq.trans (k_goto rfl) (Eq.trans (k_pushi 0 rfl rfl) (k_iret rfl trivial))))))
theorem wrT_89 {D : Nat} {q : QQ} {H U : VV} {x1 x2 : Int} {k v : Int} (h : Oc (RUN D 90 (am_en 90 [aR 1 0, aI (iI x1), aI (iI x2)]) (HM q H)) (cmL [(2, 1)]) q k v U) : Wr (RUN (D + 1) 89 (am_en 89 [aR 1 0, aI (iI x1), aI (iI x2), aR 44 0]) (HM q H)) q k (cif (iI v = 0) 0 1) U := by
  rcases h with ⟨rfl, e⟩ | ⟨h1, h2, j, hj, hk, e⟩
  · exact ⟨_, qup_J q _, fun _ => qJ_at q _, wr_89_ok e (qle_refl q)⟩
  · have hk : (if j = 2 then 1 else 0) = k := hk
    by_cases c2 : j = 2
    · rw [if_pos c2] at hk
      subst hk c2
      exact ⟨_, qup_thr q, fun z => absurd z (by decide), wr_89_2 e (qle_thr q)⟩
    rw [if_neg c2] at hk
    omega
theorem wr_91_2 {D : Nat} {q q' : QQ} {V V' : VV} {x1 x2 : Int} (hc : RUN D 92 (am_en 92 [aR 1 0, aI (iI x1), aI (iI x2)]) (HM q V) = rX 2 (HM q' V')) (hq : qle q q') : RUN (D + 1) 91 (am_en 91 [aR 1 0, aI (iI x1), aI (iI x2), aR 44 0]) (HM q V) = rI 1 (HM q' V') :=
  (show RUN (D + 1) 91 (0, [sR 1 0, sI x1, sI x2, sR 44 0, none], []) (HM q V) = _ from (Eq.trans (k_aload rfl rfl) (Eq.trans (k_pushi 0 rfl rfl) (Eq.trans (k_aload rfl rfl) (Eq.trans (k_iload rfl rfl) (Eq.trans (k_iload rfl rfl) (Eq.trans (RUN_ch rfl rfl rfl hc hq rfl rfl (cat_of (nx := 22) (i := 4) (by decide +kernel) rfl)) (Eq.trans (k_pushi 1 rfl rfl) (k_iret rfl trivial)))))))))
theorem wr_91_0 {D : Nat} {q q' : QQ} {V V' : VV} {x1 x2 : Int} (hc : RUN D 92 (am_en 92 [aR 1 0, aI (iI x1), aI (iI x2)]) (HM q V) = rX 0 (HM q' V')) (hq : qle q q') : RUN (D + 1) 91 (am_en 91 [aR 1 0, aI (iI x1), aI (iI x2), aR 44 0]) (HM q V) = rI 2 (HM q' V') :=
  (show RUN (D + 1) 91 (0, [sR 1 0, sI x1, sI x2, sR 44 0, none], []) (HM q V) = _ from (Eq.trans (k_aload rfl rfl) (Eq.trans (k_pushi 0 rfl rfl) (Eq.trans (k_aload rfl rfl) (Eq.trans (k_iload rfl rfl) (Eq.trans (k_iload rfl rfl) (Eq.trans (RUN_ch rfl rfl rfl hc hq rfl rfl (cat_of (nx := 26) (i := 4) (by decide +kernel) rfl)) (Eq.trans (k_pushi 2 rfl rfl) (k_iret rfl trivial)))))))))
theorem wr_91_ok {D : Nat} {q q' : QQ} {V V' : VV} {x1 x2 : Int} {v : Int} (hc : RUN D 92 (am_en 92 [aR 1 0, aI (iI x1), aI (iI x2)]) (HM q V) = rI v (HM q' V')) (hq : qle q q') : RUN (D + 1) 91 (am_en 91 [aR 1 0, aI (iI x1), aI (iI x2), aR 44 0]) (HM q V) = rI 0 (HM (qJ q' (cif (iI v = 0) 0 1)) V') := by
  refine (show RUN (D + 1) 91 (0, [sR 1 0, sI x1, sI x2, sR 44 0, none], []) (HM q V) = _ from (Eq.trans (k_aload rfl rfl) (Eq.trans (k_pushi 0 rfl rfl) (Eq.trans (k_aload rfl rfl) (Eq.trans (k_iload rfl rfl) (Eq.trans (k_iload rfl rfl) (Eq.trans (RUN_ci rfl rfl rfl hc hq) (Eq.trans (k_ifc (iI v = 0) rfl Iff.rfl) ?_))))))))
  by_cases c : iI v = 0
  · rw [cif_pos c, cif_pos c]
    exact (Eq.trans (k_push rfl) (Eq.trans (k_last rfl) (Eq.trans (k_goto rfl) (Eq.trans (k_pushi 0 rfl rfl) (k_iret rfl trivial)))))
  · rw [cif_neg c, cif_neg c]
    exact (Eq.trans (k_push rfl) (Eq.trans (k_goto rfl) (Eq.trans (k_last rfl) (Eq.trans (k_goto rfl) (Eq.trans (k_pushi 0 rfl rfl) (k_iret rfl trivial))))))
theorem wrT_91 {D : Nat} {q : QQ} {H U : VV} {x1 x2 : Int} {k v : Int} (h : Oc (RUN D 92 (am_en 92 [aR 1 0, aI (iI x1), aI (iI x2)]) (HM q H)) (cmL [(2, 1), (0, 2)]) q k v U) : Wr (RUN (D + 1) 91 (am_en 91 [aR 1 0, aI (iI x1), aI (iI x2), aR 44 0]) (HM q H)) q k (cif (iI v = 0) 0 1) U := by
  rcases h with ⟨rfl, e⟩ | ⟨h1, h2, j, hj, hk, e⟩
  · exact ⟨_, qup_J q _, fun _ => qJ_at q _, wr_91_ok e (qle_refl q)⟩
  · have hk : (if j = 2 then 1 else (if j = 0 then 2 else 0)) = k := hk
    by_cases c2 : j = 2
    · rw [if_pos c2] at hk
      subst hk c2
      exact ⟨_, qup_thr q, fun z => absurd z (by decide), wr_91_2 e (qle_thr q)⟩
    rw [if_neg c2] at hk
    by_cases c0 : j = 0
    · rw [if_pos c0] at hk
      subst hk c0
      exact ⟨_, qup_thr q, fun z => absurd z (by decide), wr_91_0 e (qle_thr q)⟩
    rw [if_neg c0] at hk
    omega
theorem wr_93_2 {D : Nat} {q q' : QQ} {V V' : VV} {x1 : Int} (hc : RUN D 94 (am_en 94 [aR 1 0, aI (iI x1)]) (HM q V) = rX 2 (HM q' V')) (hq : qle q q') : RUN (D + 1) 93 (am_en 93 [aR 1 0, aI (iI x1), aR 44 0]) (HM q V) = rI 1 (HM q' V') :=
  (show RUN (D + 1) 93 (0, [sR 1 0, sI x1, sR 44 0, none], []) (HM q V) = _ from (Eq.trans (k_aload rfl rfl) (Eq.trans (k_pushi 0 rfl rfl) (Eq.trans (k_aload rfl rfl) (Eq.trans (k_iload rfl rfl) (Eq.trans (RUN_ch rfl rfl rfl hc hq rfl rfl (cat_of (nx := 13) (i := 3) (by decide +kernel) rfl)) (Eq.trans (k_pushi 1 rfl rfl) (k_iret rfl trivial))))))))
theorem wr_93_ok {D : Nat} {q q' : QQ} {V V' : VV} {x1 : Int} {v : Int} (hc : RUN D 94 (am_en 94 [aR 1 0, aI (iI x1)]) (HM q V) = rI v (HM q' V')) (hq : qle q q') : RUN (D + 1) 93 (am_en 93 [aR 1 0, aI (iI x1), aR 44 0]) (HM q V) = rI 0 (HM (qJ q' (i2L v)) V') := 
  (show RUN (D + 1) 93 (0, [sR 1 0, sI x1, sR 44 0, none], []) (HM q V) = _ from (Eq.trans (k_aload rfl rfl) (Eq.trans (k_pushi 0 rfl rfl) (Eq.trans (k_aload rfl rfl) (Eq.trans (k_iload rfl rfl) (Eq.trans (RUN_ci rfl rfl rfl hc hq) (Eq.trans (k_i2l rfl) (Eq.trans (k_last rfl) (Eq.trans (k_goto rfl) (Eq.trans (k_pushi 0 rfl rfl) (k_iret rfl trivial)))))))))))
theorem wrT_93 {D : Nat} {q : QQ} {H U : VV} {x1 : Int} {k v : Int} (h : Oc (RUN D 94 (am_en 94 [aR 1 0, aI (iI x1)]) (HM q H)) (cmL [(2, 1)]) q k v U) : Wr (RUN (D + 1) 93 (am_en 93 [aR 1 0, aI (iI x1), aR 44 0]) (HM q H)) q k (i2L v) U := by
  rcases h with ⟨rfl, e⟩ | ⟨h1, h2, j, hj, hk, e⟩
  · exact ⟨_, qup_J q _, fun _ => qJ_at q _, wr_93_ok e (qle_refl q)⟩
  · have hk : (if j = 2 then 1 else 0) = k := hk
    by_cases c2 : j = 2
    · rw [if_pos c2] at hk
      subst hk c2
      exact ⟨_, qup_thr q, fun z => absurd z (by decide), wr_93_2 e (qle_thr q)⟩
    rw [if_neg c2] at hk
    omega
theorem wr_95_0 {D : Nat} {q q' : QQ} {V V' : VV} {x1 : Int} (hc : RUN D 96 (am_en 96 [aR 1 0, aI (iI x1)]) (HM q V) = rX 0 (HM q' V')) (hq : qle q q') : RUN (D + 1) 95 (am_en 95 [aR 1 0, aI (iI x1), aR 44 0]) (HM q V) = rI 1 (HM q' V') :=
  (show RUN (D + 1) 95 (0, [sR 1 0, sI x1, sR 44 0, none], []) (HM q V) = _ from (Eq.trans (k_aload rfl rfl) (Eq.trans (k_pushi 0 rfl rfl) (Eq.trans (k_aload rfl rfl) (Eq.trans (k_iload rfl rfl) (Eq.trans (RUN_ch rfl rfl rfl hc hq rfl rfl (cat_of (nx := 13) (i := 3) (by decide +kernel) rfl)) (Eq.trans (k_pushi 1 rfl rfl) (k_iret rfl trivial))))))))
theorem wr_95_ok {D : Nat} {q q' : QQ} {V V' : VV} {x1 : Int} {v : Int} (hc : RUN D 96 (am_en 96 [aR 1 0, aI (iI x1)]) (HM q V) = rI v (HM q' V')) (hq : qle q q') : RUN (D + 1) 95 (am_en 95 [aR 1 0, aI (iI x1), aR 44 0]) (HM q V) = rI 0 (HM (qJ q' (i2L v)) V') := 
  (show RUN (D + 1) 95 (0, [sR 1 0, sI x1, sR 44 0, none], []) (HM q V) = _ from (Eq.trans (k_aload rfl rfl) (Eq.trans (k_pushi 0 rfl rfl) (Eq.trans (k_aload rfl rfl) (Eq.trans (k_iload rfl rfl) (Eq.trans (RUN_ci rfl rfl rfl hc hq) (Eq.trans (k_i2l rfl) (Eq.trans (k_last rfl) (Eq.trans (k_goto rfl) (Eq.trans (k_pushi 0 rfl rfl) (k_iret rfl trivial)))))))))))
theorem wrT_95 {D : Nat} {q : QQ} {H U : VV} {x1 : Int} {k v : Int} (h : Oc (RUN D 96 (am_en 96 [aR 1 0, aI (iI x1)]) (HM q H)) (cmL [(0, 1)]) q k v U) : Wr (RUN (D + 1) 95 (am_en 95 [aR 1 0, aI (iI x1), aR 44 0]) (HM q H)) q k (i2L v) U := by
  rcases h with ⟨rfl, e⟩ | ⟨h1, h2, j, hj, hk, e⟩
  · exact ⟨_, qup_J q _, fun _ => qJ_at q _, wr_95_ok e (qle_refl q)⟩
  · have hk : (if j = 0 then 1 else 0) = k := hk
    by_cases c0 : j = 0
    · rw [if_pos c0] at hk
      subst hk c0
      exact ⟨_, qup_thr q, fun z => absurd z (by decide), wr_95_0 e (qle_thr q)⟩
    rw [if_neg c0] at hk
    omega
theorem wr_97_0 {D : Nat} {q q' : QQ} {V V' : VV} {x1 : Int} (hc : RUN D 98 (am_en 98 [aR 1 0, aI (iI x1)]) (HM q V) = rX 0 (HM q' V')) (hq : qle q q') : RUN (D + 1) 97 (am_en 97 [aR 1 0, aI (iI x1), aR 44 0]) (HM q V) = rI 1 (HM q' V') :=
  (show RUN (D + 1) 97 (0, [sR 1 0, sI x1, sR 44 0, none], []) (HM q V) = _ from (Eq.trans (k_aload rfl rfl) (Eq.trans (k_pushi 0 rfl rfl) (Eq.trans (k_aload rfl rfl) (Eq.trans (k_iload rfl rfl) (Eq.trans (RUN_ch rfl rfl rfl hc hq rfl rfl (cat_of (nx := 13) (i := 3) (by decide +kernel) rfl)) (Eq.trans (k_pushi 1 rfl rfl) (k_iret rfl trivial))))))))
theorem wr_97_ok {D : Nat} {q q' : QQ} {V V' : VV} {x1 : Int} {v : Int} (hc : RUN D 98 (am_en 98 [aR 1 0, aI (iI x1)]) (HM q V) = rI v (HM q' V')) (hq : qle q q') : RUN (D + 1) 97 (am_en 97 [aR 1 0, aI (iI x1), aR 44 0]) (HM q V) = rI 0 (HM (qJ q' (i2L v)) V') := 
  (show RUN (D + 1) 97 (0, [sR 1 0, sI x1, sR 44 0, none], []) (HM q V) = _ from (Eq.trans (k_aload rfl rfl) (Eq.trans (k_pushi 0 rfl rfl) (Eq.trans (k_aload rfl rfl) (Eq.trans (k_iload rfl rfl) (Eq.trans (RUN_ci rfl rfl rfl hc hq) (Eq.trans (k_i2l rfl) (Eq.trans (k_last rfl) (Eq.trans (k_goto rfl) (Eq.trans (k_pushi 0 rfl rfl) (k_iret rfl trivial)))))))))))
theorem wrT_97 {D : Nat} {q : QQ} {H U : VV} {x1 : Int} {k v : Int} (h : Oc (RUN D 98 (am_en 98 [aR 1 0, aI (iI x1)]) (HM q H)) (cmL [(0, 1)]) q k v U) : Wr (RUN (D + 1) 97 (am_en 97 [aR 1 0, aI (iI x1), aR 44 0]) (HM q H)) q k (i2L v) U := by
  rcases h with ⟨rfl, e⟩ | ⟨h1, h2, j, hj, hk, e⟩
  · exact ⟨_, qup_J q _, fun _ => qJ_at q _, wr_97_ok e (qle_refl q)⟩
  · have hk : (if j = 0 then 1 else 0) = k := hk
    by_cases c0 : j = 0
    · rw [if_pos c0] at hk
      subst hk c0
      exact ⟨_, qup_thr q, fun z => absurd z (by decide), wr_97_0 e (qle_thr q)⟩
    rw [if_neg c0] at hk
    omega
theorem wr_100_2 {D : Nat} {q q' : QQ} {V V' : VV} {x1 x2 : Int} (hc : RUN D 101 (am_en 101 [aR 1 0, aI (iI x1), aI (iI x2)]) (HM q V) = rX 2 (HM q' V')) (hq : qle q q') : RUN (D + 1) 100 (am_en 100 [aR 1 0, aI (iI x1), aI (iI x2), aR 44 0]) (HM q V) = rI 1 (HM q' V') :=
  (show RUN (D + 1) 100 (0, [sR 1 0, sI x1, sI x2, sR 44 0, none], []) (HM q V) = _ from (Eq.trans (k_aload rfl rfl) (Eq.trans (k_pushi 0 rfl rfl) (Eq.trans (k_aload rfl rfl) (Eq.trans (k_iload rfl rfl) (Eq.trans (k_iload rfl rfl) (Eq.trans (RUN_ch rfl rfl rfl hc hq rfl rfl (cat_of (nx := 15) (i := 4) (by decide +kernel) rfl)) (Eq.trans (k_pushi 1 rfl rfl) (k_iret rfl trivial)))))))))
theorem wr_100_3 {D : Nat} {q q' : QQ} {V V' : VV} {x1 x2 : Int} (hc : RUN D 101 (am_en 101 [aR 1 0, aI (iI x1), aI (iI x2)]) (HM q V) = rX 3 (HM q' V')) (hq : qle q q') : RUN (D + 1) 100 (am_en 100 [aR 1 0, aI (iI x1), aI (iI x2), aR 44 0]) (HM q V) = rI 2 (HM q' V') :=
  (show RUN (D + 1) 100 (0, [sR 1 0, sI x1, sI x2, sR 44 0, none], []) (HM q V) = _ from (Eq.trans (k_aload rfl rfl) (Eq.trans (k_pushi 0 rfl rfl) (Eq.trans (k_aload rfl rfl) (Eq.trans (k_iload rfl rfl) (Eq.trans (k_iload rfl rfl) (Eq.trans (RUN_ch rfl rfl rfl hc hq rfl rfl (cat_of (nx := 19) (i := 4) (by decide +kernel) rfl)) (Eq.trans (k_pushi 2 rfl rfl) (k_iret rfl trivial)))))))))
theorem wr_100_ok {D : Nat} {q q' : QQ} {V V' : VV} {x1 x2 : Int} {v : Int} (hc : RUN D 101 (am_en 101 [aR 1 0, aI (iI x1), aI (iI x2)]) (HM q V) = rI v (HM q' V')) (hq : qle q q') : RUN (D + 1) 100 (am_en 100 [aR 1 0, aI (iI x1), aI (iI x2), aR 44 0]) (HM q V) = rI 0 (HM (qJ q' (i2L v)) V') := 
  (show RUN (D + 1) 100 (0, [sR 1 0, sI x1, sI x2, sR 44 0, none], []) (HM q V) = _ from (Eq.trans (k_aload rfl rfl) (Eq.trans (k_pushi 0 rfl rfl) (Eq.trans (k_aload rfl rfl) (Eq.trans (k_iload rfl rfl) (Eq.trans (k_iload rfl rfl) (Eq.trans (RUN_ci rfl rfl rfl hc hq) (Eq.trans (k_i2l rfl) (Eq.trans (k_last rfl) (Eq.trans (k_goto rfl) (Eq.trans (k_pushi 0 rfl rfl) (k_iret rfl trivial))))))))))))
theorem wrT_100 {D : Nat} {q : QQ} {H U : VV} {x1 x2 : Int} {k v : Int} (h : Oc (RUN D 101 (am_en 101 [aR 1 0, aI (iI x1), aI (iI x2)]) (HM q H)) (cmL [(2, 1), (3, 2)]) q k v U) : Wr (RUN (D + 1) 100 (am_en 100 [aR 1 0, aI (iI x1), aI (iI x2), aR 44 0]) (HM q H)) q k (i2L v) U := by
  rcases h with ⟨rfl, e⟩ | ⟨h1, h2, j, hj, hk, e⟩
  · exact ⟨_, qup_J q _, fun _ => qJ_at q _, wr_100_ok e (qle_refl q)⟩
  · have hk : (if j = 2 then 1 else (if j = 3 then 2 else 0)) = k := hk
    by_cases c2 : j = 2
    · rw [if_pos c2] at hk
      subst hk c2
      exact ⟨_, qup_thr q, fun z => absurd z (by decide), wr_100_2 e (qle_thr q)⟩
    rw [if_neg c2] at hk
    by_cases c3 : j = 3
    · rw [if_pos c3] at hk
      subst hk c3
      exact ⟨_, qup_thr q, fun z => absurd z (by decide), wr_100_3 e (qle_thr q)⟩
    rw [if_neg c3] at hk
    omega
theorem wr_102_2 {D : Nat} {q q' : QQ} {V V' : VV} {x1 x2 : Int} (hc : RUN D 103 (am_en 103 [aR 1 0, aI (iI x1), aI (iI x2)]) (HM q V) = rX 2 (HM q' V')) (hq : qle q q') : RUN (D + 1) 102 (am_en 102 [aR 1 0, aI (iI x1), aI (iI x2), aR 44 0]) (HM q V) = rI 1 (HM q' V') :=
  (show RUN (D + 1) 102 (0, [sR 1 0, sI x1, sI x2, sR 44 0, none], []) (HM q V) = _ from (Eq.trans (k_aload rfl rfl) (Eq.trans (k_pushi 0 rfl rfl) (Eq.trans (k_aload rfl rfl) (Eq.trans (k_iload rfl rfl) (Eq.trans (k_iload rfl rfl) (Eq.trans (RUN_ch rfl rfl rfl hc hq rfl rfl (cat_of (nx := 15) (i := 4) (by decide +kernel) rfl)) (Eq.trans (k_pushi 1 rfl rfl) (k_iret rfl trivial)))))))))
theorem wr_102_3 {D : Nat} {q q' : QQ} {V V' : VV} {x1 x2 : Int} (hc : RUN D 103 (am_en 103 [aR 1 0, aI (iI x1), aI (iI x2)]) (HM q V) = rX 3 (HM q' V')) (hq : qle q q') : RUN (D + 1) 102 (am_en 102 [aR 1 0, aI (iI x1), aI (iI x2), aR 44 0]) (HM q V) = rI 2 (HM q' V') :=
  (show RUN (D + 1) 102 (0, [sR 1 0, sI x1, sI x2, sR 44 0, none], []) (HM q V) = _ from (Eq.trans (k_aload rfl rfl) (Eq.trans (k_pushi 0 rfl rfl) (Eq.trans (k_aload rfl rfl) (Eq.trans (k_iload rfl rfl) (Eq.trans (k_iload rfl rfl) (Eq.trans (RUN_ch rfl rfl rfl hc hq rfl rfl (cat_of (nx := 19) (i := 4) (by decide +kernel) rfl)) (Eq.trans (k_pushi 2 rfl rfl) (k_iret rfl trivial)))))))))
theorem wr_102_ok {D : Nat} {q q' : QQ} {V V' : VV} {x1 x2 : Int} {v : Int} (hc : RUN D 103 (am_en 103 [aR 1 0, aI (iI x1), aI (iI x2)]) (HM q V) = rI v (HM q' V')) (hq : qle q q') : RUN (D + 1) 102 (am_en 102 [aR 1 0, aI (iI x1), aI (iI x2), aR 44 0]) (HM q V) = rI 0 (HM (qJ q' (i2L v)) V') := 
  (show RUN (D + 1) 102 (0, [sR 1 0, sI x1, sI x2, sR 44 0, none], []) (HM q V) = _ from (Eq.trans (k_aload rfl rfl) (Eq.trans (k_pushi 0 rfl rfl) (Eq.trans (k_aload rfl rfl) (Eq.trans (k_iload rfl rfl) (Eq.trans (k_iload rfl rfl) (Eq.trans (RUN_ci rfl rfl rfl hc hq) (Eq.trans (k_i2l rfl) (Eq.trans (k_last rfl) (Eq.trans (k_goto rfl) (Eq.trans (k_pushi 0 rfl rfl) (k_iret rfl trivial))))))))))))
theorem wrT_102 {D : Nat} {q : QQ} {H U : VV} {x1 x2 : Int} {k v : Int} (h : Oc (RUN D 103 (am_en 103 [aR 1 0, aI (iI x1), aI (iI x2)]) (HM q H)) (cmL [(2, 1), (3, 2)]) q k v U) : Wr (RUN (D + 1) 102 (am_en 102 [aR 1 0, aI (iI x1), aI (iI x2), aR 44 0]) (HM q H)) q k (i2L v) U := by
  rcases h with ⟨rfl, e⟩ | ⟨h1, h2, j, hj, hk, e⟩
  · exact ⟨_, qup_J q _, fun _ => qJ_at q _, wr_102_ok e (qle_refl q)⟩
  · have hk : (if j = 2 then 1 else (if j = 3 then 2 else 0)) = k := hk
    by_cases c2 : j = 2
    · rw [if_pos c2] at hk
      subst hk c2
      exact ⟨_, qup_thr q, fun z => absurd z (by decide), wr_102_2 e (qle_thr q)⟩
    rw [if_neg c2] at hk
    by_cases c3 : j = 3
    · rw [if_pos c3] at hk
      subst hk c3
      exact ⟨_, qup_thr q, fun z => absurd z (by decide), wr_102_3 e (qle_thr q)⟩
    rw [if_neg c3] at hk
    omega
theorem wr_107_2 {D : Nat} {q q' : QQ} {V V' : VV} {x1 x2 : Int} (hc : RUN D 108 (am_en 108 [aR 1 0, aI (iI x1), aI (iI x2)]) (HM q V) = rX 2 (HM q' V')) (hq : qle q q') : RUN (D + 1) 107 (am_en 107 [aR 1 0, aI (iI x1), aI (iI x2), aR 44 0]) (HM q V) = rI 1 (HM q' V') :=
  (show RUN (D + 1) 107 (0, [sR 1 0, sI x1, sI x2, sR 44 0, none], []) (HM q V) = _ from (Eq.trans (k_aload rfl rfl) (Eq.trans (k_pushi 0 rfl rfl) (Eq.trans (k_aload rfl rfl) (Eq.trans (k_iload rfl rfl) (Eq.trans (k_iload rfl rfl) (Eq.trans (RUN_ch rfl rfl rfl hc hq rfl rfl (cat_of (nx := 15) (i := 4) (by decide +kernel) rfl)) (Eq.trans (k_pushi 1 rfl rfl) (k_iret rfl trivial)))))))))
theorem wr_107_3 {D : Nat} {q q' : QQ} {V V' : VV} {x1 x2 : Int} (hc : RUN D 108 (am_en 108 [aR 1 0, aI (iI x1), aI (iI x2)]) (HM q V) = rX 3 (HM q' V')) (hq : qle q q') : RUN (D + 1) 107 (am_en 107 [aR 1 0, aI (iI x1), aI (iI x2), aR 44 0]) (HM q V) = rI 2 (HM q' V') :=
  (show RUN (D + 1) 107 (0, [sR 1 0, sI x1, sI x2, sR 44 0, none], []) (HM q V) = _ from (Eq.trans (k_aload rfl rfl) (Eq.trans (k_pushi 0 rfl rfl) (Eq.trans (k_aload rfl rfl) (Eq.trans (k_iload rfl rfl) (Eq.trans (k_iload rfl rfl) (Eq.trans (RUN_ch rfl rfl rfl hc hq rfl rfl (cat_of (nx := 19) (i := 4) (by decide +kernel) rfl)) (Eq.trans (k_pushi 2 rfl rfl) (k_iret rfl trivial)))))))))
theorem wr_107_ok {D : Nat} {q q' : QQ} {V V' : VV} {x1 x2 : Int} {v : Int} (hc : RUN D 108 (am_en 108 [aR 1 0, aI (iI x1), aI (iI x2)]) (HM q V) = rI v (HM q' V')) (hq : qle q q') : RUN (D + 1) 107 (am_en 107 [aR 1 0, aI (iI x1), aI (iI x2), aR 44 0]) (HM q V) = rI 0 (HM (qJ q' (i2L v)) V') := 
  (show RUN (D + 1) 107 (0, [sR 1 0, sI x1, sI x2, sR 44 0, none], []) (HM q V) = _ from (Eq.trans (k_aload rfl rfl) (Eq.trans (k_pushi 0 rfl rfl) (Eq.trans (k_aload rfl rfl) (Eq.trans (k_iload rfl rfl) (Eq.trans (k_iload rfl rfl) (Eq.trans (RUN_ci rfl rfl rfl hc hq) (Eq.trans (k_i2l rfl) (Eq.trans (k_last rfl) (Eq.trans (k_goto rfl) (Eq.trans (k_pushi 0 rfl rfl) (k_iret rfl trivial))))))))))))
theorem wrT_107 {D : Nat} {q : QQ} {H U : VV} {x1 x2 : Int} {k v : Int} (h : Oc (RUN D 108 (am_en 108 [aR 1 0, aI (iI x1), aI (iI x2)]) (HM q H)) (cmL [(2, 1), (3, 2)]) q k v U) : Wr (RUN (D + 1) 107 (am_en 107 [aR 1 0, aI (iI x1), aI (iI x2), aR 44 0]) (HM q H)) q k (i2L v) U := by
  rcases h with ⟨rfl, e⟩ | ⟨h1, h2, j, hj, hk, e⟩
  · exact ⟨_, qup_J q _, fun _ => qJ_at q _, wr_107_ok e (qle_refl q)⟩
  · have hk : (if j = 2 then 1 else (if j = 3 then 2 else 0)) = k := hk
    by_cases c2 : j = 2
    · rw [if_pos c2] at hk
      subst hk c2
      exact ⟨_, qup_thr q, fun z => absurd z (by decide), wr_107_2 e (qle_thr q)⟩
    rw [if_neg c2] at hk
    by_cases c3 : j = 3
    · rw [if_pos c3] at hk
      subst hk c3
      exact ⟨_, qup_thr q, fun z => absurd z (by decide), wr_107_3 e (qle_thr q)⟩
    rw [if_neg c3] at hk
    omega
theorem wr_110_2 {D : Nat} {q q' : QQ} {V V' : VV} {x1 x2 : Int} (hc : RUN D 111 (am_en 111 [aR 1 0, aI (iI x1), aI (iI x2)]) (HM q V) = rX 2 (HM q' V')) (hq : qle q q') : RUN (D + 1) 110 (am_en 110 [aR 1 0, aI (iI x1), aI (iI x2), aR 44 0]) (HM q V) = rI 1 (HM q' V') :=
  (show RUN (D + 1) 110 (0, [sR 1 0, sI x1, sI x2, sR 44 0, none], []) (HM q V) = _ from (Eq.trans (k_aload rfl rfl) (Eq.trans (k_pushi 0 rfl rfl) (Eq.trans (k_aload rfl rfl) (Eq.trans (k_iload rfl rfl) (Eq.trans (k_iload rfl rfl) (Eq.trans (RUN_ch rfl rfl rfl hc hq rfl rfl (cat_of (nx := 15) (i := 4) (by decide +kernel) rfl)) (Eq.trans (k_pushi 1 rfl rfl) (k_iret rfl trivial)))))))))
theorem wr_110_3 {D : Nat} {q q' : QQ} {V V' : VV} {x1 x2 : Int} (hc : RUN D 111 (am_en 111 [aR 1 0, aI (iI x1), aI (iI x2)]) (HM q V) = rX 3 (HM q' V')) (hq : qle q q') : RUN (D + 1) 110 (am_en 110 [aR 1 0, aI (iI x1), aI (iI x2), aR 44 0]) (HM q V) = rI 2 (HM q' V') :=
  (show RUN (D + 1) 110 (0, [sR 1 0, sI x1, sI x2, sR 44 0, none], []) (HM q V) = _ from (Eq.trans (k_aload rfl rfl) (Eq.trans (k_pushi 0 rfl rfl) (Eq.trans (k_aload rfl rfl) (Eq.trans (k_iload rfl rfl) (Eq.trans (k_iload rfl rfl) (Eq.trans (RUN_ch rfl rfl rfl hc hq rfl rfl (cat_of (nx := 19) (i := 4) (by decide +kernel) rfl)) (Eq.trans (k_pushi 2 rfl rfl) (k_iret rfl trivial)))))))))
theorem wr_110_ok {D : Nat} {q q' : QQ} {V V' : VV} {x1 x2 : Int} {v : Int} (hc : RUN D 111 (am_en 111 [aR 1 0, aI (iI x1), aI (iI x2)]) (HM q V) = rI v (HM q' V')) (hq : qle q q') : RUN (D + 1) 110 (am_en 110 [aR 1 0, aI (iI x1), aI (iI x2), aR 44 0]) (HM q V) = rI 0 (HM (qJ q' (i2L v)) V') := 
  (show RUN (D + 1) 110 (0, [sR 1 0, sI x1, sI x2, sR 44 0, none], []) (HM q V) = _ from (Eq.trans (k_aload rfl rfl) (Eq.trans (k_pushi 0 rfl rfl) (Eq.trans (k_aload rfl rfl) (Eq.trans (k_iload rfl rfl) (Eq.trans (k_iload rfl rfl) (Eq.trans (RUN_ci rfl rfl rfl hc hq) (Eq.trans (k_i2l rfl) (Eq.trans (k_last rfl) (Eq.trans (k_goto rfl) (Eq.trans (k_pushi 0 rfl rfl) (k_iret rfl trivial))))))))))))
theorem wrT_110 {D : Nat} {q : QQ} {H U : VV} {x1 x2 : Int} {k v : Int} (h : Oc (RUN D 111 (am_en 111 [aR 1 0, aI (iI x1), aI (iI x2)]) (HM q H)) (cmL [(2, 1), (3, 2)]) q k v U) : Wr (RUN (D + 1) 110 (am_en 110 [aR 1 0, aI (iI x1), aI (iI x2), aR 44 0]) (HM q H)) q k (i2L v) U := by
  rcases h with ⟨rfl, e⟩ | ⟨h1, h2, j, hj, hk, e⟩
  · exact ⟨_, qup_J q _, fun _ => qJ_at q _, wr_110_ok e (qle_refl q)⟩
  · have hk : (if j = 2 then 1 else (if j = 3 then 2 else 0)) = k := hk
    by_cases c2 : j = 2
    · rw [if_pos c2] at hk
      subst hk c2
      exact ⟨_, qup_thr q, fun z => absurd z (by decide), wr_110_2 e (qle_thr q)⟩
    rw [if_neg c2] at hk
    by_cases c3 : j = 3
    · rw [if_pos c3] at hk
      subst hk c3
      exact ⟨_, qup_thr q, fun z => absurd z (by decide), wr_110_3 e (qle_thr q)⟩
    rw [if_neg c3] at hk
    omega
theorem wr_112_2 {D : Nat} {q q' : QQ} {V V' : VV} {x1 x2 x3 : Int} (hc : RUN D 113 (am_en 113 [aR 1 0, aI (iI x1), aI (iI x2), aI (iI x3)]) (HM q V) = rX 2 (HM q' V')) (hq : qle q q') : RUN (D + 1) 112 (am_en 112 [aR 1 0, aI (iI x1), aI (iI x2), aI (iI x3), aR 44 0]) (HM q V) = rI 1 (HM q' V') :=
  (show RUN (D + 1) 112 (0, [sR 1 0, sI x1, sI x2, sI x3, sR 44 0, none], []) (HM q V) = _ from (Eq.trans (k_aload rfl rfl) (Eq.trans (k_pushi 0 rfl rfl) (Eq.trans (k_aload rfl rfl) (Eq.trans (k_iload rfl rfl) (Eq.trans (k_iload rfl rfl) (Eq.trans (k_iload rfl rfl) (Eq.trans (RUN_ch rfl rfl rfl hc hq rfl rfl (cat_of (nx := 17) (i := 5) (by decide +kernel) rfl)) (Eq.trans (k_pushi 1 rfl rfl) (k_iret rfl trivial))))))))))
theorem wr_112_3 {D : Nat} {q q' : QQ} {V V' : VV} {x1 x2 x3 : Int} (hc : RUN D 113 (am_en 113 [aR 1 0, aI (iI x1), aI (iI x2), aI (iI x3)]) (HM q V) = rX 3 (HM q' V')) (hq : qle q q') : RUN (D + 1) 112 (am_en 112 [aR 1 0, aI (iI x1), aI (iI x2), aI (iI x3), aR 44 0]) (HM q V) = rI 2 (HM q' V') :=
  (show RUN (D + 1) 112 (0, [sR 1 0, sI x1, sI x2, sI x3, sR 44 0, none], []) (HM q V) = _ from (Eq.trans (k_aload rfl rfl) (Eq.trans (k_pushi 0 rfl rfl) (Eq.trans (k_aload rfl rfl) (Eq.trans (k_iload rfl rfl) (Eq.trans (k_iload rfl rfl) (Eq.trans (k_iload rfl rfl) (Eq.trans (RUN_ch rfl rfl rfl hc hq rfl rfl (cat_of (nx := 21) (i := 5) (by decide +kernel) rfl)) (Eq.trans (k_pushi 2 rfl rfl) (k_iret rfl trivial))))))))))
theorem wr_112_ok {D : Nat} {q q' : QQ} {V V' : VV} {x1 x2 x3 : Int} {v : Int} (hc : RUN D 113 (am_en 113 [aR 1 0, aI (iI x1), aI (iI x2), aI (iI x3)]) (HM q V) = rI v (HM q' V')) (hq : qle q q') : RUN (D + 1) 112 (am_en 112 [aR 1 0, aI (iI x1), aI (iI x2), aI (iI x3), aR 44 0]) (HM q V) = rI 0 (HM (qJ q' (i2L v)) V') := 
  (show RUN (D + 1) 112 (0, [sR 1 0, sI x1, sI x2, sI x3, sR 44 0, none], []) (HM q V) = _ from (Eq.trans (k_aload rfl rfl) (Eq.trans (k_pushi 0 rfl rfl) (Eq.trans (k_aload rfl rfl) (Eq.trans (k_iload rfl rfl) (Eq.trans (k_iload rfl rfl) (Eq.trans (k_iload rfl rfl) (Eq.trans (RUN_ci rfl rfl rfl hc hq) (Eq.trans (k_i2l rfl) (Eq.trans (k_last rfl) (Eq.trans (k_goto rfl) (Eq.trans (k_pushi 0 rfl rfl) (k_iret rfl trivial)))))))))))))
theorem wrT_112 {D : Nat} {q : QQ} {H U : VV} {x1 x2 x3 : Int} {k v : Int} (h : Oc (RUN D 113 (am_en 113 [aR 1 0, aI (iI x1), aI (iI x2), aI (iI x3)]) (HM q H)) (cmL [(2, 1), (3, 2)]) q k v U) : Wr (RUN (D + 1) 112 (am_en 112 [aR 1 0, aI (iI x1), aI (iI x2), aI (iI x3), aR 44 0]) (HM q H)) q k (i2L v) U := by
  rcases h with ⟨rfl, e⟩ | ⟨h1, h2, j, hj, hk, e⟩
  · exact ⟨_, qup_J q _, fun _ => qJ_at q _, wr_112_ok e (qle_refl q)⟩
  · have hk : (if j = 2 then 1 else (if j = 3 then 2 else 0)) = k := hk
    by_cases c2 : j = 2
    · rw [if_pos c2] at hk
      subst hk c2
      exact ⟨_, qup_thr q, fun z => absurd z (by decide), wr_112_2 e (qle_thr q)⟩
    rw [if_neg c2] at hk
    by_cases c3 : j = 3
    · rw [if_pos c3] at hk
      subst hk c3
      exact ⟨_, qup_thr q, fun z => absurd z (by decide), wr_112_3 e (qle_thr q)⟩
    rw [if_neg c3] at hk
    omega
theorem wr_114_0 {D : Nat} {q q' : QQ} {V V' : VV} {x1 : Int} (hc : RUN D 115 (am_en 115 [aR 1 0, aI (iI x1)]) (HM q V) = rX 0 (HM q' V')) (hq : qle q q') : RUN (D + 1) 114 (am_en 114 [aR 1 0, aI (iI x1), aR 44 0]) (HM q V) = rI 1 (HM q' V') :=
  (show RUN (D + 1) 114 (0, [sR 1 0, sI x1, sR 44 0, none], []) (HM q V) = _ from (Eq.trans (k_aload rfl rfl) (Eq.trans (k_pushi 0 rfl rfl) (Eq.trans (k_aload rfl rfl) (Eq.trans (k_iload rfl rfl) (Eq.trans (RUN_ch rfl rfl rfl hc hq rfl rfl (cat_of (nx := 13) (i := 3) (by decide +kernel) rfl)) (Eq.trans (k_pushi 1 rfl rfl) (k_iret rfl trivial))))))))
theorem wr_114_ok {D : Nat} {q q' : QQ} {V V' : VV} {x1 : Int} {v : Int} (hc : RUN D 115 (am_en 115 [aR 1 0, aI (iI x1)]) (HM q V) = rI v (HM q' V')) (hq : qle q q') : RUN (D + 1) 114 (am_en 114 [aR 1 0, aI (iI x1), aR 44 0]) (HM q V) = rI 0 (HM (qJ q' (i2L v)) V') := 
  (show RUN (D + 1) 114 (0, [sR 1 0, sI x1, sR 44 0, none], []) (HM q V) = _ from (Eq.trans (k_aload rfl rfl) (Eq.trans (k_pushi 0 rfl rfl) (Eq.trans (k_aload rfl rfl) (Eq.trans (k_iload rfl rfl) (Eq.trans (RUN_ci rfl rfl rfl hc hq) (Eq.trans (k_i2l rfl) (Eq.trans (k_last rfl) (Eq.trans (k_goto rfl) (Eq.trans (k_pushi 0 rfl rfl) (k_iret rfl trivial)))))))))))
theorem wrT_114 {D : Nat} {q : QQ} {H U : VV} {x1 : Int} {k v : Int} (h : Oc (RUN D 115 (am_en 115 [aR 1 0, aI (iI x1)]) (HM q H)) (cmL [(0, 1)]) q k v U) : Wr (RUN (D + 1) 114 (am_en 114 [aR 1 0, aI (iI x1), aR 44 0]) (HM q H)) q k (i2L v) U := by
  rcases h with ⟨rfl, e⟩ | ⟨h1, h2, j, hj, hk, e⟩
  · exact ⟨_, qup_J q _, fun _ => qJ_at q _, wr_114_ok e (qle_refl q)⟩
  · have hk : (if j = 0 then 1 else 0) = k := hk
    by_cases c0 : j = 0
    · rw [if_pos c0] at hk
      subst hk c0
      exact ⟨_, qup_thr q, fun z => absurd z (by decide), wr_114_0 e (qle_thr q)⟩
    rw [if_neg c0] at hk
    omega
theorem wr_118_0 {D : Nat} {q q' : QQ} {V V' : VV} {x1 : Int} (hc : RUN D 119 (am_en 119 [aR 1 0, aI (iI x1)]) (HM q V) = rX 0 (HM q' V')) (hq : qle q q') : RUN (D + 1) 118 (am_en 118 [aR 1 0, aI (iI x1), aR 44 0]) (HM q V) = rI 1 (HM q' V') :=
  (show RUN (D + 1) 118 (0, [sR 1 0, sI x1, sR 44 0, none], []) (HM q V) = _ from (Eq.trans (k_aload rfl rfl) (Eq.trans (k_pushi 0 rfl rfl) (Eq.trans (k_aload rfl rfl) (Eq.trans (k_iload rfl rfl) (Eq.trans (RUN_ch rfl rfl rfl hc hq rfl rfl (cat_of (nx := 13) (i := 3) (by decide +kernel) rfl)) (Eq.trans (k_pushi 1 rfl rfl) (k_iret rfl trivial))))))))
theorem wr_118_3 {D : Nat} {q q' : QQ} {V V' : VV} {x1 : Int} (hc : RUN D 119 (am_en 119 [aR 1 0, aI (iI x1)]) (HM q V) = rX 3 (HM q' V')) (hq : qle q q') : RUN (D + 1) 118 (am_en 118 [aR 1 0, aI (iI x1), aR 44 0]) (HM q V) = rI 2 (HM q' V') :=
  (show RUN (D + 1) 118 (0, [sR 1 0, sI x1, sR 44 0, none], []) (HM q V) = _ from (Eq.trans (k_aload rfl rfl) (Eq.trans (k_pushi 0 rfl rfl) (Eq.trans (k_aload rfl rfl) (Eq.trans (k_iload rfl rfl) (Eq.trans (RUN_ch rfl rfl rfl hc hq rfl rfl (cat_of (nx := 16) (i := 3) (by decide +kernel) rfl)) (Eq.trans (k_pushi 2 rfl rfl) (k_iret rfl trivial))))))))
theorem wr_118_ok {D : Nat} {q q' : QQ} {V V' : VV} {x1 : Int} {v : Int} (hc : RUN D 119 (am_en 119 [aR 1 0, aI (iI x1)]) (HM q V) = rI v (HM q' V')) (hq : qle q q') : RUN (D + 1) 118 (am_en 118 [aR 1 0, aI (iI x1), aR 44 0]) (HM q V) = rI 0 (HM (qJ q' (i2L v)) V') := 
  (show RUN (D + 1) 118 (0, [sR 1 0, sI x1, sR 44 0, none], []) (HM q V) = _ from (Eq.trans (k_aload rfl rfl) (Eq.trans (k_pushi 0 rfl rfl) (Eq.trans (k_aload rfl rfl) (Eq.trans (k_iload rfl rfl) (Eq.trans (RUN_ci rfl rfl rfl hc hq) (Eq.trans (k_i2l rfl) (Eq.trans (k_last rfl) (Eq.trans (k_goto rfl) (Eq.trans (k_pushi 0 rfl rfl) (k_iret rfl trivial)))))))))))
theorem wrT_118 {D : Nat} {q : QQ} {H U : VV} {x1 : Int} {k v : Int} (h : Oc (RUN D 119 (am_en 119 [aR 1 0, aI (iI x1)]) (HM q H)) (cmL [(0, 1), (3, 2)]) q k v U) : Wr (RUN (D + 1) 118 (am_en 118 [aR 1 0, aI (iI x1), aR 44 0]) (HM q H)) q k (i2L v) U := by
  rcases h with ⟨rfl, e⟩ | ⟨h1, h2, j, hj, hk, e⟩
  · exact ⟨_, qup_J q _, fun _ => qJ_at q _, wr_118_ok e (qle_refl q)⟩
  · have hk : (if j = 0 then 1 else (if j = 3 then 2 else 0)) = k := hk
    by_cases c0 : j = 0
    · rw [if_pos c0] at hk
      subst hk c0
      exact ⟨_, qup_thr q, fun z => absurd z (by decide), wr_118_0 e (qle_thr q)⟩
    rw [if_neg c0] at hk
    by_cases c3 : j = 3
    · rw [if_pos c3] at hk
      subst hk c3
      exact ⟨_, qup_thr q, fun z => absurd z (by decide), wr_118_3 e (qle_thr q)⟩
    rw [if_neg c3] at hk
    omega
theorem wr_121_0 {D : Nat} {q q' : QQ} {V V' : VV} {x1 : Int} (hc : RUN D 122 (am_en 122 [aR 1 0, aI (iI x1)]) (HM q V) = rX 0 (HM q' V')) (hq : qle q q') : RUN (D + 1) 121 (am_en 121 [aR 1 0, aI (iI x1), aR 44 0]) (HM q V) = rI 1 (HM q' V') :=
  (show RUN (D + 1) 121 (0, [sR 1 0, sI x1, sR 44 0, none], []) (HM q V) = _ from (Eq.trans (k_aload rfl rfl) (Eq.trans (k_pushi 0 rfl rfl) (Eq.trans (k_aload rfl rfl) (Eq.trans (k_iload rfl rfl) (Eq.trans (RUN_ch rfl rfl rfl hc hq rfl rfl (cat_of (nx := 13) (i := 3) (by decide +kernel) rfl)) (Eq.trans (k_pushi 1 rfl rfl) (k_iret rfl trivial))))))))
theorem wr_121_3 {D : Nat} {q q' : QQ} {V V' : VV} {x1 : Int} (hc : RUN D 122 (am_en 122 [aR 1 0, aI (iI x1)]) (HM q V) = rX 3 (HM q' V')) (hq : qle q q') : RUN (D + 1) 121 (am_en 121 [aR 1 0, aI (iI x1), aR 44 0]) (HM q V) = rI 2 (HM q' V') :=
  (show RUN (D + 1) 121 (0, [sR 1 0, sI x1, sR 44 0, none], []) (HM q V) = _ from (Eq.trans (k_aload rfl rfl) (Eq.trans (k_pushi 0 rfl rfl) (Eq.trans (k_aload rfl rfl) (Eq.trans (k_iload rfl rfl) (Eq.trans (RUN_ch rfl rfl rfl hc hq rfl rfl (cat_of (nx := 16) (i := 3) (by decide +kernel) rfl)) (Eq.trans (k_pushi 2 rfl rfl) (k_iret rfl trivial))))))))
theorem wr_121_ok {D : Nat} {q q' : QQ} {V V' : VV} {x1 : Int} {v : Int} (hc : RUN D 122 (am_en 122 [aR 1 0, aI (iI x1)]) (HM q V) = rI v (HM q' V')) (hq : qle q q') : RUN (D + 1) 121 (am_en 121 [aR 1 0, aI (iI x1), aR 44 0]) (HM q V) = rI 0 (HM (qJ q' (i2L v)) V') := 
  (show RUN (D + 1) 121 (0, [sR 1 0, sI x1, sR 44 0, none], []) (HM q V) = _ from (Eq.trans (k_aload rfl rfl) (Eq.trans (k_pushi 0 rfl rfl) (Eq.trans (k_aload rfl rfl) (Eq.trans (k_iload rfl rfl) (Eq.trans (RUN_ci rfl rfl rfl hc hq) (Eq.trans (k_i2l rfl) (Eq.trans (k_last rfl) (Eq.trans (k_goto rfl) (Eq.trans (k_pushi 0 rfl rfl) (k_iret rfl trivial)))))))))))
theorem wrT_121 {D : Nat} {q : QQ} {H U : VV} {x1 : Int} {k v : Int} (h : Oc (RUN D 122 (am_en 122 [aR 1 0, aI (iI x1)]) (HM q H)) (cmL [(0, 1), (3, 2)]) q k v U) : Wr (RUN (D + 1) 121 (am_en 121 [aR 1 0, aI (iI x1), aR 44 0]) (HM q H)) q k (i2L v) U := by
  rcases h with ⟨rfl, e⟩ | ⟨h1, h2, j, hj, hk, e⟩
  · exact ⟨_, qup_J q _, fun _ => qJ_at q _, wr_121_ok e (qle_refl q)⟩
  · have hk : (if j = 0 then 1 else (if j = 3 then 2 else 0)) = k := hk
    by_cases c0 : j = 0
    · rw [if_pos c0] at hk
      subst hk c0
      exact ⟨_, qup_thr q, fun z => absurd z (by decide), wr_121_0 e (qle_thr q)⟩
    rw [if_neg c0] at hk
    by_cases c3 : j = 3
    · rw [if_pos c3] at hk
      subst hk c3
      exact ⟨_, qup_thr q, fun z => absurd z (by decide), wr_121_3 e (qle_thr q)⟩
    rw [if_neg c3] at hk
    omega
theorem wr_123_0 {D : Nat} {q q' : QQ} {V V' : VV} {x1 : Int} (hc : RUN D 124 (am_en 124 [aR 1 0, aI (iI x1)]) (HM q V) = rX 0 (HM q' V')) (hq : qle q q') : RUN (D + 1) 123 (am_en 123 [aR 1 0, aI (iI x1), aR 44 0]) (HM q V) = rI 1 (HM q' V') :=
  (show RUN (D + 1) 123 (0, [sR 1 0, sI x1, sR 44 0, none], []) (HM q V) = _ from (Eq.trans (k_aload rfl rfl) (Eq.trans (k_pushi 0 rfl rfl) (Eq.trans (k_aload rfl rfl) (Eq.trans (k_iload rfl rfl) (Eq.trans (RUN_ch rfl rfl rfl hc hq rfl rfl (cat_of (nx := 13) (i := 3) (by decide +kernel) rfl)) (Eq.trans (k_pushi 1 rfl rfl) (k_iret rfl trivial))))))))
theorem wr_123_ok {D : Nat} {q q' : QQ} {V V' : VV} {x1 : Int} {v : Int} (hc : RUN D 124 (am_en 124 [aR 1 0, aI (iI x1)]) (HM q V) = rI v (HM q' V')) (hq : qle q q') : RUN (D + 1) 123 (am_en 123 [aR 1 0, aI (iI x1), aR 44 0]) (HM q V) = rI 0 (HM (qJ q' (i2L v)) V') := 
  (show RUN (D + 1) 123 (0, [sR 1 0, sI x1, sR 44 0, none], []) (HM q V) = _ from (Eq.trans (k_aload rfl rfl) (Eq.trans (k_pushi 0 rfl rfl) (Eq.trans (k_aload rfl rfl) (Eq.trans (k_iload rfl rfl) (Eq.trans (RUN_ci rfl rfl rfl hc hq) (Eq.trans (k_i2l rfl) (Eq.trans (k_last rfl) (Eq.trans (k_goto rfl) (Eq.trans (k_pushi 0 rfl rfl) (k_iret rfl trivial)))))))))))
theorem wrT_123 {D : Nat} {q : QQ} {H U : VV} {x1 : Int} {k v : Int} (h : Oc (RUN D 124 (am_en 124 [aR 1 0, aI (iI x1)]) (HM q H)) (cmL [(0, 1)]) q k v U) : Wr (RUN (D + 1) 123 (am_en 123 [aR 1 0, aI (iI x1), aR 44 0]) (HM q H)) q k (i2L v) U := by
  rcases h with ⟨rfl, e⟩ | ⟨h1, h2, j, hj, hk, e⟩
  · exact ⟨_, qup_J q _, fun _ => qJ_at q _, wr_123_ok e (qle_refl q)⟩
  · have hk : (if j = 0 then 1 else 0) = k := hk
    by_cases c0 : j = 0
    · rw [if_pos c0] at hk
      subst hk c0
      exact ⟨_, qup_thr q, fun z => absurd z (by decide), wr_123_0 e (qle_thr q)⟩
    rw [if_neg c0] at hk
    omega
theorem wr_126_2 {D : Nat} {q q' : QQ} {V V' : VV} {x1 x2 : Int} (hc : RUN D 127 (am_en 127 [aR 1 0, aI (iI x1), aI (iI x2)]) (HM q V) = rX 2 (HM q' V')) (hq : qle q q') : RUN (D + 1) 126 (am_en 126 [aR 1 0, aI (iI x1), aI (iI x2), aR 44 0]) (HM q V) = rI 1 (HM q' V') :=
  (show RUN (D + 1) 126 (0, [sR 1 0, sI x1, sI x2, sR 44 0, none], []) (HM q V) = _ from (Eq.trans (k_aload rfl rfl) (Eq.trans (k_pushi 0 rfl rfl) (Eq.trans (k_aload rfl rfl) (Eq.trans (k_iload rfl rfl) (Eq.trans (k_iload rfl rfl) (Eq.trans (RUN_ch rfl rfl rfl hc hq rfl rfl (cat_of (nx := 15) (i := 4) (by decide +kernel) rfl)) (Eq.trans (k_pushi 1 rfl rfl) (k_iret rfl trivial)))))))))
theorem wr_126_0 {D : Nat} {q q' : QQ} {V V' : VV} {x1 x2 : Int} (hc : RUN D 127 (am_en 127 [aR 1 0, aI (iI x1), aI (iI x2)]) (HM q V) = rX 0 (HM q' V')) (hq : qle q q') : RUN (D + 1) 126 (am_en 126 [aR 1 0, aI (iI x1), aI (iI x2), aR 44 0]) (HM q V) = rI 2 (HM q' V') :=
  (show RUN (D + 1) 126 (0, [sR 1 0, sI x1, sI x2, sR 44 0, none], []) (HM q V) = _ from (Eq.trans (k_aload rfl rfl) (Eq.trans (k_pushi 0 rfl rfl) (Eq.trans (k_aload rfl rfl) (Eq.trans (k_iload rfl rfl) (Eq.trans (k_iload rfl rfl) (Eq.trans (RUN_ch rfl rfl rfl hc hq rfl rfl (cat_of (nx := 19) (i := 4) (by decide +kernel) rfl)) (Eq.trans (k_pushi 2 rfl rfl) (k_iret rfl trivial)))))))))
theorem wr_126_ok {D : Nat} {q q' : QQ} {V V' : VV} {x1 x2 : Int} {v : Int} (hc : RUN D 127 (am_en 127 [aR 1 0, aI (iI x1), aI (iI x2)]) (HM q V) = rI v (HM q' V')) (hq : qle q q') : RUN (D + 1) 126 (am_en 126 [aR 1 0, aI (iI x1), aI (iI x2), aR 44 0]) (HM q V) = rI 0 (HM (qJ q' (i2L v)) V') := 
  (show RUN (D + 1) 126 (0, [sR 1 0, sI x1, sI x2, sR 44 0, none], []) (HM q V) = _ from (Eq.trans (k_aload rfl rfl) (Eq.trans (k_pushi 0 rfl rfl) (Eq.trans (k_aload rfl rfl) (Eq.trans (k_iload rfl rfl) (Eq.trans (k_iload rfl rfl) (Eq.trans (RUN_ci rfl rfl rfl hc hq) (Eq.trans (k_i2l rfl) (Eq.trans (k_last rfl) (Eq.trans (k_goto rfl) (Eq.trans (k_pushi 0 rfl rfl) (k_iret rfl trivial))))))))))))
theorem wrT_126 {D : Nat} {q : QQ} {H U : VV} {x1 x2 : Int} {k v : Int} (h : Oc (RUN D 127 (am_en 127 [aR 1 0, aI (iI x1), aI (iI x2)]) (HM q H)) (cmL [(2, 1), (0, 2)]) q k v U) : Wr (RUN (D + 1) 126 (am_en 126 [aR 1 0, aI (iI x1), aI (iI x2), aR 44 0]) (HM q H)) q k (i2L v) U := by
  rcases h with ⟨rfl, e⟩ | ⟨h1, h2, j, hj, hk, e⟩
  · exact ⟨_, qup_J q _, fun _ => qJ_at q _, wr_126_ok e (qle_refl q)⟩
  · have hk : (if j = 2 then 1 else (if j = 0 then 2 else 0)) = k := hk
    by_cases c2 : j = 2
    · rw [if_pos c2] at hk
      subst hk c2
      exact ⟨_, qup_thr q, fun z => absurd z (by decide), wr_126_2 e (qle_thr q)⟩
    rw [if_neg c2] at hk
    by_cases c0 : j = 0
    · rw [if_pos c0] at hk
      subst hk c0
      exact ⟨_, qup_thr q, fun z => absurd z (by decide), wr_126_0 e (qle_thr q)⟩
    rw [if_neg c0] at hk
    omega
theorem wr_130_2 {D : Nat} {q q' : QQ} {V V' : VV} {x1 x2 x3 : Int} (hc : RUN D 131 (am_en 131 [aR 1 0, aI (iI x1), aI (iI x2), aI (iI x3)]) (HM q V) = rX 2 (HM q' V')) (hq : qle q q') : RUN (D + 1) 130 (am_en 130 [aR 1 0, aI (iI x1), aI (iI x2), aI (iI x3), aR 44 0]) (HM q V) = rI 1 (HM q' V') :=
  (show RUN (D + 1) 130 (0, [sR 1 0, sI x1, sI x2, sI x3, sR 44 0, none], []) (HM q V) = _ from (Eq.trans (k_aload rfl rfl) (Eq.trans (k_pushi 0 rfl rfl) (Eq.trans (k_aload rfl rfl) (Eq.trans (k_iload rfl rfl) (Eq.trans (k_iload rfl rfl) (Eq.trans (k_iload rfl rfl) (Eq.trans (RUN_ch rfl rfl rfl hc hq rfl rfl (cat_of (nx := 17) (i := 5) (by decide +kernel) rfl)) (Eq.trans (k_pushi 1 rfl rfl) (k_iret rfl trivial))))))))))
theorem wr_130_0 {D : Nat} {q q' : QQ} {V V' : VV} {x1 x2 x3 : Int} (hc : RUN D 131 (am_en 131 [aR 1 0, aI (iI x1), aI (iI x2), aI (iI x3)]) (HM q V) = rX 0 (HM q' V')) (hq : qle q q') : RUN (D + 1) 130 (am_en 130 [aR 1 0, aI (iI x1), aI (iI x2), aI (iI x3), aR 44 0]) (HM q V) = rI 2 (HM q' V') :=
  (show RUN (D + 1) 130 (0, [sR 1 0, sI x1, sI x2, sI x3, sR 44 0, none], []) (HM q V) = _ from (Eq.trans (k_aload rfl rfl) (Eq.trans (k_pushi 0 rfl rfl) (Eq.trans (k_aload rfl rfl) (Eq.trans (k_iload rfl rfl) (Eq.trans (k_iload rfl rfl) (Eq.trans (k_iload rfl rfl) (Eq.trans (RUN_ch rfl rfl rfl hc hq rfl rfl (cat_of (nx := 21) (i := 5) (by decide +kernel) rfl)) (Eq.trans (k_pushi 2 rfl rfl) (k_iret rfl trivial))))))))))
theorem wr_130_4 {D : Nat} {q q' : QQ} {V V' : VV} {x1 x2 x3 : Int} (hc : RUN D 131 (am_en 131 [aR 1 0, aI (iI x1), aI (iI x2), aI (iI x3)]) (HM q V) = rX 4 (HM q' V')) (hq : qle q q') : RUN (D + 1) 130 (am_en 130 [aR 1 0, aI (iI x1), aI (iI x2), aI (iI x3), aR 44 0]) (HM q V) = rI 3 (HM q' V') :=
  (show RUN (D + 1) 130 (0, [sR 1 0, sI x1, sI x2, sI x3, sR 44 0, none], []) (HM q V) = _ from (Eq.trans (k_aload rfl rfl) (Eq.trans (k_pushi 0 rfl rfl) (Eq.trans (k_aload rfl rfl) (Eq.trans (k_iload rfl rfl) (Eq.trans (k_iload rfl rfl) (Eq.trans (k_iload rfl rfl) (Eq.trans (RUN_ch rfl rfl rfl hc hq rfl rfl (cat_of (nx := 25) (i := 5) (by decide +kernel) rfl)) (Eq.trans (k_pushi 3 rfl rfl) (k_iret rfl trivial))))))))))
theorem wr_130_ok {D : Nat} {q q' : QQ} {V V' : VV} {x1 x2 x3 : Int} {v : Int} (hc : RUN D 131 (am_en 131 [aR 1 0, aI (iI x1), aI (iI x2), aI (iI x3)]) (HM q V) = rI v (HM q' V')) (hq : qle q q') : RUN (D + 1) 130 (am_en 130 [aR 1 0, aI (iI x1), aI (iI x2), aI (iI x3), aR 44 0]) (HM q V) = rI 0 (HM (qJ q' (i2L v)) V') := 
  (show RUN (D + 1) 130 (0, [sR 1 0, sI x1, sI x2, sI x3, sR 44 0, none], []) (HM q V) = _ from (Eq.trans (k_aload rfl rfl) (Eq.trans (k_pushi 0 rfl rfl) (Eq.trans (k_aload rfl rfl) (Eq.trans (k_iload rfl rfl) (Eq.trans (k_iload rfl rfl) (Eq.trans (k_iload rfl rfl) (Eq.trans (RUN_ci rfl rfl rfl hc hq) (Eq.trans (k_i2l rfl) (Eq.trans (k_last rfl) (Eq.trans (k_goto rfl) (Eq.trans (k_pushi 0 rfl rfl) (k_iret rfl trivial)))))))))))))
theorem wrT_130 {D : Nat} {q : QQ} {H U : VV} {x1 x2 x3 : Int} {k v : Int} (h : Oc (RUN D 131 (am_en 131 [aR 1 0, aI (iI x1), aI (iI x2), aI (iI x3)]) (HM q H)) (cmL [(2, 1), (0, 2), (4, 3)]) q k v U) : Wr (RUN (D + 1) 130 (am_en 130 [aR 1 0, aI (iI x1), aI (iI x2), aI (iI x3), aR 44 0]) (HM q H)) q k (i2L v) U := by
  rcases h with ⟨rfl, e⟩ | ⟨h1, h2, j, hj, hk, e⟩
  · exact ⟨_, qup_J q _, fun _ => qJ_at q _, wr_130_ok e (qle_refl q)⟩
  · have hk : (if j = 2 then 1 else (if j = 0 then 2 else (if j = 4 then 3 else 0))) = k := hk
    by_cases c2 : j = 2
    · rw [if_pos c2] at hk
      subst hk c2
      exact ⟨_, qup_thr q, fun z => absurd z (by decide), wr_130_2 e (qle_thr q)⟩
    rw [if_neg c2] at hk
    by_cases c0 : j = 0
    · rw [if_pos c0] at hk
      subst hk c0
      exact ⟨_, qup_thr q, fun z => absurd z (by decide), wr_130_0 e (qle_thr q)⟩
    rw [if_neg c0] at hk
    by_cases c4 : j = 4
    · rw [if_pos c4] at hk
      subst hk c4
      exact ⟨_, qup_thr q, fun z => absurd z (by decide), wr_130_4 e (qle_thr q)⟩
    rw [if_neg c4] at hk
    omega
theorem wr_137_2 {D : Nat} {q q' : QQ} {V V' : VV} {x1 x2 x3 : Int} (hc : RUN D 138 (am_en 138 [aR 1 0, aI (iI x1), aI (iI x2), aI (iI x3)]) (HM q V) = rX 2 (HM q' V')) (hq : qle q q') : RUN (D + 1) 137 (am_en 137 [aR 1 0, aI (iI x1), aI (iI x2), aI (iI x3), aR 44 0]) (HM q V) = rI 1 (HM q' V') :=
  (show RUN (D + 1) 137 (0, [sR 1 0, sI x1, sI x2, sI x3, sR 44 0, none], []) (HM q V) = _ from (Eq.trans (k_aload rfl rfl) (Eq.trans (k_pushi 0 rfl rfl) (Eq.trans (k_aload rfl rfl) (Eq.trans (k_iload rfl rfl) (Eq.trans (k_iload rfl rfl) (Eq.trans (k_iload rfl rfl) (Eq.trans (RUN_ch rfl rfl rfl hc hq rfl rfl (cat_of (nx := 24) (i := 5) (by decide +kernel) rfl)) (Eq.trans (k_pushi 1 rfl rfl) (k_iret rfl trivial))))))))))
theorem wr_137_0 {D : Nat} {q q' : QQ} {V V' : VV} {x1 x2 x3 : Int} (hc : RUN D 138 (am_en 138 [aR 1 0, aI (iI x1), aI (iI x2), aI (iI x3)]) (HM q V) = rX 0 (HM q' V')) (hq : qle q q') : RUN (D + 1) 137 (am_en 137 [aR 1 0, aI (iI x1), aI (iI x2), aI (iI x3), aR 44 0]) (HM q V) = rI 2 (HM q' V') :=
  (show RUN (D + 1) 137 (0, [sR 1 0, sI x1, sI x2, sI x3, sR 44 0, none], []) (HM q V) = _ from (Eq.trans (k_aload rfl rfl) (Eq.trans (k_pushi 0 rfl rfl) (Eq.trans (k_aload rfl rfl) (Eq.trans (k_iload rfl rfl) (Eq.trans (k_iload rfl rfl) (Eq.trans (k_iload rfl rfl) (Eq.trans (RUN_ch rfl rfl rfl hc hq rfl rfl (cat_of (nx := 28) (i := 5) (by decide +kernel) rfl)) (Eq.trans (k_pushi 2 rfl rfl) (k_iret rfl trivial))))))))))
theorem wr_137_ok {D : Nat} {q q' : QQ} {V V' : VV} {x1 x2 x3 : Int} {v : Int} (hc : RUN D 138 (am_en 138 [aR 1 0, aI (iI x1), aI (iI x2), aI (iI x3)]) (HM q V) = rI v (HM q' V')) (hq : qle q q') : RUN (D + 1) 137 (am_en 137 [aR 1 0, aI (iI x1), aI (iI x2), aI (iI x3), aR 44 0]) (HM q V) = rI 0 (HM (qJ q' (cif (iI v = 0) 0 1)) V') := by
  refine (show RUN (D + 1) 137 (0, [sR 1 0, sI x1, sI x2, sI x3, sR 44 0, none], []) (HM q V) = _ from (Eq.trans (k_aload rfl rfl) (Eq.trans (k_pushi 0 rfl rfl) (Eq.trans (k_aload rfl rfl) (Eq.trans (k_iload rfl rfl) (Eq.trans (k_iload rfl rfl) (Eq.trans (k_iload rfl rfl) (Eq.trans (RUN_ci rfl rfl rfl hc hq) (Eq.trans (k_ifc (iI v = 0) rfl Iff.rfl) ?_)))))))))
  by_cases c : iI v = 0
  · rw [cif_pos c, cif_pos c]
    exact (Eq.trans (k_push rfl) (Eq.trans (k_last rfl) (Eq.trans (k_goto rfl) (Eq.trans (k_pushi 0 rfl rfl) (k_iret rfl trivial)))))
  · rw [cif_neg c, cif_neg c]
    exact (Eq.trans (k_push rfl) (Eq.trans (k_goto rfl) (Eq.trans (k_last rfl) (Eq.trans (k_goto rfl) (Eq.trans (k_pushi 0 rfl rfl) (k_iret rfl trivial))))))
theorem wrT_137 {D : Nat} {q : QQ} {H U : VV} {x1 x2 x3 : Int} {k v : Int} (h : Oc (RUN D 138 (am_en 138 [aR 1 0, aI (iI x1), aI (iI x2), aI (iI x3)]) (HM q H)) (cmL [(2, 1), (0, 2)]) q k v U) : Wr (RUN (D + 1) 137 (am_en 137 [aR 1 0, aI (iI x1), aI (iI x2), aI (iI x3), aR 44 0]) (HM q H)) q k (cif (iI v = 0) 0 1) U := by
  rcases h with ⟨rfl, e⟩ | ⟨h1, h2, j, hj, hk, e⟩
  · exact ⟨_, qup_J q _, fun _ => qJ_at q _, wr_137_ok e (qle_refl q)⟩
  · have hk : (if j = 2 then 1 else (if j = 0 then 2 else 0)) = k := hk
    by_cases c2 : j = 2
    · rw [if_pos c2] at hk
      subst hk c2
      exact ⟨_, qup_thr q, fun z => absurd z (by decide), wr_137_2 e (qle_thr q)⟩
    rw [if_neg c2] at hk
    by_cases c0 : j = 0
    · rw [if_pos c0] at hk
      subst hk c0
      exact ⟨_, qup_thr q, fun z => absurd z (by decide), wr_137_0 e (qle_thr q)⟩
    rw [if_neg c0] at hk
    omega
theorem wr_139_2 {D : Nat} {q q' : QQ} {V V' : VV} {x1 : Int} (hc : RUN D 140 (am_en 140 [aR 1 0, aI (iI x1)]) (HM q V) = rX 2 (HM q' V')) (hq : qle q q') : RUN (D + 1) 139 (am_en 139 [aR 1 0, aI (iI x1), aR 44 0]) (HM q V) = rI 1 (HM q' V') :=
  (show RUN (D + 1) 139 (0, [sR 1 0, sI x1, sR 44 0, none], []) (HM q V) = _ from (Eq.trans (k_aload rfl rfl) (Eq.trans (k_pushi 0 rfl rfl) (Eq.trans (k_aload rfl rfl) (Eq.trans (k_iload rfl rfl) (Eq.trans (RUN_ch rfl rfl rfl hc hq rfl rfl (cat_of (nx := 13) (i := 3) (by decide +kernel) rfl)) (Eq.trans (k_pushi 1 rfl rfl) (k_iret rfl trivial))))))))
theorem wr_139_ok {D : Nat} {q q' : QQ} {V V' : VV} {x1 : Int} {v : Int} (hc : RUN D 140 (am_en 140 [aR 1 0, aI (iI x1)]) (HM q V) = rI v (HM q' V')) (hq : qle q q') : RUN (D + 1) 139 (am_en 139 [aR 1 0, aI (iI x1), aR 44 0]) (HM q V) = rI 0 (HM (qJ q' (i2L v)) V') := 
  (show RUN (D + 1) 139 (0, [sR 1 0, sI x1, sR 44 0, none], []) (HM q V) = _ from (Eq.trans (k_aload rfl rfl) (Eq.trans (k_pushi 0 rfl rfl) (Eq.trans (k_aload rfl rfl) (Eq.trans (k_iload rfl rfl) (Eq.trans (RUN_ci rfl rfl rfl hc hq) (Eq.trans (k_i2l rfl) (Eq.trans (k_last rfl) (Eq.trans (k_goto rfl) (Eq.trans (k_pushi 0 rfl rfl) (k_iret rfl trivial)))))))))))
theorem wrT_139 {D : Nat} {q : QQ} {H U : VV} {x1 : Int} {k v : Int} (h : Oc (RUN D 140 (am_en 140 [aR 1 0, aI (iI x1)]) (HM q H)) (cmL [(2, 1)]) q k v U) : Wr (RUN (D + 1) 139 (am_en 139 [aR 1 0, aI (iI x1), aR 44 0]) (HM q H)) q k (i2L v) U := by
  rcases h with ⟨rfl, e⟩ | ⟨h1, h2, j, hj, hk, e⟩
  · exact ⟨_, qup_J q _, fun _ => qJ_at q _, wr_139_ok e (qle_refl q)⟩
  · have hk : (if j = 2 then 1 else 0) = k := hk
    by_cases c2 : j = 2
    · rw [if_pos c2] at hk
      subst hk c2
      exact ⟨_, qup_thr q, fun z => absurd z (by decide), wr_139_2 e (qle_thr q)⟩
    rw [if_neg c2] at hk
    omega
theorem wr_141_2 {D : Nat} {q q' : QQ} {V V' : VV} {x1 : Int} (hc : RUN D 142 (am_en 142 [aR 1 0, aI (iI x1)]) (HM q V) = rX 2 (HM q' V')) (hq : qle q q') : RUN (D + 1) 141 (am_en 141 [aR 1 0, aI (iI x1), aR 44 0]) (HM q V) = rI 1 (HM q' V') :=
  (show RUN (D + 1) 141 (0, [sR 1 0, sI x1, sR 44 0, none], []) (HM q V) = _ from (Eq.trans (k_aload rfl rfl) (Eq.trans (k_pushi 0 rfl rfl) (Eq.trans (k_aload rfl rfl) (Eq.trans (k_iload rfl rfl) (Eq.trans (RUN_ch rfl rfl rfl hc hq rfl rfl (cat_of (nx := 13) (i := 3) (by decide +kernel) rfl)) (Eq.trans (k_pushi 1 rfl rfl) (k_iret rfl trivial))))))))
theorem wr_141_ok {D : Nat} {q q' : QQ} {V V' : VV} {x1 : Int} {v : Int} (hc : RUN D 142 (am_en 142 [aR 1 0, aI (iI x1)]) (HM q V) = rI v (HM q' V')) (hq : qle q q') : RUN (D + 1) 141 (am_en 141 [aR 1 0, aI (iI x1), aR 44 0]) (HM q V) = rI 0 (HM (qJ q' (i2L v)) V') := 
  (show RUN (D + 1) 141 (0, [sR 1 0, sI x1, sR 44 0, none], []) (HM q V) = _ from (Eq.trans (k_aload rfl rfl) (Eq.trans (k_pushi 0 rfl rfl) (Eq.trans (k_aload rfl rfl) (Eq.trans (k_iload rfl rfl) (Eq.trans (RUN_ci rfl rfl rfl hc hq) (Eq.trans (k_i2l rfl) (Eq.trans (k_last rfl) (Eq.trans (k_goto rfl) (Eq.trans (k_pushi 0 rfl rfl) (k_iret rfl trivial)))))))))))
theorem wrT_141 {D : Nat} {q : QQ} {H U : VV} {x1 : Int} {k v : Int} (h : Oc (RUN D 142 (am_en 142 [aR 1 0, aI (iI x1)]) (HM q H)) (cmL [(2, 1)]) q k v U) : Wr (RUN (D + 1) 141 (am_en 141 [aR 1 0, aI (iI x1), aR 44 0]) (HM q H)) q k (i2L v) U := by
  rcases h with ⟨rfl, e⟩ | ⟨h1, h2, j, hj, hk, e⟩
  · exact ⟨_, qup_J q _, fun _ => qJ_at q _, wr_141_ok e (qle_refl q)⟩
  · have hk : (if j = 2 then 1 else 0) = k := hk
    by_cases c2 : j = 2
    · rw [if_pos c2] at hk
      subst hk c2
      exact ⟨_, qup_thr q, fun z => absurd z (by decide), wr_141_2 e (qle_thr q)⟩
    rw [if_neg c2] at hk
    omega
theorem wr_143_2 {D : Nat} {q q' : QQ} {V V' : VV} {x1 x2 : Int} (hc : RUN D 144 (am_en 144 [aR 1 0, aI (iI x1), aI (iI x2)]) (HM q V) = rX 2 (HM q' V')) (hq : qle q q') : RUN (D + 1) 143 (am_en 143 [aR 1 0, aI (iI x1), aI (iI x2), aR 44 0]) (HM q V) = rI 1 (HM q' V') :=
  (show RUN (D + 1) 143 (0, [sR 1 0, sI x1, sI x2, sR 44 0, none], []) (HM q V) = _ from (Eq.trans (k_aload rfl rfl) (Eq.trans (k_pushi 0 rfl rfl) (Eq.trans (k_aload rfl rfl) (Eq.trans (k_iload rfl rfl) (Eq.trans (k_iload rfl rfl) (Eq.trans (RUN_ch rfl rfl rfl hc hq rfl rfl (cat_of (nx := 15) (i := 4) (by decide +kernel) rfl)) (Eq.trans (k_pushi 1 rfl rfl) (k_iret rfl trivial)))))))))
theorem wr_143_3 {D : Nat} {q q' : QQ} {V V' : VV} {x1 x2 : Int} (hc : RUN D 144 (am_en 144 [aR 1 0, aI (iI x1), aI (iI x2)]) (HM q V) = rX 3 (HM q' V')) (hq : qle q q') : RUN (D + 1) 143 (am_en 143 [aR 1 0, aI (iI x1), aI (iI x2), aR 44 0]) (HM q V) = rI 2 (HM q' V') :=
  (show RUN (D + 1) 143 (0, [sR 1 0, sI x1, sI x2, sR 44 0, none], []) (HM q V) = _ from (Eq.trans (k_aload rfl rfl) (Eq.trans (k_pushi 0 rfl rfl) (Eq.trans (k_aload rfl rfl) (Eq.trans (k_iload rfl rfl) (Eq.trans (k_iload rfl rfl) (Eq.trans (RUN_ch rfl rfl rfl hc hq rfl rfl (cat_of (nx := 19) (i := 4) (by decide +kernel) rfl)) (Eq.trans (k_pushi 2 rfl rfl) (k_iret rfl trivial)))))))))
theorem wr_143_ok {D : Nat} {q q' : QQ} {V V' : VV} {x1 x2 : Int} {v : Int} (hc : RUN D 144 (am_en 144 [aR 1 0, aI (iI x1), aI (iI x2)]) (HM q V) = rI v (HM q' V')) (hq : qle q q') : RUN (D + 1) 143 (am_en 143 [aR 1 0, aI (iI x1), aI (iI x2), aR 44 0]) (HM q V) = rI 0 (HM (qJ q' (i2L v)) V') := 
  (show RUN (D + 1) 143 (0, [sR 1 0, sI x1, sI x2, sR 44 0, none], []) (HM q V) = _ from (Eq.trans (k_aload rfl rfl) (Eq.trans (k_pushi 0 rfl rfl) (Eq.trans (k_aload rfl rfl) (Eq.trans (k_iload rfl rfl) (Eq.trans (k_iload rfl rfl) (Eq.trans (RUN_ci rfl rfl rfl hc hq) (Eq.trans (k_i2l rfl) (Eq.trans (k_last rfl) (Eq.trans (k_goto rfl) (Eq.trans (k_pushi 0 rfl rfl) (k_iret rfl trivial))))))))))))
theorem wrT_143 {D : Nat} {q : QQ} {H U : VV} {x1 x2 : Int} {k v : Int} (h : Oc (RUN D 144 (am_en 144 [aR 1 0, aI (iI x1), aI (iI x2)]) (HM q H)) (cmL [(2, 1), (3, 2)]) q k v U) : Wr (RUN (D + 1) 143 (am_en 143 [aR 1 0, aI (iI x1), aI (iI x2), aR 44 0]) (HM q H)) q k (i2L v) U := by
  rcases h with ⟨rfl, e⟩ | ⟨h1, h2, j, hj, hk, e⟩
  · exact ⟨_, qup_J q _, fun _ => qJ_at q _, wr_143_ok e (qle_refl q)⟩
  · have hk : (if j = 2 then 1 else (if j = 3 then 2 else 0)) = k := hk
    by_cases c2 : j = 2
    · rw [if_pos c2] at hk
      subst hk c2
      exact ⟨_, qup_thr q, fun z => absurd z (by decide), wr_143_2 e (qle_thr q)⟩
    rw [if_neg c2] at hk
    by_cases c3 : j = 3
    · rw [if_pos c3] at hk
      subst hk c3
      exact ⟨_, qup_thr q, fun z => absurd z (by decide), wr_143_3 e (qle_thr q)⟩
    rw [if_neg c3] at hk
    omega
theorem wr_146_0 {D : Nat} {q q' : QQ} {V V' : VV} {x1 : Int} (hc : RUN D 147 (am_en 147 [aR 1 0, aI (iI x1)]) (HM q V) = rX 0 (HM q' V')) (hq : qle q q') : RUN (D + 1) 146 (am_en 146 [aR 1 0, aI (iI x1), aR 44 0]) (HM q V) = rI 1 (HM q' V') :=
  (show RUN (D + 1) 146 (0, [sR 1 0, sI x1, sR 44 0, none], []) (HM q V) = _ from (Eq.trans (k_aload rfl rfl) (Eq.trans (k_pushi 0 rfl rfl) (Eq.trans (k_aload rfl rfl) (Eq.trans (k_iload rfl rfl) (Eq.trans (RUN_ch rfl rfl rfl hc hq rfl rfl (cat_of (nx := 13) (i := 3) (by decide +kernel) rfl)) (Eq.trans (k_pushi 1 rfl rfl) (k_iret rfl trivial))))))))
theorem wr_146_ok {D : Nat} {q q' : QQ} {V V' : VV} {x1 : Int} {v : Int} (hc : RUN D 147 (am_en 147 [aR 1 0, aI (iI x1)]) (HM q V) = rI v (HM q' V')) (hq : qle q q') : RUN (D + 1) 146 (am_en 146 [aR 1 0, aI (iI x1), aR 44 0]) (HM q V) = rI 0 (HM (qJ q' (i2L v)) V') := 
  (show RUN (D + 1) 146 (0, [sR 1 0, sI x1, sR 44 0, none], []) (HM q V) = _ from (Eq.trans (k_aload rfl rfl) (Eq.trans (k_pushi 0 rfl rfl) (Eq.trans (k_aload rfl rfl) (Eq.trans (k_iload rfl rfl) (Eq.trans (RUN_ci rfl rfl rfl hc hq) (Eq.trans (k_i2l rfl) (Eq.trans (k_last rfl) (Eq.trans (k_goto rfl) (Eq.trans (k_pushi 0 rfl rfl) (k_iret rfl trivial)))))))))))
theorem wrT_146 {D : Nat} {q : QQ} {H U : VV} {x1 : Int} {k v : Int} (h : Oc (RUN D 147 (am_en 147 [aR 1 0, aI (iI x1)]) (HM q H)) (cmL [(0, 1)]) q k v U) : Wr (RUN (D + 1) 146 (am_en 146 [aR 1 0, aI (iI x1), aR 44 0]) (HM q H)) q k (i2L v) U := by
  rcases h with ⟨rfl, e⟩ | ⟨h1, h2, j, hj, hk, e⟩
  · exact ⟨_, qup_J q _, fun _ => qJ_at q _, wr_146_ok e (qle_refl q)⟩
  · have hk : (if j = 0 then 1 else 0) = k := hk
    by_cases c0 : j = 0
    · rw [if_pos c0] at hk
      subst hk c0
      exact ⟨_, qup_thr q, fun z => absurd z (by decide), wr_146_0 e (qle_thr q)⟩
    rw [if_neg c0] at hk
    omega
theorem wr_148_3 {D : Nat} {q q' : QQ} {V V' : VV} (hc : RUN D 149 (am_en 149 [aR 1 0]) (HM q V) = rX 3 (HM q' V')) (hq : qle q q') : RUN (D + 1) 148 (am_en 148 [aR 1 0, aR 44 0]) (HM q V) = rI 1 (HM q' V') :=
  (show RUN (D + 1) 148 (0, [sR 1 0, sR 44 0, none], []) (HM q V) = _ from (Eq.trans (k_aload rfl rfl) (Eq.trans (k_pushi 0 rfl rfl) (Eq.trans (k_aload rfl rfl) (Eq.trans (RUN_ch rfl rfl rfl hc hq rfl rfl (cat_of (nx := 12) (i := 2) (by decide +kernel) rfl)) (Eq.trans (k_pushi 1 rfl rfl) (k_iret rfl trivial)))))))
theorem wr_148_ok {D : Nat} {q q' : QQ} {V V' : VV} {v : Int} (hc : RUN D 149 (am_en 149 [aR 1 0]) (HM q V) = rI v (HM q' V')) (hq : qle q q') : RUN (D + 1) 148 (am_en 148 [aR 1 0, aR 44 0]) (HM q V) = rI 0 (HM (qJ q' (i2L v)) V') := 
  (show RUN (D + 1) 148 (0, [sR 1 0, sR 44 0, none], []) (HM q V) = _ from (Eq.trans (k_aload rfl rfl) (Eq.trans (k_pushi 0 rfl rfl) (Eq.trans (k_aload rfl rfl) (Eq.trans (RUN_ci rfl rfl rfl hc hq) (Eq.trans (k_i2l rfl) (Eq.trans (k_last rfl) (Eq.trans (k_goto rfl) (Eq.trans (k_pushi 0 rfl rfl) (k_iret rfl trivial))))))))))
theorem wrT_148 {D : Nat} {q : QQ} {H U : VV} {k v : Int} (h : Oc (RUN D 149 (am_en 149 [aR 1 0]) (HM q H)) (cmL [(3, 1)]) q k v U) : Wr (RUN (D + 1) 148 (am_en 148 [aR 1 0, aR 44 0]) (HM q H)) q k (i2L v) U := by
  rcases h with ⟨rfl, e⟩ | ⟨h1, h2, j, hj, hk, e⟩
  · exact ⟨_, qup_J q _, fun _ => qJ_at q _, wr_148_ok e (qle_refl q)⟩
  · have hk : (if j = 3 then 1 else 0) = k := hk
    by_cases c3 : j = 3
    · rw [if_pos c3] at hk
      subst hk c3
      exact ⟨_, qup_thr q, fun z => absurd z (by decide), wr_148_3 e (qle_thr q)⟩
    rw [if_neg c3] at hk
    omega
theorem wr_150_3 {D : Nat} {q q' : QQ} {V V' : VV} (hc : RUN D 151 (am_en 151 [aR 1 0]) (HM q V) = rX 3 (HM q' V')) (hq : qle q q') : RUN (D + 1) 150 (am_en 150 [aR 1 0, aR 44 0]) (HM q V) = rI 1 (HM q' V') :=
  (show RUN (D + 1) 150 (0, [sR 1 0, sR 44 0, none], []) (HM q V) = _ from (Eq.trans (k_aload rfl rfl) (Eq.trans (k_pushi 0 rfl rfl) (Eq.trans (k_aload rfl rfl) (Eq.trans (RUN_ch rfl rfl rfl hc hq rfl rfl (cat_of (nx := 12) (i := 2) (by decide +kernel) rfl)) (Eq.trans (k_pushi 1 rfl rfl) (k_iret rfl trivial)))))))
theorem wr_150_ok {D : Nat} {q q' : QQ} {V V' : VV} {v : Int} (hc : RUN D 151 (am_en 151 [aR 1 0]) (HM q V) = rI v (HM q' V')) (hq : qle q q') : RUN (D + 1) 150 (am_en 150 [aR 1 0, aR 44 0]) (HM q V) = rI 0 (HM (qJ q' (i2L v)) V') := 
  (show RUN (D + 1) 150 (0, [sR 1 0, sR 44 0, none], []) (HM q V) = _ from (Eq.trans (k_aload rfl rfl) (Eq.trans (k_pushi 0 rfl rfl) (Eq.trans (k_aload rfl rfl) (Eq.trans (RUN_ci rfl rfl rfl hc hq) (Eq.trans (k_i2l rfl) (Eq.trans (k_last rfl) (Eq.trans (k_goto rfl) (Eq.trans (k_pushi 0 rfl rfl) (k_iret rfl trivial))))))))))
theorem wrT_150 {D : Nat} {q : QQ} {H U : VV} {k v : Int} (h : Oc (RUN D 151 (am_en 151 [aR 1 0]) (HM q H)) (cmL [(3, 1)]) q k v U) : Wr (RUN (D + 1) 150 (am_en 150 [aR 1 0, aR 44 0]) (HM q H)) q k (i2L v) U := by
  rcases h with ⟨rfl, e⟩ | ⟨h1, h2, j, hj, hk, e⟩
  · exact ⟨_, qup_J q _, fun _ => qJ_at q _, wr_150_ok e (qle_refl q)⟩
  · have hk : (if j = 3 then 1 else 0) = k := hk
    by_cases c3 : j = 3
    · rw [if_pos c3] at hk
      subst hk c3
      exact ⟨_, qup_thr q, fun z => absurd z (by decide), wr_150_3 e (qle_thr q)⟩
    rw [if_neg c3] at hk
    omega
theorem wr_152_5 {D : Nat} {q q' : QQ} {V V' : VV} (hc : RUN D 153 (am_en 153 [aR 1 0]) (HM q V) = rX 5 (HM q' V')) (hq : qle q q') : RUN (D + 1) 152 (am_en 152 [aR 1 0, aR 45 0]) (HM q V) = rI 1 (HM q' V') :=
  (show RUN (D + 1) 152 (0, [sR 1 0, sR 45 0, none], []) (HM q V) = _ from (Eq.trans (k_aload rfl rfl) (Eq.trans (k_pushi 0 rfl rfl) (Eq.trans (k_aload rfl rfl) (Eq.trans (RUN_ch rfl rfl rfl hc hq rfl rfl (cat_of (nx := 11) (i := 2) (by decide +kernel) rfl)) (Eq.trans (k_pushi 1 rfl rfl) (k_iret rfl trivial)))))))
theorem wr_154_5 {D : Nat} {q q' : QQ} {V V' : VV} (hc : RUN D 155 (am_en 155 [aR 1 0]) (HM q V) = rX 5 (HM q' V')) (hq : qle q q') : RUN (D + 1) 154 (am_en 154 [aR 1 0, aR 45 0]) (HM q V) = rI 1 (HM q' V') :=
  (show RUN (D + 1) 154 (0, [sR 1 0, sR 45 0, none], []) (HM q V) = _ from (Eq.trans (k_aload rfl rfl) (Eq.trans (k_pushi 0 rfl rfl) (Eq.trans (k_aload rfl rfl) (Eq.trans (RUN_ch rfl rfl rfl hc hq rfl rfl (cat_of (nx := 12) (i := 2) (by decide +kernel) rfl)) (Eq.trans (k_pushi 1 rfl rfl) (k_iret rfl trivial)))))))
theorem wr_156_2 {D : Nat} {q q' : QQ} {V V' : VV} {x1 : Int} (hc : RUN D 157 (am_en 157 [aR 1 0, aI (iI x1)]) (HM q V) = rX 2 (HM q' V')) (hq : qle q q') : RUN (D + 1) 156 (am_en 156 [aR 1 0, aI (iI x1), aR 44 0]) (HM q V) = rI 1 (HM q' V') :=
  (show RUN (D + 1) 156 (0, [sR 1 0, sI x1, sR 44 0, none], []) (HM q V) = _ from (Eq.trans (k_aload rfl rfl) (Eq.trans (k_pushi 0 rfl rfl) (Eq.trans (k_aload rfl rfl) (Eq.trans (k_iload rfl rfl) (Eq.trans (RUN_ch rfl rfl rfl hc hq rfl rfl (cat_of (nx := 13) (i := 3) (by decide +kernel) rfl)) (Eq.trans (k_pushi 1 rfl rfl) (k_iret rfl trivial))))))))
theorem wr_156_ok {D : Nat} {q q' : QQ} {V V' : VV} {x1 : Int} {v : Int} (hc : RUN D 157 (am_en 157 [aR 1 0, aI (iI x1)]) (HM q V) = rI v (HM q' V')) (hq : qle q q') : RUN (D + 1) 156 (am_en 156 [aR 1 0, aI (iI x1), aR 44 0]) (HM q V) = rI 0 (HM (qJ q' (i2L v)) V') := 
  (show RUN (D + 1) 156 (0, [sR 1 0, sI x1, sR 44 0, none], []) (HM q V) = _ from (Eq.trans (k_aload rfl rfl) (Eq.trans (k_pushi 0 rfl rfl) (Eq.trans (k_aload rfl rfl) (Eq.trans (k_iload rfl rfl) (Eq.trans (RUN_ci rfl rfl rfl hc hq) (Eq.trans (k_i2l rfl) (Eq.trans (k_last rfl) (Eq.trans (k_goto rfl) (Eq.trans (k_pushi 0 rfl rfl) (k_iret rfl trivial)))))))))))
theorem wrT_156 {D : Nat} {q : QQ} {H U : VV} {x1 : Int} {k v : Int} (h : Oc (RUN D 157 (am_en 157 [aR 1 0, aI (iI x1)]) (HM q H)) (cmL [(2, 1)]) q k v U) : Wr (RUN (D + 1) 156 (am_en 156 [aR 1 0, aI (iI x1), aR 44 0]) (HM q H)) q k (i2L v) U := by
  rcases h with ⟨rfl, e⟩ | ⟨h1, h2, j, hj, hk, e⟩
  · exact ⟨_, qup_J q _, fun _ => qJ_at q _, wr_156_ok e (qle_refl q)⟩
  · have hk : (if j = 2 then 1 else 0) = k := hk
    by_cases c2 : j = 2
    · rw [if_pos c2] at hk
      subst hk c2
      exact ⟨_, qup_thr q, fun z => absurd z (by decide), wr_156_2 e (qle_thr q)⟩
    rw [if_neg c2] at hk
    omega
theorem wr_161_2 {D : Nat} {q q' : QQ} {V V' : VV} {x1 x2 : Int} (hc : RUN D 162 (am_en 162 [aR 1 0, aI (iI x1), aI (iI x2)]) (HM q V) = rX 2 (HM q' V')) (hq : qle q q') : RUN (D + 1) 161 (am_en 161 [aR 1 0, aI (iI x1), aI (iI x2), aR 44 0]) (HM q V) = rI 1 (HM q' V') :=
  (show RUN (D + 1) 161 (0, [sR 1 0, sI x1, sI x2, sR 44 0, none], []) (HM q V) = _ from (Eq.trans (k_aload rfl rfl) (Eq.trans (k_pushi 0 rfl rfl) (Eq.trans (k_aload rfl rfl) (Eq.trans (k_iload rfl rfl) (Eq.trans (k_iload rfl rfl) (Eq.trans (RUN_ch rfl rfl rfl hc hq rfl rfl (cat_of (nx := 15) (i := 4) (by decide +kernel) rfl)) (Eq.trans (k_pushi 1 rfl rfl) (k_iret rfl trivial)))))))))
theorem wr_161_3 {D : Nat} {q q' : QQ} {V V' : VV} {x1 x2 : Int} (hc : RUN D 162 (am_en 162 [aR 1 0, aI (iI x1), aI (iI x2)]) (HM q V) = rX 3 (HM q' V')) (hq : qle q q') : RUN (D + 1) 161 (am_en 161 [aR 1 0, aI (iI x1), aI (iI x2), aR 44 0]) (HM q V) = rI 2 (HM q' V') :=
  (show RUN (D + 1) 161 (0, [sR 1 0, sI x1, sI x2, sR 44 0, none], []) (HM q V) = _ from (Eq.trans (k_aload rfl rfl) (Eq.trans (k_pushi 0 rfl rfl) (Eq.trans (k_aload rfl rfl) (Eq.trans (k_iload rfl rfl) (Eq.trans (k_iload rfl rfl) (Eq.trans (RUN_ch rfl rfl rfl hc hq rfl rfl (cat_of (nx := 19) (i := 4) (by decide +kernel) rfl)) (Eq.trans (k_pushi 2 rfl rfl) (k_iret rfl trivial)))))))))
theorem wr_161_ok {D : Nat} {q q' : QQ} {V V' : VV} {x1 x2 : Int} {v : Int} (hc : RUN D 162 (am_en 162 [aR 1 0, aI (iI x1), aI (iI x2)]) (HM q V) = rI v (HM q' V')) (hq : qle q q') : RUN (D + 1) 161 (am_en 161 [aR 1 0, aI (iI x1), aI (iI x2), aR 44 0]) (HM q V) = rI 0 (HM (qJ q' (i2L v)) V') := 
  (show RUN (D + 1) 161 (0, [sR 1 0, sI x1, sI x2, sR 44 0, none], []) (HM q V) = _ from (Eq.trans (k_aload rfl rfl) (Eq.trans (k_pushi 0 rfl rfl) (Eq.trans (k_aload rfl rfl) (Eq.trans (k_iload rfl rfl) (Eq.trans (k_iload rfl rfl) (Eq.trans (RUN_ci rfl rfl rfl hc hq) (Eq.trans (k_i2l rfl) (Eq.trans (k_last rfl) (Eq.trans (k_goto rfl) (Eq.trans (k_pushi 0 rfl rfl) (k_iret rfl trivial))))))))))))
theorem wrT_161 {D : Nat} {q : QQ} {H U : VV} {x1 x2 : Int} {k v : Int} (h : Oc (RUN D 162 (am_en 162 [aR 1 0, aI (iI x1), aI (iI x2)]) (HM q H)) (cmL [(2, 1), (3, 2)]) q k v U) : Wr (RUN (D + 1) 161 (am_en 161 [aR 1 0, aI (iI x1), aI (iI x2), aR 44 0]) (HM q H)) q k (i2L v) U := by
  rcases h with ⟨rfl, e⟩ | ⟨h1, h2, j, hj, hk, e⟩
  · exact ⟨_, qup_J q _, fun _ => qJ_at q _, wr_161_ok e (qle_refl q)⟩
  · have hk : (if j = 2 then 1 else (if j = 3 then 2 else 0)) = k := hk
    by_cases c2 : j = 2
    · rw [if_pos c2] at hk
      subst hk c2
      exact ⟨_, qup_thr q, fun z => absurd z (by decide), wr_161_2 e (qle_thr q)⟩
    rw [if_neg c2] at hk
    by_cases c3 : j = 3
    · rw [if_pos c3] at hk
      subst hk c3
      exact ⟨_, qup_thr q, fun z => absurd z (by decide), wr_161_3 e (qle_thr q)⟩
    rw [if_neg c3] at hk
    omega
theorem wr_163_0 {D : Nat} {q q' : QQ} {V V' : VV} {x1 : Int} (hc : RUN D 164 (am_en 164 [aR 1 0, aI (iI x1)]) (HM q V) = rX 0 (HM q' V')) (hq : qle q q') : RUN (D + 1) 163 (am_en 163 [aR 1 0, aI (iI x1), aR 44 0]) (HM q V) = rI 1 (HM q' V') :=
  (show RUN (D + 1) 163 (0, [sR 1 0, sI x1, sR 44 0, none], []) (HM q V) = _ from (Eq.trans (k_aload rfl rfl) (Eq.trans (k_pushi 0 rfl rfl) (Eq.trans (k_aload rfl rfl) (Eq.trans (k_iload rfl rfl) (Eq.trans (RUN_ch rfl rfl rfl hc hq rfl rfl (cat_of (nx := 13) (i := 3) (by decide +kernel) rfl)) (Eq.trans (k_pushi 1 rfl rfl) (k_iret rfl trivial))))))))
theorem wr_163_ok {D : Nat} {q q' : QQ} {V V' : VV} {x1 : Int} {v : Int} (hc : RUN D 164 (am_en 164 [aR 1 0, aI (iI x1)]) (HM q V) = rI v (HM q' V')) (hq : qle q q') : RUN (D + 1) 163 (am_en 163 [aR 1 0, aI (iI x1), aR 44 0]) (HM q V) = rI 0 (HM (qJ q' (i2L v)) V') := 
  (show RUN (D + 1) 163 (0, [sR 1 0, sI x1, sR 44 0, none], []) (HM q V) = _ from (Eq.trans (k_aload rfl rfl) (Eq.trans (k_pushi 0 rfl rfl) (Eq.trans (k_aload rfl rfl) (Eq.trans (k_iload rfl rfl) (Eq.trans (RUN_ci rfl rfl rfl hc hq) (Eq.trans (k_i2l rfl) (Eq.trans (k_last rfl) (Eq.trans (k_goto rfl) (Eq.trans (k_pushi 0 rfl rfl) (k_iret rfl trivial)))))))))))
theorem wrT_163 {D : Nat} {q : QQ} {H U : VV} {x1 : Int} {k v : Int} (h : Oc (RUN D 164 (am_en 164 [aR 1 0, aI (iI x1)]) (HM q H)) (cmL [(0, 1)]) q k v U) : Wr (RUN (D + 1) 163 (am_en 163 [aR 1 0, aI (iI x1), aR 44 0]) (HM q H)) q k (i2L v) U := by
  rcases h with ⟨rfl, e⟩ | ⟨h1, h2, j, hj, hk, e⟩
  · exact ⟨_, qup_J q _, fun _ => qJ_at q _, wr_163_ok e (qle_refl q)⟩
  · have hk : (if j = 0 then 1 else 0) = k := hk
    by_cases c0 : j = 0
    · rw [if_pos c0] at hk
      subst hk c0
      exact ⟨_, qup_thr q, fun z => absurd z (by decide), wr_163_0 e (qle_thr q)⟩
    rw [if_neg c0] at hk
    omega
theorem wr_165_2 {D : Nat} {q q' : QQ} {V V' : VV} {x1 : Int} (hc : RUN D 166 (am_en 166 [aR 1 0, aI (iI x1)]) (HM q V) = rX 2 (HM q' V')) (hq : qle q q') : RUN (D + 1) 165 (am_en 165 [aR 1 0, aI (iI x1), aR 44 0]) (HM q V) = rI 1 (HM q' V') :=
  (show RUN (D + 1) 165 (0, [sR 1 0, sI x1, sR 44 0, none], []) (HM q V) = _ from (Eq.trans (k_aload rfl rfl) (Eq.trans (k_pushi 0 rfl rfl) (Eq.trans (k_aload rfl rfl) (Eq.trans (k_iload rfl rfl) (Eq.trans (RUN_ch rfl rfl rfl hc hq rfl rfl (cat_of (nx := 13) (i := 3) (by decide +kernel) rfl)) (Eq.trans (k_pushi 1 rfl rfl) (k_iret rfl trivial))))))))
theorem wr_165_ok {D : Nat} {q q' : QQ} {V V' : VV} {x1 : Int} {v : Int} (hc : RUN D 166 (am_en 166 [aR 1 0, aI (iI x1)]) (HM q V) = rI v (HM q' V')) (hq : qle q q') : RUN (D + 1) 165 (am_en 165 [aR 1 0, aI (iI x1), aR 44 0]) (HM q V) = rI 0 (HM (qJ q' (i2L v)) V') := 
  (show RUN (D + 1) 165 (0, [sR 1 0, sI x1, sR 44 0, none], []) (HM q V) = _ from (Eq.trans (k_aload rfl rfl) (Eq.trans (k_pushi 0 rfl rfl) (Eq.trans (k_aload rfl rfl) (Eq.trans (k_iload rfl rfl) (Eq.trans (RUN_ci rfl rfl rfl hc hq) (Eq.trans (k_i2l rfl) (Eq.trans (k_last rfl) (Eq.trans (k_goto rfl) (Eq.trans (k_pushi 0 rfl rfl) (k_iret rfl trivial)))))))))))
theorem wrT_165 {D : Nat} {q : QQ} {H U : VV} {x1 : Int} {k v : Int} (h : Oc (RUN D 166 (am_en 166 [aR 1 0, aI (iI x1)]) (HM q H)) (cmL [(2, 1)]) q k v U) : Wr (RUN (D + 1) 165 (am_en 165 [aR 1 0, aI (iI x1), aR 44 0]) (HM q H)) q k (i2L v) U := by
  rcases h with ⟨rfl, e⟩ | ⟨h1, h2, j, hj, hk, e⟩
  · exact ⟨_, qup_J q _, fun _ => qJ_at q _, wr_165_ok e (qle_refl q)⟩
  · have hk : (if j = 2 then 1 else 0) = k := hk
    by_cases c2 : j = 2
    · rw [if_pos c2] at hk
      subst hk c2
      exact ⟨_, qup_thr q, fun z => absurd z (by decide), wr_165_2 e (qle_thr q)⟩
    rw [if_neg c2] at hk
    omega
theorem wr_167_1 {D : Nat} {q q' : QQ} {V V' : VV} {x1 : Int} (hc : RUN D 168 (am_en 168 [aR 1 0, aI (iI x1)]) (HM q V) = rX 1 (HM q' V')) (hq : qle q q') : RUN (D + 1) 167 (am_en 167 [aR 1 0, aI (iI x1), aR 44 0]) (HM q V) = rI 1 (HM q' V') :=
  (show RUN (D + 1) 167 (0, [sR 1 0, sI x1, sR 44 0, none], []) (HM q V) = _ from (Eq.trans (k_aload rfl rfl) (Eq.trans (k_pushi 0 rfl rfl) (Eq.trans (k_aload rfl rfl) (Eq.trans (k_iload rfl rfl) (Eq.trans (RUN_ch rfl rfl rfl hc hq rfl rfl (cat_of (nx := 13) (i := 3) (by decide +kernel) rfl)) (Eq.trans (k_pushi 1 rfl rfl) (k_iret rfl trivial))))))))
theorem wr_167_ok {D : Nat} {q q' : QQ} {V V' : VV} {x1 : Int} {v : Int} (hc : RUN D 168 (am_en 168 [aR 1 0, aI (iI x1)]) (HM q V) = rI v (HM q' V')) (hq : qle q q') : RUN (D + 1) 167 (am_en 167 [aR 1 0, aI (iI x1), aR 44 0]) (HM q V) = rI 0 (HM (qJ q' (i2L v)) V') := 
  (show RUN (D + 1) 167 (0, [sR 1 0, sI x1, sR 44 0, none], []) (HM q V) = _ from (Eq.trans (k_aload rfl rfl) (Eq.trans (k_pushi 0 rfl rfl) (Eq.trans (k_aload rfl rfl) (Eq.trans (k_iload rfl rfl) (Eq.trans (RUN_ci rfl rfl rfl hc hq) (Eq.trans (k_i2l rfl) (Eq.trans (k_last rfl) (Eq.trans (k_goto rfl) (Eq.trans (k_pushi 0 rfl rfl) (k_iret rfl trivial)))))))))))
theorem wrT_167 {D : Nat} {q : QQ} {H U : VV} {x1 : Int} {k v : Int} (h : Oc (RUN D 168 (am_en 168 [aR 1 0, aI (iI x1)]) (HM q H)) (cmL [(1, 1)]) q k v U) : Wr (RUN (D + 1) 167 (am_en 167 [aR 1 0, aI (iI x1), aR 44 0]) (HM q H)) q k (i2L v) U := by
  rcases h with ⟨rfl, e⟩ | ⟨h1, h2, j, hj, hk, e⟩
  · exact ⟨_, qup_J q _, fun _ => qJ_at q _, wr_167_ok e (qle_refl q)⟩
  · have hk : (if j = 1 then 1 else 0) = k := hk
    by_cases c1 : j = 1
    · rw [if_pos c1] at hk
      subst hk c1
      exact ⟨_, qup_thr q, fun z => absurd z (by decide), wr_167_1 e (qle_thr q)⟩
    rw [if_neg c1] at hk
    omega
theorem wr_170_0 {D : Nat} {q q' : QQ} {V V' : VV} (hc : RUN D 171 (am_en 171 [aR 1 0]) (HM q V) = rX 0 (HM q' V')) (hq : qle q q') : RUN (D + 1) 170 (am_en 170 [aR 1 0, aR 44 0]) (HM q V) = rI 1 (HM q' V') :=
  (show RUN (D + 1) 170 (0, [sR 1 0, sR 44 0, none], []) (HM q V) = _ from (Eq.trans (k_aload rfl rfl) (Eq.trans (k_pushi 0 rfl rfl) (Eq.trans (k_aload rfl rfl) (Eq.trans (RUN_ch rfl rfl rfl hc hq rfl rfl (cat_of (nx := 12) (i := 2) (by decide +kernel) rfl)) (Eq.trans (k_pushi 1 rfl rfl) (k_iret rfl trivial)))))))
theorem wr_170_4 {D : Nat} {q q' : QQ} {V V' : VV} (hc : RUN D 171 (am_en 171 [aR 1 0]) (HM q V) = rX 4 (HM q' V')) (hq : qle q q') : RUN (D + 1) 170 (am_en 170 [aR 1 0, aR 44 0]) (HM q V) = rI 2 (HM q' V') :=
  (show RUN (D + 1) 170 (0, [sR 1 0, sR 44 0, none], []) (HM q V) = _ from (Eq.trans (k_aload rfl rfl) (Eq.trans (k_pushi 0 rfl rfl) (Eq.trans (k_aload rfl rfl) (Eq.trans (RUN_ch rfl rfl rfl hc hq rfl rfl (cat_of (nx := 15) (i := 2) (by decide +kernel) rfl)) (Eq.trans (k_pushi 2 rfl rfl) (k_iret rfl trivial)))))))
theorem wr_170_ok {D : Nat} {q q' : QQ} {V V' : VV} {v : Int} (hc : RUN D 171 (am_en 171 [aR 1 0]) (HM q V) = rI v (HM q' V')) (hq : qle q q') : RUN (D + 1) 170 (am_en 170 [aR 1 0, aR 44 0]) (HM q V) = rI 0 (HM (qJ q' (i2L v)) V') := 
  (show RUN (D + 1) 170 (0, [sR 1 0, sR 44 0, none], []) (HM q V) = _ from (Eq.trans (k_aload rfl rfl) (Eq.trans (k_pushi 0 rfl rfl) (Eq.trans (k_aload rfl rfl) (Eq.trans (RUN_ci rfl rfl rfl hc hq) (Eq.trans (k_i2l rfl) (Eq.trans (k_last rfl) (Eq.trans (k_goto rfl) (Eq.trans (k_pushi 0 rfl rfl) (k_iret rfl trivial))))))))))
theorem wrT_170 {D : Nat} {q : QQ} {H U : VV} {k v : Int} (h : Oc (RUN D 171 (am_en 171 [aR 1 0]) (HM q H)) (cmL [(0, 1), (4, 2)]) q k v U) : Wr (RUN (D + 1) 170 (am_en 170 [aR 1 0, aR 44 0]) (HM q H)) q k (i2L v) U := by
  rcases h with ⟨rfl, e⟩ | ⟨h1, h2, j, hj, hk, e⟩
  · exact ⟨_, qup_J q _, fun _ => qJ_at q _, wr_170_ok e (qle_refl q)⟩
  · have hk : (if j = 0 then 1 else (if j = 4 then 2 else 0)) = k := hk
    by_cases c0 : j = 0
    · rw [if_pos c0] at hk
      subst hk c0
      exact ⟨_, qup_thr q, fun z => absurd z (by decide), wr_170_0 e (qle_thr q)⟩
    rw [if_neg c0] at hk
    by_cases c4 : j = 4
    · rw [if_pos c4] at hk
      subst hk c4
      exact ⟨_, qup_thr q, fun z => absurd z (by decide), wr_170_4 e (qle_thr q)⟩
    rw [if_neg c4] at hk
    omega
theorem wr_198_3 {D : Nat} {q q' : QQ} {V V' : VV} (hc : RUN D 199 (am_en 199 [aR 1 0]) (HM q V) = rX 3 (HM q' V')) (hq : qle q q') : RUN (D + 1) 198 (am_en 198 [aR 1 0, aR 44 0]) (HM q V) = rI 1 (HM q' V') :=
  (show RUN (D + 1) 198 (0, [sR 1 0, sR 44 0, none], []) (HM q V) = _ from (Eq.trans (k_aload rfl rfl) (Eq.trans (k_pushi 0 rfl rfl) (Eq.trans (k_aload rfl rfl) (Eq.trans (RUN_ch rfl rfl rfl hc hq rfl rfl (cat_of (nx := 12) (i := 2) (by decide +kernel) rfl)) (Eq.trans (k_pushi 1 rfl rfl) (k_iret rfl trivial)))))))
theorem wr_198_ok {D : Nat} {q q' : QQ} {V V' : VV} {v : Int} (hc : RUN D 199 (am_en 199 [aR 1 0]) (HM q V) = rI v (HM q' V')) (hq : qle q q') : RUN (D + 1) 198 (am_en 198 [aR 1 0, aR 44 0]) (HM q V) = rI 0 (HM (qJ q' (i2L v)) V') := 
  (show RUN (D + 1) 198 (0, [sR 1 0, sR 44 0, none], []) (HM q V) = _ from (Eq.trans (k_aload rfl rfl) (Eq.trans (k_pushi 0 rfl rfl) (Eq.trans (k_aload rfl rfl) (Eq.trans (RUN_ci rfl rfl rfl hc hq) (Eq.trans (k_i2l rfl) (Eq.trans (k_last rfl) (Eq.trans (k_goto rfl) (Eq.trans (k_pushi 0 rfl rfl) (k_iret rfl trivial))))))))))
theorem wrT_198 {D : Nat} {q : QQ} {H U : VV} {k v : Int} (h : Oc (RUN D 199 (am_en 199 [aR 1 0]) (HM q H)) (cmL [(3, 1)]) q k v U) : Wr (RUN (D + 1) 198 (am_en 198 [aR 1 0, aR 44 0]) (HM q H)) q k (i2L v) U := by
  rcases h with ⟨rfl, e⟩ | ⟨h1, h2, j, hj, hk, e⟩
  · exact ⟨_, qup_J q _, fun _ => qJ_at q _, wr_198_ok e (qle_refl q)⟩
  · have hk : (if j = 3 then 1 else 0) = k := hk
    by_cases c3 : j = 3
    · rw [if_pos c3] at hk
      subst hk c3
      exact ⟨_, qup_thr q, fun z => absurd z (by decide), wr_198_3 e (qle_thr q)⟩
    rw [if_neg c3] at hk
    omega
theorem wr_200_3 {D : Nat} {q q' : QQ} {V V' : VV} (hc : RUN D 201 (am_en 201 [aR 1 0]) (HM q V) = rX 3 (HM q' V')) (hq : qle q q') : RUN (D + 1) 200 (am_en 200 [aR 1 0, aR 44 0]) (HM q V) = rI 1 (HM q' V') :=
  (show RUN (D + 1) 200 (0, [sR 1 0, sR 44 0, none], []) (HM q V) = _ from (Eq.trans (k_aload rfl rfl) (Eq.trans (k_pushi 0 rfl rfl) (Eq.trans (k_aload rfl rfl) (Eq.trans (RUN_ch rfl rfl rfl hc hq rfl rfl (cat_of (nx := 12) (i := 2) (by decide +kernel) rfl)) (Eq.trans (k_pushi 1 rfl rfl) (k_iret rfl trivial)))))))
theorem wr_200_ok {D : Nat} {q q' : QQ} {V V' : VV} {v : Int} (hc : RUN D 201 (am_en 201 [aR 1 0]) (HM q V) = rI v (HM q' V')) (hq : qle q q') : RUN (D + 1) 200 (am_en 200 [aR 1 0, aR 44 0]) (HM q V) = rI 0 (HM (qJ q' (i2L v)) V') := 
  (show RUN (D + 1) 200 (0, [sR 1 0, sR 44 0, none], []) (HM q V) = _ from (Eq.trans (k_aload rfl rfl) (Eq.trans (k_pushi 0 rfl rfl) (Eq.trans (k_aload rfl rfl) (Eq.trans (RUN_ci rfl rfl rfl hc hq) (Eq.trans (k_i2l rfl) (Eq.trans (k_last rfl) (Eq.trans (k_goto rfl) (Eq.trans (k_pushi 0 rfl rfl) (k_iret rfl trivial))))))))))
theorem wrT_200 {D : Nat} {q : QQ} {H U : VV} {k v : Int} (h : Oc (RUN D 201 (am_en 201 [aR 1 0]) (HM q H)) (cmL [(3, 1)]) q k v U) : Wr (RUN (D + 1) 200 (am_en 200 [aR 1 0, aR 44 0]) (HM q H)) q k (i2L v) U := by
  rcases h with ⟨rfl, e⟩ | ⟨h1, h2, j, hj, hk, e⟩
  · exact ⟨_, qup_J q _, fun _ => qJ_at q _, wr_200_ok e (qle_refl q)⟩
  · have hk : (if j = 3 then 1 else 0) = k := hk
    by_cases c3 : j = 3
    · rw [if_pos c3] at hk
      subst hk c3
      exact ⟨_, qup_thr q, fun z => absurd z (by decide), wr_200_3 e (qle_thr q)⟩
    rw [if_neg c3] at hk
    omega
theorem wr_202_1 {D : Nat} {q q' : QQ} {V V' : VV} (hc : RUN D 203 (am_en 203 [aR 1 0]) (HM q V) = rX 1 (HM q' V')) (hq : qle q q') : RUN (D + 1) 202 (am_en 202 [aR 1 0, aR 44 0]) (HM q V) = rI 1 (HM q' V') :=
  (show RUN (D + 1) 202 (0, [sR 1 0, sR 44 0, none], []) (HM q V) = _ from (Eq.trans (k_aload rfl rfl) (Eq.trans (k_pushi 0 rfl rfl) (Eq.trans (k_aload rfl rfl) (Eq.trans (RUN_ch rfl rfl rfl hc hq rfl rfl (cat_of (nx := 12) (i := 2) (by decide +kernel) rfl)) (Eq.trans (k_pushi 1 rfl rfl) (k_iret rfl trivial)))))))
theorem wr_202_ok {D : Nat} {q q' : QQ} {V V' : VV} {v : Int} (hc : RUN D 203 (am_en 203 [aR 1 0]) (HM q V) = rI v (HM q' V')) (hq : qle q q') : RUN (D + 1) 202 (am_en 202 [aR 1 0, aR 44 0]) (HM q V) = rI 0 (HM (qJ q' (i2L v)) V') := 
  (show RUN (D + 1) 202 (0, [sR 1 0, sR 44 0, none], []) (HM q V) = _ from (Eq.trans (k_aload rfl rfl) (Eq.trans (k_pushi 0 rfl rfl) (Eq.trans (k_aload rfl rfl) (Eq.trans (RUN_ci rfl rfl rfl hc hq) (Eq.trans (k_i2l rfl) (Eq.trans (k_last rfl) (Eq.trans (k_goto rfl) (Eq.trans (k_pushi 0 rfl rfl) (k_iret rfl trivial))))))))))
theorem wrT_202 {D : Nat} {q : QQ} {H U : VV} {k v : Int} (h : Oc (RUN D 203 (am_en 203 [aR 1 0]) (HM q H)) (cmL [(1, 1)]) q k v U) : Wr (RUN (D + 1) 202 (am_en 202 [aR 1 0, aR 44 0]) (HM q H)) q k (i2L v) U := by
  rcases h with ⟨rfl, e⟩ | ⟨h1, h2, j, hj, hk, e⟩
  · exact ⟨_, qup_J q _, fun _ => qJ_at q _, wr_202_ok e (qle_refl q)⟩
  · have hk : (if j = 1 then 1 else 0) = k := hk
    by_cases c1 : j = 1
    · rw [if_pos c1] at hk
      subst hk c1
      exact ⟨_, qup_thr q, fun z => absurd z (by decide), wr_202_1 e (qle_thr q)⟩
    rw [if_neg c1] at hk
    omega
theorem wr_205_1 {D : Nat} {q q' : QQ} {V V' : VV} (hc : RUN D 206 (am_en 206 [aR 1 0]) (HM q V) = rX 1 (HM q' V')) (hq : qle q q') : RUN (D + 1) 205 (am_en 205 [aR 1 0, aR 44 0]) (HM q V) = rI 1 (HM q' V') :=
  (show RUN (D + 1) 205 (0, [sR 1 0, sR 44 0, none], []) (HM q V) = _ from (Eq.trans (k_aload rfl rfl) (Eq.trans (k_pushi 0 rfl rfl) (Eq.trans (k_aload rfl rfl) (Eq.trans (RUN_ch rfl rfl rfl hc hq rfl rfl (cat_of (nx := 12) (i := 2) (by decide +kernel) rfl)) (Eq.trans (k_pushi 1 rfl rfl) (k_iret rfl trivial)))))))
theorem wr_205_ok {D : Nat} {q q' : QQ} {V V' : VV} {v : Int} (hc : RUN D 206 (am_en 206 [aR 1 0]) (HM q V) = rI v (HM q' V')) (hq : qle q q') : RUN (D + 1) 205 (am_en 205 [aR 1 0, aR 44 0]) (HM q V) = rI 0 (HM (qJ q' (i2L v)) V') := 
  (show RUN (D + 1) 205 (0, [sR 1 0, sR 44 0, none], []) (HM q V) = _ from (Eq.trans (k_aload rfl rfl) (Eq.trans (k_pushi 0 rfl rfl) (Eq.trans (k_aload rfl rfl) (Eq.trans (RUN_ci rfl rfl rfl hc hq) (Eq.trans (k_i2l rfl) (Eq.trans (k_last rfl) (Eq.trans (k_goto rfl) (Eq.trans (k_pushi 0 rfl rfl) (k_iret rfl trivial))))))))))
theorem wrT_205 {D : Nat} {q : QQ} {H U : VV} {k v : Int} (h : Oc (RUN D 206 (am_en 206 [aR 1 0]) (HM q H)) (cmL [(1, 1)]) q k v U) : Wr (RUN (D + 1) 205 (am_en 205 [aR 1 0, aR 44 0]) (HM q H)) q k (i2L v) U := by
  rcases h with ⟨rfl, e⟩ | ⟨h1, h2, j, hj, hk, e⟩
  · exact ⟨_, qup_J q _, fun _ => qJ_at q _, wr_205_ok e (qle_refl q)⟩
  · have hk : (if j = 1 then 1 else 0) = k := hk
    by_cases c1 : j = 1
    · rw [if_pos c1] at hk
      subst hk c1
      exact ⟨_, qup_thr q, fun z => absurd z (by decide), wr_205_1 e (qle_thr q)⟩
    rw [if_neg c1] at hk
    omega
