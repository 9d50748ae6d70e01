/-! segments: c2.inr -/
theorem w_72 {d : Nat} {q : QQ} {V : VV} {x1 : Int} (rk : rowok V) (k0 : 0 ≤ x1 ∧ x1 < 32) : RUN (d + 2) 72 (am_en 72 [aR 1 0, aI (iI x1)]) (HM q V) = rI (V 3 0 x1) (HM q V) := by
  have hn := rk_n rk
  rw [e_72 rk (by omega), cif_pos k0]
theorem w_75 {d : Nat} {q : QQ} {V : VV} {x1 : Int} (rk : rowok V) (k0 : (0 ≤ x1) ∧ (x1 < (V 2 0 8))) : RUN (d + 2) 75 (am_en 75 [aR 1 0, aI (iI x1)]) (HM q V) = rI (V 4 0 x1) (HM q V) := by
  have hn := rk_n rk
  rw [e_75 rk (by omega), cif_pos k0]
theorem w_77 {d : Nat} {q : QQ} {V : VV} {x1 : Int} (rk : rowok V) (k0 : (0 ≤ x1) ∧ (x1 < (V 2 0 8))) : RUN (d + 2) 77 (am_en 77 [aR 1 0, aI (iI x1)]) (HM q V) = rI (eyeV (V 3 0) (V 4 0) (V 5 0) x1) (HM q V) := by
  have hn := rk_n rk
  rw [e_77 rk (by omega), cif_pos k0]
theorem w_79 {d : Nat} {q : QQ} {V : VV} {x1 : Int} (rk : rowok V) (k0 : (0 ≤ x1) ∧ (x1 < (V 2 0 8))) : RUN (d + 2) 79 (am_en 79 [aR 1 0, aI (iI x1)]) (HM q V) = rI (V 6 0 x1) (HM q V) := by
  have hn := rk_n rk
  rw [e_79 rk (by omega), cif_pos k0]
theorem w_140 {d : Nat} {q : QQ} {V : VV} {x1 : Int} (rk : rowok V) (k0 : (0 ≤ x1) ∧ (x1 < (V 2 0 8))) : RUN (d + 2) 140 (am_en 140 [aR 1 0, aI (iI x1)]) (HM q V) = rI (V 7 0 x1) (HM q V) := by
  have hn := rk_n rk
  rw [e_140 rk (by omega), cif_pos k0]
theorem w_142 {d : Nat} {q : QQ} {V : VV} {x1 : Int} (rk : rowok V) (k0 : (0 ≤ x1) ∧ (x1 < (V 2 0 8))) : RUN (d + 2) 142 (am_en 142 [aR 1 0, aI (iI x1)]) (HM q V) = rI (V 8 0 x1) (HM q V) := by
  have hn := rk_n rk
  rw [e_142 rk (by omega), cif_pos k0]
theorem w_317 {d : Nat} {q : QQ} {V : VV} {x1 : Int} (rk : rowok V) (k0 : 0 ≤ x1 ∧ x1 < 32) : RUN (d + 3) 317 (am_en 317 [aR 1 0, aI (iI x1)]) (HM q V) = rI (V 3 0 x1) (HM q V) := by
  have hn := rk_n rk
  rw [e_317 rk (by omega), cif_pos k0]
theorem w_315 {d : Nat} {q : QQ} {V : VV} {x1 : Int} (rk : rowok V) (k0 : (0 ≤ x1) ∧ (x1 < (V 2 0 8))) : RUN (d + 3) 315 (am_en 315 [aR 1 0, aI (iI x1)]) (HM q V) = rI (V 4 0 x1) (HM q V) := by
  have hn := rk_n rk
  rw [e_315 rk (by omega), cif_pos k0]
theorem w_316 {d : Nat} {q : QQ} {V : VV} {x1 : Int} (rk : rowok V) (k0 : (0 ≤ x1) ∧ (x1 < (V 2 0 8))) : RUN (d + 3) 316 (am_en 316 [aR 1 0, aI (iI x1)]) (HM q V) = rI (eyeV (V 3 0) (V 4 0) (V 5 0) x1) (HM q V) := by
  have hn := rk_n rk
  rw [e_316 rk (by omega), cif_pos k0]
theorem w_326 {d : Nat} {q : QQ} {V : VV} {x1 : Int} (rk : rowok V) (k0 : (0 ≤ x1) ∧ (x1 < (V 2 0 8))) : RUN (d + 3) 326 (am_en 326 [aR 1 0, aI (iI x1)]) (HM q V) = rI (V 6 0 x1) (HM q V) := by
  have hn := rk_n rk
  rw [e_326 rk (by omega), cif_pos k0]
theorem w_324 {d : Nat} {q : QQ} {V : VV} {x1 : Int} (rk : rowok V) (k0 : (0 ≤ x1) ∧ (x1 < (V 2 0 8))) : RUN (d + 4) 324 (am_en 324 [aR 1 0, aI (iI x1)]) (HM q V) = rI (popF (maskI (seeP (V 3 0) (V 4 0) (V 5 0) x1) 32)) (HM q V) := by
  have hn := rk_n rk
  rw [e_324 rk (by omega), cif_pos k0]
theorem w_327 {d : Nat} {q : QQ} {V : VV} {x1 : Int} (rk : rowok V) (k0 : 0 ≤ x1 ∧ x1 < 32) : RUN (d + 3) 327 (am_en 327 [aR 1 0, aI (iI x1)]) (HM q V) = rI (cntI (fun t => seeP (V 3 0) (V 4 0) (V 5 0) t x1) (V 2 0 8)) (HM q V) := by
  have hn := rk_n rk
  rw [e_327 rk (by omega), cif_pos k0]
theorem w_343 {d : Nat} {q : QQ} {V : VV} {x1 : Int} (rk : rowok V) (k0 : (0 ≤ x1) ∧ (x1 < (V 2 0 8))) : RUN (d + 3) 343 (am_en 343 [aR 1 0, aI (iI x1)]) (HM q V) = rI (V 7 0 x1) (HM q V) := by
  have hn := rk_n rk
  rw [e_343 rk (by omega), cif_pos k0]
theorem w_345 {d : Nat} {q : QQ} {V : VV} {x1 : Int} (rk : rowok V) (k0 : (0 ≤ x1) ∧ (x1 < (V 2 0 8))) : RUN (d + 3) 345 (am_en 345 [aR 1 0, aI (iI x1)]) (HM q V) = rI (V 8 0 x1) (HM q V) := by
  have hn := rk_n rk
  rw [e_345 rk (by omega), cif_pos k0]
theorem w_321 {d : Nat} {q : QQ} {V : VV} {x1 : Int} {x2 : Int} (rk : rowok V) (k0 : (0 ≤ x1) ∧ (x1 < (V 2 0 8))) (k1 : (0 ≤ x2) ∧ (x2 < (V 2 0 8))) : RUN (d + 4) 321 (am_en 321 [aR 1 0, aI (iI x1), aI (iI x2)]) (HM q V) = rI (b2i (seeT (V 3 0) (V 4 0) (V 5 0) x1 x2)) (HM q V) := by
  have hn := rk_n rk
  rw [e_321 rk (by omega) (by omega), cif_pos k0, cif_pos k1]
  exact cif_eq (fun c => rI1_b c) (fun c => rI0_b c)
theorem w_320 {d : Nat} {q : QQ} {V : VV} {x1 : Int} {x2 : Int} (rk : rowok V) (k0 : (0 ≤ x1) ∧ (x1 < (V 2 0 8))) (k1 : 0 ≤ x2 ∧ x2 < 32) : RUN (d + 3) 320 (am_en 320 [aR 1 0, aI (iI x1), aI (iI x2)]) (HM q V) = rI (b2i (seeP (V 3 0) (V 4 0) (V 5 0) x1 x2)) (HM q V) := by
  have hn := rk_n rk
  rw [e_320 rk (by omega) (by omega), cif_pos k0, cif_pos k1]
  exact cif_eq (fun c => rI1_b c) (fun c => rI0_b c)
theorem w_322 {d : Nat} {q : QQ} {V : VV} {x1 : Int} {x2 : Int} (rk : rowok V) (hd : dist0 V) (k0 : (0 ≤ x1) ∧ (x1 < (V 2 0 8))) (k1 : (0 ≤ x2) ∧ (x2 < (V 2 0 8))) : RUN (d + 4) 322 (am_en 322 [aR 1 0, aI (iI x1), aI (iI x2)]) (HM q V) = rI (b2i (seeT (V 3 0) (V 4 0) (V 5 0) x1 x2)) (HM q V) := by
  have hn := rk_n rk
  rw [e_322 rk (by omega) (by omega) (fun a b c => hd _ _ a b c), cif_pos k0, cif_pos k1]
  exact cif_eq (fun c => rI1_b c) (fun c => rI0_b c)
theorem w_330 {d : Nat} {q : QQ} {V : VV} {x1 : Int} {x2 : Int} (rk : rowok V) (k0 : (0 ≤ x1) ∧ (x1 < (V 2 0 8))) (k1 : (0 ≤ x2) ∧ (x2 < (V 2 0 8))) : RUN (d + 4) 330 (am_en 330 [aR 1 0, aI (iI x1), aI (iI x2)]) (HM q V) = cif (seeT (V 3 0) (V 4 0) (V 5 0) x1 x2) (rI (delT (V 4 0) (V 2 0 9) x1 x2) (HM q V)) (rI (-13) (HM (thr q) V)) := by
  have hn := rk_n rk
  rw [e_330 rk (by omega) (by omega), cif_pos k0, cif_pos k1]
theorem w_342 {d : Nat} {q : QQ} {V : VV} {x1 : Int} (sm : smok V) (k0 : ¬ (x1 < 97)) (k1 : x1 < 113) : RUN (d + 2) 342 (am_en 342 [aR 1 0, aI (iI x1)]) (HM q V) = rI (V 23 0 (x1 - 97)) (HM q V) := by
  rw [e_342 sm (by omega), cif_neg k0, cif_pos k1]
theorem w_344 {d : Nat} {q : QQ} {V : VV} {x1 : Int} {x2 : Int} (rk : rowok V) (sm : smok V) (k0 : (0 ≤ x1) ∧ (x1 < (V 2 0 8))) (k1 : ¬ (x2 < 97)) (k2 : x2 < 113) : RUN (d + 3) 344 (am_en 344 [aR 1 0, aI (iI x1), aI (iI x2)]) (HM q V) = rI (sigN (V 6 0 x1) (V 7 0 x1) x2) (HM q V) := by
  have hn := rk_n rk
  rw [e_344 rk sm (by omega) (by omega), cif_pos k0, cif_neg k1, cif_pos k2]
theorem w_349 {d : Nat} {q : QQ} {V : VV} {x1 : Int} (rk : rowok V) (k0 : ¬ (x1 < 97)) (k1 : x1 < 113) : RUN (d + 2) 349 (am_en 349 [aR 1 0, aI (iI x1)]) (HM q V) = rI (V 10 0 (x1 - 97)) (HM q V) := by
  have hn := rk_n rk
  rw [e_349 rk (by omega), cif_neg k0, cif_pos k1]
theorem w_339 {d : Nat} {q : QQ} {V : VV} {x1 : Int} (k0 : ¬ (x1 < 0)) (k1 : x1 < 256) : RUN (d + 4) 339 (am_en 339 [aR 1 0, aI (iI x1)]) (HM q V) = cif ((nrD x1) ≤ 1) (cif ((97 + (nrV x1)) = (-1)) (rI (-13) (HM (thr q) V)) (rI ((97 + (nrV x1)) % 65536) (HM q V))) (rI (-13) (HM (thr q) V)) := by
  rw [e_339 (by omega), cif_neg k0, cif_pos k1]
theorem w_340 {d : Nat} {q : QQ} {V : VV} {x1 : Int} (sm : smok V) (k0 : ¬ (x1 < 0)) (k1 : x1 < 256) : RUN (d + 3) 340 (am_en 340 [aR 1 0, aI (iI x1)]) (HM q V) = cif ((nrD x1) ≤ 1) (cif ((97 + (nrV x1)) = (-1)) (rI (-13) (HM (thr q) V)) (rI ((97 + (nrV x1)) % 65536) (HM q V))) (rI (-13) (HM (thr q) V)) := by
  rw [e_340 sm (by omega), cif_neg k0, cif_pos k1]
theorem w_341 {d : Nat} {q : QQ} {V : VV} {x1 : Int} (sm : smok V) (k0 : ¬ (x1 < 0)) (k1 : x1 < 256) : RUN (d + 3) 341 (am_en 341 [aR 1 0, aI (iI x1)]) (HM q V) = rI (nrD x1) (HM q V) := by
  rw [e_341 sm (by omega), cif_neg k0, cif_pos k1]
