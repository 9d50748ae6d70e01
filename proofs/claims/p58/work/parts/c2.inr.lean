/-! segments: c2.inr -/
theorem wi_72 {d : Nat} {q : QQ} {V : VV} {x1 : Int} (rk : rowok V) (k0 : 0 ≤ x1 ∧ x1 < 32) : RUN (d + 2) 72 (am_en 72 [aR 1 0, aI (iI x1)]) (HM q V) = rI (V 3 0 x1) (HM q V) := by
  have hn := rk_n rk
  rw [e_72 rk (by omega), cif_pos k0]
theorem wi_75 {d : Nat} {q : QQ} {V : VV} {x1 : Int} (rk : rowok V) (k0 : (0 ≤ x1) ∧ (x1 < (V 2 0 8))) : RUN (d + 2) 75 (am_en 75 [aR 1 0, aI (iI x1)]) (HM q V) = rI (V 4 0 x1) (HM q V) := by
  have hn := rk_n rk
  rw [e_75 rk (by omega), cif_pos k0]
theorem wi_77 {d : Nat} {q : QQ} {V : VV} {x1 : Int} (rk : rowok V) (k0 : (0 ≤ x1) ∧ (x1 < (V 2 0 8))) : RUN (d + 2) 77 (am_en 77 [aR 1 0, aI (iI x1)]) (HM q V) = rI (eyeV (V 3 0) (V 4 0) (V 5 0) x1) (HM q V) := by
  have hn := rk_n rk
  rw [e_77 rk (by omega), cif_pos k0]
theorem wi_79 {d : Nat} {q : QQ} {V : VV} {x1 : Int} (rk : rowok V) (k0 : (0 ≤ x1) ∧ (x1 < (V 2 0 8))) : RUN (d + 2) 79 (am_en 79 [aR 1 0, aI (iI x1)]) (HM q V) = rI (V 6 0 x1) (HM q V) := by
  have hn := rk_n rk
  rw [e_79 rk (by omega), cif_pos k0]
theorem wi_140 {d : Nat} {q : QQ} {V : VV} {x1 : Int} (rk : rowok V) (k0 : (0 ≤ x1) ∧ (x1 < (V 2 0 8))) : RUN (d + 2) 140 (am_en 140 [aR 1 0, aI (iI x1)]) (HM q V) = rI (V 7 0 x1) (HM q V) := by
  have hn := rk_n rk
  rw [e_140 rk (by omega), cif_pos k0]
theorem wi_142 {d : Nat} {q : QQ} {V : VV} {x1 : Int} (rk : rowok V) (k0 : (0 ≤ x1) ∧ (x1 < (V 2 0 8))) : RUN (d + 2) 142 (am_en 142 [aR 1 0, aI (iI x1)]) (HM q V) = rI (V 8 0 x1) (HM q V) := by
  have hn := rk_n rk
  rw [e_142 rk (by omega), cif_pos k0]
theorem wi_317 {d : Nat} {q : QQ} {V : VV} {x1 : Int} (rk : rowok V) (k0 : 0 ≤ x1 ∧ x1 < 32) : RUN (d + 3) 317 (am_en 317 [aR 1 0, aI (iI x1)]) (HM q V) = rI (V 3 0 x1) (HM q V) := by
  have hn := rk_n rk
  rw [e_317 rk (by omega), cif_pos k0]
theorem wi_315 {d : Nat} {q : QQ} {V : VV} {x1 : Int} (rk : rowok V) (k0 : (0 ≤ x1) ∧ (x1 < (V 2 0 8))) : RUN (d + 3) 315 (am_en 315 [aR 1 0, aI (iI x1)]) (HM q V) = rI (V 4 0 x1) (HM q V) := by
  have hn := rk_n rk
  rw [e_315 rk (by omega), cif_pos k0]
theorem wi_316 {d : Nat} {q : QQ} {V : VV} {x1 : Int} (rk : rowok V) (k0 : (0 ≤ x1) ∧ (x1 < (V 2 0 8))) : RUN (d + 3) 316 (am_en 316 [aR 1 0, aI (iI x1)]) (HM q V) = rI (eyeV (V 3 0) (V 4 0) (V 5 0) x1) (HM q V) := by
  have hn := rk_n rk
  rw [e_316 rk (by omega), cif_pos k0]
theorem wi_326 {d : Nat} {q : QQ} {V : VV} {x1 : Int} (rk : rowok V) (k0 : (0 ≤ x1) ∧ (x1 < (V 2 0 8))) : RUN (d + 3) 326 (am_en 326 [aR 1 0, aI (iI x1)]) (HM q V) = rI (V 6 0 x1) (HM q V) := by
  have hn := rk_n rk
  rw [e_326 rk (by omega), cif_pos k0]
theorem wi_324 {d : Nat} {q : QQ} {V : VV} {x1 : Int} (rk : rowok V) (k0 : (0 ≤ x1) ∧ (x1 < (V 2 0 8))) : RUN (d + 4) 324 (am_en 324 [aR 1 0, aI (iI x1)]) (HM q V) = rI (popF (maskI (seeP (V 3 0) (V 4 0) (V 5 0) x1) 32)) (HM q V) := by
  have hn := rk_n rk
  rw [e_324 rk (by omega), cif_pos k0]
theorem wi_327 {d : Nat} {q : QQ} {V : VV} {x1 : Int} (rk : rowok V) (k0 : 0 ≤ x1 ∧ x1 < 32) : RUN (d + 3) 327 (am_en 327 [aR 1 0, aI (iI x1)]) (HM q V) = rI (cntI (fun t => seeP (V 3 0) (V 4 0) (V 5 0) t x1) (V 2 0 8)) (HM q V) := by
  have hn := rk_n rk
  rw [e_327 rk (by omega), cif_pos k0]
theorem wi_343 {d : Nat} {q : QQ} {V : VV} {x1 : Int} (rk : rowok V) (k0 : (0 ≤ x1) ∧ (x1 < (V 2 0 8))) : RUN (d + 3) 343 (am_en 343 [aR 1 0, aI (iI x1)]) (HM q V) = rI (V 7 0 x1) (HM q V) := by
  have hn := rk_n rk
  rw [e_343 rk (by omega), cif_pos k0]
theorem wi_345 {d : Nat} {q : QQ} {V : VV} {x1 : Int} (rk : rowok V) (k0 : (0 ≤ x1) ∧ (x1 < (V 2 0 8))) : RUN (d + 3) 345 (am_en 345 [aR 1 0, aI (iI x1)]) (HM q V) = rI (V 8 0 x1) (HM q V) := by
  have hn := rk_n rk
  rw [e_345 rk (by omega), cif_pos k0]
theorem wi_321 {d : Nat} {q : QQ} {V : VV} {x1 : Int} {x2 : Int} (rk : rowok V) (k0 : (0 ≤ x1) ∧ (x1 < (V 2 0 8))) (k1 : (0 ≤ x2) ∧ (x2 < (V 2 0 8))) : RUN (d + 4) 321 (am_en 321 [aR 1 0, aI (iI x1), aI (iI x2)]) (HM q V) = rI (b2i (seeT (V 3 0) (V 4 0) (V 5 0) x1 x2)) (HM q V) := by
  have hn := rk_n rk
  rw [e_321 rk (by omega) (by omega), cif_pos k0, cif_pos k1]
  exact cif_eq (fun c => rI1_b c) (fun c => rI0_b c)
theorem wi_320 {d : Nat} {q : QQ} {V : VV} {x1 : Int} {x2 : Int} (rk : rowok V) (k0 : (0 ≤ x1) ∧ (x1 < (V 2 0 8))) (k1 : 0 ≤ x2 ∧ x2 < 32) : RUN (d + 3) 320 (am_en 320 [aR 1 0, aI (iI x1), aI (iI x2)]) (HM q V) = rI (b2i (seeP (V 3 0) (V 4 0) (V 5 0) x1 x2)) (HM q V) := by
  have hn := rk_n rk
  rw [e_320 rk (by omega) (by omega), cif_pos k0, cif_pos k1]
  exact cif_eq (fun c => rI1_b c) (fun c => rI0_b c)
theorem wi_322 {d : Nat} {q : QQ} {V : VV} {x1 : Int} {x2 : Int} (rk : rowok V) (hd : dist0 V) (k0 : (0 ≤ x1) ∧ (x1 < (V 2 0 8))) (k1 : (0 ≤ x2) ∧ (x2 < (V 2 0 8))) : RUN (d + 4) 322 (am_en 322 [aR 1 0, aI (iI x1), aI (iI x2)]) (HM q V) = rI (b2i (seeT (V 3 0) (V 4 0) (V 5 0) x1 x2)) (HM q V) := by
  have hn := rk_n rk
  rw [e_322 rk (by omega) (by omega) (fun a b c => hd _ _ a b c), cif_pos k0, cif_pos k1]
  exact cif_eq (fun c => rI1_b c) (fun c => rI0_b c)
theorem wi_330 {d : Nat} {q : QQ} {V : VV} {x1 : Int} {x2 : Int} (rk : rowok V) (k0 : (0 ≤ x1) ∧ (x1 < (V 2 0 8))) (k1 : (0 ≤ x2) ∧ (x2 < (V 2 0 8))) : RUN (d + 4) 330 (am_en 330 [aR 1 0, aI (iI x1), aI (iI x2)]) (HM q V) = cif (seeT (V 3 0) (V 4 0) (V 5 0) x1 x2) (rI (delT (V 4 0) (V 2 0 9) x1 x2) (HM q V)) (rI (-13) (HM (thr q) V)) := by
  have hn := rk_n rk
  rw [e_330 rk (by omega) (by omega), cif_pos k0, cif_pos k1]
theorem wi_342 {d : Nat} {q : QQ} {V : VV} {x1 : Int} (sm : smok V) (k0 : ¬ (x1 < 97)) (k1 : x1 < 113) : RUN (d + 2) 342 (am_en 342 [aR 1 0, aI (iI x1)]) (HM q V) = rI (V 23 0 (x1 - 97)) (HM q V) := by
  rw [e_342 sm (by omega), cif_neg k0, cif_pos k1]
theorem wi_344 {d : Nat} {q : QQ} {V : VV} {x1 : Int} {x2 : Int} (rk : rowok V) (sm : smok V) (k0 : (0 ≤ x1) ∧ (x1 < (V 2 0 8))) (k1 : ¬ (x2 < 97)) (k2 : x2 < 113) : RUN (d + 3) 344 (am_en 344 [aR 1 0, aI (iI x1), aI (iI x2)]) (HM q V) = rI (sigN (V 6 0 x1) (V 7 0 x1) x2) (HM q V) := by
  have hn := rk_n rk
  rw [e_344 rk sm (by omega) (by omega), cif_pos k0, cif_neg k1, cif_pos k2]
theorem wi_349 {d : Nat} {q : QQ} {V : VV} {x1 : Int} (rk : rowok V) (k0 : ¬ (x1 < 97)) (k1 : x1 < 113) : RUN (d + 2) 349 (am_en 349 [aR 1 0, aI (iI x1)]) (HM q V) = rI (V 10 0 (x1 - 97)) (HM q V) := by
  have hn := rk_n rk
  rw [e_349 rk (by omega), cif_neg k0, cif_pos k1]
theorem wi_339 {d : Nat} {q : QQ} {V : VV} {x1 : Int} (k0 : ¬ (x1 < 0)) (k1 : x1 < 256) : RUN (d + 4) 339 (am_en 339 [aR 1 0, aI (iI x1)]) (HM q V) = cif ((nrD x1) ≤ 1) (cif ((97 + (nrV x1)) = (-1)) (rI (-13) (HM (thr q) V)) (rI ((97 + (nrV x1)) % 65536) (HM q V))) (rI (-13) (HM (thr q) V)) := by
  rw [e_339 (by omega), cif_neg k0, cif_pos k1]
theorem wi_340 {d : Nat} {q : QQ} {V : VV} {x1 : Int} (sm : smok V) (k0 : ¬ (x1 < 0)) (k1 : x1 < 256) : RUN (d + 3) 340 (am_en 340 [aR 1 0, aI (iI x1)]) (HM q V) = cif ((nrD x1) ≤ 1) (cif ((97 + (nrV x1)) = (-1)) (rI (-13) (HM (thr q) V)) (rI ((97 + (nrV x1)) % 65536) (HM q V))) (rI (-13) (HM (thr q) V)) := by
  rw [e_340 sm (by omega), cif_neg k0, cif_pos k1]
theorem wi_341 {d : Nat} {q : QQ} {V : VV} {x1 : Int} (sm : smok V) (k0 : ¬ (x1 < 0)) (k1 : x1 < 256) : RUN (d + 3) 341 (am_en 341 [aR 1 0, aI (iI x1)]) (HM q V) = rI (nrD x1) (HM q V) := by
  rw [e_341 sm (by omega), cif_neg k0, cif_pos k1]
theorem o_315 {d : Nat} {q : QQ} {V : VV} {x1 : Int} (rk : rowok V) (r1 : R32 x1) (k0 : ¬ ((0 ≤ x1) ∧ (x1 < (V 2 0 8)))) : RUN (d + 3) 315 (am_en 315 [aR 1 0, aI (iI x1)]) (HM q V) = rI (-11) (HM (thr q) V) := by
  have hn := rk_n rk
  rw [e_315 rk r1, cif_neg k0]
theorem o_316 {d : Nat} {q : QQ} {V : VV} {x1 : Int} (rk : rowok V) (r1 : R32 x1) (k0 : ¬ ((0 ≤ x1) ∧ (x1 < (V 2 0 8)))) : RUN (d + 3) 316 (am_en 316 [aR 1 0, aI (iI x1)]) (HM q V) = rI (-11) (HM (thr q) V) := by
  have hn := rk_n rk
  rw [e_316 rk r1, cif_neg k0]
theorem o_326 {d : Nat} {q : QQ} {V : VV} {x1 : Int} (rk : rowok V) (r1 : R32 x1) (k0 : ¬ ((0 ≤ x1) ∧ (x1 < (V 2 0 8)))) : RUN (d + 3) 326 (am_en 326 [aR 1 0, aI (iI x1)]) (HM q V) = rI (-11) (HM (thr q) V) := by
  have hn := rk_n rk
  rw [e_326 rk r1, cif_neg k0]
theorem o_321 {d : Nat} {q : QQ} {V : VV} {x1 : Int} {x2 : Int} (rk : rowok V) (r1 : R32 x1) (r2 : R32 x2) (k0 : ¬ ((0 ≤ x1) ∧ (x1 < (V 2 0 8)))) : RUN (d + 4) 321 (am_en 321 [aR 1 0, aI (iI x1), aI (iI x2)]) (HM q V) = rI (-11) (HM (thr q) V) := by
  have hn := rk_n rk
  rw [e_321 rk r1 r2, cif_neg k0]
theorem o_320 {d : Nat} {q : QQ} {V : VV} {x1 : Int} {x2 : Int} (rk : rowok V) (r1 : R32 x1) (r2 : R32 x2) (k0 : ¬ ((0 ≤ x1) ∧ (x1 < (V 2 0 8)))) : RUN (d + 3) 320 (am_en 320 [aR 1 0, aI (iI x1), aI (iI x2)]) (HM q V) = rI (-11) (HM (thr q) V) := by
  have hn := rk_n rk
  rw [e_320 rk r1 r2, cif_neg k0]
theorem o_324 {d : Nat} {q : QQ} {V : VV} {x1 : Int} (rk : rowok V) (r1 : R32 x1) (k0 : ¬ ((0 ≤ x1) ∧ (x1 < (V 2 0 8)))) : RUN (d + 4) 324 (am_en 324 [aR 1 0, aI (iI x1)]) (HM q V) = rI (-11) (HM (thr q) V) := by
  have hn := rk_n rk
  rw [e_324 rk r1, cif_neg k0]
theorem o_327 {d : Nat} {q : QQ} {V : VV} {x1 : Int} (rk : rowok V) (r1 : R32 x1) (k0 : ¬ (0 ≤ x1 ∧ x1 < 32)) : RUN (d + 3) 327 (am_en 327 [aR 1 0, aI (iI x1)]) (HM q V) = rI (-12) (HM (thr q) V) := by
  have hn := rk_n rk
  rw [e_327 rk r1, cif_neg k0]
theorem o_317 {d : Nat} {q : QQ} {V : VV} {x1 : Int} (rk : rowok V) (r1 : R32 x1) (k0 : ¬ (0 ≤ x1 ∧ x1 < 32)) : RUN (d + 3) 317 (am_en 317 [aR 1 0, aI (iI x1)]) (HM q V) = rI (-12) (HM (thr q) V) := by
  have hn := rk_n rk
  rw [e_317 rk r1, cif_neg k0]
theorem o_325 {d : Nat} {q : QQ} {V : VV} {x1 : Int} (rk : rowok V) (r1 : R32 x1) (k0 : ¬ (0 ≤ x1 ∧ x1 < 32)) : RUN (d + 3) 325 (am_en 325 [aR 1 0, aI (iI x1)]) (HM q V) = rI (-12) (HM (thr q) V) := by
  have hn := rk_n rk
  rw [e_325 rk r1, cif_neg k0]
theorem o_330 {d : Nat} {q : QQ} {V : VV} {x1 : Int} {x2 : Int} (rk : rowok V) (r1 : R32 x1) (r2 : R32 x2) (k0 : ¬ ((0 ≤ x1) ∧ (x1 < (V 2 0 8)))) : RUN (d + 4) 330 (am_en 330 [aR 1 0, aI (iI x1), aI (iI x2)]) (HM q V) = rI (-11) (HM (thr q) V) := by
  have hn := rk_n rk
  rw [e_330 rk r1 r2, cif_neg k0]
theorem o_331 {d : Nat} {q : QQ} {V : VV} {x1 : Int} {x2 : Int} (rk : rowok V) (rl : relok V) (r2 : R32 x1) (r3 : R32 x2) (k0 : ¬ ((0 ≤ x1) ∧ (x1 < (V 2 0 8)))) : RUN (d + 6) 331 (am_en 331 [aR 1 0, aI (iI x1), aI (iI x2)]) (HM q V) = rI (-11) (HM (thr q) V) := by
  have hn := rk_n rk
  rw [e_331 rk rl r2 r3, cif_neg k0]
theorem o_333 {d : Nat} {q : QQ} {V : VV} {x1 : Int} {x2 : Int} (rk : rowok V) (rl : relok V) (r2 : R32 x1) (r3 : R32 x2) (p4 : ((0 ≤ x1) ∧ (x1 < (V 2 0 8))) → ((0 ≤ x2) ∧ (x2 < (V 2 0 8))) → (spR (V 2 0 8) (cE V) (cW V) x2 x1) → (R32 (spD (V 2 0 8) (cE V) (cW V) x2 x1))) (k0 : ¬ ((0 ≤ x1) ∧ (x1 < (V 2 0 8)))) : RUN (d + 5) 333 (am_en 333 [aR 1 0, aI (iI x1), aI (iI x2)]) (HM q V) = rI (-11) (HM (thr q) V) := by
  have hn := rk_n rk
  rw [e_333 rk rl r2 r3 p4, cif_neg k0]
theorem o_332 {d : Nat} {q : QQ} {V : VV} {x1 : Int} {x2 : Int} (rk : rowok V) (rl : relok V) (r2 : R32 x1) (r3 : R32 x2) (k0 : ¬ ((0 ≤ x1) ∧ (x1 < (V 2 0 8)))) : RUN (d + 6) 332 (am_en 332 [aR 1 0, aI (iI x1), aI (iI x2)]) (HM q V) = rI (-11) (HM (thr q) V) := by
  have hn := rk_n rk
  rw [e_332 rk rl r2 r3, cif_neg k0]
theorem o_335 {d : Nat} {q : QQ} {V : VV} {x1 : Int} {x2 : Int} {x3 : Int} (rk : rowok V) (rl : relok V) (r2 : R32 x1) (r3 : R32 x2) (r4 : R32 x3) (r5 : R32 ((foundV V x1 x2) 15 0 6)) (p6 : ((0 ≤ x1) ∧ (x1 < (V 2 0 8))) → ((0 ≤ x2) ∧ (x2 < (V 2 0 8))) → (spR (V 2 0 8) (cE V) (cW V) x2 x1) → (¬ (x3 < 0)) → (x3 < ((foundV V x1 x2) 15 0 6)) → (0 ≤ x3 ∧ x3 < 8)) (k0 : ¬ ((0 ≤ x1) ∧ (x1 < (V 2 0 8)))) : RUN (d + 6) 335 (am_en 335 [aR 1 0, aI (iI x1), aI (iI x2), aI (iI x3)]) (HM q V) = rI (-11) (HM (thr q) V) := by
  have hn := rk_n rk
  rw [e_335 rk rl r2 r3 r4 r5 p6, cif_neg k0]
theorem o_343 {d : Nat} {q : QQ} {V : VV} {x1 : Int} (rk : rowok V) (r1 : R32 x1) (k0 : ¬ ((0 ≤ x1) ∧ (x1 < (V 2 0 8)))) : RUN (d + 3) 343 (am_en 343 [aR 1 0, aI (iI x1)]) (HM q V) = rI (-11) (HM (thr q) V) := by
  have hn := rk_n rk
  rw [e_343 rk r1, cif_neg k0]
theorem o_345 {d : Nat} {q : QQ} {V : VV} {x1 : Int} (rk : rowok V) (r1 : R32 x1) (k0 : ¬ ((0 ≤ x1) ∧ (x1 < (V 2 0 8)))) : RUN (d + 3) 345 (am_en 345 [aR 1 0, aI (iI x1)]) (HM q V) = rI (-11) (HM (thr q) V) := by
  have hn := rk_n rk
  rw [e_345 rk r1, cif_neg k0]
theorem o_346 {d : Nat} {q : QQ} {V : VV} {x1 : Int} {x2 : Int} (rk : rowok V) (r1 : R32 x1) (r2 : R32 x2) (p3 : ((0 ≤ x1) ∧ (x1 < (V 2 0 8))) → (¬ (x2 < 0)) → (x2 < (V 8 0 x1)) → (0 ≤ (((V 8 0 x1) - 1) - x2) ∧ (((V 8 0 x1) - 1) - x2) < 8)) (k0 : ¬ ((0 ≤ x1) ∧ (x1 < (V 2 0 8)))) : RUN (d + 3) 346 (am_en 346 [aR 1 0, aI (iI x1), aI (iI x2)]) (HM q V) = rI (-11) (HM (thr q) V) := by
  have hn := rk_n rk
  rw [e_346 rk r1 r2 p3, cif_neg k0]
theorem o_344 {d : Nat} {q : QQ} {V : VV} {x1 : Int} {x2 : Int} (rk : rowok V) (sm : smok V) (r2 : R32 x1) (r3 : R32 x2) (k0 : ¬ ((0 ≤ x1) ∧ (x1 < (V 2 0 8)))) : RUN (d + 3) 344 (am_en 344 [aR 1 0, aI (iI x1), aI (iI x2)]) (HM q V) = rI (-11) (HM (thr q) V) := by
  have hn := rk_n rk
  rw [e_344 rk sm r2 r3, cif_neg k0]
theorem o_322 {d : Nat} {q : QQ} {V : VV} {x1 : Int} {x2 : Int} (rk : rowok V) (r1 : R32 x1) (r2 : R32 x2) (k0 : (0 ≤ x1) ∧ (x1 < (V 2 0 8))) (k1 : ¬ ((0 ≤ x2) ∧ (x2 < (V 2 0 8)))) : RUN (d + 4) 322 (am_en 322 [aR 1 0, aI (iI x1), aI (iI x2)]) (HM q V) = rI (-11) (HM (thr q) V) := by
  have hn := rk_n rk
  rw [e_322 rk r1 r2 (fun a b => absurd b k1), cif_pos k0, cif_neg k1]
theorem p_320 {d : Nat} {q : QQ} {V : VV} {x1 : Int} {x2 : Int} (rk : rowok V) (r1 : R32 x1) (r2 : R32 x2) (k0 : (0 ≤ x1) ∧ (x1 < (V 2 0 8))) (k1 : ¬ (0 ≤ x2 ∧ x2 < 32)) : RUN (d + 3) 320 (am_en 320 [aR 1 0, aI (iI x1), aI (iI x2)]) (HM q V) = rI (-12) (HM (thr q) V) := by
  have hn := rk_n rk
  rw [e_320 rk r1 r2, cif_pos k0, cif_neg k1]
theorem o_323 {d : Nat} {q : QQ} {V : VV} {x1 : Int} (rk : rowok V) (r1 : R32 x1) (k0 : (fstI (rankIs (V 3 0) (V 4 0) (V 5 0) (V 2 0 8) x1) (V 2 0 8)) = (-1)) : RUN (d + 4) 323 (am_en 323 [aR 1 0, aI (iI x1)]) (HM q V) = rI (-13) (HM (thr q) V) := by
  have hn := rk_n rk
  rw [e_323 rk r1, cif_pos k0]
theorem o_342 {d : Nat} {q : QQ} {V : VV} {x1 : Int} (sm : smok V) (r1 : R32 x1) (k0 : x1 < 97) : RUN (d + 2) 342 (am_en 342 [aR 1 0, aI (iI x1)]) (HM q V) = rI (-12) (HM (thr q) V) := by
  rw [e_342 sm r1, cif_pos k0]
theorem p_342 {d : Nat} {q : QQ} {V : VV} {x1 : Int} (sm : smok V) (r1 : R32 x1) (k0 : ¬ (x1 < 97)) (k1 : ¬ (x1 < 113)) : RUN (d + 2) 342 (am_en 342 [aR 1 0, aI (iI x1)]) (HM q V) = rI (-12) (HM (thr q) V) := by
  rw [e_342 sm r1, cif_neg k0, cif_neg k1]
theorem o_349 {d : Nat} {q : QQ} {V : VV} {x1 : Int} (rk : rowok V) (r1 : R32 x1) (k0 : x1 < 97) : RUN (d + 2) 349 (am_en 349 [aR 1 0, aI (iI x1)]) (HM q V) = rI (-12) (HM (thr q) V) := by
  have hn := rk_n rk
  rw [e_349 rk r1, cif_pos k0]
theorem p_349 {d : Nat} {q : QQ} {V : VV} {x1 : Int} (rk : rowok V) (r1 : R32 x1) (k0 : ¬ (x1 < 97)) (k1 : ¬ (x1 < 113)) : RUN (d + 2) 349 (am_en 349 [aR 1 0, aI (iI x1)]) (HM q V) = rI (-12) (HM (thr q) V) := by
  have hn := rk_n rk
  rw [e_349 rk r1, cif_neg k0, cif_neg k1]
theorem o_339 {d : Nat} {q : QQ} {V : VV} {x1 : Int} (r0 : R32 x1) (k0 : ¬ (x1 < 0)) (k1 : ¬ (x1 < 256)) : RUN (d + 4) 339 (am_en 339 [aR 1 0, aI (iI x1)]) (HM q V) = rI (-12) (HM (thr q) V) := by
  rw [e_339 r0, cif_neg k0, cif_neg k1]
theorem o_341 {d : Nat} {q : QQ} {V : VV} {x1 : Int} (sm : smok V) (r1 : R32 x1) (k0 : ¬ (x1 < 0)) (k1 : ¬ (x1 < 256)) : RUN (d + 3) 341 (am_en 341 [aR 1 0, aI (iI x1)]) (HM q V) = rI (-12) (HM (thr q) V) := by
  rw [e_341 sm r1, cif_neg k0, cif_neg k1]
theorem o_340 {d : Nat} {q : QQ} {V : VV} {x1 : Int} (sm : smok V) (r1 : R32 x1) (k0 : x1 < 0) : RUN (d + 3) 340 (am_en 340 [aR 1 0, aI (iI x1)]) (HM q V) = rI (-12) (HM (thr q) V) := by
  rw [e_340 sm r1, cif_pos k0]
theorem p_344 {d : Nat} {q : QQ} {V : VV} {x1 : Int} {x2 : Int} (rk : rowok V) (sm : smok V) (r2 : R32 x1) (r3 : R32 x2) (k0 : (0 ≤ x1) ∧ (x1 < (V 2 0 8))) (k1 : ¬ (x2 < 97)) (k2 : ¬ (x2 < 113)) : RUN (d + 3) 344 (am_en 344 [aR 1 0, aI (iI x1), aI (iI x2)]) (HM q V) = rI (-12) (HM (thr q) V) := by
  have hn := rk_n rk
  rw [e_344 rk sm r2 r3, cif_pos k0, cif_neg k1, cif_neg k2]
theorem p_331 {d : Nat} {q : QQ} {V : VV} {x1 : Int} {x2 : Int} (rk : rowok V) (rl : relok V) (r2 : R32 x1) (r3 : R32 x2) (k0 : (0 ≤ x1) ∧ (x1 < (V 2 0 8))) (k1 : ¬ ((0 ≤ x2) ∧ (x2 < (V 2 0 8)))) : RUN (d + 6) 331 (am_en 331 [aR 1 0, aI (iI x1), aI (iI x2)]) (HM q V) = rI (-11) (HM (thr q) V) := by
  have hn := rk_n rk
  rw [e_331 rk rl r2 r3, cif_pos k0, cif_neg k1]
theorem p_332 {d : Nat} {q : QQ} {V : VV} {x1 : Int} {x2 : Int} (rk : rowok V) (rl : relok V) (r2 : R32 x1) (r3 : R32 x2) (k0 : (0 ≤ x1) ∧ (x1 < (V 2 0 8))) (k1 : ¬ ((0 ≤ x2) ∧ (x2 < (V 2 0 8)))) : RUN (d + 6) 332 (am_en 332 [aR 1 0, aI (iI x1), aI (iI x2)]) (HM q V) = rI (-11) (HM (thr q) V) := by
  have hn := rk_n rk
  rw [e_332 rk rl r2 r3, cif_pos k0, cif_neg k1]
theorem p_333 {d : Nat} {q : QQ} {V : VV} {x1 : Int} {x2 : Int} (rk : rowok V) (rl : relok V) (r2 : R32 x1) (r3 : R32 x2) (k0 : (0 ≤ x1) ∧ (x1 < (V 2 0 8))) (k1 : ¬ ((0 ≤ x2) ∧ (x2 < (V 2 0 8)))) : RUN (d + 5) 333 (am_en 333 [aR 1 0, aI (iI x1), aI (iI x2)]) (HM q V) = rI (-11) (HM (thr q) V) := by
  have hn := rk_n rk
  rw [e_333 rk rl r2 r3 (fun a b => absurd b k1), cif_pos k0, cif_neg k1]
/-- the towers that see a position -/
def sawBy (g p h : Int → Int) (k t : Int) : Prop := seeP g p h t k
theorem wi_327b {d : Nat} {q : QQ} {V : VV} {x1 : Int} (rk : rowok V) (k0 : 0 ≤ x1 ∧ x1 < 32) : RUN (d + 3) 327 (am_en 327 [aR 1 0, aI (iI x1)]) (HM q V) = rI (cntI (sawBy (V 3 0) (V 4 0) (V 5 0) x1) (V 2 0 8)) (HM q V) := wi_327 rk k0
