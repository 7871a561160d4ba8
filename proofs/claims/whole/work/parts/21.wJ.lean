set_option maxHeartbeats 4000000 in
set_option maxRecDepth 100000 in
theorem w_F_mX11_goes_589 {p : Program} {l : Launch} {e : Env} {s : State} {m : MethodId} {args : Array Value} {below : List Frame} {meth : Method} {c : Code} {D : va_G} {C : Nat → ClassId} {A adK adV : Nat → Nat} (hA : apA A 33) (cx : Cxx D C adK adV (fxA A 33) p s m args meth c cX11_goes 8 RX11 none) {res : St} {b101 : St → Option St} (hb101 : ∀  (σ : St) (H : Heap) (locs : List Loc) (ls : Array Slot), b101 σ = some res → lv_has ls 8 [(0, .ref (A 0))] → va_P D vwCl (wM A C σ) H → va_S (fxA A 33) s.heap H locs → W p l e rm_X11_goes s m args below meth c H locs 0 0 (MQ below (Qcx D (wM A C) (fxA A 33) none res) args s 0 0 (fxA A 33)) (F0 m 101 ls [])) : ∀ (x5 : Int32) (σ : St) (H : Heap) (locs : List Loc) (ls : Array Slot), F_mX11_goes_589 b101 x5 σ = some res → lv_has ls 8 [(0, .ref (A 0)), (5, .int x5)] → va_P D vwCl (wM A C σ) H → va_S (fxA A 33) s.heap H locs → W p l e rm_X11_goes s m args below meth c H locs 0 0 (MQ below (Qcx D (wM A C) (fxA A 33) none res) args s 0 0 (fxA A 33)) (F0 m 589 ls []) := by
  obtain ⟨hx, hb, hml, hown, hts, hK, hr, hlk, hZ⟩ := id cx
  intro x5 σ H locs ls hf hl hP hS
  refine lv_aload_n hx hb dX11_goes_589 rfl (lv_at hl 0 rfl) ?_
  refine lv_dup hx hb dX11_goes_590 rfl ?_
  refine gM_0_35 hx hb hts hown hK hP (v := (σ.1 20)) rfl (hts _ kw_742) dX11_goes_591 ?_
  refine lv_iconst (v := 1) hx hb dX11_goes_594 (by decide) ?_
  refine lv_iadd hx hb dX11_goes_595 ?_
  refine pM_0_35 hx hb hts hown hK hP hA hS (hts _ kw_742) dX11_goes_596 (fun H locs hP hS => ?_)
  refine lv_goto (tgt := 621) hx hb dX11_goes_599 (by decide) ?_
  refine lv_aload_n hx hb dX11_goes_621 rfl (lv_at hl 0 rfl) ?_
  refine lv_iload hx hb dX11_goes_622 (lv_at hl 1 rfl) ?_
  refine pM_0_34 hx hb hts hown hK hP hA hS (hts _ kw_741) dX11_goes_624 (fun H locs hP hS => ?_)
  refine lv_goto (tgt := 101) hx hb dX11_goes_627 (by decide) ?_
  have hP : va_P D vwCl (wM A C (sI (sI σ 19 x5) 20 ((σ.1 20) + 1))) H := hP
  exact hb101  _ _ _ _ hf (lv_sub hl [0] rfl) hP hS
set_option maxHeartbeats 4000000 in
set_option maxRecDepth 100000 in
theorem w_F_mX11_goes_370 {p : Program} {l : Launch} {e : Env} {s : State} {m : MethodId} {args : Array Value} {below : List Frame} {meth : Method} {c : Code} {D : va_G} {C : Nat → ClassId} {A adK adV : Nat → Nat} (hA : apA A 33) (cx : Cxx D C adK adV (fxA A 33) p s m args meth c cX11_goes 8 RX11 none) {res : St} {b101 : St → Option St} (hb101 : ∀  (σ : St) (H : Heap) (locs : List Loc) (ls : Array Slot), b101 σ = some res → lv_has ls 8 [(0, .ref (A 0))] → va_P D vwCl (wM A C σ) H → va_S (fxA A 33) s.heap H locs → W p l e rm_X11_goes s m args below meth c H locs 0 0 (MQ below (Qcx D (wM A C) (fxA A 33) none res) args s 0 0 (fxA A 33)) (F0 m 101 ls [])) : ∀ (x3 : Int32) (x4 : Int32) (x5 : Int32) (x6 : Int32) (σ : St) (H : Heap) (locs : List Loc) (ls : Array Slot), F_mX11_goes_370 b101 x3 x4 x5 x6 σ = some res → lv_has ls 8 [(0, .ref (A 0)), (3, .int x3), (4, .int x4), (5, .int x5), (6, .int x6)] → va_P D vwCl (wM A C σ) H → va_S (fxA A 33) s.heap H locs → W p l e rm_X11_goes s m args below meth c H locs 0 0 (MQ below (Qcx D (wM A C) (fxA A 33) none res) args s 0 0 (fxA A 33)) (F0 m 370 ls []) := by
  obtain ⟨hx, hb, hml, hown, hts, hK, hr, hlk, hZ⟩ := id cx
  intro x3 x4 x5 x6 σ H locs ls hf hl hP hS
  refine lv_aload_n hx hb dX11_goes_370 rfl (lv_at hl 0 rfl) ?_
  refine lv_dup hx hb dX11_goes_371 rfl ?_
  refine gM_0_36 hx hb hts hown hK hP (v := (σ.1 21)) rfl (hts _ kw_743) dX11_goes_372 ?_
  refine lv_iload hx hb dX11_goes_375 (lv_at hl 4 rfl) ?_
  refine lv_iadd hx hb dX11_goes_377 ?_
  refine pM_0_36 hx hb hts hown hK hP hA hS (hts _ kw_743) dX11_goes_378 (fun H locs hP hS => ?_)
  refine lv_aload_n hx hb dX11_goes_381 rfl (lv_at hl 0 rfl) ?_
  refine lv_dup hx hb dX11_goes_382 rfl ?_
  refine gM_0_37 hx hb hts hown hK hP (v := (σ.1 22)) rfl (hts _ kw_744) dX11_goes_383 ?_
  refine lv_iload hx hb dX11_goes_386 (lv_at hl 4 rfl) ?_
  refine lv_iadd hx hb dX11_goes_388 ?_
  refine pM_0_37 hx hb hts hown hK hP hA hS (hts _ kw_744) dX11_goes_389 (fun H locs hP hS => ?_)
  refine lv_iload_n hx hb dX11_goes_392 rfl (lv_at hl 1 rfl) ?_
  by_cases c1 : x3 = 1
  · have hf := (if_pos c1).symm.trans hf
    refine lv_tableIn (tgt := 444) hx hb dX11_goes_393 (by rw [c1]; decide) (by rw [c1]; decide) (by rw [c1]; rfl) (by decide) ?_
    refine lv_aload_n hx hb dX11_goes_444 rfl (lv_at hl 0 rfl) ?_
    refine lv_aload_n hx hb dX11_goes_445 rfl (lv_at hl 0 rfl) ?_
    refine gM_0_30 hx hb hts hown hK hP (hts _ kw_167) dX11_goes_446 ?_
    refine lv_iload hx hb dX11_goes_449 (lv_at hl 2 rfl) ?_
    obtain ⟨z2, hf⟩ := gd_some hf
    refine gM_a14 hx hb hK hP (ib_in z2) (v := (σ.2.1 14 x4.toNatClampNeg)) rfl dX11_goes_451 ?_
    refine pM_0_33 hx hb hts hown hK hP hA hS (hts _ kw_740) dX11_goes_452 (fun H locs hP hS => ?_)
    refine lv_goto (tgt := 621) hx hb dX11_goes_455 (by decide) ?_
    refine lv_aload_n hx hb dX11_goes_621 rfl (lv_at hl 0 rfl) ?_
    refine lv_iload hx hb dX11_goes_622 (lv_at hl 3 rfl) ?_
    refine pM_0_34 hx hb hts hown hK hP hA hS (hts _ kw_741) dX11_goes_624 (fun H locs hP hS => ?_)
    refine lv_goto (tgt := 101) hx hb dX11_goes_627 (by decide) ?_
    have hP : va_P D vwCl (wM A C (sI (sI (sI (sI σ 18 (σ.2.1 14 x4.toNatClampNeg)) 19 x5) 21 ((σ.1 21) + x6)) 22 ((σ.1 22) + x6))) H := hP
    exact hb101  _ _ _ _ hf (lv_sub hl [0] rfl) hP hS
  have hf := (if_neg c1).symm.trans hf
  by_cases c3 : x3 = 2
  · have hf := (if_pos c3).symm.trans hf
    refine lv_tableIn (tgt := 458) hx hb dX11_goes_393 (by rw [c3]; decide) (by rw [c3]; decide) (by rw [c3]; rfl) (by decide) ?_
    refine lv_aload_n hx hb dX11_goes_458 rfl (lv_at hl 0 rfl) ?_
    refine lv_dup hx hb dX11_goes_459 rfl ?_
    refine gM_0_33 hx hb hts hown hK hP (v := (σ.1 18)) rfl (hts _ kw_740) dX11_goes_460 ?_
    refine lv_aload_n hx hb dX11_goes_463 rfl (lv_at hl 0 rfl) ?_
    refine gM_0_30 hx hb hts hown hK hP (hts _ kw_167) dX11_goes_464 ?_
    refine lv_iload hx hb dX11_goes_467 (lv_at hl 2 rfl) ?_
    obtain ⟨z4, hf⟩ := gd_some hf
    refine gM_a14 hx hb hK hP (ib_in z4) (v := (σ.2.1 14 x4.toNatClampNeg)) rfl dX11_goes_469 ?_
    refine lv_iadd hx hb dX11_goes_470 ?_
    refine pM_0_33 hx hb hts hown hK hP hA hS (hts _ kw_740) dX11_goes_471 (fun H locs hP hS => ?_)
    refine lv_goto (tgt := 621) hx hb dX11_goes_474 (by decide) ?_
    refine lv_aload_n hx hb dX11_goes_621 rfl (lv_at hl 0 rfl) ?_
    refine lv_iload hx hb dX11_goes_622 (lv_at hl 3 rfl) ?_
    refine pM_0_34 hx hb hts hown hK hP hA hS (hts _ kw_741) dX11_goes_624 (fun H locs hP hS => ?_)
    refine lv_goto (tgt := 101) hx hb dX11_goes_627 (by decide) ?_
    have hP : va_P D vwCl (wM A C (sI (sI (sI (sI σ 18 ((σ.1 18) + (σ.2.1 14 x4.toNatClampNeg))) 19 x5) 21 ((σ.1 21) + x6)) 22 ((σ.1 22) + x6))) H := hP
    exact hb101  _ _ _ _ hf (lv_sub hl [0] rfl) hP hS
  have hf := (if_neg c3).symm.trans hf
  by_cases c5 : x3 = 3
  · have hf := (if_pos c5).symm.trans hf
    refine lv_tableIn (tgt := 477) hx hb dX11_goes_393 (by rw [c5]; decide) (by rw [c5]; decide) (by rw [c5]; rfl) (by decide) ?_
    refine lv_aload_n hx hb dX11_goes_477 rfl (lv_at hl 0 rfl) ?_
    refine lv_dup hx hb dX11_goes_478 rfl ?_
    refine gM_0_33 hx hb hts hown hK hP (v := (σ.1 18)) rfl (hts _ kw_740) dX11_goes_479 ?_
    refine lv_aload_n hx hb dX11_goes_482 rfl (lv_at hl 0 rfl) ?_
    refine gM_0_30 hx hb hts hown hK hP (hts _ kw_167) dX11_goes_483 ?_
    refine lv_iload hx hb dX11_goes_486 (lv_at hl 2 rfl) ?_
    obtain ⟨z6, hf⟩ := gd_some hf
    refine gM_a14 hx hb hK hP (ib_in z6) (v := (σ.2.1 14 x4.toNatClampNeg)) rfl dX11_goes_488 ?_
    refine lv_isub hx hb dX11_goes_489 ?_
    refine pM_0_33 hx hb hts hown hK hP hA hS (hts _ kw_740) dX11_goes_490 (fun H locs hP hS => ?_)
    refine lv_goto (tgt := 621) hx hb dX11_goes_493 (by decide) ?_
    refine lv_aload_n hx hb dX11_goes_621 rfl (lv_at hl 0 rfl) ?_
    refine lv_iload hx hb dX11_goes_622 (lv_at hl 3 rfl) ?_
    refine pM_0_34 hx hb hts hown hK hP hA hS (hts _ kw_741) dX11_goes_624 (fun H locs hP hS => ?_)
    refine lv_goto (tgt := 101) hx hb dX11_goes_627 (by decide) ?_
    have hP : va_P D vwCl (wM A C (sI (sI (sI (sI σ 18 ((σ.1 18) - (σ.2.1 14 x4.toNatClampNeg))) 19 x5) 21 ((σ.1 21) + x6)) 22 ((σ.1 22) + x6))) H := hP
    exact hb101  _ _ _ _ hf (lv_sub hl [0] rfl) hP hS
  have hf := (if_neg c5).symm.trans hf
  by_cases c7 : x3 = 4
  · have hf := (if_pos c7).symm.trans hf
    refine lv_tableIn (tgt := 496) hx hb dX11_goes_393 (by rw [c7]; decide) (by rw [c7]; decide) (by rw [c7]; rfl) (by decide) ?_
    refine lv_aload_n hx hb dX11_goes_496 rfl (lv_at hl 0 rfl) ?_
    refine lv_dup hx hb dX11_goes_497 rfl ?_
    refine gM_0_33 hx hb hts hown hK hP (v := (σ.1 18)) rfl (hts _ kw_740) dX11_goes_498 ?_
    refine lv_aload_n hx hb dX11_goes_501 rfl (lv_at hl 0 rfl) ?_
    refine gM_0_30 hx hb hts hown hK hP (hts _ kw_167) dX11_goes_502 ?_
    refine lv_iload hx hb dX11_goes_505 (lv_at hl 2 rfl) ?_
    obtain ⟨z8, hf⟩ := gd_some hf
    refine gM_a14 hx hb hK hP (ib_in z8) (v := (σ.2.1 14 x4.toNatClampNeg)) rfl dX11_goes_507 ?_
    refine lv_imul hx hb dX11_goes_508 ?_
    refine pM_0_33 hx hb hts hown hK hP hA hS (hts _ kw_740) dX11_goes_509 (fun H locs hP hS => ?_)
    refine lv_goto (tgt := 621) hx hb dX11_goes_512 (by decide) ?_
    refine lv_aload_n hx hb dX11_goes_621 rfl (lv_at hl 0 rfl) ?_
    refine lv_iload hx hb dX11_goes_622 (lv_at hl 3 rfl) ?_
    refine pM_0_34 hx hb hts hown hK hP hA hS (hts _ kw_741) dX11_goes_624 (fun H locs hP hS => ?_)
    refine lv_goto (tgt := 101) hx hb dX11_goes_627 (by decide) ?_
    have hP : va_P D vwCl (wM A C (sI (sI (sI (sI σ 18 ((σ.1 18) * (σ.2.1 14 x4.toNatClampNeg))) 19 x5) 21 ((σ.1 21) + x6)) 22 ((σ.1 22) + x6))) H := hP
    exact hb101  _ _ _ _ hf (lv_sub hl [0] rfl) hP hS
  have hf := (if_neg c7).symm.trans hf
  by_cases c9 : x3 = 5
  · have hf := (if_pos c9).symm.trans hf
    refine lv_tableIn (tgt := 515) hx hb dX11_goes_393 (by rw [c9]; decide) (by rw [c9]; decide) (by rw [c9]; rfl) (by decide) ?_
    refine lv_aload_n hx hb dX11_goes_515 rfl (lv_at hl 0 rfl) ?_
    refine gM_0_30 hx hb hts hown hK hP (hts _ kw_167) dX11_goes_516 ?_
    refine lv_iload hx hb dX11_goes_519 (lv_at hl 2 rfl) ?_
    refine lv_aload_n hx hb dX11_goes_521 rfl (lv_at hl 0 rfl) ?_
    refine gM_0_33 hx hb hts hown hK hP (v := (σ.1 18)) rfl (hts _ kw_740) dX11_goes_522 ?_
    obtain ⟨z10, hf⟩ := gd_some hf
    refine pM_a14 hx hb hK hP hA hS (ib_in z10) dX11_goes_525 (fun H locs hP hS => ?_)
    refine lv_goto (tgt := 621) hx hb dX11_goes_526 (by decide) ?_
    refine lv_aload_n hx hb dX11_goes_621 rfl (lv_at hl 0 rfl) ?_
    refine lv_iload hx hb dX11_goes_622 (lv_at hl 3 rfl) ?_
    refine pM_0_34 hx hb hts hown hK hP hA hS (hts _ kw_741) dX11_goes_624 (fun H locs hP hS => ?_)
    refine lv_goto (tgt := 101) hx hb dX11_goes_627 (by decide) ?_
    have hP : va_P D vwCl (wM A C (sA (sI (sI (sI σ 19 x5) 21 ((σ.1 21) + x6)) 22 ((σ.1 22) + x6)) 14 (upd (σ.2.1 14) x4.toNatClampNeg (σ.1 18)))) H := hP
    exact hb101  _ _ _ _ hf (lv_sub hl [0] rfl) hP hS
  have hf := (if_neg c9).symm.trans hf
  by_cases c11 : x3 = 6
  · have hf := (if_pos c11).symm.trans hf
    refine lv_tableIn (tgt := 529) hx hb dX11_goes_393 (by rw [c11]; decide) (by rw [c11]; decide) (by rw [c11]; rfl) (by decide) ?_
    refine lv_aload_n hx hb dX11_goes_529 rfl (lv_at hl 0 rfl) ?_
    refine gM_0_33 hx hb hts hown hK hP (v := (σ.1 18)) rfl (hts _ kw_740) dX11_goes_530 ?_
    refine lv_if_ge (tgt := 541) hx hb dX11_goes_533 (by decide) (fun c12 => ?_) (fun c12 => ?_)
    · have hf := (if_pos c12).symm.trans hf
      refine lv_iload hx hb dX11_goes_541 (lv_at hl 3 rfl) ?_
      refine lv_istore (lv' := [(5, .int x5), (0, .ref (A 0)), (3, .int x3), (4, .int x4), (6, .int x6)]) hx hb dX11_goes_543 hl (by decide) rfl (fun ls hl => ?_)
      refine lv_goto (tgt := 621) hx hb dX11_goes_545 (by decide) ?_
      refine lv_aload_n hx hb dX11_goes_621 rfl (lv_at hl 1 rfl) ?_
      refine lv_iload hx hb dX11_goes_622 (lv_at hl 0 rfl) ?_
      refine pM_0_34 hx hb hts hown hK hP hA hS (hts _ kw_741) dX11_goes_624 (fun H locs hP hS => ?_)
      refine lv_goto (tgt := 101) hx hb dX11_goes_627 (by decide) ?_
      have hP : va_P D vwCl (wM A C (sI (sI (sI σ 19 x5) 21 ((σ.1 21) + x6)) 22 ((σ.1 22) + x6))) H := hP
      exact hb101  _ _ _ _ hf (lv_sub hl [1] rfl) hP hS
    · have hf := (if_neg c12).symm.trans hf
      refine lv_iload hx hb dX11_goes_536 (lv_at hl 2 rfl) ?_
      refine lv_goto (tgt := 543) hx hb dX11_goes_538 (by decide) ?_
      refine lv_istore (lv' := [(5, .int x4), (0, .ref (A 0)), (3, .int x3), (4, .int x4), (6, .int x6)]) hx hb dX11_goes_543 hl (by decide) rfl (fun ls hl => ?_)
      refine lv_goto (tgt := 621) hx hb dX11_goes_545 (by decide) ?_
      refine lv_aload_n hx hb dX11_goes_621 rfl (lv_at hl 1 rfl) ?_
      refine lv_iload hx hb dX11_goes_622 (lv_at hl 0 rfl) ?_
      refine pM_0_34 hx hb hts hown hK hP hA hS (hts _ kw_741) dX11_goes_624 (fun H locs hP hS => ?_)
      refine lv_goto (tgt := 101) hx hb dX11_goes_627 (by decide) ?_
      have hP : va_P D vwCl (wM A C (sI (sI (sI σ 19 x4) 21 ((σ.1 21) + x6)) 22 ((σ.1 22) + x6))) H := hP
      exact hb101  _ _ _ _ hf (lv_sub hl [1] rfl) hP hS
  have hf := (if_neg c11).symm.trans hf
  by_cases c13 : x3 = 7
  · have hf := (if_pos c13).symm.trans hf
    refine lv_tableIn (tgt := 548) hx hb dX11_goes_393 (by rw [c13]; decide) (by rw [c13]; decide) (by rw [c13]; rfl) (by decide) ?_
    refine lv_aload_n hx hb dX11_goes_548 rfl (lv_at hl 0 rfl) ?_
    refine gM_0_33 hx hb hts hown hK hP (v := (σ.1 18)) rfl (hts _ kw_740) dX11_goes_549 ?_
    refine lv_if_ne (tgt := 560) hx hb dX11_goes_552 (by decide) (fun c14 => ?_) (fun c14 => ?_)
    · have hf := (if_neg c14).symm.trans hf
      refine lv_iload hx hb dX11_goes_560 (lv_at hl 3 rfl) ?_
      refine lv_istore (lv' := [(5, .int x5), (0, .ref (A 0)), (3, .int x3), (4, .int x4), (6, .int x6)]) hx hb dX11_goes_562 hl (by decide) rfl (fun ls hl => ?_)
      refine lv_goto (tgt := 621) hx hb dX11_goes_564 (by decide) ?_
      refine lv_aload_n hx hb dX11_goes_621 rfl (lv_at hl 1 rfl) ?_
      refine lv_iload hx hb dX11_goes_622 (lv_at hl 0 rfl) ?_
      refine pM_0_34 hx hb hts hown hK hP hA hS (hts _ kw_741) dX11_goes_624 (fun H locs hP hS => ?_)
      refine lv_goto (tgt := 101) hx hb dX11_goes_627 (by decide) ?_
      have hP : va_P D vwCl (wM A C (sI (sI (sI σ 19 x5) 21 ((σ.1 21) + x6)) 22 ((σ.1 22) + x6))) H := hP
      exact hb101  _ _ _ _ hf (lv_sub hl [1] rfl) hP hS
    · have hf := (if_pos c14).symm.trans hf
      refine lv_iload hx hb dX11_goes_555 (lv_at hl 2 rfl) ?_
      refine lv_goto (tgt := 562) hx hb dX11_goes_557 (by decide) ?_
      refine lv_istore (lv' := [(5, .int x4), (0, .ref (A 0)), (3, .int x3), (4, .int x4), (6, .int x6)]) hx hb dX11_goes_562 hl (by decide) rfl (fun ls hl => ?_)
      refine lv_goto (tgt := 621) hx hb dX11_goes_564 (by decide) ?_
      refine lv_aload_n hx hb dX11_goes_621 rfl (lv_at hl 1 rfl) ?_
      refine lv_iload hx hb dX11_goes_622 (lv_at hl 0 rfl) ?_
      refine pM_0_34 hx hb hts hown hK hP hA hS (hts _ kw_741) dX11_goes_624 (fun H locs hP hS => ?_)
      refine lv_goto (tgt := 101) hx hb dX11_goes_627 (by decide) ?_
      have hP : va_P D vwCl (wM A C (sI (sI (sI σ 19 x4) 21 ((σ.1 21) + x6)) 22 ((σ.1 22) + x6))) H := hP
      exact hb101  _ _ _ _ hf (lv_sub hl [1] rfl) hP hS
  have hf := (if_neg c13).symm.trans hf
  by_cases c15 : x3 = 8
  · have hf := (if_pos c15).symm.trans hf
    refine lv_tableIn (tgt := 567) hx hb dX11_goes_393 (by rw [c15]; decide) (by rw [c15]; decide) (by rw [c15]; rfl) (by decide) ?_
    refine lv_aload_n hx hb dX11_goes_567 rfl (lv_at hl 0 rfl) ?_
    refine gM_0_35 hx hb hts hown hK hP (v := (σ.1 20)) rfl (hts _ kw_742) dX11_goes_568 ?_
    refine lv_bipush (v := 100) hx hb dX11_goes_571 (by decide) ?_
    refine lv_icmp_ge (tgt := 589) hx hb dX11_goes_573 (by decide) (fun c16 => ?_) (fun c16 => ?_)
    · have hf := (if_pos c16).symm.trans hf
      have hP : va_P D vwCl (wM A C (sI (sI σ 21 ((σ.1 21) + x6)) 22 ((σ.1 22) + x6))) H := hP
      exact w_F_mX11_goes_589 hA cx hb101 _ _ _ _ _ hf (lv_sub hl [0, 3] rfl) hP hS
    · have hf := (if_neg c16).symm.trans hf
      refine lv_aload_n hx hb dX11_goes_576 rfl (lv_at hl 0 rfl) ?_
      refine gM_0_38 hx hb hts hown hK hP (hts _ kw_168) dX11_goes_577 ?_
      refine lv_aload_n hx hb dX11_goes_580 rfl (lv_at hl 0 rfl) ?_
      refine gM_0_35 hx hb hts hown hK hP (v := (σ.1 20)) rfl (hts _ kw_742) dX11_goes_581 ?_
      refine lv_aload_n hx hb dX11_goes_584 rfl (lv_at hl 0 rfl) ?_
      refine gM_0_33 hx hb hts hown hK hP (v := (σ.1 18)) rfl (hts _ kw_740) dX11_goes_585 ?_
      obtain ⟨z17, hf⟩ := gd_some hf
      refine pM_a15 hx hb hK hP hA hS (ib_in z17) dX11_goes_588 (fun H locs hP hS => ?_)
      have hP : va_P D vwCl (wM A C (sA (sI (sI σ 21 ((σ.1 21) + x6)) 22 ((σ.1 22) + x6)) 15 (upd (σ.2.1 15) (σ.1 20).toNatClampNeg (σ.1 18)))) H := hP
      exact w_F_mX11_goes_589 hA cx hb101 _ _ _ _ _ hf (lv_sub hl [0, 3] rfl) hP hS
  have hf := (if_neg c15).symm.trans hf
  by_cases c18 : x3 = 9
  · have hf := (if_pos c18).symm.trans hf
    refine lv_tableIn (tgt := 602) hx hb dX11_goes_393 (by rw [c18]; decide) (by rw [c18]; decide) (by rw [c18]; rfl) (by decide) ?_
    refine lv_aload_n hx hb dX11_goes_602 rfl (lv_at hl 0 rfl) ?_
    refine lv_aload_n hx hb dX11_goes_603 rfl (lv_at hl 0 rfl) ?_
    refine gM_0_33 hx hb hts hown hK hP (v := (σ.1 18)) rfl (hts _ kw_740) dX11_goes_604 ?_
    refine lv_iconst (v := 2) hx hb dX11_goes_607 (by decide) ?_
    refine lv_idiv hx hb dX11_goes_608 (by decide) ?_
    refine pM_0_33 hx hb hts hown hK hP hA hS (hts _ kw_740) dX11_goes_609 (fun H locs hP hS => ?_)
    refine lv_goto (tgt := 621) hx hb dX11_goes_612 (by decide) ?_
    refine lv_aload_n hx hb dX11_goes_621 rfl (lv_at hl 0 rfl) ?_
    refine lv_iload hx hb dX11_goes_622 (lv_at hl 3 rfl) ?_
    refine pM_0_34 hx hb hts hown hK hP hA hS (hts _ kw_741) dX11_goes_624 (fun H locs hP hS => ?_)
    refine lv_goto (tgt := 101) hx hb dX11_goes_627 (by decide) ?_
    have hP : va_P D vwCl (wM A C (sI (sI (sI (sI σ 18 ((σ.1 18) / 2)) 19 x5) 21 ((σ.1 21) + x6)) 22 ((σ.1 22) + x6))) H := hP
    exact hb101  _ _ _ _ hf (lv_sub hl [0] rfl) hP hS
  have hf := (if_neg c18).symm.trans hf
  refine lv_tableOut (tgt := 615) hx hb dX11_goes_393 (sw9_1 c1 c3 c5 c7 c9 c11 c13 c15 c18) (by decide) ?_
  refine lv_aload_n hx hb dX11_goes_615 rfl (lv_at hl 0 rfl) ?_
  refine lv_iconst (v := 0) hx hb dX11_goes_616 (by decide) ?_
  refine pM_0_32 hx hb hts hown hK hP hA hS (hts _ kw_739) dX11_goes_617 (fun H locs hP hS => ?_)
  have hP : va_P D vwCl (wM A C (sI (sI (sI σ 17 0) 21 ((σ.1 21) + x6)) 22 ((σ.1 22) + x6))) H := hP
  exact cx_vret cx hP hS hf dX11_goes_620
set_option maxHeartbeats 4000000 in
set_option maxRecDepth 100000 in
theorem w_F_mX11_goes_340 {p : Program} {l : Launch} {e : Env} {s : State} {m : MethodId} {args : Array Value} {below : List Frame} {meth : Method} {c : Code} {D : va_G} {C : Nat → ClassId} {A adK adV : Nat → Nat} (hA : apA A 33) (cx : Cxx D C adK adV (fxA A 33) p s m args meth c cX11_goes 8 RX11 none) {res : St} {b101 : St → Option St} (hb101 : ∀  (σ : St) (H : Heap) (locs : List Loc) (ls : Array Slot), b101 σ = some res → lv_has ls 8 [(0, .ref (A 0))] → va_P D vwCl (wM A C σ) H → va_S (fxA A 33) s.heap H locs → W p l e rm_X11_goes s m args below meth c H locs 0 0 (MQ below (Qcx D (wM A C) (fxA A 33) none res) args s 0 0 (fxA A 33)) (F0 m 101 ls [])) : ∀ (n : Nat), ∀ (x3 : Int32) (x4 : Int32) (x5 : Int32) (x6 : Int32) (x7 : Int32) (σ : St) (H : Heap) (locs : List Loc) (ls : Array Slot), F_mX11_goes_340 b101 n x3 x4 x5 x6 x7 σ = some res → lv_has ls 8 [(0, .ref (A 0)), (3, .int x3), (4, .int x4), (5, .int x5), (6, .int x6), (7, .int x7)] → va_P D vwCl (wM A C σ) H → va_S (fxA A 33) s.heap H locs → W p l e rm_X11_goes s m args below meth c H locs 0 0 (MQ below (Qcx D (wM A C) (fxA A 33) none res) args s 0 0 (fxA A 33)) (F0 m 340 ls []) := by
  obtain ⟨hx, hb, hml, hown, hts, hK, hr, hlk, hZ⟩ := id cx
  intro n
  induction n with
  | zero =>
    intro x3 x4 x5 x6 x7 σ H locs ls hf hl hP hS
    exact absurd (show (none : Option St) = some res from hf) (by intro h; cases h)
  | succ n ih =>
    intro x3 x4 x5 x6 x7 σ H locs ls hf hl hP hS
    refine lv_iload hx hb dX11_goes_340 (lv_at hl 5 rfl) ?_
    refine lv_bipush (v := 32) hx hb dX11_goes_342 (by decide) ?_
    refine lv_icmp_ge (tgt := 370) hx hb dX11_goes_344 (by decide) (fun c19 => ?_) (fun c19 => ?_)
    · have hf := (if_pos c19).symm.trans hf
      exact w_F_mX11_goes_370 hA cx hb101 _ _ _ _ _ _ _ _ hf (lv_sub hl [0, 1, 2, 3, 4] rfl) hP hS
    · have hf := (if_neg c19).symm.trans hf
      refine lv_iload hx hb dX11_goes_347 (lv_at hl 4 rfl) ?_
      refine lv_aload_n hx hb dX11_goes_349 rfl (lv_at hl 0 rfl) ?_
      refine gM_0_30 hx hb hts hown hK hP (hts _ kw_167) dX11_goes_350 ?_
      refine lv_iload hx hb dX11_goes_353 (lv_at hl 2 rfl) ?_
      obtain ⟨z20, hf⟩ := gd_some hf
      refine gM_a14 hx hb hK hP (ib_in z20) (v := (σ.2.1 14 x4.toNatClampNeg)) rfl dX11_goes_355 ?_
      refine lv_iload hx hb dX11_goes_356 (lv_at hl 5 rfl) ?_
      refine lv_ishr hx hb dX11_goes_358 ?_
      refine lv_iconst (v := 1) hx hb dX11_goes_359 (by decide) ?_
      refine lv_iand hx hb dX11_goes_360 ?_
      refine lv_iadd hx hb dX11_goes_361 ?_
      refine lv_istore (lv' := [(6, .int (x6 + (((σ.2.1 14 x4.toNatClampNeg) >>> (x7 &&& 31)) &&& 1))), (0, .ref (A 0)), (3, .int x3), (4, .int x4), (5, .int x5), (7, .int x7)]) hx hb dX11_goes_362 hl (by decide) rfl (fun ls hl => ?_)
      refine lv_iinc (v := (x7 + 1)) (lv' := [(7, .int (x7 + 1)), (6, .int (x6 + (((σ.2.1 14 x4.toNatClampNeg) >>> (x7 &&& 31)) &&& 1))), (0, .ref (A 0)), (3, .int x3), (4, .int x4), (5, .int x5)]) hx hb dX11_goes_364 hl (k := 5) rfl rfl (by decide) rfl (fun ls hl => ?_)
      refine lv_goto (tgt := 340) hx hb dX11_goes_367 (by decide) ?_
      exact ih _ _ _ _ _ _ _ _ _ hf (lv_sub hl [2, 3, 4, 5, 1, 0] rfl) hP hS
set_option maxHeartbeats 4000000 in
set_option maxRecDepth 100000 in
theorem w_F_mX11_goes_327 {p : Program} {l : Launch} {e : Env} {s : State} {m : MethodId} {args : Array Value} {below : List Frame} {meth : Method} {c : Code} {D : va_G} {C : Nat → ClassId} {A adK adV : Nat → Nat} (hA : apA A 33) (cx : Cxx D C adK adV (fxA A 33) p s m args meth c cX11_goes 8 RX11 none) {res : St} {b101 : St → Option St} (hb101 : ∀  (σ : St) (H : Heap) (locs : List Loc) (ls : Array Slot), b101 σ = some res → lv_has ls 8 [(0, .ref (A 0))] → va_P D vwCl (wM A C σ) H → va_S (fxA A 33) s.heap H locs → W p l e rm_X11_goes s m args below meth c H locs 0 0 (MQ below (Qcx D (wM A C) (fxA A 33) none res) args s 0 0 (fxA A 33)) (F0 m 101 ls [])) : ∀ (x3 : Int32) (x4 : Int32) (x5 : Int32) (y0 : Int32) (σ : St) (H : Heap) (locs : List Loc) (ls : Array Slot), F_mX11_goes_327 b101 x3 x4 x5 y0 σ = some res → lv_has ls 8 [(0, .ref (A 0)), (3, .int x3), (4, .int x4), (5, .int x5)] → va_P D vwCl (wM A C σ) H → va_S (fxA A 33) s.heap H locs → W p l e rm_X11_goes s m args below meth c H locs 0 0 (MQ below (Qcx D (wM A C) (fxA A 33) none res) args s 0 0 (fxA A 33)) (F0 m 327 ls [.int y0]) := by
  obtain ⟨hx, hb, hml, hown, hts, hK, hr, hlk, hZ⟩ := id cx
  intro x3 x4 x5 y0 σ H locs ls hf hl hP hS
  refine lv_istore (lv' := [(6, .int y0), (0, .ref (A 0)), (3, .int x3), (4, .int x4), (5, .int x5)]) hx hb dX11_goes_327 hl (by decide) rfl (fun ls hl => ?_)
  refine lv_iload_n hx hb dX11_goes_329 rfl (lv_at hl 2 rfl) ?_
  refine lv_iconst (v := 4) hx hb dX11_goes_330 (by decide) ?_
  refine lv_icmp_ne (tgt := 370) hx hb dX11_goes_331 (by decide) (fun c21 => ?_) (fun c21 => ?_)
  · have hf := (if_neg c21).symm.trans hf
    exact w_F_mX11_goes_370 hA cx hb101 _ _ _ _ _ _ _ _ hf (lv_sub hl [1, 2, 3, 4, 0] rfl) hP hS
  · have hf := (if_pos c21).symm.trans hf
    refine lv_iconst (v := 2) hx hb dX11_goes_334 (by decide) ?_
    refine lv_istore (lv' := [(6, .int 2), (0, .ref (A 0)), (3, .int x3), (4, .int x4), (5, .int x5)]) hx hb dX11_goes_335 hl (by decide) rfl (fun ls hl => ?_)
    refine lv_iconst (v := 0) hx hb dX11_goes_337 (by decide) ?_
    refine lv_istore (lv' := [(7, .int 0), (6, .int 2), (0, .ref (A 0)), (3, .int x3), (4, .int x4), (5, .int x5)]) hx hb dX11_goes_338 hl (by decide) rfl (fun ls hl => ?_)
    exact w_F_mX11_goes_340 hA cx hb101 FU _ _ _ _ _ _ _ _ _ hf (lv_sub hl [2, 3, 4, 5, 1, 0] rfl) hP hS
set_option maxHeartbeats 4000000 in
set_option maxRecDepth 100000 in
theorem w_F_mX11_goes_316 {p : Program} {l : Launch} {e : Env} {s : State} {m : MethodId} {args : Array Value} {below : List Frame} {meth : Method} {c : Code} {D : va_G} {C : Nat → ClassId} {A adK adV : Nat → Nat} (hA : apA A 33) (cx : Cxx D C adK adV (fxA A 33) p s m args meth c cX11_goes 8 RX11 none) {res : St} {b101 : St → Option St} (hb101 : ∀  (σ : St) (H : Heap) (locs : List Loc) (ls : Array Slot), b101 σ = some res → lv_has ls 8 [(0, .ref (A 0))] → va_P D vwCl (wM A C σ) H → va_S (fxA A 33) s.heap H locs → W p l e rm_X11_goes s m args below meth c H locs 0 0 (MQ below (Qcx D (wM A C) (fxA A 33) none res) args s 0 0 (fxA A 33)) (F0 m 101 ls [])) : ∀ (x3 : Int32) (x4 : Int32) (x5 : Int32) (σ : St) (H : Heap) (locs : List Loc) (ls : Array Slot), F_mX11_goes_316 b101 x3 x4 x5 σ = some res → lv_has ls 8 [(0, .ref (A 0)), (3, .int x3), (4, .int x4), (5, .int x5)] → va_P D vwCl (wM A C σ) H → va_S (fxA A 33) s.heap H locs → W p l e rm_X11_goes s m args below meth c H locs 0 0 (MQ below (Qcx D (wM A C) (fxA A 33) none res) args s 0 0 (fxA A 33)) (F0 m 316 ls []) := by
  obtain ⟨hx, hb, hml, hown, hts, hK, hr, hlk, hZ⟩ := id cx
  intro x3 x4 x5 σ H locs ls hf hl hP hS
  refine lv_iload_n hx hb dX11_goes_316 rfl (lv_at hl 1 rfl) ?_
  refine lv_bipush (v := 8) hx hb dX11_goes_317 (by decide) ?_
  refine lv_icmp_ne (tgt := 326) hx hb dX11_goes_319 (by decide) (fun c22 => ?_) (fun c22 => ?_)
  · have hf := (if_neg c22).symm.trans hf
    refine lv_iconst (v := 0) hx hb dX11_goes_326 (by decide) ?_
    exact w_F_mX11_goes_327 hA cx hb101 _ _ _ _ _ _ _ _ hf (lv_sub hl [0, 1, 2, 3] rfl) hP hS
  · have hf := (if_pos c22).symm.trans hf
    refine lv_iconst (v := 3) hx hb dX11_goes_322 (by decide) ?_
    refine lv_goto (tgt := 327) hx hb dX11_goes_323 (by decide) ?_
    exact w_F_mX11_goes_327 hA cx hb101 _ _ _ _ _ _ _ _ hf (lv_sub hl [0, 1, 2, 3] rfl) hP hS
set_option maxHeartbeats 4000000 in
set_option maxRecDepth 100000 in
theorem w_F_mX11_goes_101 {p : Program} {l : Launch} {e : Env} {s : State} {m : MethodId} {args : Array Value} {below : List Frame} {meth : Method} {c : Code} {D : va_G} {C : Nat → ClassId} {A adK adV : Nat → Nat} (hA : apA A 33) (cx : Cxx D C adK adV (fxA A 33) p s m args meth c cX11_goes 8 RX11 none) {res : St} : ∀ (n : Nat), ∀ (σ : St) (H : Heap) (locs : List Loc) (ls : Array Slot), F_mX11_goes_101 n σ = some res → lv_has ls 8 [(0, .ref (A 0))] → va_P D vwCl (wM A C σ) H → va_S (fxA A 33) s.heap H locs → W p l e rm_X11_goes s m args below meth c H locs 0 0 (MQ below (Qcx D (wM A C) (fxA A 33) none res) args s 0 0 (fxA A 33)) (F0 m 101 ls []) := by
  obtain ⟨hx, hb, hml, hown, hts, hK, hr, hlk, hZ⟩ := id cx
  intro n
  induction n with
  | zero =>
    intro σ H locs ls hf hl hP hS
    exact absurd (show (none : Option St) = some res from hf) (by intro h; cases h)
  | succ n ih =>
    intro σ H locs ls hf hl hP hS
    refine lv_aload_n hx hb dX11_goes_101 rfl (lv_at hl 0 rfl) ?_
    refine gM_0_31 hx hb hts hown hK hP (v := (σ.1 16)) rfl (hts _ kw_746) dX11_goes_102 ?_
    refine lv_sipush (v := 2000) hx hb dX11_goes_105 (by decide) ?_
    refine lv_icmp_ge (tgt := 630) hx hb dX11_goes_108 (by decide) (fun c23 => ?_) (fun c23 => ?_)
    · have hf := (if_pos c23).symm.trans hf
      exact cx_vret cx hP hS hf dX11_goes_630
    · have hf := (if_neg c23).symm.trans hf
      refine lv_aload_n hx hb dX11_goes_111 rfl (lv_at hl 0 rfl) ?_
      refine gM_0_30 hx hb hts hown hK hP (hts _ kw_167) dX11_goes_112 ?_
      refine lv_aload_n hx hb dX11_goes_115 rfl (lv_at hl 0 rfl) ?_
      refine gM_0_34 hx hb hts hown hK hP (v := (σ.1 19)) rfl (hts _ kw_741) dX11_goes_116 ?_
      obtain ⟨z24, hf⟩ := gd_some hf
      refine gM_a14 hx hb hK hP (ib_in z24) (v := (σ.2.1 14 (σ.1 19).toNatClampNeg)) rfl dX11_goes_119 ?_
      refine lv_istore_n (lv' := [(1, .int (σ.2.1 14 (σ.1 19).toNatClampNeg)), (0, .ref (A 0))]) hx hb dX11_goes_120 rfl hl (by decide) rfl (fun ls hl => ?_)
      refine lv_aload_n hx hb dX11_goes_121 rfl (lv_at hl 1 rfl) ?_
      refine lv_aload_n hx hb dX11_goes_122 rfl (lv_at hl 1 rfl) ?_
      refine gM_0_34 hx hb hts hown hK hP (v := (σ.1 19)) rfl (hts _ kw_741) dX11_goes_123 ?_
      refine lv_aload_n hx hb dX11_goes_126 rfl (lv_at hl 1 rfl) ?_
      refine gM_0_36 hx hb hts hown hK hP (v := (σ.1 21)) rfl (hts _ kw_743) dX11_goes_127 ?_
      obtain ⟨⟨r25, σ_r25⟩, h_r25, hf⟩ := bd_some hf
      refine cx_V (As := [.int (σ.1 19), .int (σ.1 21)]) (rest := []) cx (ct_mX11_waitFor l D C A adK adV hA h_r25) (cw_X11_266 hts ⟨Nat.le_of_ble_eq_true rfl, Nat.le_of_ble_eq_true rfl⟩) (va_recv hK hP (ci := 11) (q0 := 0) rfl (wM_0 A C _)) hP hS rfl hl.1 rfl (Nat.le_of_ble_eq_true rfl) dX11_goes_130 ⟨Nat.zero_le _, Nat.zero_le _⟩ (fun H locs hP hS => ?_)
      refine lv_istore_n (lv' := [(2, .int r25), (1, .int (σ.2.1 14 (σ.1 19).toNatClampNeg)), (0, .ref (A 0))]) hx hb dX11_goes_133 rfl hl (by decide) rfl (fun ls hl => ?_)
      refine lv_aload_n hx hb dX11_goes_134 rfl (lv_at hl 2 rfl) ?_
      refine gM_0_41 hx hb hts hown hK hP (hts _ kw_171) dX11_goes_135 ?_
      refine lv_aload_n hx hb dX11_goes_138 rfl (lv_at hl 2 rfl) ?_
      refine gM_0_34 hx hb hts hown hK hP (v := (σ_r25.1 19)) rfl (hts _ kw_741) dX11_goes_139 ?_
      refine lv_dup2_11 hx hb dX11_goes_142 rfl rfl ?_
      obtain ⟨z26, hf⟩ := gd_some hf
      refine gM_a18 hx hb hK hP (ib_in z26) (v := (σ_r25.2.1 18 (σ_r25.1 19).toNatClampNeg)) rfl dX11_goes_143 ?_
      refine lv_iload_n hx hb dX11_goes_144 rfl (lv_at hl 0 rfl) ?_
      refine lv_iadd hx hb dX11_goes_145 ?_
      refine pM_a18 hx hb hK hP hA hS (ib_in z26) dX11_goes_146 (fun H locs hP hS => ?_)
      refine lv_aload_n hx hb dX11_goes_147 rfl (lv_at hl 2 rfl) ?_
      refine lv_dup hx hb dX11_goes_148 rfl ?_
      refine gM_0_36 hx hb hts hown hK hP (v := (σ_r25.1 21)) rfl (hts _ kw_743) dX11_goes_149 ?_
      refine lv_iload_n hx hb dX11_goes_152 rfl (lv_at hl 0 rfl) ?_
      refine lv_iconst (v := 1) hx hb dX11_goes_153 (by decide) ?_
      refine lv_iadd hx hb dX11_goes_154 ?_
      refine lv_iadd hx hb dX11_goes_155 ?_
      refine pM_0_36 hx hb hts hown hK hP hA hS (hts _ kw_743) dX11_goes_156 (fun H locs hP hS => ?_)
      refine lv_aload_n hx hb dX11_goes_159 rfl (lv_at hl 2 rfl) ?_
      refine lv_dup hx hb dX11_goes_160 rfl ?_
      refine gM_0_37 hx hb hts hown hK hP (v := (σ_r25.1 22)) rfl (hts _ kw_744) dX11_goes_161 ?_
      refine lv_iconst (v := 1) hx hb dX11_goes_164 (by decide) ?_
      refine lv_iadd hx hb dX11_goes_165 ?_
      refine pM_0_37 hx hb hts hown hK hP hA hS (hts _ kw_744) dX11_goes_166 (fun H locs hP hS => ?_)
      refine lv_aload_n hx hb dX11_goes_169 rfl (lv_at hl 2 rfl) ?_
      refine gM_0_39 hx hb hts hown hK hP (hts _ kw_169) dX11_goes_170 ?_
      refine lv_aload_n hx hb dX11_goes_173 rfl (lv_at hl 2 rfl) ?_
      refine gM_0_34 hx hb hts hown hK hP (v := (σ_r25.1 19)) rfl (hts _ kw_741) dX11_goes_174 ?_
      refine lv_dup2_11 hx hb dX11_goes_177 rfl rfl ?_
      refine gM_a16 hx hb hK hP (ib_in z26) (v := (σ_r25.2.1 16 (σ_r25.1 19).toNatClampNeg)) rfl dX11_goes_178 ?_
      refine lv_iconst (v := 1) hx hb dX11_goes_179 (by decide) ?_
      refine lv_iadd hx hb dX11_goes_180 ?_
      refine pM_a16 hx hb hK hP hA hS (ib_in z26) dX11_goes_181 (fun H locs hP hS => ?_)
      refine lv_aload_n hx hb dX11_goes_182 rfl (lv_at hl 2 rfl) ?_
      refine lv_aload_n hx hb dX11_goes_183 rfl (lv_at hl 2 rfl) ?_
      refine gM_0_34 hx hb hts hown hK hP (v := (σ_r25.1 19)) rfl (hts _ kw_741) dX11_goes_184 ?_
      refine lv_aload_n hx hb dX11_goes_187 rfl (lv_at hl 2 rfl) ?_
      refine gM_0_31 hx hb hts hown hK hP (v := (σ_r25.1 16)) rfl (hts _ kw_746) dX11_goes_188 ?_
      have hP : va_P D vwCl (wM A C (sA (sA (sI (sI σ_r25 21 ((σ_r25.1 21) + (r25 + 1))) 22 ((σ_r25.1 22) + 1)) 16 (upd (σ_r25.2.1 16) (σ_r25.1 19).toNatClampNeg ((σ_r25.2.1 16 (σ_r25.1 19).toNatClampNeg) + 1))) 18 (upd (σ_r25.2.1 18) (σ_r25.1 19).toNatClampNeg ((σ_r25.2.1 18 (σ_r25.1 19).toNatClampNeg) + r25)))) H := hP
      obtain ⟨σ_r27, h_r27, hf⟩ := bv_some hf
      refine cx_V (As := [.int (σ_r25.1 19), .int (σ_r25.1 16)]) (rest := []) cx (ct_mX11_live l D C A adK adV hA h_r27) (cw_X11_270 hts ⟨Nat.le_of_ble_eq_true rfl, Nat.le_of_ble_eq_true rfl⟩) (va_recv hK hP (ci := 11) (q0 := 0) rfl (wM_0 A C _)) hP hS rfl hl.1 rfl (Nat.le_of_ble_eq_true rfl) dX11_goes_191 ⟨Nat.zero_le _, Nat.zero_le _⟩ (fun H locs hP hS => ?_)
      refine lv_aload_n hx hb dX11_goes_194 rfl (lv_at hl 2 rfl) ?_
      refine lv_dup hx hb dX11_goes_195 rfl ?_
      refine gM_0_31 hx hb hts hown hK hP (v := (σ_r27.1 16)) rfl (hts _ kw_746) dX11_goes_196 ?_
      refine lv_iconst (v := 1) hx hb dX11_goes_199 (by decide) ?_
      refine lv_iadd hx hb dX11_goes_200 ?_
      refine pM_0_31 hx hb hts hown hK hP hA hS (hts _ kw_746) dX11_goes_201 (fun H locs hP hS => ?_)
      refine lv_aload_n hx hb dX11_goes_204 rfl (lv_at hl 2 rfl) ?_
      refine lv_iload_n hx hb dX11_goes_205 rfl (lv_at hl 1 rfl) ?_
      have hP : va_P D vwCl (wM A C (sI σ_r27 16 ((σ_r27.1 16) + 1))) H := hP
      obtain ⟨⟨r28, σ_r28⟩, h_r28, hf⟩ := bd_some hf
      refine cx_V (As := [.int (σ.2.1 14 (σ.1 19).toNatClampNeg)]) (rest := []) cx (ct_mX11_isWrong l D C A adK adV hA h_r28) (cw_X11_274 hts ⟨Nat.le_of_ble_eq_true rfl, Nat.le_of_ble_eq_true rfl⟩) (va_recv hK hP (ci := 11) (q0 := 0) rfl (wM_0 A C _)) hP hS rfl hl.1 rfl (Nat.le_of_ble_eq_true rfl) dX11_goes_206 ⟨Nat.zero_le _, Nat.zero_le _⟩ (fun H locs hP hS => ?_)
      refine lv_if_eq (tgt := 218) hx hb dX11_goes_209 (by decide) (fun c29 => ?_) (fun c29 => ?_)
      · have hf := (if_pos c29).symm.trans hf
        refine lv_iload_n hx hb dX11_goes_218 rfl (lv_at hl 1 rfl) ?_
        refine lv_sipush (v := 10000) hx hb dX11_goes_219 (by decide) ?_
        refine lv_idiv hx hb dX11_goes_222 (by decide) ?_
        refine lv_istore_n (lv' := [(3, .int ((σ.2.1 14 (σ.1 19).toNatClampNeg) / 10000)), (2, .int r25), (1, .int (σ.2.1 14 (σ.1 19).toNatClampNeg)), (0, .ref (A 0))]) hx hb dX11_goes_223 rfl hl (by decide) rfl (fun ls hl => ?_)
        refine lv_iload_n hx hb dX11_goes_224 rfl (lv_at hl 2 rfl) ?_
        refine lv_bipush (v := 100) hx hb dX11_goes_225 (by decide) ?_
        refine lv_idiv hx hb dX11_goes_227 (by decide) ?_
        refine lv_bipush (v := 100) hx hb dX11_goes_228 (by decide) ?_
        refine lv_irem hx hb dX11_goes_230 (by decide) ?_
        refine lv_topi (fun v30 e_v30 => ?_)
        have hf := nm_use e_v30 hf
        refine lv_istore (lv' := [(4, .int v30), (3, .int ((σ.2.1 14 (σ.1 19).toNatClampNeg) / 10000)), (2, .int r25), (1, .int (σ.2.1 14 (σ.1 19).toNatClampNeg)), (0, .ref (A 0))]) hx hb dX11_goes_231 hl (by decide) rfl (fun ls hl => ?_)
        refine lv_iload_n hx hb dX11_goes_233 rfl (lv_at hl 3 rfl) ?_
        refine lv_bipush (v := 100) hx hb dX11_goes_234 (by decide) ?_
        refine lv_irem hx hb dX11_goes_236 (by decide) ?_
        refine lv_topi (fun v31 e_v31 => ?_)
        have hf := nm_use e_v31 hf
        refine lv_istore (lv' := [(5, .int v31), (4, .int v30), (3, .int ((σ.2.1 14 (σ.1 19).toNatClampNeg) / 10000)), (2, .int r25), (1, .int (σ.2.1 14 (σ.1 19).toNatClampNeg)), (0, .ref (A 0))]) hx hb dX11_goes_237 hl (by decide) rfl (fun ls hl => ?_)
        refine lv_iload_n hx hb dX11_goes_239 rfl (lv_at hl 2 rfl) ?_
        obtain ⟨⟨r32, σ_r32⟩, h_r32, hf⟩ := bd_some hf
        refine cx_S (As := [.int ((σ.2.1 14 (σ.1 19).toNatClampNeg) / 10000)]) (rest := []) cx (ct_mX11_reads l D C A adK adV hA h_r32) (cw_X11_277 hts ⟨Nat.le_of_ble_eq_true rfl, Nat.le_of_ble_eq_true rfl⟩) hP hS rfl hl.1 rfl (Nat.le_of_ble_eq_true rfl) dX11_goes_240 ⟨Nat.zero_le _, Nat.zero_le _⟩ (fun H locs hP hS => ?_)
        refine lv_if_eq (tgt := 316) hx hb dX11_goes_243 (by decide) (fun c33 => ?_) (fun c33 => ?_)
        · have hf := (if_pos c33).symm.trans hf
          exact w_F_mX11_goes_316 hA cx ih _ _ _ _ _ _ _ hf (lv_sub hl [5, 2, 1, 0] rfl) hP hS
        · have hf := (if_neg c33).symm.trans hf
          refine lv_aload_n hx hb dX11_goes_246 rfl (lv_at hl 5 rfl) ?_
          refine lv_iload hx hb dX11_goes_247 (lv_at hl 1 rfl) ?_
          refine lv_aload_n hx hb dX11_goes_249 rfl (lv_at hl 5 rfl) ?_
          refine gM_0_36 hx hb hts hown hK hP (v := (σ_r32.1 21)) rfl (hts _ kw_743) dX11_goes_250 ?_
          obtain ⟨⟨r34, σ_r34⟩, h_r34, hf⟩ := bd_some hf
          refine cx_V (As := [.int v30, .int (σ_r32.1 21)]) (rest := []) cx (ct_mX11_waitFor l D C A adK adV hA h_r34) (cw_X11_266 hts ⟨Nat.le_of_ble_eq_true rfl, Nat.le_of_ble_eq_true rfl⟩) (va_recv hK hP (ci := 11) (q0 := 0) rfl (wM_0 A C _)) hP hS rfl hl.1 rfl (Nat.le_of_ble_eq_true rfl) dX11_goes_253 ⟨Nat.zero_le _, Nat.zero_le _⟩ (fun H locs hP hS => ?_)
          refine lv_istore (lv' := [(6, .int r34), (5, .int v31), (4, .int v30), (3, .int ((σ.2.1 14 (σ.1 19).toNatClampNeg) / 10000)), (2, .int r25), (1, .int (σ.2.1 14 (σ.1 19).toNatClampNeg)), (0, .ref (A 0))]) hx hb dX11_goes_256 hl (by decide) rfl (fun ls hl => ?_)
          refine lv_aload_n hx hb dX11_goes_258 rfl (lv_at hl 6 rfl) ?_
          refine gM_0_41 hx hb hts hown hK hP (hts _ kw_171) dX11_goes_259 ?_
          refine lv_iload hx hb dX11_goes_262 (lv_at hl 2 rfl) ?_
          refine lv_dup2_11 hx hb dX11_goes_264 rfl rfl ?_
          obtain ⟨z35, hf⟩ := gd_some hf
          refine gM_a18 hx hb hK hP (ib_in z35) (v := (σ_r34.2.1 18 v30.toNatClampNeg)) rfl dX11_goes_265 ?_
          refine lv_iload hx hb dX11_goes_266 (lv_at hl 0 rfl) ?_
          refine lv_iadd hx hb dX11_goes_268 ?_
          refine pM_a18 hx hb hK hP hA hS (ib_in z35) dX11_goes_269 (fun H locs hP hS => ?_)
          refine lv_aload_n hx hb dX11_goes_270 rfl (lv_at hl 6 rfl) ?_
          refine lv_dup hx hb dX11_goes_271 rfl ?_
          refine gM_0_36 hx hb hts hown hK hP (v := (σ_r34.1 21)) rfl (hts _ kw_743) dX11_goes_272 ?_
          refine lv_iload hx hb dX11_goes_275 (lv_at hl 0 rfl) ?_
          refine lv_iconst (v := 1) hx hb dX11_goes_277 (by decide) ?_
          refine lv_iadd hx hb dX11_goes_278 ?_
          refine lv_iadd hx hb dX11_goes_279 ?_
          refine pM_0_36 hx hb hts hown hK hP hA hS (hts _ kw_743) dX11_goes_280 (fun H locs hP hS => ?_)
          refine lv_aload_n hx hb dX11_goes_283 rfl (lv_at hl 6 rfl) ?_
          refine lv_dup hx hb dX11_goes_284 rfl ?_
          refine gM_0_37 hx hb hts hown hK hP (v := (σ_r34.1 22)) rfl (hts _ kw_744) dX11_goes_285 ?_
          refine lv_iconst (v := 1) hx hb dX11_goes_288 (by decide) ?_
          refine lv_iadd hx hb dX11_goes_289 ?_
          refine pM_0_37 hx hb hts hown hK hP hA hS (hts _ kw_744) dX11_goes_290 (fun H locs hP hS => ?_)
          refine lv_aload_n hx hb dX11_goes_293 rfl (lv_at hl 6 rfl) ?_
          refine gM_0_40 hx hb hts hown hK hP (hts _ kw_170) dX11_goes_294 ?_
          refine lv_iload hx hb dX11_goes_297 (lv_at hl 2 rfl) ?_
          refine lv_dup2_11 hx hb dX11_goes_299 rfl rfl ?_
          refine gM_a17 hx hb hK hP (ib_in z35) (v := (σ_r34.2.1 17 v30.toNatClampNeg)) rfl dX11_goes_300 ?_
          refine lv_iconst (v := 1) hx hb dX11_goes_301 (by decide) ?_
          refine lv_iadd hx hb dX11_goes_302 ?_
          refine pM_a17 hx hb hK hP hA hS (ib_in z35) dX11_goes_303 (fun H locs hP hS => ?_)
          refine lv_aload_n hx hb dX11_goes_304 rfl (lv_at hl 6 rfl) ?_
          refine lv_iload hx hb dX11_goes_305 (lv_at hl 2 rfl) ?_
          refine lv_aload_n hx hb dX11_goes_307 rfl (lv_at hl 6 rfl) ?_
          refine gM_0_31 hx hb hts hown hK hP (v := (σ_r34.1 16)) rfl (hts _ kw_746) dX11_goes_308 ?_
          refine lv_iconst (v := 1) hx hb dX11_goes_311 (by decide) ?_
          refine lv_isub hx hb dX11_goes_312 ?_
          have hP : va_P D vwCl (wM A C (sA (sA (sI (sI σ_r34 21 ((σ_r34.1 21) + (r34 + 1))) 22 ((σ_r34.1 22) + 1)) 17 (upd (σ_r34.2.1 17) v30.toNatClampNeg ((σ_r34.2.1 17 v30.toNatClampNeg) + 1))) 18 (upd (σ_r34.2.1 18) v30.toNatClampNeg ((σ_r34.2.1 18 v30.toNatClampNeg) + r34)))) H := hP
          obtain ⟨σ_r36, h_r36, hf⟩ := bv_some hf
          refine cx_V (As := [.int v30, .int ((σ_r34.1 16) - 1)]) (rest := []) cx (ct_mX11_live l D C A adK adV hA h_r36) (cw_X11_270 hts ⟨Nat.le_of_ble_eq_true rfl, Nat.le_of_ble_eq_true rfl⟩) (va_recv hK hP (ci := 11) (q0 := 0) rfl (wM_0 A C _)) hP hS rfl hl.1 rfl (Nat.le_of_ble_eq_true rfl) dX11_goes_313 ⟨Nat.zero_le _, Nat.zero_le _⟩ (fun H locs hP hS => ?_)
          exact w_F_mX11_goes_316 hA cx ih _ _ _ _ _ _ _ hf (lv_sub hl [6, 3, 2, 1] rfl) hP hS
      · have hf := (if_neg c29).symm.trans hf
        refine lv_aload_n hx hb dX11_goes_212 rfl (lv_at hl 2 rfl) ?_
        refine lv_iconst (v := 1) hx hb dX11_goes_213 (by decide) ?_
        refine pM_0_32 hx hb hts hown hK hP hA hS (hts _ kw_739) dX11_goes_214 (fun H locs hP hS => ?_)
        have hP : va_P D vwCl (wM A C (sI σ_r28 17 1)) H := hP
        exact cx_vret cx hP hS hf dX11_goes_217
set_option maxHeartbeats 4000000 in
set_option maxRecDepth 100000 in
theorem w_F_mX11_goes_2 {p : Program} {l : Launch} {e : Env} {s : State} {m : MethodId} {args : Array Value} {below : List Frame} {meth : Method} {c : Code} {D : va_G} {C : Nat → ClassId} {A adK adV : Nat → Nat} (hA : apA A 33) (cx : Cxx D C adK adV (fxA A 33) p s m args meth c cX11_goes 8 RX11 none) {res : St} : ∀ (n : Nat), ∀ (x1 : Int32) (σ : St) (H : Heap) (locs : List Loc) (ls : Array Slot), F_mX11_goes_2 n x1 σ = some res → lv_has ls 8 [(0, .ref (A 0)), (1, .int x1)] → va_P D vwCl (wM A C σ) H → va_S (fxA A 33) s.heap H locs → W p l e rm_X11_goes s m args below meth c H locs 0 0 (MQ below (Qcx D (wM A C) (fxA A 33) none res) args s 0 0 (fxA A 33)) (F0 m 2 ls []) := by
  obtain ⟨hx, hb, hml, hown, hts, hK, hr, hlk, hZ⟩ := id cx
  intro n
  induction n with
  | zero =>
    intro x1 σ H locs ls hf hl hP hS
    exact absurd (show (none : Option St) = some res from hf) (by intro h; cases h)
  | succ n ih =>
    intro x1 σ H locs ls hf hl hP hS
    refine lv_iload_n hx hb dX11_goes_2 rfl (lv_at hl 1 rfl) ?_
    refine lv_aload_n hx hb dX11_goes_3 rfl (lv_at hl 0 rfl) ?_
    refine gM_0_17 hx hb hts hown hK hP (v := (σ.1 12)) rfl (hts _ kw_416) dX11_goes_4 ?_
    refine lv_icmp_ge (tgt := 63) hx hb dX11_goes_7 (by decide) (fun c37 => ?_) (fun c37 => ?_)
    · have hf := (if_pos c37).symm.trans hf
      refine lv_aload_n hx hb dX11_goes_63 rfl (lv_at hl 0 rfl) ?_
      refine lv_iconst (v := 0) hx hb dX11_goes_64 (by decide) ?_
      refine pM_0_33 hx hb hts hown hK hP hA hS (hts _ kw_740) dX11_goes_65 (fun H locs hP hS => ?_)
      refine lv_aload_n hx hb dX11_goes_68 rfl (lv_at hl 0 rfl) ?_
      refine lv_aload_n hx hb dX11_goes_69 rfl (lv_at hl 0 rfl) ?_
      refine gM_0_18 hx hb hts hown hK hP (v := (σ.1 13)) rfl (hts _ kw_417) dX11_goes_70 ?_
      refine pM_0_34 hx hb hts hown hK hP hA hS (hts _ kw_741) dX11_goes_73 (fun H locs hP hS => ?_)
      refine lv_aload_n hx hb dX11_goes_76 rfl (lv_at hl 0 rfl) ?_
      refine lv_iconst (v := 0) hx hb dX11_goes_77 (by decide) ?_
      refine pM_0_35 hx hb hts hown hK hP hA hS (hts _ kw_742) dX11_goes_78 (fun H locs hP hS => ?_)
      refine lv_aload_n hx hb dX11_goes_81 rfl (lv_at hl 0 rfl) ?_
      refine lv_iconst (v := 0) hx hb dX11_goes_82 (by decide) ?_
      refine pM_0_36 hx hb hts hown hK hP hA hS (hts _ kw_743) dX11_goes_83 (fun H locs hP hS => ?_)
      refine lv_aload_n hx hb dX11_goes_86 rfl (lv_at hl 0 rfl) ?_
      refine lv_iconst (v := 0) hx hb dX11_goes_87 (by decide) ?_
      refine pM_0_37 hx hb hts hown hK hP hA hS (hts _ kw_744) dX11_goes_88 (fun H locs hP hS => ?_)
      refine lv_aload_n hx hb dX11_goes_91 rfl (lv_at hl 0 rfl) ?_
      refine lv_iconst (v := 0) hx hb dX11_goes_92 (by decide) ?_
      refine pM_0_31 hx hb hts hown hK hP hA hS (hts _ kw_746) dX11_goes_93 (fun H locs hP hS => ?_)
      refine lv_aload_n hx hb dX11_goes_96 rfl (lv_at hl 0 rfl) ?_
      refine lv_iconst (v := 2) hx hb dX11_goes_97 (by decide) ?_
      refine pM_0_32 hx hb hts hown hK hP hA hS (hts _ kw_739) dX11_goes_98 (fun H locs hP hS => ?_)
      have hP : va_P D vwCl (wM A C (sI (sI (sI (sI (sI (sI (sI σ 16 0) 17 2) 18 0) 19 (σ.1 13)) 20 0) 21 0) 22 0)) H := hP
      exact w_F_mX11_goes_101 hA cx FU _ _ _ _ hf (lv_sub hl [0] rfl) hP hS
    · have hf := (if_neg c37).symm.trans hf
      refine lv_aload_n hx hb dX11_goes_10 rfl (lv_at hl 0 rfl) ?_
      refine gM_0_30 hx hb hts hown hK hP (hts _ kw_167) dX11_goes_11 ?_
      refine lv_iload_n hx hb dX11_goes_14 rfl (lv_at hl 1 rfl) ?_
      refine lv_aload_n hx hb dX11_goes_15 rfl (lv_at hl 0 rfl) ?_
      refine gM_0_22 hx hb hts hown hK hP (hts _ kw_159) dX11_goes_16 ?_
      refine lv_iload_n hx hb dX11_goes_19 rfl (lv_at hl 1 rfl) ?_
      obtain ⟨z38, hf⟩ := gd_some hf
      refine gM_a6 hx hb hK hP (ib_in z38) (v := (σ.2.1 6 x1.toNatClampNeg)) rfl dX11_goes_20 ?_
      refine pM_a14 hx hb hK hP hA hS (ib_in z38) dX11_goes_21 (fun H locs hP hS => ?_)
      refine lv_aload_n hx hb dX11_goes_22 rfl (lv_at hl 0 rfl) ?_
      refine gM_0_39 hx hb hts hown hK hP (hts _ kw_169) dX11_goes_23 ?_
      refine lv_iload_n hx hb dX11_goes_26 rfl (lv_at hl 1 rfl) ?_
      refine lv_iconst (v := 0) hx hb dX11_goes_27 (by decide) ?_
      refine pM_a16 hx hb hK hP hA hS (ib_in z38) dX11_goes_28 (fun H locs hP hS => ?_)
      refine lv_aload_n hx hb dX11_goes_29 rfl (lv_at hl 0 rfl) ?_
      refine gM_0_40 hx hb hts hown hK hP (hts _ kw_170) dX11_goes_30 ?_
      refine lv_iload_n hx hb dX11_goes_33 rfl (lv_at hl 1 rfl) ?_
      refine lv_iconst (v := 0) hx hb dX11_goes_34 (by decide) ?_
      refine pM_a17 hx hb hK hP hA hS (ib_in z38) dX11_goes_35 (fun H locs hP hS => ?_)
      refine lv_aload_n hx hb dX11_goes_36 rfl (lv_at hl 0 rfl) ?_
      refine gM_0_41 hx hb hts hown hK hP (hts _ kw_171) dX11_goes_37 ?_
      refine lv_iload_n hx hb dX11_goes_40 rfl (lv_at hl 1 rfl) ?_
      refine lv_iconst (v := 0) hx hb dX11_goes_41 (by decide) ?_
      refine pM_a18 hx hb hK hP hA hS (ib_in z38) dX11_goes_42 (fun H locs hP hS => ?_)
      refine lv_aload_n hx hb dX11_goes_43 rfl (lv_at hl 0 rfl) ?_
      refine gM_0_42 hx hb hts hown hK hP (hts _ kw_172) dX11_goes_44 ?_
      refine lv_iload_n hx hb dX11_goes_47 rfl (lv_at hl 1 rfl) ?_
      refine lv_iconst (v := (-1)) hx hb dX11_goes_48 (by decide) ?_
      refine pM_a19 hx hb hK hP hA hS (ib_in z38) dX11_goes_49 (fun H locs hP hS => ?_)
      refine lv_aload_n hx hb dX11_goes_50 rfl (lv_at hl 0 rfl) ?_
      refine gM_0_43 hx hb hts hown hK hP (hts _ kw_173) dX11_goes_51 ?_
      refine lv_iload_n hx hb dX11_goes_54 rfl (lv_at hl 1 rfl) ?_
      refine lv_iconst (v := (-1)) hx hb dX11_goes_55 (by decide) ?_
      refine pM_a20 hx hb hK hP hA hS (ib_in z38) dX11_goes_56 (fun H locs hP hS => ?_)
      refine lv_iinc (v := (x1 + 1)) (lv' := [(1, .int (x1 + 1)), (0, .ref (A 0))]) hx hb dX11_goes_57 hl (k := 1) rfl rfl (by decide) rfl (fun ls hl => ?_)
      refine lv_goto (tgt := 2) hx hb dX11_goes_60 (by decide) ?_
      have hP : va_P D vwCl (wM A C (sA (sA (sA (sA (sA (sA σ 14 (upd (σ.2.1 14) x1.toNatClampNeg (σ.2.1 6 x1.toNatClampNeg))) 16 (upd (σ.2.1 16) x1.toNatClampNeg 0)) 17 (upd (σ.2.1 17) x1.toNatClampNeg 0)) 18 (upd (σ.2.1 18) x1.toNatClampNeg 0)) 19 (upd (σ.2.1 19) x1.toNatClampNeg (-1))) 20 (upd (σ.2.1 20) x1.toNatClampNeg (-1)))) H := hP
      exact ih _ _ _ _ _ hf (lv_sub hl [1, 0] rfl) hP hS
set_option maxHeartbeats 4000000 in
set_option maxRecDepth 100000 in
theorem ct_mX11_goes (l : Launch) (D : va_G) (C : Nat → ClassId) (A adK adV : Nat → Nat) (hA : apA A 33)  {σ : St} {res : St} (hf : F_mX11_goes σ = some res) : Met l yX11_goes (Cond.code yX11_goes cX11_goes 8 none :: wsL_law) rm_X11_goes (Pcx D C (wM A C) adK adV (fxA A 33) [.ref (A 0)] σ) (Qcx D (wM A C) (fxA A 33) none res) 0 0 (fxA A 33) := by
  refine Met.ofW (cc := cX11_goes) (maxL := 8) (ret := none) (by decide) rfl ?_
  intro p e s m args below meth c s₁ B hml hv
  obtain ⟨rfl, hP, hK, hZ⟩ := hv
  have cx : Cxx D C adK adV (fxA A 33) p s m _ meth c cX11_goes 8 RX11 none := ⟨B.exec, B.bytes, hml, findClass_of_methodNamed B.named, fun w h => atoms_spec (ws := Cond.code yX11_goes cX11_goes 8 none :: wsL_law) B.pre w (List.mem_cons_of_mem _ h), hK, B.returns, B.notSynchronized, hZ⟩
  obtain ⟨hx, hb, -, hown, hts, -, hr, hlk, -⟩ := id cx
  have hS : va_S (fxA A 33) s.heap s.heap [] := va_S.rf
  have hl := lv_entry ([.ref (A 0)]) (n := 8) (Nat.le_of_ble_eq_true rfl)
  rw [lg_entry_eq]
  generalize (lg_sl ([.ref (A 0)]) ++ List.replicate (8 - (lg_sl ([.ref (A 0)])).length) Slot.unset).toArray = ls at hl ⊢
  have hl : lv_has ls 8 [(0, .ref (A 0))] := hl
  show W p l e rm_X11_goes s m _ below meth c s.heap [] 0 0 _ _
  refine lv_iconst (v := 0) hx hb dX11_goes_0 (by decide) ?_
  refine lv_istore_n (lv' := [(1, .int 0), (0, .ref (A 0))]) hx hb dX11_goes_1 rfl hl (by decide) rfl (fun ls hl => ?_)
  exact w_F_mX11_goes_2 hA cx FU _ _ _ _ _ hf (lv_sub hl [1, 0] rfl) hP hS
set_option maxHeartbeats 4000000 in
set_option maxRecDepth 100000 in
theorem w_F_mX11_run_238 {p : Program} {l : Launch} {e : Env} {s : State} {m : MethodId} {args : Array Value} {below : List Frame} {meth : Method} {c : Code} {D : va_G} {C : Nat → ClassId} {A adK adV : Nat → Nat} (hA : apA A 33) (cx : Cxx D C adK adV (fxA A 33) p s m args meth c cX11_run 3 RX11 (some .int)) {res : (Int32 × St)} {b115 : Int32 → St → Option (Int32 × St)} (hb115 : ∀ (x1 : Int32) (σ : St) (H : Heap) (locs : List Loc) (ls : Array Slot), b115 x1 σ = some res → lv_has ls 3 [(0, .ref (A 0)), (1, .int x1)] → va_P D vwCl (wM A C σ) H → va_S (fxA A 33) s.heap H locs → W p l e rm_X11_run s m args below meth c H locs 0 0 (MQ below (Qcx D (wM A C) (fxA A 33) (some (.int res.1)) res.2) args s 0 0 (fxA A 33)) (F0 m 115 ls [])) : ∀ (x1 : Int32) (x2 : Int32) (y1 : Int32) (y2 : Int32) (σ : St) (H : Heap) (locs : List Loc) (ls : Array Slot), F_mX11_run_238 b115 x1 x2 y1 y2 σ = some res → lv_has ls 3 [(0, .ref (A 0)), (1, .int x1), (2, .int x2)] → va_P D vwCl (wM A C σ) H → va_S (fxA A 33) s.heap H locs → W p l e rm_X11_run s m args below meth c H locs 0 0 (MQ below (Qcx D (wM A C) (fxA A 33) (some (.int res.1)) res.2) args s 0 0 (fxA A 33)) (F0 m 238 ls [.int y2, .int y1, .ref (A 23)]) := by
  obtain ⟨hx, hb, hml, hown, hts, hK, hr, hlk, hZ⟩ := id cx
  intro x1 x2 y1 y2 σ H locs ls hf hl hP hS
  obtain ⟨z1, hf⟩ := gd_some hf
  refine pM_a23 hx hb hK hP hA hS (ib_in z1) dX11_run_238 (fun H locs hP hS => ?_)
  refine lv_aload_n hx hb dX11_run_239 rfl (lv_at hl 0 rfl) ?_
  refine gM_0_48 hx hb hts hown hK hP (hts _ kw_176) dX11_run_240 ?_
  refine lv_iload_n hx hb dX11_run_243 rfl (lv_at hl 2 rfl) ?_
  refine lv_bipush (v := 7) hx hb dX11_run_244 (by decide) ?_
  refine lv_iadd hx hb dX11_run_246 ?_
  refine lv_iconst (v := (-1)) hx hb dX11_run_247 (by decide) ?_
  obtain ⟨z2, hf⟩ := gd_some hf
  refine pM_a23 hx hb hK hP hA hS (ib_in z2) dX11_run_248 (fun H locs hP hS => ?_)
  refine lv_iinc (v := (x1 + 1)) (lv' := [(1, .int (x1 + 1)), (0, .ref (A 0)), (2, .int x2)]) hx hb dX11_run_249 hl (k := 1) rfl rfl (by decide) rfl (fun ls hl => ?_)
  refine lv_goto (tgt := 115) hx hb dX11_run_252 (by decide) ?_
  have hP : va_P D vwCl (wM A C (sA σ 23 (upd (upd (σ.2.1 23) y1.toNatClampNeg y2) (x2 + 7).toNatClampNeg (-1)))) H := hP
  exact hb115 _ _ _ _ _ hf (lv_sub hl [1, 0] rfl) hP hS
set_option maxHeartbeats 4000000 in
set_option maxRecDepth 100000 in
theorem w_F_mX11_run_115 {p : Program} {l : Launch} {e : Env} {s : State} {m : MethodId} {args : Array Value} {below : List Frame} {meth : Method} {c : Code} {D : va_G} {C : Nat → ClassId} {A adK adV : Nat → Nat} (hA : apA A 33) (cx : Cxx D C adK adV (fxA A 33) p s m args meth c cX11_run 3 RX11 (some .int)) {res : (Int32 × St)} : ∀ (n : Nat), ∀ (x1 : Int32) (σ : St) (H : Heap) (locs : List Loc) (ls : Array Slot), F_mX11_run_115 n x1 σ = some res → lv_has ls 3 [(0, .ref (A 0)), (1, .int x1)] → va_P D vwCl (wM A C σ) H → va_S (fxA A 33) s.heap H locs → W p l e rm_X11_run s m args below meth c H locs 0 0 (MQ below (Qcx D (wM A C) (fxA A 33) (some (.int res.1)) res.2) args s 0 0 (fxA A 33)) (F0 m 115 ls []) := by
  obtain ⟨hx, hb, hml, hown, hts, hK, hr, hlk, hZ⟩ := id cx
  intro n
  induction n with
  | zero =>
    intro x1 σ H locs ls hf hl hP hS
    exact absurd (show (none : Option (Int32 × St)) = some res from hf) (by intro h; cases h)
  | succ n ih =>
    intro x1 σ H locs ls hf hl hP hS
    refine lv_iload_n hx hb dX11_run_115 rfl (lv_at hl 1 rfl) ?_
    refine lv_aload_n hx hb dX11_run_116 rfl (lv_at hl 0 rfl) ?_
    refine gM_0_17 hx hb hts hown hK hP (v := (σ.1 12)) rfl (hts _ kw_416) dX11_run_117 ?_
    refine lv_icmp_ge (tgt := 255) hx hb dX11_run_120 (by decide) (fun c3 => ?_) (fun c3 => ?_)
    · have hf := (if_pos c3).symm.trans hf
      refine lv_aload_n hx hb dX11_run_255 rfl (lv_at hl 0 rfl) ?_
      obtain ⟨σ_r4, h_r4, hf⟩ := bv_some hf
      refine cx_V (As := []) (rest := []) cx (ct_mX11_share l D C A adK adV hA h_r4) (cw_X11_286 hts ⟨Nat.le_of_ble_eq_true rfl, Nat.le_of_ble_eq_true rfl⟩) (va_recv hK hP (ci := 11) (q0 := 0) rfl (wM_0 A C _)) hP hS rfl hl.1 rfl (Nat.le_of_ble_eq_true rfl) dX11_run_256 ⟨Nat.zero_le _, Nat.zero_le _⟩ (fun H locs hP hS => ?_)
      refine lv_aload_n hx hb dX11_run_259 rfl (lv_at hl 0 rfl) ?_
      refine gM_0_31 hx hb hts hown hK hP (v := (σ_r4.1 16)) rfl (hts _ kw_746) dX11_run_260 ?_
      exact cx_iret cx hP hS hf dX11_run_263
    · have hf := (if_neg c3).symm.trans hf
      refine lv_bipush (v := 8) hx hb dX11_run_123 (by decide) ?_
      refine lv_iload_n hx hb dX11_run_125 rfl (lv_at hl 1 rfl) ?_
      refine lv_imul hx hb dX11_run_126 ?_
      refine lv_istore_n (lv' := [(2, .int (8 * x1)), (0, .ref (A 0)), (1, .int x1)]) hx hb dX11_run_127 rfl hl (by decide) rfl (fun ls hl => ?_)
      refine lv_aload_n hx hb dX11_run_128 rfl (lv_at hl 1 rfl) ?_
      refine gM_0_48 hx hb hts hown hK hP (hts _ kw_176) dX11_run_129 ?_
      refine lv_iload_n hx hb dX11_run_132 rfl (lv_at hl 0 rfl) ?_
      refine lv_aload_n hx hb dX11_run_133 rfl (lv_at hl 1 rfl) ?_
      refine gM_0_39 hx hb hts hown hK hP (hts _ kw_169) dX11_run_134 ?_
      refine lv_iload_n hx hb dX11_run_137 rfl (lv_at hl 2 rfl) ?_
      obtain ⟨z5, hf⟩ := gd_some hf
      refine gM_a16 hx hb hK hP (ib_in z5) (v := (σ.2.1 16 x1.toNatClampNeg)) rfl dX11_run_138 ?_
      obtain ⟨z6, hf⟩ := gd_some hf
      refine pM_a23 hx hb hK hP hA hS (ib_in z6) dX11_run_139 (fun H locs hP hS => ?_)
      refine lv_aload_n hx hb dX11_run_140 rfl (lv_at hl 1 rfl) ?_
      refine gM_0_48 hx hb hts hown hK hP (hts _ kw_176) dX11_run_141 ?_
      refine lv_iload_n hx hb dX11_run_144 rfl (lv_at hl 0 rfl) ?_
      refine lv_iconst (v := 1) hx hb dX11_run_145 (by decide) ?_
      refine lv_iadd hx hb dX11_run_146 ?_
      refine lv_aload_n hx hb dX11_run_147 rfl (lv_at hl 1 rfl) ?_
      refine gM_0_40 hx hb hts hown hK hP (hts _ kw_170) dX11_run_148 ?_
      refine lv_iload_n hx hb dX11_run_151 rfl (lv_at hl 2 rfl) ?_
      refine gM_a17 hx hb hK hP (ib_in z5) (v := (σ.2.1 17 x1.toNatClampNeg)) rfl dX11_run_152 ?_
      obtain ⟨z7, hf⟩ := gd_some hf
      refine pM_a23 hx hb hK hP hA hS (ib_in z7) dX11_run_153 (fun H locs hP hS => ?_)
      refine lv_aload_n hx hb dX11_run_154 rfl (lv_at hl 1 rfl) ?_
      refine gM_0_48 hx hb hts hown hK hP (hts _ kw_176) dX11_run_155 ?_
      refine lv_iload_n hx hb dX11_run_158 rfl (lv_at hl 0 rfl) ?_
      refine lv_iconst (v := 2) hx hb dX11_run_159 (by decide) ?_
      refine lv_iadd hx hb dX11_run_160 ?_
      refine lv_aload_n hx hb dX11_run_161 rfl (lv_at hl 1 rfl) ?_
      refine gM_0_41 hx hb hts hown hK hP (hts _ kw_171) dX11_run_162 ?_
      refine lv_iload_n hx hb dX11_run_165 rfl (lv_at hl 2 rfl) ?_
      refine gM_a18 hx hb hK hP (ib_in z5) (v := (σ.2.1 18 x1.toNatClampNeg)) rfl dX11_run_166 ?_
      obtain ⟨z8, hf⟩ := gd_some hf
      refine pM_a23 hx hb hK hP hA hS (ib_in z8) dX11_run_167 (fun H locs hP hS => ?_)
      refine lv_aload_n hx hb dX11_run_168 rfl (lv_at hl 1 rfl) ?_
      refine gM_0_48 hx hb hts hown hK hP (hts _ kw_176) dX11_run_169 ?_
      refine lv_iload_n hx hb dX11_run_172 rfl (lv_at hl 0 rfl) ?_
      refine lv_iconst (v := 3) hx hb dX11_run_173 (by decide) ?_
      refine lv_iadd hx hb dX11_run_174 ?_
      refine lv_aload_n hx hb dX11_run_175 rfl (lv_at hl 1 rfl) ?_
      refine gM_0_30 hx hb hts hown hK hP (hts _ kw_167) dX11_run_176 ?_
      refine lv_iload_n hx hb dX11_run_179 rfl (lv_at hl 2 rfl) ?_
      refine gM_a14 hx hb hK hP (ib_in z5) (v := (σ.2.1 14 x1.toNatClampNeg)) rfl dX11_run_180 ?_
      obtain ⟨z9, hf⟩ := gd_some hf
      refine pM_a23 hx hb hK hP hA hS (ib_in z9) dX11_run_181 (fun H locs hP hS => ?_)
      refine lv_aload_n hx hb dX11_run_182 rfl (lv_at hl 1 rfl) ?_
      refine gM_0_48 hx hb hts hown hK hP (hts _ kw_176) dX11_run_183 ?_
      refine lv_iload_n hx hb dX11_run_186 rfl (lv_at hl 0 rfl) ?_
      refine lv_iconst (v := 4) hx hb dX11_run_187 (by decide) ?_
      refine lv_iadd hx hb dX11_run_188 ?_
      refine lv_aload_n hx hb dX11_run_189 rfl (lv_at hl 1 rfl) ?_
      refine gM_0_42 hx hb hts hown hK hP (hts _ kw_172) dX11_run_190 ?_
      refine lv_iload_n hx hb dX11_run_193 rfl (lv_at hl 2 rfl) ?_
      refine gM_a19 hx hb hK hP (ib_in z5) (v := (σ.2.1 19 x1.toNatClampNeg)) rfl dX11_run_194 ?_
      obtain ⟨z10, hf⟩ := gd_some hf
      refine pM_a23 hx hb hK hP hA hS (ib_in z10) dX11_run_195 (fun H locs hP hS => ?_)
      refine lv_aload_n hx hb dX11_run_196 rfl (lv_at hl 1 rfl) ?_
      refine gM_0_48 hx hb hts hown hK hP (hts _ kw_176) dX11_run_197 ?_
      refine lv_iload_n hx hb dX11_run_200 rfl (lv_at hl 0 rfl) ?_
      refine lv_iconst (v := 5) hx hb dX11_run_201 (by decide) ?_
      refine lv_iadd hx hb dX11_run_202 ?_
      refine lv_aload_n hx hb dX11_run_203 rfl (lv_at hl 1 rfl) ?_
      refine gM_0_43 hx hb hts hown hK hP (hts _ kw_173) dX11_run_204 ?_
      refine lv_iload_n hx hb dX11_run_207 rfl (lv_at hl 2 rfl) ?_
      refine gM_a20 hx hb hK hP (ib_in z5) (v := (σ.2.1 20 x1.toNatClampNeg)) rfl dX11_run_208 ?_
      obtain ⟨z11, hf⟩ := gd_some hf
      refine pM_a23 hx hb hK hP hA hS (ib_in z11) dX11_run_209 (fun H locs hP hS => ?_)
      refine lv_aload_n hx hb dX11_run_210 rfl (lv_at hl 1 rfl) ?_
      refine gM_0_48 hx hb hts hown hK hP (hts _ kw_176) dX11_run_211 ?_
      refine lv_iload_n hx hb dX11_run_214 rfl (lv_at hl 0 rfl) ?_
      refine lv_bipush (v := 6) hx hb dX11_run_215 (by decide) ?_
      refine lv_iadd hx hb dX11_run_217 ?_
      refine lv_aload_n hx hb dX11_run_218 rfl (lv_at hl 1 rfl) ?_
      refine gM_0_30 hx hb hts hown hK hP (hts _ kw_167) dX11_run_219 ?_
      refine lv_iload_n hx hb dX11_run_222 rfl (lv_at hl 2 rfl) ?_
      refine gM_a14 hx hb hK hP (ib_in z5) (v := (σ.2.1 14 x1.toNatClampNeg)) rfl dX11_run_223 ?_
      refine lv_aload_n hx hb dX11_run_224 rfl (lv_at hl 1 rfl) ?_
      refine gM_0_22 hx hb hts hown hK hP (hts _ kw_159) dX11_run_225 ?_
      refine lv_iload_n hx hb dX11_run_228 rfl (lv_at hl 2 rfl) ?_
      refine gM_a6 hx hb hK hP (ib_in z5) (v := (σ.2.1 6 x1.toNatClampNeg)) rfl dX11_run_229 ?_
      refine lv_icmp_ne (tgt := 237) hx hb dX11_run_230 (by decide) (fun c12 => ?_) (fun c12 => ?_)
      · have hf := (if_neg c12).symm.trans hf
        refine lv_iconst (v := 1) hx hb dX11_run_237 (by decide) ?_
        have hP : va_P D vwCl (wM A C (sA σ 23 (upd (upd (upd (upd (upd (upd (σ.2.1 23) (8 * x1).toNatClampNeg (σ.2.1 16 x1.toNatClampNeg)) ((8 * x1) + 1).toNatClampNeg (σ.2.1 17 x1.toNatClampNeg)) ((8 * x1) + 2).toNatClampNeg (σ.2.1 18 x1.toNatClampNeg)) ((8 * x1) + 3).toNatClampNeg (σ.2.1 14 x1.toNatClampNeg)) ((8 * x1) + 4).toNatClampNeg (σ.2.1 19 x1.toNatClampNeg)) ((8 * x1) + 5).toNatClampNeg (σ.2.1 20 x1.toNatClampNeg)))) H := hP
        exact w_F_mX11_run_238 hA cx ih _ _ _ _ _ _ _ _ hf (lv_sub hl [1, 2, 0] rfl) hP hS
      · have hf := (if_pos c12).symm.trans hf
        refine lv_iconst (v := 0) hx hb dX11_run_233 (by decide) ?_
        refine lv_goto (tgt := 238) hx hb dX11_run_234 (by decide) ?_
        have hP : va_P D vwCl (wM A C (sA σ 23 (upd (upd (upd (upd (upd (upd (σ.2.1 23) (8 * x1).toNatClampNeg (σ.2.1 16 x1.toNatClampNeg)) ((8 * x1) + 1).toNatClampNeg (σ.2.1 17 x1.toNatClampNeg)) ((8 * x1) + 2).toNatClampNeg (σ.2.1 18 x1.toNatClampNeg)) ((8 * x1) + 3).toNatClampNeg (σ.2.1 14 x1.toNatClampNeg)) ((8 * x1) + 4).toNatClampNeg (σ.2.1 19 x1.toNatClampNeg)) ((8 * x1) + 5).toNatClampNeg (σ.2.1 20 x1.toNatClampNeg)))) H := hP
        exact w_F_mX11_run_238 hA cx ih _ _ _ _ _ _ _ _ hf (lv_sub hl [1, 2, 0] rfl) hP hS
set_option maxHeartbeats 4000000 in
set_option maxRecDepth 100000 in
theorem w_F_mX11_run_81 {p : Program} {l : Launch} {e : Env} {s : State} {m : MethodId} {args : Array Value} {below : List Frame} {meth : Method} {c : Code} {D : va_G} {C : Nat → ClassId} {A adK adV : Nat → Nat} (hA : apA A 33) (cx : Cxx D C adK adV (fxA A 33) p s m args meth c cX11_run 3 RX11 (some .int)) {res : (Int32 × St)} : ∀ (n : Nat), ∀ (x1 : Int32) (σ : St) (H : Heap) (locs : List Loc) (ls : Array Slot), F_mX11_run_81 n x1 σ = some res → lv_has ls 3 [(0, .ref (A 0)), (1, .int x1)] → va_P D vwCl (wM A C σ) H → va_S (fxA A 33) s.heap H locs → W p l e rm_X11_run s m args below meth c H locs 0 0 (MQ below (Qcx D (wM A C) (fxA A 33) (some (.int res.1)) res.2) args s 0 0 (fxA A 33)) (F0 m 81 ls []) := by
  obtain ⟨hx, hb, hml, hown, hts, hK, hr, hlk, hZ⟩ := id cx
  intro n
  induction n with
  | zero =>
    intro x1 σ H locs ls hf hl hP hS
    exact absurd (show (none : Option (Int32 × St)) = some res from hf) (by intro h; cases h)
  | succ n ih =>
    intro x1 σ H locs ls hf hl hP hS
    refine lv_iload_n hx hb dX11_run_81 rfl (lv_at hl 1 rfl) ?_
    refine lv_bipush (v := 100) hx hb dX11_run_82 (by decide) ?_
    refine lv_icmp_ge (tgt := 105) hx hb dX11_run_84 (by decide) (fun c13 => ?_) (fun c13 => ?_)
    · have hf := (if_pos c13).symm.trans hf
      refine lv_aload_n hx hb dX11_run_105 rfl (lv_at hl 0 rfl) ?_
      refine lv_aload_n hx hb dX11_run_106 rfl (lv_at hl 0 rfl) ?_
      refine gM_0_17 hx hb hts hown hK hP (v := (σ.1 12)) rfl (hts _ kw_416) dX11_run_107 ?_
      refine pM_0_47 hx hb hts hown hK hP hA hS (hts _ kw_745) dX11_run_110 (fun H locs hP hS => ?_)
      refine lv_iconst (v := 0) hx hb dX11_run_113 (by decide) ?_
      refine lv_istore_n (lv' := [(1, .int 0), (0, .ref (A 0))]) hx hb dX11_run_114 rfl hl (by decide) rfl (fun ls hl => ?_)
      have hP : va_P D vwCl (wM A C (sI σ 24 (σ.1 12))) H := hP
      exact w_F_mX11_run_115 hA cx FU _ _ _ _ _ hf (lv_sub hl [1, 0] rfl) hP hS
    · have hf := (if_neg c13).symm.trans hf
      refine lv_aload_n hx hb dX11_run_87 rfl (lv_at hl 0 rfl) ?_
      refine gM_0_46 hx hb hts hown hK hP (hts _ kw_175) dX11_run_88 ?_
      refine lv_iload_n hx hb dX11_run_91 rfl (lv_at hl 1 rfl) ?_
      refine lv_aload_n hx hb dX11_run_92 rfl (lv_at hl 0 rfl) ?_
      refine gM_0_38 hx hb hts hown hK hP (hts _ kw_168) dX11_run_93 ?_
      refine lv_iload_n hx hb dX11_run_96 rfl (lv_at hl 1 rfl) ?_
      obtain ⟨z14, hf⟩ := gd_some hf
      refine gM_a15 hx hb hK hP (ib_in z14) (v := (σ.2.1 15 x1.toNatClampNeg)) rfl dX11_run_97 ?_
      refine pM_a22 hx hb hK hP hA hS (ib_in z14) dX11_run_98 (fun H locs hP hS => ?_)
      refine lv_iinc (v := (x1 + 1)) (lv' := [(1, .int (x1 + 1)), (0, .ref (A 0))]) hx hb dX11_run_99 hl (k := 1) rfl rfl (by decide) rfl (fun ls hl => ?_)
      refine lv_goto (tgt := 81) hx hb dX11_run_102 (by decide) ?_
      have hP : va_P D vwCl (wM A C (sA σ 22 (upd (σ.2.1 22) x1.toNatClampNeg (σ.2.1 15 x1.toNatClampNeg)))) H := hP
      exact ih _ _ _ _ _ hf (lv_sub hl [1, 0] rfl) hP hS
set_option maxHeartbeats 4000000 in
set_option maxRecDepth 100000 in
theorem ct_mX11_run (l : Launch) (D : va_G) (C : Nat → ClassId) (A adK adV : Nat → Nat) (hA : apA A 33)  {σ : St} {res : (Int32 × St)} (hf : F_mX11_run σ = some res) : Met l yX11_run (Cond.code yX11_run cX11_run 3 (some .int) :: wsL_law) rm_X11_run (Pcx D C (wM A C) adK adV (fxA A 33) [.ref (A 0)] σ) (Qcx D (wM A C) (fxA A 33) (some (.int res.1)) res.2) 0 0 (fxA A 33) := by
  refine Met.ofW (cc := cX11_run) (maxL := 3) (ret := (some .int)) (by decide) rfl ?_
  intro p e s m args below meth c s₁ B hml hv
  obtain ⟨rfl, hP, hK, hZ⟩ := hv
  have cx : Cxx D C adK adV (fxA A 33) p s m _ meth c cX11_run 3 RX11 (some .int) := ⟨B.exec, B.bytes, hml, findClass_of_methodNamed B.named, fun w h => atoms_spec (ws := Cond.code yX11_run cX11_run 3 (some .int) :: wsL_law) B.pre w (List.mem_cons_of_mem _ h), hK, B.returns, B.notSynchronized, hZ⟩
  obtain ⟨hx, hb, -, hown, hts, -, hr, hlk, -⟩ := id cx
  have hS : va_S (fxA A 33) s.heap s.heap [] := va_S.rf
  have hl := lv_entry ([.ref (A 0)]) (n := 3) (Nat.le_of_ble_eq_true rfl)
  rw [lg_entry_eq]
  generalize (lg_sl ([.ref (A 0)]) ++ List.replicate (3 - (lg_sl ([.ref (A 0)])).length) Slot.unset).toArray = ls at hl ⊢
  have hl : lv_has ls 3 [(0, .ref (A 0))] := hl
  show W p l e rm_X11_run s m _ below meth c s.heap [] 0 0 _ _
  refine lv_aload_n hx hb dX11_run_0 rfl (lv_at hl 0 rfl) ?_
  refine gM_0_17 hx hb hts hown hK hP (v := (σ.1 12)) rfl (hts _ kw_416) dX11_run_1 ?_
  refine lv_if_ne (tgt := 10) hx hb dX11_run_4 (by decide) (fun c15 => ?_) (fun c15 => ?_)
  · have hf := (if_neg c15).symm.trans hf
    refine lv_aload_n hx hb dX11_run_10 rfl (lv_at hl 0 rfl) ?_
    obtain ⟨σ_r16, h_r16, hf⟩ := bv_some hf
    refine cx_V (As := []) (rest := []) cx (ct_mX11_goes l D C A adK adV hA h_r16) (cw_X11_280 hts ⟨Nat.le_of_ble_eq_true rfl, Nat.le_of_ble_eq_true rfl⟩) (va_recv hK hP (ci := 11) (q0 := 0) rfl (wM_0 A C _)) hP hS rfl hl.1 rfl (Nat.le_of_ble_eq_true rfl) dX11_run_11 ⟨Nat.zero_le _, Nat.zero_le _⟩ (fun H locs hP hS => ?_)
    refine lv_aload_n hx hb dX11_run_14 rfl (lv_at hl 0 rfl) ?_
    refine lv_iconst (v := 1) hx hb dX11_run_15 (by decide) ?_
    refine pM_0_44 hx hb hts hown hK hP hA hS rfl rfl (hts _ kw_474) dX11_run_16 (fun H locs hP hS => ?_)
    refine lv_aload_n hx hb dX11_run_19 rfl (lv_at hl 0 rfl) ?_
    refine gM_0_45 hx hb hts hown hK hP (hts _ kw_174) dX11_run_20 ?_
    refine lv_iconst (v := 0) hx hb dX11_run_23 (by decide) ?_
    refine lv_aload_n hx hb dX11_run_24 rfl (lv_at hl 0 rfl) ?_
    refine gM_0_32 hx hb hts hown hK hP (v := (σ_r16.1 17)) rfl (hts _ kw_739) dX11_run_25 ?_
    refine pM_a21 hx hb hK hP hA hS (ib_in (by decide)) dX11_run_28 (fun H locs hP hS => ?_)
    refine lv_aload_n hx hb dX11_run_29 rfl (lv_at hl 0 rfl) ?_
    refine gM_0_45 hx hb hts hown hK hP (hts _ kw_174) dX11_run_30 ?_
    refine lv_iconst (v := 1) hx hb dX11_run_33 (by decide) ?_
    refine lv_aload_n hx hb dX11_run_34 rfl (lv_at hl 0 rfl) ?_
    refine gM_0_33 hx hb hts hown hK hP (v := (σ_r16.1 18)) rfl (hts _ kw_740) dX11_run_35 ?_
    refine pM_a21 hx hb hK hP hA hS (ib_in (by decide)) dX11_run_38 (fun H locs hP hS => ?_)
    refine lv_aload_n hx hb dX11_run_39 rfl (lv_at hl 0 rfl) ?_
    refine gM_0_45 hx hb hts hown hK hP (hts _ kw_174) dX11_run_40 ?_
    refine lv_iconst (v := 2) hx hb dX11_run_43 (by decide) ?_
    refine lv_aload_n hx hb dX11_run_44 rfl (lv_at hl 0 rfl) ?_
    refine gM_0_34 hx hb hts hown hK hP (v := (σ_r16.1 19)) rfl (hts _ kw_741) dX11_run_45 ?_
    refine pM_a21 hx hb hK hP hA hS (ib_in (by decide)) dX11_run_48 (fun H locs hP hS => ?_)
    refine lv_aload_n hx hb dX11_run_49 rfl (lv_at hl 0 rfl) ?_
    refine gM_0_45 hx hb hts hown hK hP (hts _ kw_174) dX11_run_50 ?_
    refine lv_iconst (v := 3) hx hb dX11_run_53 (by decide) ?_
    refine lv_aload_n hx hb dX11_run_54 rfl (lv_at hl 0 rfl) ?_
    refine gM_0_35 hx hb hts hown hK hP (v := (σ_r16.1 20)) rfl (hts _ kw_742) dX11_run_55 ?_
    refine pM_a21 hx hb hK hP hA hS (ib_in (by decide)) dX11_run_58 (fun H locs hP hS => ?_)
    refine lv_aload_n hx hb dX11_run_59 rfl (lv_at hl 0 rfl) ?_
    refine gM_0_45 hx hb hts hown hK hP (hts _ kw_174) dX11_run_60 ?_
    refine lv_iconst (v := 4) hx hb dX11_run_63 (by decide) ?_
    refine lv_aload_n hx hb dX11_run_64 rfl (lv_at hl 0 rfl) ?_
    refine gM_0_36 hx hb hts hown hK hP (v := (σ_r16.1 21)) rfl (hts _ kw_743) dX11_run_65 ?_
    refine pM_a21 hx hb hK hP hA hS (ib_in (by decide)) dX11_run_68 (fun H locs hP hS => ?_)
    refine lv_aload_n hx hb dX11_run_69 rfl (lv_at hl 0 rfl) ?_
    refine gM_0_45 hx hb hts hown hK hP (hts _ kw_174) dX11_run_70 ?_
    refine lv_iconst (v := 5) hx hb dX11_run_73 (by decide) ?_
    refine lv_aload_n hx hb dX11_run_74 rfl (lv_at hl 0 rfl) ?_
    refine gM_0_37 hx hb hts hown hK hP (v := (σ_r16.1 22)) rfl (hts _ kw_744) dX11_run_75 ?_
    refine pM_a21 hx hb hK hP hA hS (ib_in (by decide)) dX11_run_78 (fun H locs hP hS => ?_)
    refine lv_iconst (v := 0) hx hb dX11_run_79 (by decide) ?_
    refine lv_istore_n (lv' := [(1, .int 0), (0, .ref (A 0))]) hx hb dX11_run_80 rfl hl (by decide) rfl (fun ls hl => ?_)
    have hP : va_P D vwCl (wM A C (sA (sI σ_r16 23 1) 21 (upd (upd (upd (upd (upd (upd (σ_r16.2.1 21) 0 (σ_r16.1 17)) 1 (σ_r16.1 18)) 2 (σ_r16.1 19)) 3 (σ_r16.1 20)) 4 (σ_r16.1 21)) 5 (σ_r16.1 22)))) H := hP
    exact w_F_mX11_run_81 hA cx FU _ _ _ _ _ hf (lv_sub hl [1, 0] rfl) hP hS
  · have hf := (if_pos c15).symm.trans hf
    refine lv_bipush (v := (-4)) hx hb dX11_run_7 (by decide) ?_
    exact cx_iret cx hP hS hf dX11_run_9
set_option maxHeartbeats 4000000 in
set_option maxRecDepth 100000 in
theorem ct_mX11_ran (l : Launch) (D : va_G) (C : Nat → ClassId) (A adK adV : Nat → Nat) (hA : apA A 33) {x1 : Int32} {σ : St} {res : (Int32 × St)} (hf : F_mX11_ran x1 σ = some res) : Met l yX11_ran (Cond.code yX11_ran cX11_ran 2 (some .int) :: wsL_law) rm_X11_ran (Pcx D C (wM A C) adK adV (fxA A 33) [.ref (A 0), .int x1] σ) (Qcx D (wM A C) (fxA A 33) (some (.int res.1)) res.2) 0 0 (fxA A 33) := by
  refine Met.ofW (cc := cX11_ran) (maxL := 2) (ret := (some .int)) (by decide) rfl ?_
  intro p e s m args below meth c s₁ B hml hv
  obtain ⟨rfl, hP, hK, hZ⟩ := hv
  have cx : Cxx D C adK adV (fxA A 33) p s m _ meth c cX11_ran 2 RX11 (some .int) := ⟨B.exec, B.bytes, hml, findClass_of_methodNamed B.named, fun w h => atoms_spec (ws := Cond.code yX11_ran cX11_ran 2 (some .int) :: wsL_law) B.pre w (List.mem_cons_of_mem _ h), hK, B.returns, B.notSynchronized, hZ⟩
  obtain ⟨hx, hb, -, hown, hts, -, hr, hlk, -⟩ := id cx
  have hS : va_S (fxA A 33) s.heap s.heap [] := va_S.rf
  have hl := lv_entry ([.ref (A 0), .int x1]) (n := 2) (Nat.le_of_ble_eq_true rfl)
  rw [lg_entry_eq]
  generalize (lg_sl ([.ref (A 0), .int x1]) ++ List.replicate (2 - (lg_sl ([.ref (A 0), .int x1])).length) Slot.unset).toArray = ls at hl ⊢
  have hl : lv_has ls 2 [(0, .ref (A 0)), (1, .int x1)] := hl
  show W p l e rm_X11_ran s m _ below meth c s.heap [] 0 0 _ _
  refine lv_aload_n hx hb dX11_ran_0 rfl (lv_at hl 0 rfl) ?_
  refine gM_0_44 hx hb hts hown hK hP (v := (σ.1 23)) rfl (hts _ kw_474) dX11_ran_1 ?_
  refine lv_if_ne (tgt := 10) hx hb dX11_ran_4 (by decide) (fun c1 => ?_) (fun c1 => ?_)
  · have hf := (if_neg c1).symm.trans hf
    refine lv_iload_n hx hb dX11_ran_10 rfl (lv_at hl 1 rfl) ?_
    refine lv_iconst (v := 0) hx hb dX11_ran_11 (by decide) ?_
    refine lv_iconst (v := 5) hx hb dX11_ran_12 (by decide) ?_
    obtain ⟨⟨r2, σ_r2⟩, h_r2, hf⟩ := bd_some hf
    refine cx_S (As := [.int x1, .int 0, .int 5]) (rest := []) cx (ct_mX11_in l D C A adK adV hA h_r2) (cw_X11_181 hts ⟨Nat.le_of_ble_eq_true rfl, Nat.le_of_ble_eq_true rfl⟩) hP hS rfl hl.1 rfl (Nat.le_of_ble_eq_true rfl) dX11_ran_13 ⟨Nat.zero_le _, Nat.zero_le _⟩ (fun H locs hP hS => ?_)
    refine lv_if_eq (tgt := 26) hx hb dX11_ran_16 (by decide) (fun c3 => ?_) (fun c3 => ?_)
    · have hf := (if_pos c3).symm.trans hf
      refine lv_iload_n hx hb dX11_ran_26 rfl (lv_at hl 1 rfl) ?_
      refine lv_bipush (v := 100) hx hb dX11_ran_27 (by decide) ?_
      refine lv_icmp_lt (tgt := 64) hx hb dX11_ran_29 (by decide) (fun c4 => ?_) (fun c4 => ?_)
      · have hf := (if_pos c4).symm.trans hf
        refine lv_ldc (v := (-2147483647)) hx hb hown (hts _ kw_588) dX11_ran_64 ?_
        exact cx_iret cx hP hS hf dX11_ran_66
      · have hf := (if_neg c4).symm.trans hf
        refine lv_iload_n hx hb dX11_ran_32 rfl (lv_at hl 1 rfl) ?_
        refine lv_sipush (v := 200) hx hb dX11_ran_33 (by decide) ?_
        refine lv_icmp_ge (tgt := 64) hx hb dX11_ran_36 (by decide) (fun c5 => ?_) (fun c5 => ?_)
        · have hf := (if_pos c5).symm.trans hf
          refine lv_ldc (v := (-2147483647)) hx hb hown (hts _ kw_588) dX11_ran_64 ?_
          exact cx_iret cx hP hS hf dX11_ran_66
        · have hf := (if_neg c5).symm.trans hf
          refine lv_iload_n hx hb dX11_ran_39 rfl (lv_at hl 1 rfl) ?_
          refine lv_bipush (v := 100) hx hb dX11_ran_40 (by decide) ?_
          refine lv_isub hx hb dX11_ran_42 ?_
          refine lv_aload_n hx hb dX11_ran_43 rfl (lv_at hl 0 rfl) ?_
          refine gM_0_45 hx hb hts hown hK hP (hts _ kw_174) dX11_ran_44 ?_
          refine lv_iconst (v := 3) hx hb dX11_ran_47 (by decide) ?_
          refine gM_a21 hx hb hK hP (ib_in (by decide)) (v := (σ_r2.2.1 21 3)) rfl dX11_ran_48 ?_
          refine lv_icmp_ge (tgt := 64) hx hb dX11_ran_49 (by decide) (fun c6 => ?_) (fun c6 => ?_)
          · have hf := (if_pos c6).symm.trans hf
            refine lv_ldc (v := (-2147483647)) hx hb hown (hts _ kw_588) dX11_ran_64 ?_
            exact cx_iret cx hP hS hf dX11_ran_66
          · have hf := (if_neg c6).symm.trans hf
            refine lv_aload_n hx hb dX11_ran_52 rfl (lv_at hl 0 rfl) ?_
            refine gM_0_46 hx hb hts hown hK hP (hts _ kw_175) dX11_ran_53 ?_
            refine lv_iload_n hx hb dX11_ran_56 rfl (lv_at hl 1 rfl) ?_
            refine lv_bipush (v := 100) hx hb dX11_ran_57 (by decide) ?_
            refine lv_isub hx hb dX11_ran_59 ?_
            obtain ⟨z7, hf⟩ := gd_some hf
            refine gM_a22 hx hb hK hP (ib_in z7) (v := (σ_r2.2.1 22 (x1 - 100).toNatClampNeg)) rfl dX11_ran_60 ?_
            refine lv_goto (tgt := 66) hx hb dX11_ran_61 (by decide) ?_
            exact cx_iret cx hP hS hf dX11_ran_66
    · have hf := (if_neg c3).symm.trans hf
      refine lv_aload_n hx hb dX11_ran_19 rfl (lv_at hl 0 rfl) ?_
      refine gM_0_45 hx hb hts hown hK hP (hts _ kw_174) dX11_ran_20 ?_
      refine lv_iload_n hx hb dX11_ran_23 rfl (lv_at hl 1 rfl) ?_
      obtain ⟨z8, hf⟩ := gd_some hf
      refine gM_a21 hx hb hK hP (ib_in z8) (v := (σ_r2.2.1 21 x1.toNatClampNeg)) rfl dX11_ran_24 ?_
      exact cx_iret cx hP hS hf dX11_ran_25
  · have hf := (if_pos c1).symm.trans hf
    refine lv_ldc (v := (-2147483647)) hx hb hown (hts _ kw_588) dX11_ran_7 ?_
    exact cx_iret cx hP hS hf dX11_ran_9
set_option maxHeartbeats 4000000 in
set_option maxRecDepth 100000 in
theorem ct_mX11_of (l : Launch) (D : va_G) (C : Nat → ClassId) (A adK adV : Nat → Nat) (hA : apA A 33) {x1 : Int32} {x2 : Int32} {σ : St} {res : (Int32 × St)} (hf : F_mX11_of x1 x2 σ = some res) : Met l yX11_of (Cond.code yX11_of cX11_of 3 (some .int) :: wsL_law) rm_X11_of (Pcx D C (wM A C) adK adV (fxA A 33) [.ref (A 0), .int x1, .int x2] σ) (Qcx D (wM A C) (fxA A 33) (some (.int res.1)) res.2) 0 0 (fxA A 33) := by
  refine Met.ofW (cc := cX11_of) (maxL := 3) (ret := (some .int)) (by decide) rfl ?_
  intro p e s m args below meth c s₁ B hml hv
  obtain ⟨rfl, hP, hK, hZ⟩ := hv
  have cx : Cxx D C adK adV (fxA A 33) p s m _ meth c cX11_of 3 RX11 (some .int) := ⟨B.exec, B.bytes, hml, findClass_of_methodNamed B.named, fun w h => atoms_spec (ws := Cond.code yX11_of cX11_of 3 (some .int) :: wsL_law) B.pre w (List.mem_cons_of_mem _ h), hK, B.returns, B.notSynchronized, hZ⟩
  obtain ⟨hx, hb, -, hown, hts, -, hr, hlk, -⟩ := id cx
  have hS : va_S (fxA A 33) s.heap s.heap [] := va_S.rf
  have hl := lv_entry ([.ref (A 0), .int x1, .int x2]) (n := 3) (Nat.le_of_ble_eq_true rfl)
  rw [lg_entry_eq]
  generalize (lg_sl ([.ref (A 0), .int x1, .int x2]) ++ List.replicate (3 - (lg_sl ([.ref (A 0), .int x1, .int x2])).length) Slot.unset).toArray = ls at hl ⊢
  have hl : lv_has ls 3 [(0, .ref (A 0)), (1, .int x1), (2, .int x2)] := hl
  show W p l e rm_X11_of s m _ below meth c s.heap [] 0 0 _ _
  refine lv_aload_n hx hb dX11_of_0 rfl (lv_at hl 0 rfl) ?_
  refine gM_0_44 hx hb hts hown hK hP (v := (σ.1 23)) rfl (hts _ kw_474) dX11_of_1 ?_
  refine lv_if_eq (tgt := 45) hx hb dX11_of_4 (by decide) (fun c1 => ?_) (fun c1 => ?_)
  · have hf := (if_pos c1).symm.trans hf
    refine lv_ldc (v := (-2147483647)) hx hb hown (hts _ kw_588) dX11_of_45 ?_
    exact cx_iret cx hP hS hf dX11_of_47
  · have hf := (if_neg c1).symm.trans hf
    refine lv_iload_n hx hb dX11_of_7 rfl (lv_at hl 1 rfl) ?_
    refine lv_iconst (v := 0) hx hb dX11_of_8 (by decide) ?_
    refine lv_aload_n hx hb dX11_of_9 rfl (lv_at hl 0 rfl) ?_
    refine gM_0_47 hx hb hts hown hK hP (v := (σ.1 24)) rfl (hts _ kw_745) dX11_of_10 ?_
    refine lv_iconst (v := 1) hx hb dX11_of_13 (by decide) ?_
    refine lv_isub hx hb dX11_of_14 ?_
    obtain ⟨⟨r2, σ_r2⟩, h_r2, hf⟩ := bd_some hf
    refine cx_S (As := [.int x1, .int 0, .int ((σ.1 24) - 1)]) (rest := []) cx (ct_mX11_in l D C A adK adV hA h_r2) (cw_X11_181 hts ⟨Nat.le_of_ble_eq_true rfl, Nat.le_of_ble_eq_true rfl⟩) hP hS rfl hl.1 rfl (Nat.le_of_ble_eq_true rfl) dX11_of_15 ⟨Nat.zero_le _, Nat.zero_le _⟩ (fun H locs hP hS => ?_)
    refine lv_if_eq (tgt := 45) hx hb dX11_of_18 (by decide) (fun c3 => ?_) (fun c3 => ?_)
    · have hf := (if_pos c3).symm.trans hf
      refine lv_ldc (v := (-2147483647)) hx hb hown (hts _ kw_588) dX11_of_45 ?_
      exact cx_iret cx hP hS hf dX11_of_47
    · have hf := (if_neg c3).symm.trans hf
      refine lv_iload_n hx hb dX11_of_21 rfl (lv_at hl 2 rfl) ?_
      refine lv_iconst (v := 0) hx hb dX11_of_22 (by decide) ?_
      refine lv_bipush (v := 7) hx hb dX11_of_23 (by decide) ?_
      obtain ⟨⟨r4, σ_r4⟩, h_r4, hf⟩ := bd_some hf
      refine cx_S (As := [.int x2, .int 0, .int 7]) (rest := []) cx (ct_mX11_in l D C A adK adV hA h_r4) (cw_X11_181 hts ⟨Nat.le_of_ble_eq_true rfl, Nat.le_of_ble_eq_true rfl⟩) hP hS rfl hl.1 rfl (Nat.le_of_ble_eq_true rfl) dX11_of_25 ⟨Nat.zero_le _, Nat.zero_le _⟩ (fun H locs hP hS => ?_)
      refine lv_if_eq (tgt := 45) hx hb dX11_of_28 (by decide) (fun c5 => ?_) (fun c5 => ?_)
      · have hf := (if_pos c5).symm.trans hf
        refine lv_ldc (v := (-2147483647)) hx hb hown (hts _ kw_588) dX11_of_45 ?_
        exact cx_iret cx hP hS hf dX11_of_47
      · have hf := (if_neg c5).symm.trans hf
        refine lv_aload_n hx hb dX11_of_31 rfl (lv_at hl 0 rfl) ?_
        refine gM_0_48 hx hb hts hown hK hP (hts _ kw_176) dX11_of_32 ?_
        refine lv_bipush (v := 8) hx hb dX11_of_35 (by decide) ?_
        refine lv_iload_n hx hb dX11_of_37 rfl (lv_at hl 1 rfl) ?_
        refine lv_imul hx hb dX11_of_38 ?_
        refine lv_iload_n hx hb dX11_of_39 rfl (lv_at hl 2 rfl) ?_
        refine lv_iadd hx hb dX11_of_40 ?_
        obtain ⟨z6, hf⟩ := gd_some hf
        refine gM_a23 hx hb hK hP (ib_in z6) (v := (σ_r4.2.1 23 ((8 * x1) + x2).toNatClampNeg)) rfl dX11_of_41 ?_
        refine lv_goto (tgt := 47) hx hb dX11_of_42 (by decide) ?_
        exact cx_iret cx hP hS hf dX11_of_47
set_option maxHeartbeats 4000000 in
set_option maxRecDepth 100000 in
theorem w_F_mX11_needed_42 {p : Program} {l : Launch} {e : Env} {s : State} {m : MethodId} {args : Array Value} {below : List Frame} {meth : Method} {c : Code} {D : va_G} {C : Nat → ClassId} {A adK adV : Nat → Nat} (hA : apA A 33) (cx : Cxx D C adK adV (fxA A 33) p s m args meth c cX11_needed 5 RX11 (some .int)) {res : (Int32 × St)} {b4 : Int32 → Int32 → St → Option (Int32 × St)} (hb4 : ∀ (x1 : Int32) (x2 : Int32) (σ : St) (H : Heap) (locs : List Loc) (ls : Array Slot), b4 x1 x2 σ = some res → lv_has ls 5 [(0, .ref (A 0)), (1, .int x1), (2, .int x2)] → va_P D vwCl (wM A C σ) H → va_S (fxA A 33) s.heap H locs → W p l e rm_X11_needed s m args below meth c H locs 0 0 (MQ below (Qcx D (wM A C) (fxA A 33) (some (.int res.1)) res.2) args s 0 0 (fxA A 33)) (F0 m 4 ls [])) : ∀ (n : Nat), ∀ (x1 : Int32) (x2 : Int32) (x3 : Int32) (x4 : Int32) (σ : St) (H : Heap) (locs : List Loc) (ls : Array Slot), F_mX11_needed_42 b4 n x1 x2 x3 x4 σ = some res → lv_has ls 5 [(0, .ref (A 0)), (1, .int x1), (2, .int x2), (3, .int x3), (4, .int x4)] → va_P D vwCl (wM A C σ) H → va_S (fxA A 33) s.heap H locs → W p l e rm_X11_needed s m args below meth c H locs 0 0 (MQ below (Qcx D (wM A C) (fxA A 33) (some (.int res.1)) res.2) args s 0 0 (fxA A 33)) (F0 m 42 ls []) := by
  obtain ⟨hx, hb, hml, hown, hts, hK, hr, hlk, hZ⟩ := id cx
  intro n
  induction n with
  | zero =>
    intro x1 x2 x3 x4 σ H locs ls hf hl hP hS
    exact absurd (show (none : Option (Int32 × St)) = some res from hf) (by intro h; cases h)
  | succ n ih =>
    intro x1 x2 x3 x4 σ H locs ls hf hl hP hS
    refine lv_iload hx hb dX11_needed_42 (lv_at hl 4 rfl) ?_
    refine lv_aload_n hx hb dX11_needed_44 rfl (lv_at hl 0 rfl) ?_
    refine gM_0_47 hx hb hts hown hK hP (v := (σ.1 24)) rfl (hts _ kw_745) dX11_needed_45 ?_
    refine lv_icmp_ge (tgt := 133) hx hb dX11_needed_48 (by decide) (fun c1 => ?_) (fun c1 => ?_)
    · have hf := (if_pos c1).symm.trans hf
      refine lv_iload_n hx hb dX11_needed_133 rfl (lv_at hl 3 rfl) ?_
      refine lv_iload_n hx hb dX11_needed_134 rfl (lv_at hl 1 rfl) ?_
      refine lv_icmp_le (tgt := 142) hx hb dX11_needed_135 (by decide) (fun c2 => ?_) (fun c2 => ?_)
      · have hf := (if_pos c2).symm.trans hf
        refine lv_iload_n hx hb dX11_needed_142 rfl (lv_at hl 1 rfl) ?_
        refine lv_istore_n (lv' := [(1, .int x1), (0, .ref (A 0)), (2, .int x2), (3, .int x3), (4, .int x4)]) hx hb dX11_needed_143 rfl hl (by decide) rfl (fun ls hl => ?_)
        refine lv_iinc (v := (x2 + 1)) (lv' := [(2, .int (x2 + 1)), (1, .int x1), (0, .ref (A 0)), (3, .int x3), (4, .int x4)]) hx hb dX11_needed_144 hl (k := 2) rfl rfl (by decide) rfl (fun ls hl => ?_)
        refine lv_goto (tgt := 4) hx hb dX11_needed_147 (by decide) ?_
        exact hb4 _ _ _ _ _ _ hf (lv_sub hl [2, 1, 0] rfl) hP hS
      · have hf := (if_neg c2).symm.trans hf
        refine lv_iload_n hx hb dX11_needed_138 rfl (lv_at hl 3 rfl) ?_
        refine lv_goto (tgt := 143) hx hb dX11_needed_139 (by decide) ?_
        refine lv_istore_n (lv' := [(1, .int x3), (0, .ref (A 0)), (2, .int x2), (3, .int x3), (4, .int x4)]) hx hb dX11_needed_143 rfl hl (by decide) rfl (fun ls hl => ?_)
        refine lv_iinc (v := (x2 + 1)) (lv' := [(2, .int (x2 + 1)), (1, .int x3), (0, .ref (A 0)), (3, .int x3), (4, .int x4)]) hx hb dX11_needed_144 hl (k := 2) rfl rfl (by decide) rfl (fun ls hl => ?_)
        refine lv_goto (tgt := 4) hx hb dX11_needed_147 (by decide) ?_
        exact hb4 _ _ _ _ _ _ hf (lv_sub hl [2, 1, 0] rfl) hP hS
    · have hf := (if_neg c1).symm.trans hf
      refine lv_iload_n hx hb dX11_needed_51 rfl (lv_at hl 3 rfl) ?_
      refine lv_aload_n hx hb dX11_needed_52 rfl (lv_at hl 0 rfl) ?_
      refine gM_0_48 hx hb hts hown hK hP (hts _ kw_176) dX11_needed_53 ?_
      refine lv_bipush (v := 8) hx hb dX11_needed_56 (by decide) ?_
      refine lv_iload hx hb dX11_needed_58 (lv_at hl 4 rfl) ?_
      refine lv_imul hx hb dX11_needed_60 ?_
      refine lv_iconst (v := 4) hx hb dX11_needed_61 (by decide) ?_
      refine lv_iadd hx hb dX11_needed_62 ?_
      obtain ⟨z3, hf⟩ := gd_some hf
      refine gM_a23 hx hb hK hP (ib_in z3) (v := (σ.2.1 23 ((8 * x4) + 4).toNatClampNeg)) rfl dX11_needed_63 ?_
      refine lv_iconst (v := (-1)) hx hb dX11_needed_64 (by decide) ?_
      refine lv_icmp_eq (tgt := 124) hx hb dX11_needed_65 (by decide) (fun c4 => ?_) (fun c4 => ?_)
      · have hf := (if_pos c4).symm.trans hf
        refine lv_iconst (v := 0) hx hb dX11_needed_124 (by decide) ?_
        refine lv_iadd hx hb dX11_needed_125 ?_
        refine lv_istore_n (lv' := [(3, .int (x3 + 0)), (0, .ref (A 0)), (1, .int x1), (2, .int x2), (4, .int x4)]) hx hb dX11_needed_126 rfl hl (by decide) rfl (fun ls hl => ?_)
        refine lv_iinc (v := (x4 + 1)) (lv' := [(4, .int (x4 + 1)), (3, .int (x3 + 0)), (0, .ref (A 0)), (1, .int x1), (2, .int x2)]) hx hb dX11_needed_127 hl (k := 4) rfl rfl (by decide) rfl (fun ls hl => ?_)
        refine lv_goto (tgt := 42) hx hb dX11_needed_130 (by decide) ?_
        exact ih _ _ _ _ _ _ _ _ hf (lv_sub hl [2, 3, 4, 1, 0] rfl) hP hS
      · have hf := (if_neg c4).symm.trans hf
        refine lv_aload_n hx hb dX11_needed_68 rfl (lv_at hl 0 rfl) ?_
        refine gM_0_48 hx hb hts hown hK hP (hts _ kw_176) dX11_needed_69 ?_
        refine lv_bipush (v := 8) hx hb dX11_needed_72 (by decide) ?_
        refine lv_iload hx hb dX11_needed_74 (lv_at hl 4 rfl) ?_
        refine lv_imul hx hb dX11_needed_76 ?_
        refine lv_iconst (v := 4) hx hb dX11_needed_77 (by decide) ?_
        refine lv_iadd hx hb dX11_needed_78 ?_
        refine gM_a23 hx hb hK hP (ib_in z3) (v := (σ.2.1 23 ((8 * x4) + 4).toNatClampNeg)) rfl dX11_needed_79 ?_
        refine lv_aload_n hx hb dX11_needed_80 rfl (lv_at hl 0 rfl) ?_
        refine gM_0_48 hx hb hts hown hK hP (hts _ kw_176) dX11_needed_81 ?_
        refine lv_bipush (v := 8) hx hb dX11_needed_84 (by decide) ?_
        refine lv_iload_n hx hb dX11_needed_86 rfl (lv_at hl 2 rfl) ?_
        refine lv_imul hx hb dX11_needed_87 ?_
        refine lv_iconst (v := 4) hx hb dX11_needed_88 (by decide) ?_
        refine lv_iadd hx hb dX11_needed_89 ?_
        obtain ⟨z5, hf⟩ := gd_some hf
        refine gM_a23 hx hb hK hP (ib_in z5) (v := (σ.2.1 23 ((8 * x2) + 4).toNatClampNeg)) rfl dX11_needed_90 ?_
        refine lv_icmp_gt (tgt := 124) hx hb dX11_needed_91 (by decide) (fun c6 => ?_) (fun c6 => ?_)
        · have hf := (if_pos c6).symm.trans hf
          refine lv_iconst (v := 0) hx hb dX11_needed_124 (by decide) ?_
          refine lv_iadd hx hb dX11_needed_125 ?_
          refine lv_istore_n (lv' := [(3, .int (x3 + 0)), (0, .ref (A 0)), (1, .int x1), (2, .int x2), (4, .int x4)]) hx hb dX11_needed_126 rfl hl (by decide) rfl (fun ls hl => ?_)
          refine lv_iinc (v := (x4 + 1)) (lv' := [(4, .int (x4 + 1)), (3, .int (x3 + 0)), (0, .ref (A 0)), (1, .int x1), (2, .int x2)]) hx hb dX11_needed_127 hl (k := 4) rfl rfl (by decide) rfl (fun ls hl => ?_)
          refine lv_goto (tgt := 42) hx hb dX11_needed_130 (by decide) ?_
          exact ih _ _ _ _ _ _ _ _ hf (lv_sub hl [2, 3, 4, 1, 0] rfl) hP hS
        · have hf := (if_neg c6).symm.trans hf
          refine lv_aload_n hx hb dX11_needed_94 rfl (lv_at hl 0 rfl) ?_
          refine gM_0_48 hx hb hts hown hK hP (hts _ kw_176) dX11_needed_95 ?_
          refine lv_bipush (v := 8) hx hb dX11_needed_98 (by decide) ?_
          refine lv_iload hx hb dX11_needed_100 (lv_at hl 4 rfl) ?_
          refine lv_imul hx hb dX11_needed_102 ?_
          refine lv_iconst (v := 5) hx hb dX11_needed_103 (by decide) ?_
          refine lv_iadd hx hb dX11_needed_104 ?_
          obtain ⟨z7, hf⟩ := gd_some hf
          refine gM_a23 hx hb hK hP (ib_in z7) (v := (σ.2.1 23 ((8 * x4) + 5).toNatClampNeg)) rfl dX11_needed_105 ?_
          refine lv_aload_n hx hb dX11_needed_106 rfl (lv_at hl 0 rfl) ?_
          refine gM_0_48 hx hb hts hown hK hP (hts _ kw_176) dX11_needed_107 ?_
          refine lv_bipush (v := 8) hx hb dX11_needed_110 (by decide) ?_
          refine lv_iload_n hx hb dX11_needed_112 rfl (lv_at hl 2 rfl) ?_
          refine lv_imul hx hb dX11_needed_113 ?_
          refine lv_iconst (v := 4) hx hb dX11_needed_114 (by decide) ?_
          refine lv_iadd hx hb dX11_needed_115 ?_
          refine gM_a23 hx hb hK hP (ib_in z5) (v := (σ.2.1 23 ((8 * x2) + 4).toNatClampNeg)) rfl dX11_needed_116 ?_
          refine lv_icmp_lt (tgt := 124) hx hb dX11_needed_117 (by decide) (fun c8 => ?_) (fun c8 => ?_)
          · have hf := (if_pos c8).symm.trans hf
            refine lv_iconst (v := 0) hx hb dX11_needed_124 (by decide) ?_
            refine lv_iadd hx hb dX11_needed_125 ?_
            refine lv_istore_n (lv' := [(3, .int (x3 + 0)), (0, .ref (A 0)), (1, .int x1), (2, .int x2), (4, .int x4)]) hx hb dX11_needed_126 rfl hl (by decide) rfl (fun ls hl => ?_)
            refine lv_iinc (v := (x4 + 1)) (lv' := [(4, .int (x4 + 1)), (3, .int (x3 + 0)), (0, .ref (A 0)), (1, .int x1), (2, .int x2)]) hx hb dX11_needed_127 hl (k := 4) rfl rfl (by decide) rfl (fun ls hl => ?_)
            refine lv_goto (tgt := 42) hx hb dX11_needed_130 (by decide) ?_
            exact ih _ _ _ _ _ _ _ _ hf (lv_sub hl [2, 3, 4, 1, 0] rfl) hP hS
          · have hf := (if_neg c8).symm.trans hf
            refine lv_iconst (v := 1) hx hb dX11_needed_120 (by decide) ?_
            refine lv_goto (tgt := 125) hx hb dX11_needed_121 (by decide) ?_
            refine lv_iadd hx hb dX11_needed_125 ?_
            refine lv_istore_n (lv' := [(3, .int (x3 + 1)), (0, .ref (A 0)), (1, .int x1), (2, .int x2), (4, .int x4)]) hx hb dX11_needed_126 rfl hl (by decide) rfl (fun ls hl => ?_)
            refine lv_iinc (v := (x4 + 1)) (lv' := [(4, .int (x4 + 1)), (3, .int (x3 + 1)), (0, .ref (A 0)), (1, .int x1), (2, .int x2)]) hx hb dX11_needed_127 hl (k := 4) rfl rfl (by decide) rfl (fun ls hl => ?_)
            refine lv_goto (tgt := 42) hx hb dX11_needed_130 (by decide) ?_
            exact ih _ _ _ _ _ _ _ _ hf (lv_sub hl [2, 3, 4, 1, 0] rfl) hP hS
set_option maxHeartbeats 4000000 in
set_option maxRecDepth 100000 in
theorem w_F_mX11_needed_4 {p : Program} {l : Launch} {e : Env} {s : State} {m : MethodId} {args : Array Value} {below : List Frame} {meth : Method} {c : Code} {D : va_G} {C : Nat → ClassId} {A adK adV : Nat → Nat} (hA : apA A 33) (cx : Cxx D C adK adV (fxA A 33) p s m args meth c cX11_needed 5 RX11 (some .int)) {res : (Int32 × St)} : ∀ (n : Nat), ∀ (x1 : Int32) (x2 : Int32) (σ : St) (H : Heap) (locs : List Loc) (ls : Array Slot), F_mX11_needed_4 n x1 x2 σ = some res → lv_has ls 5 [(0, .ref (A 0)), (1, .int x1), (2, .int x2)] → va_P D vwCl (wM A C σ) H → va_S (fxA A 33) s.heap H locs → W p l e rm_X11_needed s m args below meth c H locs 0 0 (MQ below (Qcx D (wM A C) (fxA A 33) (some (.int res.1)) res.2) args s 0 0 (fxA A 33)) (F0 m 4 ls []) := by
  obtain ⟨hx, hb, hml, hown, hts, hK, hr, hlk, hZ⟩ := id cx
  intro n
  induction n with
  | zero =>
    intro x1 x2 σ H locs ls hf hl hP hS
    exact absurd (show (none : Option (Int32 × St)) = some res from hf) (by intro h; cases h)
  | succ n ih =>
    intro x1 x2 σ H locs ls hf hl hP hS
    refine lv_iload_n hx hb dX11_needed_4 rfl (lv_at hl 2 rfl) ?_
    refine lv_aload_n hx hb dX11_needed_5 rfl (lv_at hl 0 rfl) ?_
    refine gM_0_47 hx hb hts hown hK hP (v := (σ.1 24)) rfl (hts _ kw_745) dX11_needed_6 ?_
    refine lv_icmp_ge (tgt := 150) hx hb dX11_needed_9 (by decide) (fun c9 => ?_) (fun c9 => ?_)
    · have hf := (if_pos c9).symm.trans hf
      refine lv_iload_n hx hb dX11_needed_150 rfl (lv_at hl 1 rfl) ?_
      exact cx_iret cx hP hS hf dX11_needed_151
    · have hf := (if_neg c9).symm.trans hf
      refine lv_aload_n hx hb dX11_needed_12 rfl (lv_at hl 0 rfl) ?_
      refine gM_0_44 hx hb hts hown hK hP (v := (σ.1 23)) rfl (hts _ kw_474) dX11_needed_13 ?_
      refine lv_if_eq (tgt := 150) hx hb dX11_needed_16 (by decide) (fun c10 => ?_) (fun c10 => ?_)
      · have hf := (if_pos c10).symm.trans hf
        refine lv_iload_n hx hb dX11_needed_150 rfl (lv_at hl 1 rfl) ?_
        exact cx_iret cx hP hS hf dX11_needed_151
      · have hf := (if_neg c10).symm.trans hf
        refine lv_aload_n hx hb dX11_needed_19 rfl (lv_at hl 0 rfl) ?_
        refine gM_0_48 hx hb hts hown hK hP (hts _ kw_176) dX11_needed_20 ?_
        refine lv_bipush (v := 8) hx hb dX11_needed_23 (by decide) ?_
        refine lv_iload_n hx hb dX11_needed_25 rfl (lv_at hl 2 rfl) ?_
        refine lv_imul hx hb dX11_needed_26 ?_
        refine lv_iconst (v := 4) hx hb dX11_needed_27 (by decide) ?_
        refine lv_iadd hx hb dX11_needed_28 ?_
        obtain ⟨z11, hf⟩ := gd_some hf
        refine gM_a23 hx hb hK hP (ib_in z11) (v := (σ.2.1 23 ((8 * x2) + 4).toNatClampNeg)) rfl dX11_needed_29 ?_
        refine lv_iconst (v := (-1)) hx hb dX11_needed_30 (by decide) ?_
        refine lv_icmp_ne (tgt := 37) hx hb dX11_needed_31 (by decide) (fun c12 => ?_) (fun c12 => ?_)
        · have hf := (if_neg c12).symm.trans hf
          refine lv_iconst (v := 0) hx hb dX11_needed_37 (by decide) ?_
          refine lv_istore_n (lv' := [(3, .int 0), (0, .ref (A 0)), (1, .int x1), (2, .int x2)]) hx hb dX11_needed_38 rfl hl (by decide) rfl (fun ls hl => ?_)
          refine lv_iconst (v := 0) hx hb dX11_needed_39 (by decide) ?_
          refine lv_istore (lv' := [(4, .int 0), (3, .int 0), (0, .ref (A 0)), (1, .int x1), (2, .int x2)]) hx hb dX11_needed_40 hl (by decide) rfl (fun ls hl => ?_)
          exact w_F_mX11_needed_42 hA cx ih FU _ _ _ _ _ _ _ _ hf (lv_sub hl [2, 3, 4, 1, 0] rfl) hP hS
        · have hf := (if_pos c12).symm.trans hf
          refine lv_goto (tgt := 144) hx hb dX11_needed_34 (by decide) ?_
          refine lv_iinc (v := (x2 + 1)) (lv' := [(2, .int (x2 + 1)), (0, .ref (A 0)), (1, .int x1)]) hx hb dX11_needed_144 hl (k := 2) rfl rfl (by decide) rfl (fun ls hl => ?_)
          refine lv_goto (tgt := 4) hx hb dX11_needed_147 (by decide) ?_
          exact ih _ _ _ _ _ _ hf (lv_sub hl [1, 2, 0] rfl) hP hS
set_option maxHeartbeats 4000000 in
set_option maxRecDepth 100000 in
theorem ct_mX11_needed (l : Launch) (D : va_G) (C : Nat → ClassId) (A adK adV : Nat → Nat) (hA : apA A 33)  {σ : St} {res : (Int32 × St)} (hf : F_mX11_needed σ = some res) : Met l yX11_needed (Cond.code yX11_needed cX11_needed 5 (some .int) :: wsL_law) rm_X11_needed (Pcx D C (wM A C) adK adV (fxA A 33) [.ref (A 0)] σ) (Qcx D (wM A C) (fxA A 33) (some (.int res.1)) res.2) 0 0 (fxA A 33) := by
  refine Met.ofW (cc := cX11_needed) (maxL := 5) (ret := (some .int)) (by decide) rfl ?_
  intro p e s m args below meth c s₁ B hml hv
  obtain ⟨rfl, hP, hK, hZ⟩ := hv
  have cx : Cxx D C adK adV (fxA A 33) p s m _ meth c cX11_needed 5 RX11 (some .int) := ⟨B.exec, B.bytes, hml, findClass_of_methodNamed B.named, fun w h => atoms_spec (ws := Cond.code yX11_needed cX11_needed 5 (some .int) :: wsL_law) B.pre w (List.mem_cons_of_mem _ h), hK, B.returns, B.notSynchronized, hZ⟩
  obtain ⟨hx, hb, -, hown, hts, -, hr, hlk, -⟩ := id cx
  have hS : va_S (fxA A 33) s.heap s.heap [] := va_S.rf
  have hl := lv_entry ([.ref (A 0)]) (n := 5) (Nat.le_of_ble_eq_true rfl)
  rw [lg_entry_eq]
  generalize (lg_sl ([.ref (A 0)]) ++ List.replicate (5 - (lg_sl ([.ref (A 0)])).length) Slot.unset).toArray = ls at hl ⊢
  have hl : lv_has ls 5 [(0, .ref (A 0))] := hl
  show W p l e rm_X11_needed s m _ below meth c s.heap [] 0 0 _ _
  refine lv_iconst (v := 0) hx hb dX11_needed_0 (by decide) ?_
  refine lv_istore_n (lv' := [(1, .int 0), (0, .ref (A 0))]) hx hb dX11_needed_1 rfl hl (by decide) rfl (fun ls hl => ?_)
  refine lv_iconst (v := 0) hx hb dX11_needed_2 (by decide) ?_
  refine lv_istore_n (lv' := [(2, .int 0), (1, .int 0), (0, .ref (A 0))]) hx hb dX11_needed_3 rfl hl (by decide) rfl (fun ls hl => ?_)
  exact w_F_mX11_needed_4 hA cx FU _ _ _ _ _ _ hf (lv_sub hl [2, 1, 0] rfl) hP hS
