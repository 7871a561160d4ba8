/-! the law's loop -/
theorem lw_sub6 {L i : Nat} (hL : L ≤ 3072) (hi : i ≤ L) : Int32.ofNat L - 6 < nI i ↔ L < i + 6 := by
  have e1 : (Int32.ofNat L).toInt = (L : Int) := nI_toInt (n := L) (by omega)
  have e6 : (6 : Int32).toInt = 6 := by decide
  have e2 : (Int32.ofNat L - 6).toInt = (L : Int) - 6 := by
    rw [fb_subI (by rw [e1, e6]; omega) (by rw [e1, e6]; omega), e1, e6]
  rw [Int32.lt_iff_toInt_lt, e2, nI_toInt (by omega)]
  omega
theorem lw_and31 (x : Int32) : ∃ j, j < 32 ∧ x &&& 31 = nI j := ⟨x.toBitVec.toNat % 2 ^ 5, Nat.mod_lt _ (by decide), pk_and x (m := 31) 5 (by decide)⟩
set_option maxHeartbeats 4000000 in
set_option maxRecDepth 100000 in
theorem lw_loop {p : Program} {l : Launch} {e : Env} {s : State} {m : MethodId} {below : List Frame} {meth : Method} {c : Code} {D : va_G} {C : Nat → ClassId} {adK adV A B : Nat → Nat} {b L : Nat} {xs : Nat → Int32} (hc : LwC D C adK adV A B p s m meth c b L xs) (hL : L ≤ 3072) (n : Nat) : ∀ (i : Nat) (q : Ab) (σ τ : St) (H : Heap) (locs : List Loc) (ls : Array Slot), i ≤ L → L ≤ i + n → OKq q → AX q σ → AM q τ → va_P D vwCl (wX A C σ) H → va_P D vwCl (wM B C τ) H → va_S (fun q => s.heap.size ≤ q) s.heap H locs → lv_has ls 4 [(3, .int (nI i)), (2, .ref (B 0)), (1, .ref (A 0)), (0, .ref b)] → W p l e room_1 s m #[Value.ref b] below meth c H locs 93 7943 (lw_Z below #[Value.ref b] s) (F0 m 18 ls []) := by
  obtain ⟨⟨hx, hb, hr, hml, hown, hts0, hXs, hbl, hlocks, hgv⟩, hK, hZ, hA, hB, hAs, hBs, hAB⟩ := id hc
  have hbA : ¬ s.heap.size ≤ b := Nat.not_le.mpr hbl
  induction n with
  | zero =>
    intro i q σ τ H locs ls hiL hn hq hX hM hP hP2 hS hl
    refine lv_iload_n hx hb dL_law_18 rfl (lv_at hl 0 rfl) ?_
    refine lv_aload_n hx hb dL_law_19 rfl (lv_at hl 3 rfl) ?_
    refine va_slen hx hb hXs hbl hbA hS dL_law_20 ?_
    refine lv_bipush (v := 6) hx hb dL_law_21 (by decide) ?_
    refine lv_isub hx hb dL_law_23 ?_
    refine lv_icmp_gt (tgt := 880) hx hb dL_law_24 (by decide) (fun c9 => ?_) (fun c9 => absurd ((lw_sub6 hL hiL).mpr (by omega)) c9)
    refine lv_iconst (v := 1) hx hb dL_law_880 (by decide) ?_
    refine va_forget (fun q hq => hS.2.2 q hq) ?_
    refine W.widen (k := 600000) (n := 7302250) (by omega) (by omega) ?_
    exact lw_ret hx hb hr hlocks dL_law_881
  | succ n ih =>
    intro i q σ τ H locs ls hiL hn hq hX hM hP hP2 hS hl
    refine lv_iload_n hx hb dL_law_18 rfl (lv_at hl 0 rfl) ?_
    refine lv_aload_n hx hb dL_law_19 rfl (lv_at hl 3 rfl) ?_
    refine va_slen hx hb hXs hbl hbA hS dL_law_20 ?_
    refine lv_bipush (v := 6) hx hb dL_law_21 (by decide) ?_
    refine lv_isub hx hb dL_law_23 ?_
    refine lv_icmp_gt (tgt := 880) hx hb dL_law_24 (by decide) (fun c9 => ?_) (fun c9 => ?_)
    · refine lv_iconst (v := 1) hx hb dL_law_880 (by decide) ?_
      refine va_forget (fun q hq => hS.2.2 q hq) ?_
      refine W.widen (k := 600000) (n := 7302250) (by omega) (by omega) ?_
      exact lw_ret hx hb hr hlocks dL_law_881
    · have hi : i + 6 ≤ L := Nat.not_lt.mp (fun z => c9 ((lw_sub6 hL hiL).mpr z))
      refine lv_aload_n hx hb dL_law_27 rfl (lv_at hl 3 rfl) ?_
      refine lv_iload_n hx hb dL_law_28 rfl (lv_at hl 0 rfl) ?_
      refine va_sld hx hb hXs hbl hbA hS (vp_in_nI (by omega) (by omega)) dL_law_29 ?_
      refine lv_bipush (v := 31) hx hb dL_law_30 (by decide) ?_
      refine lv_iand hx hb dL_law_32 ?_
      obtain ⟨j, hj, ej⟩ := lw_and31 (xs (nI i).toNatClampNeg)
      rw [ej]
      have kk : ∀ (q' : Ab) (σ' τ' : St) (H : Heap) (locs : List Loc), OKq q' → AX q' σ' → AM q' τ' → va_P D vwCl (wX A C σ') H → va_P D vwCl (wM B C τ') H → va_S (fun q => s.heap.size ≤ q) s.heap H locs → W p l e room_1 s m #[Value.ref b] below meth c H locs 93 7943 (lw_Z below #[Value.ref b] s) (F0 m 874 ls []) := by
        intro q' σ' τ' H locs hq' hX' hM' hP' hP2' hS'
        refine lv_iinc (v := nI (i + 6)) (lv' := [(3, .int (nI (i + 6))), (2, .ref (B 0)), (1, .ref (A 0)), (0, .ref b)]) hx hb dL_law_874 hl (k := 0) rfl (nI_add i 6) (by decide) rfl (fun ls hl => ?_)
        refine lv_goto (tgt := 18) hx hb dL_law_877 (by decide) ?_
        exact ih (i + 6) q' σ' τ' H locs ls hi (by omega) hq' hX' hM' hP' hP2' hS' hl
      by_cases h28 : j < 28
      · rcases (show j = 0 ∨ j = 1 ∨ j = 2 ∨ j = 3 ∨ j = 4 ∨ j = 5 ∨ j = 6 ∨ j = 7 ∨ j = 8 ∨ j = 9 ∨ j = 10 ∨ j = 11 ∨ j = 12 ∨ j = 13 ∨ j = 14 ∨ j = 15 ∨ j = 16 ∨ j = 17 ∨ j = 18 ∨ j = 19 ∨ j = 20 ∨ j = 21 ∨ j = 22 ∨ j = 23 ∨ j = 24 ∨ j = 25 ∨ j = 26 ∨ j = 27 by omega) with rfl | rfl | rfl | rfl | rfl | rfl | rfl | rfl | rfl | rfl | rfl | rfl | rfl | rfl | rfl | rfl | rfl | rfl | rfl | rfl | rfl | rfl | rfl | rfl | rfl | rfl | rfl | rfl
        · exact lv_tableIn (off := 127) (tgt := 160) hx hb dL_law_33 (by decide) (by decide) rfl (by decide) (lc_160 hc hi hL hq hX hM hP hP2 hS hl kk)
        · exact lv_tableIn (off := 190) (tgt := 223) hx hb dL_law_33 (by decide) (by decide) rfl (by decide) (lc_223 hc hi hL hq hX hM hP hP2 hS hl kk)
        · exact lv_tableIn (off := 213) (tgt := 246) hx hb dL_law_33 (by decide) (by decide) rfl (by decide) (lc_246 hc hi hL hq hX hM hP hP2 hS hl kk)
        · exact lv_tableIn (off := 226) (tgt := 259) hx hb dL_law_33 (by decide) (by decide) rfl (by decide) (lc_259 hc hi hL hq hX hM hP hP2 hS hl kk)
        · exact lv_tableIn (off := 239) (tgt := 272) hx hb dL_law_33 (by decide) (by decide) rfl (by decide) (lc_272 hc hi hL hq hX hM hP hP2 hS hl kk)
        · exact lv_tableIn (off := 262) (tgt := 295) hx hb dL_law_33 (by decide) (by decide) rfl (by decide) (lc_295 hc hi hL hq hX hM hP hP2 hS hl kk)
        · exact lv_tableIn (off := 285) (tgt := 318) hx hb dL_law_33 (by decide) (by decide) rfl (by decide) (lc_318 hc hi hL hq hX hM hP hP2 hS hl kk)
        · exact lv_tableIn (off := 308) (tgt := 341) hx hb dL_law_33 (by decide) (by decide) rfl (by decide) (lc_341 hc hi hL hq hX hM hP hP2 hS hl kk)
        · exact lv_tableIn (off := 341) (tgt := 374) hx hb dL_law_33 (by decide) (by decide) rfl (by decide) (lc_374 hc hi hL hq hX hM hP hP2 hS hl kk)
        · exact lv_tableIn (off := 364) (tgt := 397) hx hb dL_law_33 (by decide) (by decide) rfl (by decide) (lc_397 hc hi hL hq hX hM hP hP2 hS hl kk)
        · exact lv_tableIn (off := 377) (tgt := 410) hx hb dL_law_33 (by decide) (by decide) rfl (by decide) (lc_410 hc hi hL hq hX hM hP hP2 hS hl kk)
        · exact lv_tableIn (off := 400) (tgt := 433) hx hb dL_law_33 (by decide) (by decide) rfl (by decide) (lc_433 hc hi hL hq hX hM hP hP2 hS hl kk)
        · exact lv_tableIn (off := 433) (tgt := 466) hx hb dL_law_33 (by decide) (by decide) rfl (by decide) (lc_466 hc hi hL hq hX hM hP hP2 hS hl kk)
        · exact lv_tableIn (off := 446) (tgt := 479) hx hb dL_law_33 (by decide) (by decide) rfl (by decide) (lc_479 hc hi hL hq hX hM hP hP2 hS hl kk)
        · exact lv_tableIn (off := 469) (tgt := 502) hx hb dL_law_33 (by decide) (by decide) rfl (by decide) (lc_502 hc hi hL hq hX hM hP hP2 hS hl kk)
        · exact lv_tableIn (off := 502) (tgt := 535) hx hb dL_law_33 (by decide) (by decide) rfl (by decide) (lc_535 hc hi hL hq hX hM hP hP2 hS hl kk)
        · exact lv_tableIn (off := 525) (tgt := 558) hx hb dL_law_33 (by decide) (by decide) rfl (by decide) (lc_558 hc hi hL hq hX hM hP hP2 hS hl kk)
        · exact lv_tableIn (off := 538) (tgt := 571) hx hb dL_law_33 (by decide) (by decide) rfl (by decide) (lc_571 hc hi hL hq hX hM hP hP2 hS hl kk)
        · exact lv_tableIn (off := 561) (tgt := 594) hx hb dL_law_33 (by decide) (by decide) rfl (by decide) (lc_594 hc hi hL hq hX hM hP hP2 hS hl kk)
        · exact lv_tableIn (off := 574) (tgt := 607) hx hb dL_law_33 (by decide) (by decide) rfl (by decide) (lc_607 hc hi hL hq hX hM hP hP2 hS hl kk)
        · exact lv_tableIn (off := 587) (tgt := 620) hx hb dL_law_33 (by decide) (by decide) rfl (by decide) (lc_620 hc hi hL hq hX hM hP hP2 hS hl kk)
        · exact lv_tableIn (off := 640) (tgt := 673) hx hb dL_law_33 (by decide) (by decide) rfl (by decide) (lc_673 hc hi hL hq hX hM hP hP2 hS hl kk)
        · exact lv_tableIn (off := 663) (tgt := 696) hx hb dL_law_33 (by decide) (by decide) rfl (by decide) (lc_696 hc hi hL hq hX hM hP hP2 hS hl kk)
        · exact lv_tableIn (off := 686) (tgt := 719) hx hb dL_law_33 (by decide) (by decide) rfl (by decide) (lc_719 hc hi hL hq hX hM hP hP2 hS hl kk)
        · exact lv_tableIn (off := 739) (tgt := 772) hx hb dL_law_33 (by decide) (by decide) rfl (by decide) (lc_772 hc hi hL hq hX hM hP hP2 hS hl kk)
        · exact lv_tableIn (off := 772) (tgt := 805) hx hb dL_law_33 (by decide) (by decide) rfl (by decide) (lc_805 hc hi hL hq hX hM hP hP2 hS hl kk)
        · exact lv_tableIn (off := 795) (tgt := 828) hx hb dL_law_33 (by decide) (by decide) rfl (by decide) (lc_828 hc hi hL hq hX hM hP hP2 hS hl kk)
        · exact lv_tableIn (off := 828) (tgt := 861) hx hb dL_law_33 (by decide) (by decide) rfl (by decide) (lc_861 hc hi hL hq hX hM hP hP2 hS hl kk)
      · exact lv_tableOut (tgt := 874) hx hb dL_law_33 (Or.inr (by rw [nI_toInt (by omega)]; omega)) (by decide) (kk q σ τ H locs hq hX hM hP hP2 hS)
