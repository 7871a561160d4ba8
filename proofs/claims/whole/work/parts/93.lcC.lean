/-! the law's cases -/
set_option maxHeartbeats 4000000 in
set_option maxRecDepth 100000 in
theorem lc_410 {p : Program} {l : Launch} {e : Env} {s : State} {m : MethodId} {below : List Frame} {meth : Method} {c : Code} {D : va_G} {C : Nat → ClassId} {adK adV A B : Nat → Nat} {b L : Nat} {xs : Nat → Int32} (hc : LwC D C adK adV A B p s m meth c b L xs) {i : Nat} (hi : i + 6 ≤ L) (hL : L ≤ 3072) {q : Ab} {σ τ : St} (hq : OKq q) (hX : AX q σ) (hM : AM q τ) {H : Heap} {locs : List Loc} (hP : va_P D vwCl (wX A C σ) H) (hP2 : va_P D vwCl (wM B C τ) H) (hS : va_S (fun q => s.heap.size ≤ q) s.heap H locs) {ls : Array Slot} (hl : lv_has ls 4 [(3, .int (nI i)), (2, .ref (B 0)), (1, .ref (A 0)), (0, .ref b)]) (kk : ∀ (q' : Ab) (σ' τ' : St) (H : Heap) (locs : List Loc), OKq q' → AX q' σ' → AM q' τ' → va_P D vwCl (wX A C σ') H → va_P D vwCl (wM B C τ') H → va_S (fun q => s.heap.size ≤ q) s.heap H locs → W p l e room_1 s m #[Value.ref b] below meth c H locs 93 7943 (lw_Z below #[Value.ref b] s) (F0 m 874 ls [])) : W p l e room_1 s m #[Value.ref b] below meth c H locs 93 7943 (lw_Z below #[Value.ref b] s) (F0 m 410 ls []) := by
  obtain ⟨⟨hx, hb, hr, hml, hown, hts0, hXs, hbl, hlocks, hgv⟩, hK, hZ, hA, hB, hAs, hBs, hAB⟩ := hc
  have hts : ∀ w ∈ wsL_law, w.before #[Value.ref b] s = true := fun w h => hts0 w (wsL_law_in w h)
  have hbA : ¬ s.heap.size ≤ b := Nat.not_le.mpr hbl
  have hin : ∀ k, k < 6 → vp_in (nI i + nI k) L := fun k hk => by rw [nI_add]; exact vp_in_nI (by omega) (by omega)
  have hfrX : ∀ q, fxA A 60 q → s.heap.size ≤ q := fun q ⟨k, h1, h2⟩ => by rw [h2]; exact hAs k h1
  have hfrM : ∀ q, fxA B 33 q → s.heap.size ≤ q := fun q ⟨k, h1, h2⟩ => by rw [h2]; exact hBs k h1
  have hwM : ∀ {τ : St} (k : Nat) (q : Nat × va_E), (wM B C τ)[k]? = some q → ¬ fxA A 60 q.1 := fun k q h ⟨j, h1, h2⟩ => hAB j k h1 (wM_at h).1 (h2.symm.trans (wM_at h).2)
  have hwX : ∀ {σ : St} (k : Nat) (q : Nat × va_E), (wX A C σ)[k]? = some q → ¬ fxA B 33 q.1 := fun k q h ⟨j, h1, h2⟩ => hAB k j (wX_at h).1 h1 ((wX_at h).2.symm.trans h2)
  obtain ⟨r, q', σ', τ', e1, e2, hq', hX', hM'⟩ := (api_ran (xs (nI i + 1).toNatClampNeg)).two q σ τ hq hX hM
  refine lv_aload_n hx hb dL_law_410 rfl (lv_at hl 2 rfl) ?_
  refine lv_aload_n hx hb dL_law_411 rfl (lv_at hl 3 rfl) ?_
  refine lv_iload_n hx hb dL_law_412 rfl (lv_at hl 0 rfl) ?_
  refine lv_iconst (v := 1) hx hb dL_law_413 (by decide) ?_
  refine lv_iadd hx hb dL_law_414 ?_
  refine va_sld hx hb hXs hbl hbA hS (hin 1 (by omega)) dL_law_415 ?_
  refine cl_V (As := [.int (xs (nI i + 1).toNatClampNeg)]) (rest := []) ⟨hx, hb, hml, hown, hts⟩ hK hZ hfrX (ct_xX10_ran l D C A adK adV hA (hf := e1)) (cwV 1 hts (gd_V kw_774 kw_775 kw_776 kw_2 kw_777) rfl rfl rfl (by decide +kernel) ⟨Nat.le_of_ble_eq_true rfl, Nat.le_of_ble_eq_true rfl⟩) (va_recv hK hP (ci := 10) (q0 := 0) rfl rfl) hP hP2 hwM hS rfl hl.1 rfl (Nat.le_of_ble_eq_true rfl) dL_law_416 ⟨by decide, by decide⟩ (fun H locs hP hP2 hS => ?_)
  refine lv_aload_n hx hb dL_law_419 rfl (lv_at hl 1 rfl) ?_
  refine lv_aload_n hx hb dL_law_420 rfl (lv_at hl 3 rfl) ?_
  refine lv_iload_n hx hb dL_law_421 rfl (lv_at hl 0 rfl) ?_
  refine lv_iconst (v := 1) hx hb dL_law_422 (by decide) ?_
  refine lv_iadd hx hb dL_law_423 ?_
  refine va_sld hx hb hXs hbl hbA hS (hin 1 (by omega)) dL_law_424 ?_
  refine cl_V (As := [.int (xs (nI i + 1).toNatClampNeg)]) (rest := [.int r]) ⟨hx, hb, hml, hown, hts⟩ hK hZ hfrM (ct_mX11_ran l D C B adK adV hB (hf := e2)) (cwV 1 hts (gd_V kw_787 kw_788 kw_789 kw_5 kw_790) rfl rfl rfl (by decide +kernel) ⟨Nat.le_of_ble_eq_true rfl, Nat.le_of_ble_eq_true rfl⟩) (va_recv hK hP2 (ci := 11) (q0 := 0) rfl rfl) hP2 hP hwX hS rfl hl.1 rfl (Nat.le_of_ble_eq_true rfl) dL_law_425 ⟨by decide, by decide⟩ (fun H locs hP2 hP hS => ?_)
  exact lv_icmp_eq (tgt := 874) hx hb dL_law_428 (by decide) (fun c9 => kk q' σ' τ' H locs hq' hX' hM' hP hP2 hS) (fun c9 => absurd rfl c9)
set_option maxHeartbeats 4000000 in
set_option maxRecDepth 100000 in
theorem lc_433 {p : Program} {l : Launch} {e : Env} {s : State} {m : MethodId} {below : List Frame} {meth : Method} {c : Code} {D : va_G} {C : Nat → ClassId} {adK adV A B : Nat → Nat} {b L : Nat} {xs : Nat → Int32} (hc : LwC D C adK adV A B p s m meth c b L xs) {i : Nat} (hi : i + 6 ≤ L) (hL : L ≤ 3072) {q : Ab} {σ τ : St} (hq : OKq q) (hX : AX q σ) (hM : AM q τ) {H : Heap} {locs : List Loc} (hP : va_P D vwCl (wX A C σ) H) (hP2 : va_P D vwCl (wM B C τ) H) (hS : va_S (fun q => s.heap.size ≤ q) s.heap H locs) {ls : Array Slot} (hl : lv_has ls 4 [(3, .int (nI i)), (2, .ref (B 0)), (1, .ref (A 0)), (0, .ref b)]) (kk : ∀ (q' : Ab) (σ' τ' : St) (H : Heap) (locs : List Loc), OKq q' → AX q' σ' → AM q' τ' → va_P D vwCl (wX A C σ') H → va_P D vwCl (wM B C τ') H → va_S (fun q => s.heap.size ≤ q) s.heap H locs → W p l e room_1 s m #[Value.ref b] below meth c H locs 93 7943 (lw_Z below #[Value.ref b] s) (F0 m 874 ls [])) : W p l e room_1 s m #[Value.ref b] below meth c H locs 93 7943 (lw_Z below #[Value.ref b] s) (F0 m 433 ls []) := by
  obtain ⟨⟨hx, hb, hr, hml, hown, hts0, hXs, hbl, hlocks, hgv⟩, hK, hZ, hA, hB, hAs, hBs, hAB⟩ := hc
  have hts : ∀ w ∈ wsL_law, w.before #[Value.ref b] s = true := fun w h => hts0 w (wsL_law_in w h)
  have hbA : ¬ s.heap.size ≤ b := Nat.not_le.mpr hbl
  have hin : ∀ k, k < 6 → vp_in (nI i + nI k) L := fun k hk => by rw [nI_add]; exact vp_in_nI (by omega) (by omega)
  have hfrX : ∀ q, fxA A 60 q → s.heap.size ≤ q := fun q ⟨k, h1, h2⟩ => by rw [h2]; exact hAs k h1
  have hfrM : ∀ q, fxA B 33 q → s.heap.size ≤ q := fun q ⟨k, h1, h2⟩ => by rw [h2]; exact hBs k h1
  have hwM : ∀ {τ : St} (k : Nat) (q : Nat × va_E), (wM B C τ)[k]? = some q → ¬ fxA A 60 q.1 := fun k q h ⟨j, h1, h2⟩ => hAB j k h1 (wM_at h).1 (h2.symm.trans (wM_at h).2)
  have hwX : ∀ {σ : St} (k : Nat) (q : Nat × va_E), (wX A C σ)[k]? = some q → ¬ fxA B 33 q.1 := fun k q h ⟨j, h1, h2⟩ => hAB k j (wX_at h).1 h1 ((wX_at h).2.symm.trans h2)
  obtain ⟨r, q', σ', τ', e1, e2, hq', hX', hM'⟩ := (api_of (xs (nI i + 1).toNatClampNeg) (xs (nI i + 2).toNatClampNeg)).two q σ τ hq hX hM
  refine lv_aload_n hx hb dL_law_433 rfl (lv_at hl 2 rfl) ?_
  refine lv_aload_n hx hb dL_law_434 rfl (lv_at hl 3 rfl) ?_
  refine lv_iload_n hx hb dL_law_435 rfl (lv_at hl 0 rfl) ?_
  refine lv_iconst (v := 1) hx hb dL_law_436 (by decide) ?_
  refine lv_iadd hx hb dL_law_437 ?_
  refine va_sld hx hb hXs hbl hbA hS (hin 1 (by omega)) dL_law_438 ?_
  refine lv_aload_n hx hb dL_law_439 rfl (lv_at hl 3 rfl) ?_
  refine lv_iload_n hx hb dL_law_440 rfl (lv_at hl 0 rfl) ?_
  refine lv_iconst (v := 2) hx hb dL_law_441 (by decide) ?_
  refine lv_iadd hx hb dL_law_442 ?_
  refine va_sld hx hb hXs hbl hbA hS (hin 2 (by omega)) dL_law_443 ?_
  refine cl_V (As := [.int (xs (nI i + 1).toNatClampNeg), .int (xs (nI i + 2).toNatClampNeg)]) (rest := []) ⟨hx, hb, hml, hown, hts⟩ hK hZ hfrX (ct_xX10_of l D C A adK adV hA (hf := e1)) (cwV 2 hts (gd_V kw_791 kw_792 kw_793 kw_2 kw_794) rfl rfl rfl (by decide +kernel) ⟨Nat.le_of_ble_eq_true rfl, Nat.le_of_ble_eq_true rfl⟩) (va_recv hK hP (ci := 10) (q0 := 0) rfl rfl) hP hP2 hwM hS rfl hl.1 rfl (Nat.le_of_ble_eq_true rfl) dL_law_444 ⟨by decide, by decide⟩ (fun H locs hP hP2 hS => ?_)
  refine lv_aload_n hx hb dL_law_447 rfl (lv_at hl 1 rfl) ?_
  refine lv_aload_n hx hb dL_law_448 rfl (lv_at hl 3 rfl) ?_
  refine lv_iload_n hx hb dL_law_449 rfl (lv_at hl 0 rfl) ?_
  refine lv_iconst (v := 1) hx hb dL_law_450 (by decide) ?_
  refine lv_iadd hx hb dL_law_451 ?_
  refine va_sld hx hb hXs hbl hbA hS (hin 1 (by omega)) dL_law_452 ?_
  refine lv_aload_n hx hb dL_law_453 rfl (lv_at hl 3 rfl) ?_
  refine lv_iload_n hx hb dL_law_454 rfl (lv_at hl 0 rfl) ?_
  refine lv_iconst (v := 2) hx hb dL_law_455 (by decide) ?_
  refine lv_iadd hx hb dL_law_456 ?_
  refine va_sld hx hb hXs hbl hbA hS (hin 2 (by omega)) dL_law_457 ?_
  refine cl_V (As := [.int (xs (nI i + 1).toNatClampNeg), .int (xs (nI i + 2).toNatClampNeg)]) (rest := [.int r]) ⟨hx, hb, hml, hown, hts⟩ hK hZ hfrM (ct_mX11_of l D C B adK adV hB (hf := e2)) (cwV 2 hts (gd_V kw_799 kw_800 kw_801 kw_5 kw_802) rfl rfl rfl (by decide +kernel) ⟨Nat.le_of_ble_eq_true rfl, Nat.le_of_ble_eq_true rfl⟩) (va_recv hK hP2 (ci := 11) (q0 := 0) rfl rfl) hP2 hP hwX hS rfl hl.1 rfl (Nat.le_of_ble_eq_true rfl) dL_law_458 ⟨by decide, by decide⟩ (fun H locs hP2 hP hS => ?_)
  exact lv_icmp_eq (tgt := 874) hx hb dL_law_461 (by decide) (fun c9 => kk q' σ' τ' H locs hq' hX' hM' hP hP2 hS) (fun c9 => absurd rfl c9)
set_option maxHeartbeats 4000000 in
set_option maxRecDepth 100000 in
theorem lc_466 {p : Program} {l : Launch} {e : Env} {s : State} {m : MethodId} {below : List Frame} {meth : Method} {c : Code} {D : va_G} {C : Nat → ClassId} {adK adV A B : Nat → Nat} {b L : Nat} {xs : Nat → Int32} (hc : LwC D C adK adV A B p s m meth c b L xs) {i : Nat} (hi : i + 6 ≤ L) (hL : L ≤ 3072) {q : Ab} {σ τ : St} (hq : OKq q) (hX : AX q σ) (hM : AM q τ) {H : Heap} {locs : List Loc} (hP : va_P D vwCl (wX A C σ) H) (hP2 : va_P D vwCl (wM B C τ) H) (hS : va_S (fun q => s.heap.size ≤ q) s.heap H locs) {ls : Array Slot} (hl : lv_has ls 4 [(3, .int (nI i)), (2, .ref (B 0)), (1, .ref (A 0)), (0, .ref b)]) (kk : ∀ (q' : Ab) (σ' τ' : St) (H : Heap) (locs : List Loc), OKq q' → AX q' σ' → AM q' τ' → va_P D vwCl (wX A C σ') H → va_P D vwCl (wM B C τ') H → va_S (fun q => s.heap.size ≤ q) s.heap H locs → W p l e room_1 s m #[Value.ref b] below meth c H locs 93 7943 (lw_Z below #[Value.ref b] s) (F0 m 874 ls [])) : W p l e room_1 s m #[Value.ref b] below meth c H locs 93 7943 (lw_Z below #[Value.ref b] s) (F0 m 466 ls []) := by
  obtain ⟨⟨hx, hb, hr, hml, hown, hts0, hXs, hbl, hlocks, hgv⟩, hK, hZ, hA, hB, hAs, hBs, hAB⟩ := hc
  have hts : ∀ w ∈ wsL_law, w.before #[Value.ref b] s = true := fun w h => hts0 w (wsL_law_in w h)
  have hbA : ¬ s.heap.size ≤ b := Nat.not_le.mpr hbl
  have hin : ∀ k, k < 6 → vp_in (nI i + nI k) L := fun k hk => by rw [nI_add]; exact vp_in_nI (by omega) (by omega)
  have hfrX : ∀ q, fxA A 60 q → s.heap.size ≤ q := fun q ⟨k, h1, h2⟩ => by rw [h2]; exact hAs k h1
  have hfrM : ∀ q, fxA B 33 q → s.heap.size ≤ q := fun q ⟨k, h1, h2⟩ => by rw [h2]; exact hBs k h1
  have hwM : ∀ {τ : St} (k : Nat) (q : Nat × va_E), (wM B C τ)[k]? = some q → ¬ fxA A 60 q.1 := fun k q h ⟨j, h1, h2⟩ => hAB j k h1 (wM_at h).1 (h2.symm.trans (wM_at h).2)
  have hwX : ∀ {σ : St} (k : Nat) (q : Nat × va_E), (wX A C σ)[k]? = some q → ¬ fxA B 33 q.1 := fun k q h ⟨j, h1, h2⟩ => hAB k j (wX_at h).1 h1 ((wX_at h).2.symm.trans h2)
  obtain ⟨r, q', σ', τ', e1, e2, hq', hX', hM'⟩ := (api_needed).two q σ τ hq hX hM
  refine lv_aload_n hx hb dL_law_466 rfl (lv_at hl 2 rfl) ?_
  refine cl_V (As := []) (rest := []) ⟨hx, hb, hml, hown, hts⟩ hK hZ hfrX (ct_xX10_needed l D C A adK adV hA (hf := e1)) (cwV 0 hts (gd_V kw_803 kw_804 kw_805 kw_2 kw_806) rfl rfl rfl (by decide +kernel) ⟨Nat.le_of_ble_eq_true rfl, Nat.le_of_ble_eq_true rfl⟩) (va_recv hK hP (ci := 10) (q0 := 0) rfl rfl) hP hP2 hwM hS rfl hl.1 rfl (Nat.le_of_ble_eq_true rfl) dL_law_467 ⟨by decide, by decide⟩ (fun H locs hP hP2 hS => ?_)
  refine lv_aload_n hx hb dL_law_470 rfl (lv_at hl 1 rfl) ?_
  refine cl_V (As := []) (rest := [.int r]) ⟨hx, hb, hml, hown, hts⟩ hK hZ hfrM (ct_mX11_needed l D C B adK adV hB (hf := e2)) (cwV 0 hts (gd_V kw_808 kw_809 kw_810 kw_5 kw_811) rfl rfl rfl (by decide +kernel) ⟨Nat.le_of_ble_eq_true rfl, Nat.le_of_ble_eq_true rfl⟩) (va_recv hK hP2 (ci := 11) (q0 := 0) rfl rfl) hP2 hP hwX hS rfl hl.1 rfl (Nat.le_of_ble_eq_true rfl) dL_law_471 ⟨by decide, by decide⟩ (fun H locs hP2 hP hS => ?_)
  exact lv_icmp_eq (tgt := 874) hx hb dL_law_474 (by decide) (fun c9 => kk q' σ' τ' H locs hq' hX' hM' hP hP2 hS) (fun c9 => absurd rfl c9)
set_option maxHeartbeats 4000000 in
set_option maxRecDepth 100000 in
theorem lc_479 {p : Program} {l : Launch} {e : Env} {s : State} {m : MethodId} {below : List Frame} {meth : Method} {c : Code} {D : va_G} {C : Nat → ClassId} {adK adV A B : Nat → Nat} {b L : Nat} {xs : Nat → Int32} (hc : LwC D C adK adV A B p s m meth c b L xs) {i : Nat} (hi : i + 6 ≤ L) (hL : L ≤ 3072) {q : Ab} {σ τ : St} (hq : OKq q) (hX : AX q σ) (hM : AM q τ) {H : Heap} {locs : List Loc} (hP : va_P D vwCl (wX A C σ) H) (hP2 : va_P D vwCl (wM B C τ) H) (hS : va_S (fun q => s.heap.size ≤ q) s.heap H locs) {ls : Array Slot} (hl : lv_has ls 4 [(3, .int (nI i)), (2, .ref (B 0)), (1, .ref (A 0)), (0, .ref b)]) (kk : ∀ (q' : Ab) (σ' τ' : St) (H : Heap) (locs : List Loc), OKq q' → AX q' σ' → AM q' τ' → va_P D vwCl (wX A C σ') H → va_P D vwCl (wM B C τ') H → va_S (fun q => s.heap.size ≤ q) s.heap H locs → W p l e room_1 s m #[Value.ref b] below meth c H locs 93 7943 (lw_Z below #[Value.ref b] s) (F0 m 874 ls [])) : W p l e room_1 s m #[Value.ref b] below meth c H locs 93 7943 (lw_Z below #[Value.ref b] s) (F0 m 479 ls []) := by
  obtain ⟨⟨hx, hb, hr, hml, hown, hts0, hXs, hbl, hlocks, hgv⟩, hK, hZ, hA, hB, hAs, hBs, hAB⟩ := hc
  have hts : ∀ w ∈ wsL_law, w.before #[Value.ref b] s = true := fun w h => hts0 w (wsL_law_in w h)
  have hbA : ¬ s.heap.size ≤ b := Nat.not_le.mpr hbl
  have hin : ∀ k, k < 6 → vp_in (nI i + nI k) L := fun k hk => by rw [nI_add]; exact vp_in_nI (by omega) (by omega)
  have hfrX : ∀ q, fxA A 60 q → s.heap.size ≤ q := fun q ⟨k, h1, h2⟩ => by rw [h2]; exact hAs k h1
  have hfrM : ∀ q, fxA B 33 q → s.heap.size ≤ q := fun q ⟨k, h1, h2⟩ => by rw [h2]; exact hBs k h1
  have hwM : ∀ {τ : St} (k : Nat) (q : Nat × va_E), (wM B C τ)[k]? = some q → ¬ fxA A 60 q.1 := fun k q h ⟨j, h1, h2⟩ => hAB j k h1 (wM_at h).1 (h2.symm.trans (wM_at h).2)
  have hwX : ∀ {σ : St} (k : Nat) (q : Nat × va_E), (wX A C σ)[k]? = some q → ¬ fxA B 33 q.1 := fun k q h ⟨j, h1, h2⟩ => hAB k j (wX_at h).1 h1 ((wX_at h).2.symm.trans h2)
  obtain ⟨r, q', σ', τ', e1, e2, hq', hX', hM'⟩ := (api_spot (xs (nI i + 1).toNatClampNeg)).two q σ τ hq hX hM
  refine lv_aload_n hx hb dL_law_479 rfl (lv_at hl 2 rfl) ?_
  refine lv_aload_n hx hb dL_law_480 rfl (lv_at hl 3 rfl) ?_
  refine lv_iload_n hx hb dL_law_481 rfl (lv_at hl 0 rfl) ?_
  refine lv_iconst (v := 1) hx hb dL_law_482 (by decide) ?_
  refine lv_iadd hx hb dL_law_483 ?_
  refine va_sld hx hb hXs hbl hbA hS (hin 1 (by omega)) dL_law_484 ?_
  refine cl_V (As := [.int (xs (nI i + 1).toNatClampNeg)]) (rest := []) ⟨hx, hb, hml, hown, hts⟩ hK hZ hfrX (ct_xX10_spot l D C A adK adV hA (hf := e1)) (cwV 1 hts (gd_V kw_812 kw_813 kw_814 kw_2 kw_815) rfl rfl rfl (by decide +kernel) ⟨Nat.le_of_ble_eq_true rfl, Nat.le_of_ble_eq_true rfl⟩) (va_recv hK hP (ci := 10) (q0 := 0) rfl rfl) hP hP2 hwM hS rfl hl.1 rfl (Nat.le_of_ble_eq_true rfl) dL_law_485 ⟨by decide, by decide⟩ (fun H locs hP hP2 hS => ?_)
  refine lv_aload_n hx hb dL_law_488 rfl (lv_at hl 1 rfl) ?_
  refine lv_aload_n hx hb dL_law_489 rfl (lv_at hl 3 rfl) ?_
  refine lv_iload_n hx hb dL_law_490 rfl (lv_at hl 0 rfl) ?_
  refine lv_iconst (v := 1) hx hb dL_law_491 (by decide) ?_
  refine lv_iadd hx hb dL_law_492 ?_
  refine va_sld hx hb hXs hbl hbA hS (hin 1 (by omega)) dL_law_493 ?_
  refine cl_V (As := [.int (xs (nI i + 1).toNatClampNeg)]) (rest := [.int r]) ⟨hx, hb, hml, hown, hts⟩ hK hZ hfrM (ct_mX11_spot l D C B adK adV hB (hf := e2)) (cwV 1 hts (gd_V kw_817 kw_818 kw_819 kw_5 kw_820) rfl rfl rfl (by decide +kernel) ⟨Nat.le_of_ble_eq_true rfl, Nat.le_of_ble_eq_true rfl⟩) (va_recv hK hP2 (ci := 11) (q0 := 0) rfl rfl) hP2 hP hwX hS rfl hl.1 rfl (Nat.le_of_ble_eq_true rfl) dL_law_494 ⟨by decide, by decide⟩ (fun H locs hP2 hP hS => ?_)
  exact lv_icmp_eq (tgt := 874) hx hb dL_law_497 (by decide) (fun c9 => kk q' σ' τ' H locs hq' hX' hM' hP hP2 hS) (fun c9 => absurd rfl c9)
set_option maxHeartbeats 4000000 in
set_option maxRecDepth 100000 in
theorem lc_502 {p : Program} {l : Launch} {e : Env} {s : State} {m : MethodId} {below : List Frame} {meth : Method} {c : Code} {D : va_G} {C : Nat → ClassId} {adK adV A B : Nat → Nat} {b L : Nat} {xs : Nat → Int32} (hc : LwC D C adK adV A B p s m meth c b L xs) {i : Nat} (hi : i + 6 ≤ L) (hL : L ≤ 3072) {q : Ab} {σ τ : St} (hq : OKq q) (hX : AX q σ) (hM : AM q τ) {H : Heap} {locs : List Loc} (hP : va_P D vwCl (wX A C σ) H) (hP2 : va_P D vwCl (wM B C τ) H) (hS : va_S (fun q => s.heap.size ≤ q) s.heap H locs) {ls : Array Slot} (hl : lv_has ls 4 [(3, .int (nI i)), (2, .ref (B 0)), (1, .ref (A 0)), (0, .ref b)]) (kk : ∀ (q' : Ab) (σ' τ' : St) (H : Heap) (locs : List Loc), OKq q' → AX q' σ' → AM q' τ' → va_P D vwCl (wX A C σ') H → va_P D vwCl (wM B C τ') H → va_S (fun q => s.heap.size ≤ q) s.heap H locs → W p l e room_1 s m #[Value.ref b] below meth c H locs 93 7943 (lw_Z below #[Value.ref b] s) (F0 m 874 ls [])) : W p l e room_1 s m #[Value.ref b] below meth c H locs 93 7943 (lw_Z below #[Value.ref b] s) (F0 m 502 ls []) := by
  obtain ⟨⟨hx, hb, hr, hml, hown, hts0, hXs, hbl, hlocks, hgv⟩, hK, hZ, hA, hB, hAs, hBs, hAB⟩ := hc
  have hts : ∀ w ∈ wsL_law, w.before #[Value.ref b] s = true := fun w h => hts0 w (wsL_law_in w h)
  have hbA : ¬ s.heap.size ≤ b := Nat.not_le.mpr hbl
  have hin : ∀ k, k < 6 → vp_in (nI i + nI k) L := fun k hk => by rw [nI_add]; exact vp_in_nI (by omega) (by omega)
  have hfrX : ∀ q, fxA A 60 q → s.heap.size ≤ q := fun q ⟨k, h1, h2⟩ => by rw [h2]; exact hAs k h1
  have hfrM : ∀ q, fxA B 33 q → s.heap.size ≤ q := fun q ⟨k, h1, h2⟩ => by rw [h2]; exact hBs k h1
  have hwM : ∀ {τ : St} (k : Nat) (q : Nat × va_E), (wM B C τ)[k]? = some q → ¬ fxA A 60 q.1 := fun k q h ⟨j, h1, h2⟩ => hAB j k h1 (wM_at h).1 (h2.symm.trans (wM_at h).2)
  have hwX : ∀ {σ : St} (k : Nat) (q : Nat × va_E), (wX A C σ)[k]? = some q → ¬ fxA B 33 q.1 := fun k q h ⟨j, h1, h2⟩ => hAB k j (wX_at h).1 h1 ((wX_at h).2.symm.trans h2)
  obtain ⟨r, q', σ', τ', e1, e2, hq', hX', hM'⟩ := (api_lay (xs (nI i + 1).toNatClampNeg) (xs (nI i + 2).toNatClampNeg)).two q σ τ hq hX hM
  refine lv_aload_n hx hb dL_law_502 rfl (lv_at hl 2 rfl) ?_
  refine lv_aload_n hx hb dL_law_503 rfl (lv_at hl 3 rfl) ?_
  refine lv_iload_n hx hb dL_law_504 rfl (lv_at hl 0 rfl) ?_
  refine lv_iconst (v := 1) hx hb dL_law_505 (by decide) ?_
  refine lv_iadd hx hb dL_law_506 ?_
  refine va_sld hx hb hXs hbl hbA hS (hin 1 (by omega)) dL_law_507 ?_
  refine lv_aload_n hx hb dL_law_508 rfl (lv_at hl 3 rfl) ?_
  refine lv_iload_n hx hb dL_law_509 rfl (lv_at hl 0 rfl) ?_
  refine lv_iconst (v := 2) hx hb dL_law_510 (by decide) ?_
  refine lv_iadd hx hb dL_law_511 ?_
  refine va_sld hx hb hXs hbl hbA hS (hin 2 (by omega)) dL_law_512 ?_
  refine cl_V (As := [.int (xs (nI i + 1).toNatClampNeg), .int (xs (nI i + 2).toNatClampNeg)]) (rest := []) ⟨hx, hb, hml, hown, hts⟩ hK hZ hfrX (ct_xX10_lay l D C A adK adV hA (hf := e1)) (cwV 2 hts (gd_V kw_821 kw_822 kw_823 kw_2 kw_824) rfl rfl rfl (by decide +kernel) ⟨Nat.le_of_ble_eq_true rfl, Nat.le_of_ble_eq_true rfl⟩) (va_recv hK hP (ci := 10) (q0 := 0) rfl rfl) hP hP2 hwM hS rfl hl.1 rfl (Nat.le_of_ble_eq_true rfl) dL_law_513 ⟨by decide, by decide⟩ (fun H locs hP hP2 hS => ?_)
  refine lv_aload_n hx hb dL_law_516 rfl (lv_at hl 1 rfl) ?_
  refine lv_aload_n hx hb dL_law_517 rfl (lv_at hl 3 rfl) ?_
  refine lv_iload_n hx hb dL_law_518 rfl (lv_at hl 0 rfl) ?_
  refine lv_iconst (v := 1) hx hb dL_law_519 (by decide) ?_
  refine lv_iadd hx hb dL_law_520 ?_
  refine va_sld hx hb hXs hbl hbA hS (hin 1 (by omega)) dL_law_521 ?_
  refine lv_aload_n hx hb dL_law_522 rfl (lv_at hl 3 rfl) ?_
  refine lv_iload_n hx hb dL_law_523 rfl (lv_at hl 0 rfl) ?_
  refine lv_iconst (v := 2) hx hb dL_law_524 (by decide) ?_
  refine lv_iadd hx hb dL_law_525 ?_
  refine va_sld hx hb hXs hbl hbA hS (hin 2 (by omega)) dL_law_526 ?_
  refine cl_V (As := [.int (xs (nI i + 1).toNatClampNeg), .int (xs (nI i + 2).toNatClampNeg)]) (rest := [.int r]) ⟨hx, hb, hml, hown, hts⟩ hK hZ hfrM (ct_mX11_lay l D C B adK adV hB (hf := e2)) (cwV 2 hts (gd_V kw_832 kw_833 kw_834 kw_5 kw_835) rfl rfl rfl (by decide +kernel) ⟨Nat.le_of_ble_eq_true rfl, Nat.le_of_ble_eq_true rfl⟩) (va_recv hK hP2 (ci := 11) (q0 := 0) rfl rfl) hP2 hP hwX hS rfl hl.1 rfl (Nat.le_of_ble_eq_true rfl) dL_law_527 ⟨by decide, by decide⟩ (fun H locs hP2 hP hS => ?_)
  exact lv_icmp_eq (tgt := 874) hx hb dL_law_530 (by decide) (fun c9 => kk q' σ' τ' H locs hq' hX' hM' hP hP2 hS) (fun c9 => absurd rfl c9)
