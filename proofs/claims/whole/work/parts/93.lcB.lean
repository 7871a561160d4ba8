/-! the law's cases -/
set_option maxHeartbeats 4000000 in
set_option maxRecDepth 100000 in
theorem lc_295 {p : Program} {l : Launch} {e : Env} {s : State} {m : MethodId} {below : List Frame} {meth : Method} {c : Code} {D : va_G} {C : Nat → ClassId} {adK adV A B : Nat → Nat} {b L : Nat} {xs : Nat → Int32} (hc : LwC D C adK adV A B p s m meth c b L xs) {i : Nat} (hi : i + 6 ≤ L) (hL : L ≤ 3072) {q : Ab} {σ τ : St} (hq : OKq q) (hX : AX q σ) (hM : AM q τ) {H : Heap} {locs : List Loc} (hP : va_P D vwCl (wX A C σ) H) (hP2 : va_P D vwCl (wM B C τ) H) (hS : va_S (fun q => s.heap.size ≤ q) s.heap H locs) {ls : Array Slot} (hl : lv_has ls 4 [(3, .int (nI i)), (2, .ref (B 0)), (1, .ref (A 0)), (0, .ref b)]) (kk : ∀ (q' : Ab) (σ' τ' : St) (H : Heap) (locs : List Loc), OKq q' → AX q' σ' → AM q' τ' → va_P D vwCl (wX A C σ') H → va_P D vwCl (wM B C τ') H → va_S (fun q => s.heap.size ≤ q) s.heap H locs → W p l e room_1 s m #[Value.ref b] below meth c H locs 93 7943 (lw_Z below #[Value.ref b] s) (F0 m 874 ls [])) : W p l e room_1 s m #[Value.ref b] below meth c H locs 93 7943 (lw_Z below #[Value.ref b] s) (F0 m 295 ls []) := by
  obtain ⟨⟨hx, hb, hr, hml, hown, hts0, hXs, hbl, hlocks, hgv⟩, hK, hZ, hA, hB, hAs, hBs, hAB⟩ := hc
  have hts : ∀ w ∈ wsL_law, w.before #[Value.ref b] s = true := fun w h => hts0 w (wsL_law_in w h)
  have hbA : ¬ s.heap.size ≤ b := Nat.not_le.mpr hbl
  have hin : ∀ k, k < 6 → vp_in (nI i + nI k) L := fun k hk => by rw [nI_add]; exact vp_in_nI (by omega) (by omega)
  have hfrX : ∀ q, fxA A 60 q → s.heap.size ≤ q := fun q ⟨k, h1, h2⟩ => by rw [h2]; exact hAs k h1
  have hfrM : ∀ q, fxA B 33 q → s.heap.size ≤ q := fun q ⟨k, h1, h2⟩ => by rw [h2]; exact hBs k h1
  have hwM : ∀ {τ : St} (k : Nat) (q : Nat × va_E), (wM B C τ)[k]? = some q → ¬ fxA A 60 q.1 := fun k q h ⟨j, h1, h2⟩ => hAB j k h1 (wM_at h).1 (h2.symm.trans (wM_at h).2)
  have hwX : ∀ {σ : St} (k : Nat) (q : Nat × va_E), (wX A C σ)[k]? = some q → ¬ fxA B 33 q.1 := fun k q h ⟨j, h1, h2⟩ => hAB k j (wX_at h).1 h1 ((wX_at h).2.symm.trans h2)
  obtain ⟨r, q', σ', τ', e1, e2, hq', hX', hM'⟩ := (api_told (xs (nI i + 1).toNatClampNeg)).two q σ τ hq hX hM
  refine lv_aload_n hx hb dL_law_295 rfl (lv_at hl 2 rfl) ?_
  refine lv_aload_n hx hb dL_law_296 rfl (lv_at hl 3 rfl) ?_
  refine lv_iload_n hx hb dL_law_297 rfl (lv_at hl 0 rfl) ?_
  refine lv_iconst (v := 1) hx hb dL_law_298 (by decide) ?_
  refine lv_iadd hx hb dL_law_299 ?_
  refine va_sld hx hb hXs hbl hbA hS (hin 1 (by omega)) dL_law_300 ?_
  refine cl_V (As := [.int (xs (nI i + 1).toNatClampNeg)]) (rest := []) ⟨hx, hb, hml, hown, hts⟩ hK hZ hfrX (ct_xX10_told l D C A adK adV hA (hf := e1)) (cwV 1 hts (gd_V kw_560 kw_561 kw_562 kw_2 kw_563) rfl rfl rfl (by decide +kernel) ⟨Nat.le_of_ble_eq_true rfl, Nat.le_of_ble_eq_true rfl⟩) (va_recv hK hP (ci := 10) (q0 := 0) rfl rfl) hP hP2 hwM hS rfl hl.1 rfl (Nat.le_of_ble_eq_true rfl) dL_law_301 ⟨by decide, by decide⟩ (fun H locs hP hP2 hS => ?_)
  refine lv_aload_n hx hb dL_law_304 rfl (lv_at hl 1 rfl) ?_
  refine lv_aload_n hx hb dL_law_305 rfl (lv_at hl 3 rfl) ?_
  refine lv_iload_n hx hb dL_law_306 rfl (lv_at hl 0 rfl) ?_
  refine lv_iconst (v := 1) hx hb dL_law_307 (by decide) ?_
  refine lv_iadd hx hb dL_law_308 ?_
  refine va_sld hx hb hXs hbl hbA hS (hin 1 (by omega)) dL_law_309 ?_
  refine cl_V (As := [.int (xs (nI i + 1).toNatClampNeg)]) (rest := [.int r]) ⟨hx, hb, hml, hown, hts⟩ hK hZ hfrM (ct_mX11_told l D C B adK adV hB (hf := e2)) (cwV 1 hts (gd_V kw_569 kw_570 kw_571 kw_5 kw_572) rfl rfl rfl (by decide +kernel) ⟨Nat.le_of_ble_eq_true rfl, Nat.le_of_ble_eq_true rfl⟩) (va_recv hK hP2 (ci := 11) (q0 := 0) rfl rfl) hP2 hP hwX hS rfl hl.1 rfl (Nat.le_of_ble_eq_true rfl) dL_law_310 ⟨by decide, by decide⟩ (fun H locs hP2 hP hS => ?_)
  exact lv_icmp_eq (tgt := 874) hx hb dL_law_313 (by decide) (fun c9 => kk q' σ' τ' H locs hq' hX' hM' hP hP2 hS) (fun c9 => absurd rfl c9)
set_option maxHeartbeats 4000000 in
set_option maxRecDepth 100000 in
theorem lc_318 {p : Program} {l : Launch} {e : Env} {s : State} {m : MethodId} {below : List Frame} {meth : Method} {c : Code} {D : va_G} {C : Nat → ClassId} {adK adV A B : Nat → Nat} {b L : Nat} {xs : Nat → Int32} (hc : LwC D C adK adV A B p s m meth c b L xs) {i : Nat} (hi : i + 6 ≤ L) (hL : L ≤ 3072) {q : Ab} {σ τ : St} (hq : OKq q) (hX : AX q σ) (hM : AM q τ) {H : Heap} {locs : List Loc} (hP : va_P D vwCl (wX A C σ) H) (hP2 : va_P D vwCl (wM B C τ) H) (hS : va_S (fun q => s.heap.size ≤ q) s.heap H locs) {ls : Array Slot} (hl : lv_has ls 4 [(3, .int (nI i)), (2, .ref (B 0)), (1, .ref (A 0)), (0, .ref b)]) (kk : ∀ (q' : Ab) (σ' τ' : St) (H : Heap) (locs : List Loc), OKq q' → AX q' σ' → AM q' τ' → va_P D vwCl (wX A C σ') H → va_P D vwCl (wM B C τ') H → va_S (fun q => s.heap.size ≤ q) s.heap H locs → W p l e room_1 s m #[Value.ref b] below meth c H locs 93 7943 (lw_Z below #[Value.ref b] s) (F0 m 874 ls [])) : W p l e room_1 s m #[Value.ref b] below meth c H locs 93 7943 (lw_Z below #[Value.ref b] s) (F0 m 318 ls []) := by
  obtain ⟨⟨hx, hb, hr, hml, hown, hts0, hXs, hbl, hlocks, hgv⟩, hK, hZ, hA, hB, hAs, hBs, hAB⟩ := hc
  have hts : ∀ w ∈ wsL_law, w.before #[Value.ref b] s = true := fun w h => hts0 w (wsL_law_in w h)
  have hbA : ¬ s.heap.size ≤ b := Nat.not_le.mpr hbl
  have hin : ∀ k, k < 6 → vp_in (nI i + nI k) L := fun k hk => by rw [nI_add]; exact vp_in_nI (by omega) (by omega)
  have hfrX : ∀ q, fxA A 60 q → s.heap.size ≤ q := fun q ⟨k, h1, h2⟩ => by rw [h2]; exact hAs k h1
  have hfrM : ∀ q, fxA B 33 q → s.heap.size ≤ q := fun q ⟨k, h1, h2⟩ => by rw [h2]; exact hBs k h1
  have hwM : ∀ {τ : St} (k : Nat) (q : Nat × va_E), (wM B C τ)[k]? = some q → ¬ fxA A 60 q.1 := fun k q h ⟨j, h1, h2⟩ => hAB j k h1 (wM_at h).1 (h2.symm.trans (wM_at h).2)
  have hwX : ∀ {σ : St} (k : Nat) (q : Nat × va_E), (wX A C σ)[k]? = some q → ¬ fxA B 33 q.1 := fun k q h ⟨j, h1, h2⟩ => hAB k j (wX_at h).1 h1 ((wX_at h).2.symm.trans h2)
  obtain ⟨r, q', σ', τ', e1, e2, hq', hX', hM'⟩ := (api_value (xs (nI i + 1).toNatClampNeg)).two q σ τ hq hX hM
  refine lv_aload_n hx hb dL_law_318 rfl (lv_at hl 2 rfl) ?_
  refine lv_aload_n hx hb dL_law_319 rfl (lv_at hl 3 rfl) ?_
  refine lv_iload_n hx hb dL_law_320 rfl (lv_at hl 0 rfl) ?_
  refine lv_iconst (v := 1) hx hb dL_law_321 (by decide) ?_
  refine lv_iadd hx hb dL_law_322 ?_
  refine va_sld hx hb hXs hbl hbA hS (hin 1 (by omega)) dL_law_323 ?_
  refine cl_V (As := [.int (xs (nI i + 1).toNatClampNeg)]) (rest := []) ⟨hx, hb, hml, hown, hts⟩ hK hZ hfrX (ct_xX10_value l D C A adK adV hA (hf := e1)) (cwV 1 hts (gd_V kw_574 kw_575 kw_576 kw_2 kw_577) rfl rfl rfl (by decide +kernel) ⟨Nat.le_of_ble_eq_true rfl, Nat.le_of_ble_eq_true rfl⟩) (va_recv hK hP (ci := 10) (q0 := 0) rfl rfl) hP hP2 hwM hS rfl hl.1 rfl (Nat.le_of_ble_eq_true rfl) dL_law_324 ⟨by decide, by decide⟩ (fun H locs hP hP2 hS => ?_)
  refine lv_aload_n hx hb dL_law_327 rfl (lv_at hl 1 rfl) ?_
  refine lv_aload_n hx hb dL_law_328 rfl (lv_at hl 3 rfl) ?_
  refine lv_iload_n hx hb dL_law_329 rfl (lv_at hl 0 rfl) ?_
  refine lv_iconst (v := 1) hx hb dL_law_330 (by decide) ?_
  refine lv_iadd hx hb dL_law_331 ?_
  refine va_sld hx hb hXs hbl hbA hS (hin 1 (by omega)) dL_law_332 ?_
  refine cl_V (As := [.int (xs (nI i + 1).toNatClampNeg)]) (rest := [.int r]) ⟨hx, hb, hml, hown, hts⟩ hK hZ hfrM (ct_mX11_value l D C B adK adV hB (hf := e2)) (cwV 1 hts (gd_V kw_584 kw_585 kw_586 kw_5 kw_587) rfl rfl rfl (by decide +kernel) ⟨Nat.le_of_ble_eq_true rfl, Nat.le_of_ble_eq_true rfl⟩) (va_recv hK hP2 (ci := 11) (q0 := 0) rfl rfl) hP2 hP hwX hS rfl hl.1 rfl (Nat.le_of_ble_eq_true rfl) dL_law_333 ⟨by decide, by decide⟩ (fun H locs hP2 hP hS => ?_)
  exact lv_icmp_eq (tgt := 874) hx hb dL_law_336 (by decide) (fun c9 => kk q' σ' τ' H locs hq' hX' hM' hP hP2 hS) (fun c9 => absurd rfl c9)
set_option maxHeartbeats 4000000 in
set_option maxRecDepth 100000 in
theorem lc_341 {p : Program} {l : Launch} {e : Env} {s : State} {m : MethodId} {below : List Frame} {meth : Method} {c : Code} {D : va_G} {C : Nat → ClassId} {adK adV A B : Nat → Nat} {b L : Nat} {xs : Nat → Int32} (hc : LwC D C adK adV A B p s m meth c b L xs) {i : Nat} (hi : i + 6 ≤ L) (hL : L ≤ 3072) {q : Ab} {σ τ : St} (hq : OKq q) (hX : AX q σ) (hM : AM q τ) {H : Heap} {locs : List Loc} (hP : va_P D vwCl (wX A C σ) H) (hP2 : va_P D vwCl (wM B C τ) H) (hS : va_S (fun q => s.heap.size ≤ q) s.heap H locs) {ls : Array Slot} (hl : lv_has ls 4 [(3, .int (nI i)), (2, .ref (B 0)), (1, .ref (A 0)), (0, .ref b)]) (kk : ∀ (q' : Ab) (σ' τ' : St) (H : Heap) (locs : List Loc), OKq q' → AX q' σ' → AM q' τ' → va_P D vwCl (wX A C σ') H → va_P D vwCl (wM B C τ') H → va_S (fun q => s.heap.size ≤ q) s.heap H locs → W p l e room_1 s m #[Value.ref b] below meth c H locs 93 7943 (lw_Z below #[Value.ref b] s) (F0 m 874 ls [])) : W p l e room_1 s m #[Value.ref b] below meth c H locs 93 7943 (lw_Z below #[Value.ref b] s) (F0 m 341 ls []) := by
  obtain ⟨⟨hx, hb, hr, hml, hown, hts0, hXs, hbl, hlocks, hgv⟩, hK, hZ, hA, hB, hAs, hBs, hAB⟩ := hc
  have hts : ∀ w ∈ wsL_law, w.before #[Value.ref b] s = true := fun w h => hts0 w (wsL_law_in w h)
  have hbA : ¬ s.heap.size ≤ b := Nat.not_le.mpr hbl
  have hin : ∀ k, k < 6 → vp_in (nI i + nI k) L := fun k hk => by rw [nI_add]; exact vp_in_nI (by omega) (by omega)
  have hfrX : ∀ q, fxA A 60 q → s.heap.size ≤ q := fun q ⟨k, h1, h2⟩ => by rw [h2]; exact hAs k h1
  have hfrM : ∀ q, fxA B 33 q → s.heap.size ≤ q := fun q ⟨k, h1, h2⟩ => by rw [h2]; exact hBs k h1
  have hwM : ∀ {τ : St} (k : Nat) (q : Nat × va_E), (wM B C τ)[k]? = some q → ¬ fxA A 60 q.1 := fun k q h ⟨j, h1, h2⟩ => hAB j k h1 (wM_at h).1 (h2.symm.trans (wM_at h).2)
  have hwX : ∀ {σ : St} (k : Nat) (q : Nat × va_E), (wX A C σ)[k]? = some q → ¬ fxA B 33 q.1 := fun k q h ⟨j, h1, h2⟩ => hAB k j (wX_at h).1 h1 ((wX_at h).2.symm.trans h2)
  obtain ⟨r, q', σ', τ', e1, e2, hq', hX', hM'⟩ := (api_set (xs (nI i + 1).toNatClampNeg) (xs (nI i + 2).toNatClampNeg)).two q σ τ hq hX hM
  refine lv_aload_n hx hb dL_law_341 rfl (lv_at hl 2 rfl) ?_
  refine lv_aload_n hx hb dL_law_342 rfl (lv_at hl 3 rfl) ?_
  refine lv_iload_n hx hb dL_law_343 rfl (lv_at hl 0 rfl) ?_
  refine lv_iconst (v := 1) hx hb dL_law_344 (by decide) ?_
  refine lv_iadd hx hb dL_law_345 ?_
  refine va_sld hx hb hXs hbl hbA hS (hin 1 (by omega)) dL_law_346 ?_
  refine lv_aload_n hx hb dL_law_347 rfl (lv_at hl 3 rfl) ?_
  refine lv_iload_n hx hb dL_law_348 rfl (lv_at hl 0 rfl) ?_
  refine lv_iconst (v := 2) hx hb dL_law_349 (by decide) ?_
  refine lv_iadd hx hb dL_law_350 ?_
  refine va_sld hx hb hXs hbl hbA hS (hin 2 (by omega)) dL_law_351 ?_
  refine cl_V (As := [.int (xs (nI i + 1).toNatClampNeg), .int (xs (nI i + 2).toNatClampNeg)]) (rest := []) ⟨hx, hb, hml, hown, hts⟩ hK hZ hfrX (ct_xX10_set l D C A adK adV hA (hf := e1)) (cwV 2 hts (gd_V kw_593 kw_594 kw_595 kw_2 kw_596) rfl rfl rfl (by decide +kernel) ⟨Nat.le_of_ble_eq_true rfl, Nat.le_of_ble_eq_true rfl⟩) (va_recv hK hP (ci := 10) (q0 := 0) rfl rfl) hP hP2 hwM hS rfl hl.1 rfl (Nat.le_of_ble_eq_true rfl) dL_law_352 ⟨by decide, by decide⟩ (fun H locs hP hP2 hS => ?_)
  refine lv_aload_n hx hb dL_law_355 rfl (lv_at hl 1 rfl) ?_
  refine lv_aload_n hx hb dL_law_356 rfl (lv_at hl 3 rfl) ?_
  refine lv_iload_n hx hb dL_law_357 rfl (lv_at hl 0 rfl) ?_
  refine lv_iconst (v := 1) hx hb dL_law_358 (by decide) ?_
  refine lv_iadd hx hb dL_law_359 ?_
  refine va_sld hx hb hXs hbl hbA hS (hin 1 (by omega)) dL_law_360 ?_
  refine lv_aload_n hx hb dL_law_361 rfl (lv_at hl 3 rfl) ?_
  refine lv_iload_n hx hb dL_law_362 rfl (lv_at hl 0 rfl) ?_
  refine lv_iconst (v := 2) hx hb dL_law_363 (by decide) ?_
  refine lv_iadd hx hb dL_law_364 ?_
  refine va_sld hx hb hXs hbl hbA hS (hin 2 (by omega)) dL_law_365 ?_
  refine cl_V (As := [.int (xs (nI i + 1).toNatClampNeg), .int (xs (nI i + 2).toNatClampNeg)]) (rest := [.int r]) ⟨hx, hb, hml, hown, hts⟩ hK hZ hfrM (ct_mX11_set l D C B adK adV hB (hf := e2)) (cwV 2 hts (gd_V kw_597 kw_598 kw_599 kw_5 kw_600) rfl rfl rfl (by decide +kernel) ⟨Nat.le_of_ble_eq_true rfl, Nat.le_of_ble_eq_true rfl⟩) (va_recv hK hP2 (ci := 11) (q0 := 0) rfl rfl) hP2 hP hwX hS rfl hl.1 rfl (Nat.le_of_ble_eq_true rfl) dL_law_366 ⟨by decide, by decide⟩ (fun H locs hP2 hP hS => ?_)
  exact lv_icmp_eq (tgt := 874) hx hb dL_law_369 (by decide) (fun c9 => kk q' σ' τ' H locs hq' hX' hM' hP hP2 hS) (fun c9 => absurd rfl c9)
set_option maxHeartbeats 4000000 in
set_option maxRecDepth 100000 in
theorem lc_374 {p : Program} {l : Launch} {e : Env} {s : State} {m : MethodId} {below : List Frame} {meth : Method} {c : Code} {D : va_G} {C : Nat → ClassId} {adK adV A B : Nat → Nat} {b L : Nat} {xs : Nat → Int32} (hc : LwC D C adK adV A B p s m meth c b L xs) {i : Nat} (hi : i + 6 ≤ L) (hL : L ≤ 3072) {q : Ab} {σ τ : St} (hq : OKq q) (hX : AX q σ) (hM : AM q τ) {H : Heap} {locs : List Loc} (hP : va_P D vwCl (wX A C σ) H) (hP2 : va_P D vwCl (wM B C τ) H) (hS : va_S (fun q => s.heap.size ≤ q) s.heap H locs) {ls : Array Slot} (hl : lv_has ls 4 [(3, .int (nI i)), (2, .ref (B 0)), (1, .ref (A 0)), (0, .ref b)]) (kk : ∀ (q' : Ab) (σ' τ' : St) (H : Heap) (locs : List Loc), OKq q' → AX q' σ' → AM q' τ' → va_P D vwCl (wX A C σ') H → va_P D vwCl (wM B C τ') H → va_S (fun q => s.heap.size ≤ q) s.heap H locs → W p l e room_1 s m #[Value.ref b] below meth c H locs 93 7943 (lw_Z below #[Value.ref b] s) (F0 m 874 ls [])) : W p l e room_1 s m #[Value.ref b] below meth c H locs 93 7943 (lw_Z below #[Value.ref b] s) (F0 m 374 ls []) := by
  obtain ⟨⟨hx, hb, hr, hml, hown, hts0, hXs, hbl, hlocks, hgv⟩, hK, hZ, hA, hB, hAs, hBs, hAB⟩ := hc
  have hts : ∀ w ∈ wsL_law, w.before #[Value.ref b] s = true := fun w h => hts0 w (wsL_law_in w h)
  have hbA : ¬ s.heap.size ≤ b := Nat.not_le.mpr hbl
  have hin : ∀ k, k < 6 → vp_in (nI i + nI k) L := fun k hk => by rw [nI_add]; exact vp_in_nI (by omega) (by omega)
  have hfrX : ∀ q, fxA A 60 q → s.heap.size ≤ q := fun q ⟨k, h1, h2⟩ => by rw [h2]; exact hAs k h1
  have hfrM : ∀ q, fxA B 33 q → s.heap.size ≤ q := fun q ⟨k, h1, h2⟩ => by rw [h2]; exact hBs k h1
  have hwM : ∀ {τ : St} (k : Nat) (q : Nat × va_E), (wM B C τ)[k]? = some q → ¬ fxA A 60 q.1 := fun k q h ⟨j, h1, h2⟩ => hAB j k h1 (wM_at h).1 (h2.symm.trans (wM_at h).2)
  have hwX : ∀ {σ : St} (k : Nat) (q : Nat × va_E), (wX A C σ)[k]? = some q → ¬ fxA B 33 q.1 := fun k q h ⟨j, h1, h2⟩ => hAB k j (wX_at h).1 h1 ((wX_at h).2.symm.trans h2)
  obtain ⟨r, q', σ', τ', e1, e2, hq', hX', hM'⟩ := (api_entry (xs (nI i + 1).toNatClampNeg)).two q σ τ hq hX hM
  refine lv_aload_n hx hb dL_law_374 rfl (lv_at hl 2 rfl) ?_
  refine lv_aload_n hx hb dL_law_375 rfl (lv_at hl 3 rfl) ?_
  refine lv_iload_n hx hb dL_law_376 rfl (lv_at hl 0 rfl) ?_
  refine lv_iconst (v := 1) hx hb dL_law_377 (by decide) ?_
  refine lv_iadd hx hb dL_law_378 ?_
  refine va_sld hx hb hXs hbl hbA hS (hin 1 (by omega)) dL_law_379 ?_
  refine cl_V (As := [.int (xs (nI i + 1).toNatClampNeg)]) (rest := []) ⟨hx, hb, hml, hown, hts⟩ hK hZ hfrX (ct_xX10_entry l D C A adK adV hA (hf := e1)) (cwV 1 hts (gd_V kw_601 kw_602 kw_603 kw_2 kw_604) rfl rfl rfl (by decide +kernel) ⟨Nat.le_of_ble_eq_true rfl, Nat.le_of_ble_eq_true rfl⟩) (va_recv hK hP (ci := 10) (q0 := 0) rfl rfl) hP hP2 hwM hS rfl hl.1 rfl (Nat.le_of_ble_eq_true rfl) dL_law_380 ⟨by decide, by decide⟩ (fun H locs hP hP2 hS => ?_)
  refine lv_aload_n hx hb dL_law_383 rfl (lv_at hl 1 rfl) ?_
  refine lv_aload_n hx hb dL_law_384 rfl (lv_at hl 3 rfl) ?_
  refine lv_iload_n hx hb dL_law_385 rfl (lv_at hl 0 rfl) ?_
  refine lv_iconst (v := 1) hx hb dL_law_386 (by decide) ?_
  refine lv_iadd hx hb dL_law_387 ?_
  refine va_sld hx hb hXs hbl hbA hS (hin 1 (by omega)) dL_law_388 ?_
  refine cl_V (As := [.int (xs (nI i + 1).toNatClampNeg)]) (rest := [.int r]) ⟨hx, hb, hml, hown, hts⟩ hK hZ hfrM (ct_mX11_entry l D C B adK adV hB (hf := e2)) (cwV 1 hts (gd_V kw_605 kw_606 kw_607 kw_5 kw_608) rfl rfl rfl (by decide +kernel) ⟨Nat.le_of_ble_eq_true rfl, Nat.le_of_ble_eq_true rfl⟩) (va_recv hK hP2 (ci := 11) (q0 := 0) rfl rfl) hP2 hP hwX hS rfl hl.1 rfl (Nat.le_of_ble_eq_true rfl) dL_law_389 ⟨by decide, by decide⟩ (fun H locs hP2 hP hS => ?_)
  exact lv_icmp_eq (tgt := 874) hx hb dL_law_392 (by decide) (fun c9 => kk q' σ' τ' H locs hq' hX' hM' hP hP2 hS) (fun c9 => absurd rfl c9)
set_option maxHeartbeats 4000000 in
set_option maxRecDepth 100000 in
theorem lc_397 {p : Program} {l : Launch} {e : Env} {s : State} {m : MethodId} {below : List Frame} {meth : Method} {c : Code} {D : va_G} {C : Nat → ClassId} {adK adV A B : Nat → Nat} {b L : Nat} {xs : Nat → Int32} (hc : LwC D C adK adV A B p s m meth c b L xs) {i : Nat} (hi : i + 6 ≤ L) (hL : L ≤ 3072) {q : Ab} {σ τ : St} (hq : OKq q) (hX : AX q σ) (hM : AM q τ) {H : Heap} {locs : List Loc} (hP : va_P D vwCl (wX A C σ) H) (hP2 : va_P D vwCl (wM B C τ) H) (hS : va_S (fun q => s.heap.size ≤ q) s.heap H locs) {ls : Array Slot} (hl : lv_has ls 4 [(3, .int (nI i)), (2, .ref (B 0)), (1, .ref (A 0)), (0, .ref b)]) (kk : ∀ (q' : Ab) (σ' τ' : St) (H : Heap) (locs : List Loc), OKq q' → AX q' σ' → AM q' τ' → va_P D vwCl (wX A C σ') H → va_P D vwCl (wM B C τ') H → va_S (fun q => s.heap.size ≤ q) s.heap H locs → W p l e room_1 s m #[Value.ref b] below meth c H locs 93 7943 (lw_Z below #[Value.ref b] s) (F0 m 874 ls [])) : W p l e room_1 s m #[Value.ref b] below meth c H locs 93 7943 (lw_Z below #[Value.ref b] s) (F0 m 397 ls []) := by
  obtain ⟨⟨hx, hb, hr, hml, hown, hts0, hXs, hbl, hlocks, hgv⟩, hK, hZ, hA, hB, hAs, hBs, hAB⟩ := hc
  have hts : ∀ w ∈ wsL_law, w.before #[Value.ref b] s = true := fun w h => hts0 w (wsL_law_in w h)
  have hbA : ¬ s.heap.size ≤ b := Nat.not_le.mpr hbl
  have hin : ∀ k, k < 6 → vp_in (nI i + nI k) L := fun k hk => by rw [nI_add]; exact vp_in_nI (by omega) (by omega)
  have hfrX : ∀ q, fxA A 60 q → s.heap.size ≤ q := fun q ⟨k, h1, h2⟩ => by rw [h2]; exact hAs k h1
  have hfrM : ∀ q, fxA B 33 q → s.heap.size ≤ q := fun q ⟨k, h1, h2⟩ => by rw [h2]; exact hBs k h1
  have hwM : ∀ {τ : St} (k : Nat) (q : Nat × va_E), (wM B C τ)[k]? = some q → ¬ fxA A 60 q.1 := fun k q h ⟨j, h1, h2⟩ => hAB j k h1 (wM_at h).1 (h2.symm.trans (wM_at h).2)
  have hwX : ∀ {σ : St} (k : Nat) (q : Nat × va_E), (wX A C σ)[k]? = some q → ¬ fxA B 33 q.1 := fun k q h ⟨j, h1, h2⟩ => hAB k j (wX_at h).1 h1 ((wX_at h).2.symm.trans h2)
  obtain ⟨r, q', σ', τ', e1, e2, hq', hX', hM'⟩ := (api_run).two q σ τ hq hX hM
  refine lv_aload_n hx hb dL_law_397 rfl (lv_at hl 2 rfl) ?_
  refine cl_V (As := []) (rest := []) ⟨hx, hb, hml, hown, hts⟩ hK hZ hfrX (ct_xX10_run l D C A adK adV hA (hf := e1)) (cwV 0 hts (gd_V kw_609 kw_610 kw_611 kw_2 kw_612) rfl rfl rfl (by decide +kernel) ⟨Nat.le_of_ble_eq_true rfl, Nat.le_of_ble_eq_true rfl⟩) (va_recv hK hP (ci := 10) (q0 := 0) rfl rfl) hP hP2 hwM hS rfl hl.1 rfl (Nat.le_of_ble_eq_true rfl) dL_law_398 ⟨by decide, by decide⟩ (fun H locs hP hP2 hS => ?_)
  refine lv_aload_n hx hb dL_law_401 rfl (lv_at hl 1 rfl) ?_
  refine cl_V (As := []) (rest := [.int r]) ⟨hx, hb, hml, hown, hts⟩ hK hZ hfrM (ct_mX11_run l D C B adK adV hB (hf := e2)) (cwV 0 hts (gd_V kw_735 kw_736 kw_737 kw_5 kw_738) rfl rfl rfl (by decide +kernel) ⟨Nat.le_of_ble_eq_true rfl, Nat.le_of_ble_eq_true rfl⟩) (va_recv hK hP2 (ci := 11) (q0 := 0) rfl rfl) hP2 hP hwX hS rfl hl.1 rfl (Nat.le_of_ble_eq_true rfl) dL_law_402 ⟨by decide, by decide⟩ (fun H locs hP2 hP hS => ?_)
  exact lv_icmp_eq (tgt := 874) hx hb dL_law_405 (by decide) (fun c9 => kk q' σ' τ' H locs hq' hX' hM' hP hP2 hS) (fun c9 => absurd rfl c9)
