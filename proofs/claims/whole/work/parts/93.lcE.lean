/-! the law's cases -/
set_option maxHeartbeats 4000000 in
set_option maxRecDepth 100000 in
theorem lc_620 {p : Program} {l : Launch} {e : Env} {s : State} {m : MethodId} {below : List Frame} {meth : Method} {c : Code} {D : va_G} {C : Nat → ClassId} {adK adV A B : Nat → Nat} {b L : Nat} {xs : Nat → Int32} (hc : LwC D C adK adV A B p s m meth c b L xs) {i : Nat} (hi : i + 6 ≤ L) (hL : L ≤ 3072) {q : Ab} {σ τ : St} (hq : OKq q) (hX : AX q σ) (hM : AM q τ) {H : Heap} {locs : List Loc} (hP : va_P D vwCl (wX A C σ) H) (hP2 : va_P D vwCl (wM B C τ) H) (hS : va_S (fun q => s.heap.size ≤ q) s.heap H locs) {ls : Array Slot} (hl : lv_has ls 4 [(3, .int (nI i)), (2, .ref (B 0)), (1, .ref (A 0)), (0, .ref b)]) (kk : ∀ (q' : Ab) (σ' τ' : St) (H : Heap) (locs : List Loc), OKq q' → AX q' σ' → AM q' τ' → va_P D vwCl (wX A C σ') H → va_P D vwCl (wM B C τ') H → va_S (fun q => s.heap.size ≤ q) s.heap H locs → W p l e room_1 s m #[Value.ref b] below meth c H locs 93 7943 (lw_Z below #[Value.ref b] s) (F0 m 874 ls [])) : W p l e room_1 s m #[Value.ref b] below meth c H locs 93 7943 (lw_Z below #[Value.ref b] s) (F0 m 620 ls []) := by
  obtain ⟨⟨hx, hb, hr, hml, hown, hts0, hXs, hbl, hlocks, hgv⟩, hK, hZ, hA, hB, hAs, hBs, hAB⟩ := hc
  have hts : ∀ w ∈ wsL_law, w.before #[Value.ref b] s = true := fun w h => hts0 w (wsL_law_in w h)
  have hbA : ¬ s.heap.size ≤ b := Nat.not_le.mpr hbl
  have hin : ∀ k, k < 6 → vp_in (nI i + nI k) L := fun k hk => by rw [nI_add]; exact vp_in_nI (by omega) (by omega)
  have hfrX : ∀ q, fxA A 60 q → s.heap.size ≤ q := fun q ⟨k, h1, h2⟩ => by rw [h2]; exact hAs k h1
  have hfrM : ∀ q, fxA B 33 q → s.heap.size ≤ q := fun q ⟨k, h1, h2⟩ => by rw [h2]; exact hBs k h1
  have hwM : ∀ {τ : St} (k : Nat) (q : Nat × va_E), (wM B C τ)[k]? = some q → ¬ fxA A 60 q.1 := fun k q h ⟨j, h1, h2⟩ => hAB j k h1 (wM_at h).1 (h2.symm.trans (wM_at h).2)
  have hwX : ∀ {σ : St} (k : Nat) (q : Nat × va_E), (wX A C σ)[k]? = some q → ¬ fxA B 33 q.1 := fun k q h ⟨j, h1, h2⟩ => hAB k j (wX_at h).1 h1 ((wX_at h).2.symm.trans h2)
  obtain ⟨r, q', σ', τ', e1, e2, hq', hX', hM'⟩ := (api_best (((Int32.toInt64 (xs (nI i + 1).toNatClampNeg)) <<< ((Int32.toInt64 32) &&& 63)) ||| ((Int32.toInt64 (xs (nI i + 2).toNatClampNeg)) &&& (4294967295 : Int64)))).two q σ τ hq hX hM
  refine lv_aload_n hx hb dL_law_620 rfl (lv_at hl 2 rfl) ?_
  refine lv_aload_n hx hb dL_law_621 rfl (lv_at hl 3 rfl) ?_
  refine lv_iload_n hx hb dL_law_622 rfl (lv_at hl 0 rfl) ?_
  refine lv_iconst (v := 1) hx hb dL_law_623 (by decide) ?_
  refine lv_iadd hx hb dL_law_624 ?_
  refine va_sld hx hb hXs hbl hbA hS (hin 1 (by omega)) dL_law_625 ?_
  refine lv_i2l hx hb dL_law_626 rfl ?_
  refine lv_bipush (v := 32) hx hb dL_law_627 (by decide) ?_
  refine lv_lshl hx hb dL_law_629 rfl ?_
  refine lv_aload_n hx hb dL_law_630 rfl (lv_at hl 3 rfl) ?_
  refine lv_iload_n hx hb dL_law_631 rfl (lv_at hl 0 rfl) ?_
  refine lv_iconst (v := 2) hx hb dL_law_632 (by decide) ?_
  refine lv_iadd hx hb dL_law_633 ?_
  refine va_sld hx hb hXs hbl hbA hS (hin 2 (by omega)) dL_law_634 ?_
  refine lv_i2l hx hb dL_law_635 rfl ?_
  refine lv_ldc2 (v := 4294967295) hx hb hown (hts _ kw_6) dL_law_636 ?_
  refine lv_land hx hb dL_law_639 ?_
  refine lv_lor hx hb dL_law_640 ?_
  refine cl_V (As := [.long (((Int32.toInt64 (xs (nI i + 1).toNatClampNeg)) <<< ((Int32.toInt64 32) &&& 63)) ||| ((Int32.toInt64 (xs (nI i + 2).toNatClampNeg)) &&& (4294967295 : Int64)))]) (rest := []) ⟨hx, hb, hml, hown, hts⟩ hK hZ hfrX (ct_xX10_best l D C A adK adV hA (hf := e1)) (cwV 1 hts (gd_V kw_943 kw_944 kw_945 kw_2 kw_946) rfl rfl rfl (by decide +kernel) ⟨Nat.le_of_ble_eq_true rfl, Nat.le_of_ble_eq_true rfl⟩) (va_recv hK hP (ci := 10) (q0 := 0) rfl rfl) hP hP2 hwM hS rfl hl.1 rfl (Nat.le_of_ble_eq_true rfl) dL_law_641 ⟨by decide, by decide⟩ (fun H locs hP hP2 hS => ?_)
  refine lv_aload_n hx hb dL_law_644 rfl (lv_at hl 1 rfl) ?_
  refine lv_aload_n hx hb dL_law_645 rfl (lv_at hl 3 rfl) ?_
  refine lv_iload_n hx hb dL_law_646 rfl (lv_at hl 0 rfl) ?_
  refine lv_iconst (v := 1) hx hb dL_law_647 (by decide) ?_
  refine lv_iadd hx hb dL_law_648 ?_
  refine va_sld hx hb hXs hbl hbA hS (hin 1 (by omega)) dL_law_649 ?_
  refine lv_i2l hx hb dL_law_650 rfl ?_
  refine lv_bipush (v := 32) hx hb dL_law_651 (by decide) ?_
  refine lv_lshl hx hb dL_law_653 rfl ?_
  refine lv_aload_n hx hb dL_law_654 rfl (lv_at hl 3 rfl) ?_
  refine lv_iload_n hx hb dL_law_655 rfl (lv_at hl 0 rfl) ?_
  refine lv_iconst (v := 2) hx hb dL_law_656 (by decide) ?_
  refine lv_iadd hx hb dL_law_657 ?_
  refine va_sld hx hb hXs hbl hbA hS (hin 2 (by omega)) dL_law_658 ?_
  refine lv_i2l hx hb dL_law_659 rfl ?_
  refine lv_ldc2 (v := 4294967295) hx hb hown (hts _ kw_6) dL_law_660 ?_
  refine lv_land hx hb dL_law_663 ?_
  refine lv_lor hx hb dL_law_664 ?_
  refine cl_V (As := [.long (((Int32.toInt64 (xs (nI i + 1).toNatClampNeg)) <<< ((Int32.toInt64 32) &&& 63)) ||| ((Int32.toInt64 (xs (nI i + 2).toNatClampNeg)) &&& (4294967295 : Int64)))]) (rest := [.int r]) ⟨hx, hb, hml, hown, hts⟩ hK hZ hfrM (ct_mX11_best l D C B adK adV hB (hf := e2)) (cwV 1 hts (gd_V kw_982 kw_983 kw_984 kw_5 kw_985) rfl rfl rfl (by decide +kernel) ⟨Nat.le_of_ble_eq_true rfl, Nat.le_of_ble_eq_true rfl⟩) (va_recv hK hP2 (ci := 11) (q0 := 0) rfl rfl) hP2 hP hwX hS rfl hl.1 rfl (Nat.le_of_ble_eq_true rfl) dL_law_665 ⟨by decide, by decide⟩ (fun H locs hP2 hP hS => ?_)
  exact lv_icmp_eq (tgt := 874) hx hb dL_law_668 (by decide) (fun c9 => kk q' σ' τ' H locs hq' hX' hM' hP hP2 hS) (fun c9 => absurd rfl c9)
set_option maxHeartbeats 4000000 in
set_option maxRecDepth 100000 in
theorem lc_673 {p : Program} {l : Launch} {e : Env} {s : State} {m : MethodId} {below : List Frame} {meth : Method} {c : Code} {D : va_G} {C : Nat → ClassId} {adK adV A B : Nat → Nat} {b L : Nat} {xs : Nat → Int32} (hc : LwC D C adK adV A B p s m meth c b L xs) {i : Nat} (hi : i + 6 ≤ L) (hL : L ≤ 3072) {q : Ab} {σ τ : St} (hq : OKq q) (hX : AX q σ) (hM : AM q τ) {H : Heap} {locs : List Loc} (hP : va_P D vwCl (wX A C σ) H) (hP2 : va_P D vwCl (wM B C τ) H) (hS : va_S (fun q => s.heap.size ≤ q) s.heap H locs) {ls : Array Slot} (hl : lv_has ls 4 [(3, .int (nI i)), (2, .ref (B 0)), (1, .ref (A 0)), (0, .ref b)]) (kk : ∀ (q' : Ab) (σ' τ' : St) (H : Heap) (locs : List Loc), OKq q' → AX q' σ' → AM q' τ' → va_P D vwCl (wX A C σ') H → va_P D vwCl (wM B C τ') H → va_S (fun q => s.heap.size ≤ q) s.heap H locs → W p l e room_1 s m #[Value.ref b] below meth c H locs 93 7943 (lw_Z below #[Value.ref b] s) (F0 m 874 ls [])) : W p l e room_1 s m #[Value.ref b] below meth c H locs 93 7943 (lw_Z below #[Value.ref b] s) (F0 m 673 ls []) := by
  obtain ⟨⟨hx, hb, hr, hml, hown, hts0, hXs, hbl, hlocks, hgv⟩, hK, hZ, hA, hB, hAs, hBs, hAB⟩ := hc
  have hts : ∀ w ∈ wsL_law, w.before #[Value.ref b] s = true := fun w h => hts0 w (wsL_law_in w h)
  have hbA : ¬ s.heap.size ≤ b := Nat.not_le.mpr hbl
  have hin : ∀ k, k < 6 → vp_in (nI i + nI k) L := fun k hk => by rw [nI_add]; exact vp_in_nI (by omega) (by omega)
  have hfrX : ∀ q, fxA A 60 q → s.heap.size ≤ q := fun q ⟨k, h1, h2⟩ => by rw [h2]; exact hAs k h1
  have hfrM : ∀ q, fxA B 33 q → s.heap.size ≤ q := fun q ⟨k, h1, h2⟩ => by rw [h2]; exact hBs k h1
  have hwM : ∀ {τ : St} (k : Nat) (q : Nat × va_E), (wM B C τ)[k]? = some q → ¬ fxA A 60 q.1 := fun k q h ⟨j, h1, h2⟩ => hAB j k h1 (wM_at h).1 (h2.symm.trans (wM_at h).2)
  have hwX : ∀ {σ : St} (k : Nat) (q : Nat × va_E), (wX A C σ)[k]? = some q → ¬ fxA B 33 q.1 := fun k q h ⟨j, h1, h2⟩ => hAB k j (wX_at h).1 h1 ((wX_at h).2.symm.trans h2)
  obtain ⟨r, q', σ', τ', e1, e2, hq', hX', hM'⟩ := (api_keep (xs (nI i + 1).toNatClampNeg)).two q σ τ hq hX hM
  refine lv_aload_n hx hb dL_law_673 rfl (lv_at hl 2 rfl) ?_
  refine lv_aload_n hx hb dL_law_674 rfl (lv_at hl 3 rfl) ?_
  refine lv_iload_n hx hb dL_law_675 rfl (lv_at hl 0 rfl) ?_
  refine lv_iconst (v := 1) hx hb dL_law_676 (by decide) ?_
  refine lv_iadd hx hb dL_law_677 ?_
  refine va_sld hx hb hXs hbl hbA hS (hin 1 (by omega)) dL_law_678 ?_
  refine cl_V (As := [.int (xs (nI i + 1).toNatClampNeg)]) (rest := []) ⟨hx, hb, hml, hown, hts⟩ hK hZ hfrX (ct_xX10_keep l D C A adK adV hA (hf := e1)) (cwV 1 hts (gd_V kw_990 kw_991 kw_992 kw_2 kw_993) rfl rfl rfl (by decide +kernel) ⟨Nat.le_of_ble_eq_true rfl, Nat.le_of_ble_eq_true rfl⟩) (va_recv hK hP (ci := 10) (q0 := 0) rfl rfl) hP hP2 hwM hS rfl hl.1 rfl (Nat.le_of_ble_eq_true rfl) dL_law_679 ⟨by decide, by decide⟩ (fun H locs hP hP2 hS => ?_)
  refine lv_aload_n hx hb dL_law_682 rfl (lv_at hl 1 rfl) ?_
  refine lv_aload_n hx hb dL_law_683 rfl (lv_at hl 3 rfl) ?_
  refine lv_iload_n hx hb dL_law_684 rfl (lv_at hl 0 rfl) ?_
  refine lv_iconst (v := 1) hx hb dL_law_685 (by decide) ?_
  refine lv_iadd hx hb dL_law_686 ?_
  refine va_sld hx hb hXs hbl hbA hS (hin 1 (by omega)) dL_law_687 ?_
  refine cl_V (As := [.int (xs (nI i + 1).toNatClampNeg)]) (rest := [.int r]) ⟨hx, hb, hml, hown, hts⟩ hK hZ hfrM (ct_mX11_keep l D C B adK adV hB (hf := e2)) (cwV 1 hts (gd_V kw_999 kw_1000 kw_1001 kw_5 kw_1002) rfl rfl rfl (by decide +kernel) ⟨Nat.le_of_ble_eq_true rfl, Nat.le_of_ble_eq_true rfl⟩) (va_recv hK hP2 (ci := 11) (q0 := 0) rfl rfl) hP2 hP hwX hS rfl hl.1 rfl (Nat.le_of_ble_eq_true rfl) dL_law_688 ⟨by decide, by decide⟩ (fun H locs hP2 hP hS => ?_)
  exact lv_icmp_eq (tgt := 874) hx hb dL_law_691 (by decide) (fun c9 => kk q' σ' τ' H locs hq' hX' hM' hP hP2 hS) (fun c9 => absurd rfl c9)
set_option maxHeartbeats 4000000 in
set_option maxRecDepth 100000 in
theorem lc_696 {p : Program} {l : Launch} {e : Env} {s : State} {m : MethodId} {below : List Frame} {meth : Method} {c : Code} {D : va_G} {C : Nat → ClassId} {adK adV A B : Nat → Nat} {b L : Nat} {xs : Nat → Int32} (hc : LwC D C adK adV A B p s m meth c b L xs) {i : Nat} (hi : i + 6 ≤ L) (hL : L ≤ 3072) {q : Ab} {σ τ : St} (hq : OKq q) (hX : AX q σ) (hM : AM q τ) {H : Heap} {locs : List Loc} (hP : va_P D vwCl (wX A C σ) H) (hP2 : va_P D vwCl (wM B C τ) H) (hS : va_S (fun q => s.heap.size ≤ q) s.heap H locs) {ls : Array Slot} (hl : lv_has ls 4 [(3, .int (nI i)), (2, .ref (B 0)), (1, .ref (A 0)), (0, .ref b)]) (kk : ∀ (q' : Ab) (σ' τ' : St) (H : Heap) (locs : List Loc), OKq q' → AX q' σ' → AM q' τ' → va_P D vwCl (wX A C σ') H → va_P D vwCl (wM B C τ') H → va_S (fun q => s.heap.size ≤ q) s.heap H locs → W p l e room_1 s m #[Value.ref b] below meth c H locs 93 7943 (lw_Z below #[Value.ref b] s) (F0 m 874 ls [])) : W p l e room_1 s m #[Value.ref b] below meth c H locs 93 7943 (lw_Z below #[Value.ref b] s) (F0 m 696 ls []) := by
  obtain ⟨⟨hx, hb, hr, hml, hown, hts0, hXs, hbl, hlocks, hgv⟩, hK, hZ, hA, hB, hAs, hBs, hAB⟩ := hc
  have hts : ∀ w ∈ wsL_law, w.before #[Value.ref b] s = true := fun w h => hts0 w (wsL_law_in w h)
  have hbA : ¬ s.heap.size ≤ b := Nat.not_le.mpr hbl
  have hin : ∀ k, k < 6 → vp_in (nI i + nI k) L := fun k hk => by rw [nI_add]; exact vp_in_nI (by omega) (by omega)
  have hfrX : ∀ q, fxA A 60 q → s.heap.size ≤ q := fun q ⟨k, h1, h2⟩ => by rw [h2]; exact hAs k h1
  have hfrM : ∀ q, fxA B 33 q → s.heap.size ≤ q := fun q ⟨k, h1, h2⟩ => by rw [h2]; exact hBs k h1
  have hwM : ∀ {τ : St} (k : Nat) (q : Nat × va_E), (wM B C τ)[k]? = some q → ¬ fxA A 60 q.1 := fun k q h ⟨j, h1, h2⟩ => hAB j k h1 (wM_at h).1 (h2.symm.trans (wM_at h).2)
  have hwX : ∀ {σ : St} (k : Nat) (q : Nat × va_E), (wX A C σ)[k]? = some q → ¬ fxA B 33 q.1 := fun k q h ⟨j, h1, h2⟩ => hAB k j (wX_at h).1 h1 ((wX_at h).2.symm.trans h2)
  obtain ⟨r, q', σ', τ', e1, e2, hq', hX', hM'⟩ := (api_take (xs (nI i + 1).toNatClampNeg)).two q σ τ hq hX hM
  refine lv_aload_n hx hb dL_law_696 rfl (lv_at hl 2 rfl) ?_
  refine lv_aload_n hx hb dL_law_697 rfl (lv_at hl 3 rfl) ?_
  refine lv_iload_n hx hb dL_law_698 rfl (lv_at hl 0 rfl) ?_
  refine lv_iconst (v := 1) hx hb dL_law_699 (by decide) ?_
  refine lv_iadd hx hb dL_law_700 ?_
  refine va_sld hx hb hXs hbl hbA hS (hin 1 (by omega)) dL_law_701 ?_
  refine cl_V (As := [.int (xs (nI i + 1).toNatClampNeg)]) (rest := []) ⟨hx, hb, hml, hown, hts⟩ hK hZ hfrX (ct_xX10_take l D C A adK adV hA (hf := e1)) (cwV 1 hts (gd_V kw_1003 kw_1004 kw_1005 kw_2 kw_1006) rfl rfl rfl (by decide +kernel) ⟨Nat.le_of_ble_eq_true rfl, Nat.le_of_ble_eq_true rfl⟩) (va_recv hK hP (ci := 10) (q0 := 0) rfl rfl) hP hP2 hwM hS rfl hl.1 rfl (Nat.le_of_ble_eq_true rfl) dL_law_702 ⟨by decide, by decide⟩ (fun H locs hP hP2 hS => ?_)
  refine lv_aload_n hx hb dL_law_705 rfl (lv_at hl 1 rfl) ?_
  refine lv_aload_n hx hb dL_law_706 rfl (lv_at hl 3 rfl) ?_
  refine lv_iload_n hx hb dL_law_707 rfl (lv_at hl 0 rfl) ?_
  refine lv_iconst (v := 1) hx hb dL_law_708 (by decide) ?_
  refine lv_iadd hx hb dL_law_709 ?_
  refine va_sld hx hb hXs hbl hbA hS (hin 1 (by omega)) dL_law_710 ?_
  refine cl_V (As := [.int (xs (nI i + 1).toNatClampNeg)]) (rest := [.int r]) ⟨hx, hb, hml, hown, hts⟩ hK hZ hfrM (ct_mX11_take_ l D C B adK adV hB (hf := e2)) (cwV 1 hts (gd_V kw_1015 kw_1016 kw_1017 kw_5 kw_1018) rfl rfl rfl (by decide +kernel) ⟨Nat.le_of_ble_eq_true rfl, Nat.le_of_ble_eq_true rfl⟩) (va_recv hK hP2 (ci := 11) (q0 := 0) rfl rfl) hP2 hP hwX hS rfl hl.1 rfl (Nat.le_of_ble_eq_true rfl) dL_law_711 ⟨by decide, by decide⟩ (fun H locs hP2 hP hS => ?_)
  exact lv_icmp_eq (tgt := 874) hx hb dL_law_714 (by decide) (fun c9 => kk q' σ' τ' H locs hq' hX' hM' hP hP2 hS) (fun c9 => absurd rfl c9)
set_option maxHeartbeats 4000000 in
set_option maxRecDepth 100000 in
theorem lc_719 {p : Program} {l : Launch} {e : Env} {s : State} {m : MethodId} {below : List Frame} {meth : Method} {c : Code} {D : va_G} {C : Nat → ClassId} {adK adV A B : Nat → Nat} {b L : Nat} {xs : Nat → Int32} (hc : LwC D C adK adV A B p s m meth c b L xs) {i : Nat} (hi : i + 6 ≤ L) (hL : L ≤ 3072) {q : Ab} {σ τ : St} (hq : OKq q) (hX : AX q σ) (hM : AM q τ) {H : Heap} {locs : List Loc} (hP : va_P D vwCl (wX A C σ) H) (hP2 : va_P D vwCl (wM B C τ) H) (hS : va_S (fun q => s.heap.size ≤ q) s.heap H locs) {ls : Array Slot} (hl : lv_has ls 4 [(3, .int (nI i)), (2, .ref (B 0)), (1, .ref (A 0)), (0, .ref b)]) (kk : ∀ (q' : Ab) (σ' τ' : St) (H : Heap) (locs : List Loc), OKq q' → AX q' σ' → AM q' τ' → va_P D vwCl (wX A C σ') H → va_P D vwCl (wM B C τ') H → va_S (fun q => s.heap.size ≤ q) s.heap H locs → W p l e room_1 s m #[Value.ref b] below meth c H locs 93 7943 (lw_Z below #[Value.ref b] s) (F0 m 874 ls [])) : W p l e room_1 s m #[Value.ref b] below meth c H locs 93 7943 (lw_Z below #[Value.ref b] s) (F0 m 719 ls []) := by
  obtain ⟨⟨hx, hb, hr, hml, hown, hts0, hXs, hbl, hlocks, hgv⟩, hK, hZ, hA, hB, hAs, hBs, hAB⟩ := hc
  have hts : ∀ w ∈ wsL_law, w.before #[Value.ref b] s = true := fun w h => hts0 w (wsL_law_in w h)
  have hbA : ¬ s.heap.size ≤ b := Nat.not_le.mpr hbl
  have hin : ∀ k, k < 6 → vp_in (nI i + nI k) L := fun k hk => by rw [nI_add]; exact vp_in_nI (by omega) (by omega)
  have hfrX : ∀ q, fxA A 60 q → s.heap.size ≤ q := fun q ⟨k, h1, h2⟩ => by rw [h2]; exact hAs k h1
  have hfrM : ∀ q, fxA B 33 q → s.heap.size ≤ q := fun q ⟨k, h1, h2⟩ => by rw [h2]; exact hBs k h1
  have hwM : ∀ {τ : St} (k : Nat) (q : Nat × va_E), (wM B C τ)[k]? = some q → ¬ fxA A 60 q.1 := fun k q h ⟨j, h1, h2⟩ => hAB j k h1 (wM_at h).1 (h2.symm.trans (wM_at h).2)
  have hwX : ∀ {σ : St} (k : Nat) (q : Nat × va_E), (wX A C σ)[k]? = some q → ¬ fxA B 33 q.1 := fun k q h ⟨j, h1, h2⟩ => hAB k j (wX_at h).1 h1 ((wX_at h).2.symm.trans h2)
  obtain ⟨r, q', σ', τ', e1, e2, hq', hX', hM'⟩ := (api_longest (xs (nI i + 1).toNatClampNeg) (xs (nI i + 2).toNatClampNeg) (xs (nI i + 3).toNatClampNeg) (xs (nI i + 4).toNatClampNeg)).two q σ τ hq hX hM
  refine lv_aload_n hx hb dL_law_719 rfl (lv_at hl 2 rfl) ?_
  refine lv_aload_n hx hb dL_law_720 rfl (lv_at hl 3 rfl) ?_
  refine lv_iload_n hx hb dL_law_721 rfl (lv_at hl 0 rfl) ?_
  refine lv_iconst (v := 1) hx hb dL_law_722 (by decide) ?_
  refine lv_iadd hx hb dL_law_723 ?_
  refine va_sld hx hb hXs hbl hbA hS (hin 1 (by omega)) dL_law_724 ?_
  refine lv_aload_n hx hb dL_law_725 rfl (lv_at hl 3 rfl) ?_
  refine lv_iload_n hx hb dL_law_726 rfl (lv_at hl 0 rfl) ?_
  refine lv_iconst (v := 2) hx hb dL_law_727 (by decide) ?_
  refine lv_iadd hx hb dL_law_728 ?_
  refine va_sld hx hb hXs hbl hbA hS (hin 2 (by omega)) dL_law_729 ?_
  refine lv_aload_n hx hb dL_law_730 rfl (lv_at hl 3 rfl) ?_
  refine lv_iload_n hx hb dL_law_731 rfl (lv_at hl 0 rfl) ?_
  refine lv_iconst (v := 3) hx hb dL_law_732 (by decide) ?_
  refine lv_iadd hx hb dL_law_733 ?_
  refine va_sld hx hb hXs hbl hbA hS (hin 3 (by omega)) dL_law_734 ?_
  refine lv_aload_n hx hb dL_law_735 rfl (lv_at hl 3 rfl) ?_
  refine lv_iload_n hx hb dL_law_736 rfl (lv_at hl 0 rfl) ?_
  refine lv_iconst (v := 4) hx hb dL_law_737 (by decide) ?_
  refine lv_iadd hx hb dL_law_738 ?_
  refine va_sld hx hb hXs hbl hbA hS (hin 4 (by omega)) dL_law_739 ?_
  refine cl_V (As := [.int (xs (nI i + 1).toNatClampNeg), .int (xs (nI i + 2).toNatClampNeg), .int (xs (nI i + 3).toNatClampNeg), .int (xs (nI i + 4).toNatClampNeg)]) (rest := []) ⟨hx, hb, hml, hown, hts⟩ hK hZ hfrX (ct_xX10_longest l D C A adK adV hA (hf := e1)) (cwV 4 hts (gd_V kw_1019 kw_1020 kw_1021 kw_2 kw_1022) rfl rfl rfl (by decide +kernel) ⟨Nat.le_of_ble_eq_true rfl, Nat.le_of_ble_eq_true rfl⟩) (va_recv hK hP (ci := 10) (q0 := 0) rfl rfl) hP hP2 hwM hS rfl hl.1 rfl (Nat.le_of_ble_eq_true rfl) dL_law_740 ⟨by decide, by decide⟩ (fun H locs hP hP2 hS => ?_)
  refine lv_aload_n hx hb dL_law_743 rfl (lv_at hl 1 rfl) ?_
  refine lv_aload_n hx hb dL_law_744 rfl (lv_at hl 3 rfl) ?_
  refine lv_iload_n hx hb dL_law_745 rfl (lv_at hl 0 rfl) ?_
  refine lv_iconst (v := 1) hx hb dL_law_746 (by decide) ?_
  refine lv_iadd hx hb dL_law_747 ?_
  refine va_sld hx hb hXs hbl hbA hS (hin 1 (by omega)) dL_law_748 ?_
  refine lv_aload_n hx hb dL_law_749 rfl (lv_at hl 3 rfl) ?_
  refine lv_iload_n hx hb dL_law_750 rfl (lv_at hl 0 rfl) ?_
  refine lv_iconst (v := 2) hx hb dL_law_751 (by decide) ?_
  refine lv_iadd hx hb dL_law_752 ?_
  refine va_sld hx hb hXs hbl hbA hS (hin 2 (by omega)) dL_law_753 ?_
  refine lv_aload_n hx hb dL_law_754 rfl (lv_at hl 3 rfl) ?_
  refine lv_iload_n hx hb dL_law_755 rfl (lv_at hl 0 rfl) ?_
  refine lv_iconst (v := 3) hx hb dL_law_756 (by decide) ?_
  refine lv_iadd hx hb dL_law_757 ?_
  refine va_sld hx hb hXs hbl hbA hS (hin 3 (by omega)) dL_law_758 ?_
  refine lv_aload_n hx hb dL_law_759 rfl (lv_at hl 3 rfl) ?_
  refine lv_iload_n hx hb dL_law_760 rfl (lv_at hl 0 rfl) ?_
  refine lv_iconst (v := 4) hx hb dL_law_761 (by decide) ?_
  refine lv_iadd hx hb dL_law_762 ?_
  refine va_sld hx hb hXs hbl hbA hS (hin 4 (by omega)) dL_law_763 ?_
  refine cl_V (As := [.int (xs (nI i + 1).toNatClampNeg), .int (xs (nI i + 2).toNatClampNeg), .int (xs (nI i + 3).toNatClampNeg), .int (xs (nI i + 4).toNatClampNeg)]) (rest := [.int r]) ⟨hx, hb, hml, hown, hts⟩ hK hZ hfrM (ct_mX11_longest l D C B adK adV hB (hf := e2)) (cwV 4 hts (gd_V kw_1025 kw_1026 kw_1027 kw_5 kw_1028) rfl rfl rfl (by decide +kernel) ⟨Nat.le_of_ble_eq_true rfl, Nat.le_of_ble_eq_true rfl⟩) (va_recv hK hP2 (ci := 11) (q0 := 0) rfl rfl) hP2 hP hwX hS rfl hl.1 rfl (Nat.le_of_ble_eq_true rfl) dL_law_764 ⟨by decide, by decide⟩ (fun H locs hP2 hP hS => ?_)
  exact lv_icmp_eq (tgt := 874) hx hb dL_law_767 (by decide) (fun c9 => kk q' σ' τ' H locs hq' hX' hM' hP hP2 hS) (fun c9 => absurd rfl c9)
set_option maxHeartbeats 4000000 in
set_option maxRecDepth 100000 in
theorem lc_772 {p : Program} {l : Launch} {e : Env} {s : State} {m : MethodId} {below : List Frame} {meth : Method} {c : Code} {D : va_G} {C : Nat → ClassId} {adK adV A B : Nat → Nat} {b L : Nat} {xs : Nat → Int32} (hc : LwC D C adK adV A B p s m meth c b L xs) {i : Nat} (hi : i + 6 ≤ L) (hL : L ≤ 3072) {q : Ab} {σ τ : St} (hq : OKq q) (hX : AX q σ) (hM : AM q τ) {H : Heap} {locs : List Loc} (hP : va_P D vwCl (wX A C σ) H) (hP2 : va_P D vwCl (wM B C τ) H) (hS : va_S (fun q => s.heap.size ≤ q) s.heap H locs) {ls : Array Slot} (hl : lv_has ls 4 [(3, .int (nI i)), (2, .ref (B 0)), (1, .ref (A 0)), (0, .ref b)]) (kk : ∀ (q' : Ab) (σ' τ' : St) (H : Heap) (locs : List Loc), OKq q' → AX q' σ' → AM q' τ' → va_P D vwCl (wX A C σ') H → va_P D vwCl (wM B C τ') H → va_S (fun q => s.heap.size ≤ q) s.heap H locs → W p l e room_1 s m #[Value.ref b] below meth c H locs 93 7943 (lw_Z below #[Value.ref b] s) (F0 m 874 ls [])) : W p l e room_1 s m #[Value.ref b] below meth c H locs 93 7943 (lw_Z below #[Value.ref b] s) (F0 m 772 ls []) := by
  obtain ⟨⟨hx, hb, hr, hml, hown, hts0, hXs, hbl, hlocks, hgv⟩, hK, hZ, hA, hB, hAs, hBs, hAB⟩ := hc
  have hts : ∀ w ∈ wsL_law, w.before #[Value.ref b] s = true := fun w h => hts0 w (wsL_law_in w h)
  have hbA : ¬ s.heap.size ≤ b := Nat.not_le.mpr hbl
  have hin : ∀ k, k < 6 → vp_in (nI i + nI k) L := fun k hk => by rw [nI_add]; exact vp_in_nI (by omega) (by omega)
  have hfrX : ∀ q, fxA A 60 q → s.heap.size ≤ q := fun q ⟨k, h1, h2⟩ => by rw [h2]; exact hAs k h1
  have hfrM : ∀ q, fxA B 33 q → s.heap.size ≤ q := fun q ⟨k, h1, h2⟩ => by rw [h2]; exact hBs k h1
  have hwM : ∀ {τ : St} (k : Nat) (q : Nat × va_E), (wM B C τ)[k]? = some q → ¬ fxA A 60 q.1 := fun k q h ⟨j, h1, h2⟩ => hAB j k h1 (wM_at h).1 (h2.symm.trans (wM_at h).2)
  have hwX : ∀ {σ : St} (k : Nat) (q : Nat × va_E), (wX A C σ)[k]? = some q → ¬ fxA B 33 q.1 := fun k q h ⟨j, h1, h2⟩ => hAB k j (wX_at h).1 h1 ((wX_at h).2.symm.trans h2)
  obtain ⟨r, q', σ', τ', e1, e2, hq', hX', hM'⟩ := (api_step (xs (nI i + 1).toNatClampNeg) (xs (nI i + 2).toNatClampNeg)).two q σ τ hq hX hM
  refine lv_aload_n hx hb dL_law_772 rfl (lv_at hl 2 rfl) ?_
  refine lv_aload_n hx hb dL_law_773 rfl (lv_at hl 3 rfl) ?_
  refine lv_iload_n hx hb dL_law_774 rfl (lv_at hl 0 rfl) ?_
  refine lv_iconst (v := 1) hx hb dL_law_775 (by decide) ?_
  refine lv_iadd hx hb dL_law_776 ?_
  refine va_sld hx hb hXs hbl hbA hS (hin 1 (by omega)) dL_law_777 ?_
  refine lv_aload_n hx hb dL_law_778 rfl (lv_at hl 3 rfl) ?_
  refine lv_iload_n hx hb dL_law_779 rfl (lv_at hl 0 rfl) ?_
  refine lv_iconst (v := 2) hx hb dL_law_780 (by decide) ?_
  refine lv_iadd hx hb dL_law_781 ?_
  refine va_sld hx hb hXs hbl hbA hS (hin 2 (by omega)) dL_law_782 ?_
  refine cl_V (As := [.int (xs (nI i + 1).toNatClampNeg), .int (xs (nI i + 2).toNatClampNeg)]) (rest := []) ⟨hx, hb, hml, hown, hts⟩ hK hZ hfrX (ct_xX10_step l D C A adK adV hA (hf := e1)) (cwV 2 hts (gd_V kw_1030 kw_1031 kw_1032 kw_2 kw_1033) rfl rfl rfl (by decide +kernel) ⟨Nat.le_of_ble_eq_true rfl, Nat.le_of_ble_eq_true rfl⟩) (va_recv hK hP (ci := 10) (q0 := 0) rfl rfl) hP hP2 hwM hS rfl hl.1 rfl (Nat.le_of_ble_eq_true rfl) dL_law_783 ⟨by decide, by decide⟩ (fun H locs hP hP2 hS => ?_)
  refine lv_aload_n hx hb dL_law_786 rfl (lv_at hl 1 rfl) ?_
  refine lv_aload_n hx hb dL_law_787 rfl (lv_at hl 3 rfl) ?_
  refine lv_iload_n hx hb dL_law_788 rfl (lv_at hl 0 rfl) ?_
  refine lv_iconst (v := 1) hx hb dL_law_789 (by decide) ?_
  refine lv_iadd hx hb dL_law_790 ?_
  refine va_sld hx hb hXs hbl hbA hS (hin 1 (by omega)) dL_law_791 ?_
  refine lv_aload_n hx hb dL_law_792 rfl (lv_at hl 3 rfl) ?_
  refine lv_iload_n hx hb dL_law_793 rfl (lv_at hl 0 rfl) ?_
  refine lv_iconst (v := 2) hx hb dL_law_794 (by decide) ?_
  refine lv_iadd hx hb dL_law_795 ?_
  refine va_sld hx hb hXs hbl hbA hS (hin 2 (by omega)) dL_law_796 ?_
  refine cl_V (As := [.int (xs (nI i + 1).toNatClampNeg), .int (xs (nI i + 2).toNatClampNeg)]) (rest := [.int r]) ⟨hx, hb, hml, hown, hts⟩ hK hZ hfrM (ct_mX11_step l D C B adK adV hB (hf := e2)) (cwV 2 hts (gd_V kw_1043 kw_1044 kw_1045 kw_5 kw_1046) rfl rfl rfl (by decide +kernel) ⟨Nat.le_of_ble_eq_true rfl, Nat.le_of_ble_eq_true rfl⟩) (va_recv hK hP2 (ci := 11) (q0 := 0) rfl rfl) hP2 hP hwX hS rfl hl.1 rfl (Nat.le_of_ble_eq_true rfl) dL_law_797 ⟨by decide, by decide⟩ (fun H locs hP2 hP hS => ?_)
  exact lv_icmp_eq (tgt := 874) hx hb dL_law_800 (by decide) (fun c9 => kk q' σ' τ' H locs hq' hX' hM' hP hP2 hS) (fun c9 => absurd rfl c9)
