/-! the law's cases -/
set_option maxHeartbeats 4000000 in
set_option maxRecDepth 100000 in
theorem lc_805 {p : Program} {l : Launch} {e : Env} {s : State} {m : MethodId} {below : List Frame} {meth : Method} {c : Code} {D : va_G} {C : Nat → ClassId} {adK adV A B : Nat → Nat} {b L : Nat} {xs : Nat → Int32} (hc : LwC D C adK adV A B p s m meth c b L xs) {i : Nat} (hi : i + 6 ≤ L) (hL : L ≤ 3072) {q : Ab} {σ τ : St} (hq : OKq q) (hX : AX q σ) (hM : AM q τ) {H : Heap} {locs : List Loc} (hP : va_P D vwCl (wX A C σ) H) (hP2 : va_P D vwCl (wM B C τ) H) (hS : va_S (fun q => s.heap.size ≤ q) s.heap H locs) {ls : Array Slot} (hl : lv_has ls 4 [(3, .int (nI i)), (2, .ref (B 0)), (1, .ref (A 0)), (0, .ref b)]) (kk : ∀ (q' : Ab) (σ' τ' : St) (H : Heap) (locs : List Loc), OKq q' → AX q' σ' → AM q' τ' → va_P D vwCl (wX A C σ') H → va_P D vwCl (wM B C τ') H → va_S (fun q => s.heap.size ≤ q) s.heap H locs → W p l e room_1 s m #[Value.ref b] below meth c H locs 93 7943 (lw_Z below #[Value.ref b] s) (F0 m 874 ls [])) : W p l e room_1 s m #[Value.ref b] below meth c H locs 93 7943 (lw_Z below #[Value.ref b] s) (F0 m 805 ls []) := by
  obtain ⟨⟨hx, hb, hr, hml, hown, hts0, hXs, hbl, hlocks, hgv⟩, hK, hZ, hA, hB, hAs, hBs, hAB⟩ := hc
  have hts : ∀ w ∈ wsL_law, w.before #[Value.ref b] s = true := fun w h => hts0 w (wsL_law_in w h)
  have hbA : ¬ s.heap.size ≤ b := Nat.not_le.mpr hbl
  have hin : ∀ k, k < 6 → vp_in (nI i + nI k) L := fun k hk => by rw [nI_add]; exact vp_in_nI (by omega) (by omega)
  have hfrX : ∀ q, fxA A 60 q → s.heap.size ≤ q := fun q ⟨k, h1, h2⟩ => by rw [h2]; exact hAs k h1
  have hfrM : ∀ q, fxA B 33 q → s.heap.size ≤ q := fun q ⟨k, h1, h2⟩ => by rw [h2]; exact hBs k h1
  have hwM : ∀ {τ : St} (k : Nat) (q : Nat × va_E), (wM B C τ)[k]? = some q → ¬ fxA A 60 q.1 := fun k q h ⟨j, h1, h2⟩ => hAB j k h1 (wM_at h).1 (h2.symm.trans (wM_at h).2)
  have hwX : ∀ {σ : St} (k : Nat) (q : Nat × va_E), (wX A C σ)[k]? = some q → ¬ fxA B 33 q.1 := fun k q h ⟨j, h1, h2⟩ => hAB k j (wX_at h).1 h1 ((wX_at h).2.symm.trans h2)
  obtain ⟨r, q', σ', τ', e1, e2, hq', hX', hM'⟩ := (api_known (xs (nI i + 1).toNatClampNeg)).two q σ τ hq hX hM
  refine lv_aload_n hx hb dL_law_805 rfl (lv_at hl 2 rfl) ?_
  refine lv_aload_n hx hb dL_law_806 rfl (lv_at hl 3 rfl) ?_
  refine lv_iload_n hx hb dL_law_807 rfl (lv_at hl 0 rfl) ?_
  refine lv_iconst (v := 1) hx hb dL_law_808 (by decide) ?_
  refine lv_iadd hx hb dL_law_809 ?_
  refine va_sld hx hb hXs hbl hbA hS (hin 1 (by omega)) dL_law_810 ?_
  refine cl_V (As := [.int (xs (nI i + 1).toNatClampNeg)]) (rest := []) ⟨hx, hb, hml, hown, hts⟩ hK hZ hfrX (ct_xX10_known l D C A adK adV hA (hf := e1)) (cwV 1 hts (gd_V kw_1047 kw_1048 kw_1049 kw_2 kw_1050) rfl rfl rfl (by decide +kernel) ⟨Nat.le_of_ble_eq_true rfl, Nat.le_of_ble_eq_true rfl⟩) (va_recv hK hP (ci := 10) (q0 := 0) rfl rfl) hP hP2 hwM hS rfl hl.1 rfl (Nat.le_of_ble_eq_true rfl) dL_law_811 ⟨by decide, by decide⟩ (fun H locs hP hP2 hS => ?_)
  refine lv_aload_n hx hb dL_law_814 rfl (lv_at hl 1 rfl) ?_
  refine lv_aload_n hx hb dL_law_815 rfl (lv_at hl 3 rfl) ?_
  refine lv_iload_n hx hb dL_law_816 rfl (lv_at hl 0 rfl) ?_
  refine lv_iconst (v := 1) hx hb dL_law_817 (by decide) ?_
  refine lv_iadd hx hb dL_law_818 ?_
  refine va_sld hx hb hXs hbl hbA hS (hin 1 (by omega)) dL_law_819 ?_
  refine cl_V (As := [.int (xs (nI i + 1).toNatClampNeg)]) (rest := [.int r]) ⟨hx, hb, hml, hown, hts⟩ hK hZ hfrM (ct_mX11_known l D C B adK adV hB (hf := e2)) (cwV 1 hts (gd_V kw_1067 kw_1068 kw_1069 kw_5 kw_1070) rfl rfl rfl (by decide +kernel) ⟨Nat.le_of_ble_eq_true rfl, Nat.le_of_ble_eq_true rfl⟩) (va_recv hK hP2 (ci := 11) (q0 := 0) rfl rfl) hP2 hP hwX hS rfl hl.1 rfl (Nat.le_of_ble_eq_true rfl) dL_law_820 ⟨by decide, by decide⟩ (fun H locs hP2 hP hS => ?_)
  exact lv_icmp_eq (tgt := 874) hx hb dL_law_823 (by decide) (fun c9 => kk q' σ' τ' H locs hq' hX' hM' hP hP2 hS) (fun c9 => absurd rfl c9)
set_option maxHeartbeats 4000000 in
set_option maxRecDepth 100000 in
theorem lc_828 {p : Program} {l : Launch} {e : Env} {s : State} {m : MethodId} {below : List Frame} {meth : Method} {c : Code} {D : va_G} {C : Nat → ClassId} {adK adV A B : Nat → Nat} {b L : Nat} {xs : Nat → Int32} (hc : LwC D C adK adV A B p s m meth c b L xs) {i : Nat} (hi : i + 6 ≤ L) (hL : L ≤ 3072) {q : Ab} {σ τ : St} (hq : OKq q) (hX : AX q σ) (hM : AM q τ) {H : Heap} {locs : List Loc} (hP : va_P D vwCl (wX A C σ) H) (hP2 : va_P D vwCl (wM B C τ) H) (hS : va_S (fun q => s.heap.size ≤ q) s.heap H locs) {ls : Array Slot} (hl : lv_has ls 4 [(3, .int (nI i)), (2, .ref (B 0)), (1, .ref (A 0)), (0, .ref b)]) (kk : ∀ (q' : Ab) (σ' τ' : St) (H : Heap) (locs : List Loc), OKq q' → AX q' σ' → AM q' τ' → va_P D vwCl (wX A C σ') H → va_P D vwCl (wM B C τ') H → va_S (fun q => s.heap.size ≤ q) s.heap H locs → W p l e room_1 s m #[Value.ref b] below meth c H locs 93 7943 (lw_Z below #[Value.ref b] s) (F0 m 874 ls [])) : W p l e room_1 s m #[Value.ref b] below meth c H locs 93 7943 (lw_Z below #[Value.ref b] s) (F0 m 828 ls []) := by
  obtain ⟨⟨hx, hb, hr, hml, hown, hts0, hXs, hbl, hlocks, hgv⟩, hK, hZ, hA, hB, hAs, hBs, hAB⟩ := hc
  have hts : ∀ w ∈ wsL_law, w.before #[Value.ref b] s = true := fun w h => hts0 w (wsL_law_in w h)
  have hbA : ¬ s.heap.size ≤ b := Nat.not_le.mpr hbl
  have hin : ∀ k, k < 6 → vp_in (nI i + nI k) L := fun k hk => by rw [nI_add]; exact vp_in_nI (by omega) (by omega)
  have hfrX : ∀ q, fxA A 60 q → s.heap.size ≤ q := fun q ⟨k, h1, h2⟩ => by rw [h2]; exact hAs k h1
  have hfrM : ∀ q, fxA B 33 q → s.heap.size ≤ q := fun q ⟨k, h1, h2⟩ => by rw [h2]; exact hBs k h1
  have hwM : ∀ {τ : St} (k : Nat) (q : Nat × va_E), (wM B C τ)[k]? = some q → ¬ fxA A 60 q.1 := fun k q h ⟨j, h1, h2⟩ => hAB j k h1 (wM_at h).1 (h2.symm.trans (wM_at h).2)
  have hwX : ∀ {σ : St} (k : Nat) (q : Nat × va_E), (wX A C σ)[k]? = some q → ¬ fxA B 33 q.1 := fun k q h ⟨j, h1, h2⟩ => hAB k j (wX_at h).1 h1 ((wX_at h).2.symm.trans h2)
  obtain ⟨r, q', σ', τ', e1, e2, hq', hX', hM'⟩ := (api_job (xs (nI i + 1).toNatClampNeg) (xs (nI i + 2).toNatClampNeg)).two q σ τ hq hX hM
  refine lv_aload_n hx hb dL_law_828 rfl (lv_at hl 2 rfl) ?_
  refine lv_aload_n hx hb dL_law_829 rfl (lv_at hl 3 rfl) ?_
  refine lv_iload_n hx hb dL_law_830 rfl (lv_at hl 0 rfl) ?_
  refine lv_iconst (v := 1) hx hb dL_law_831 (by decide) ?_
  refine lv_iadd hx hb dL_law_832 ?_
  refine va_sld hx hb hXs hbl hbA hS (hin 1 (by omega)) dL_law_833 ?_
  refine lv_aload_n hx hb dL_law_834 rfl (lv_at hl 3 rfl) ?_
  refine lv_iload_n hx hb dL_law_835 rfl (lv_at hl 0 rfl) ?_
  refine lv_iconst (v := 2) hx hb dL_law_836 (by decide) ?_
  refine lv_iadd hx hb dL_law_837 ?_
  refine va_sld hx hb hXs hbl hbA hS (hin 2 (by omega)) dL_law_838 ?_
  refine cl_V (As := [.int (xs (nI i + 1).toNatClampNeg), .int (xs (nI i + 2).toNatClampNeg)]) (rest := []) ⟨hx, hb, hml, hown, hts⟩ hK hZ hfrX (ct_xX10_job l D C A adK adV hA (hf := e1)) (cwV 2 hts (gd_V kw_1075 kw_1076 kw_1077 kw_2 kw_1078) rfl rfl rfl (by decide +kernel) ⟨Nat.le_of_ble_eq_true rfl, Nat.le_of_ble_eq_true rfl⟩) (va_recv hK hP (ci := 10) (q0 := 0) rfl rfl) hP hP2 hwM hS rfl hl.1 rfl (Nat.le_of_ble_eq_true rfl) dL_law_839 ⟨by decide, by decide⟩ (fun H locs hP hP2 hS => ?_)
  refine lv_aload_n hx hb dL_law_842 rfl (lv_at hl 1 rfl) ?_
  refine lv_aload_n hx hb dL_law_843 rfl (lv_at hl 3 rfl) ?_
  refine lv_iload_n hx hb dL_law_844 rfl (lv_at hl 0 rfl) ?_
  refine lv_iconst (v := 1) hx hb dL_law_845 (by decide) ?_
  refine lv_iadd hx hb dL_law_846 ?_
  refine va_sld hx hb hXs hbl hbA hS (hin 1 (by omega)) dL_law_847 ?_
  refine lv_aload_n hx hb dL_law_848 rfl (lv_at hl 3 rfl) ?_
  refine lv_iload_n hx hb dL_law_849 rfl (lv_at hl 0 rfl) ?_
  refine lv_iconst (v := 2) hx hb dL_law_850 (by decide) ?_
  refine lv_iadd hx hb dL_law_851 ?_
  refine va_sld hx hb hXs hbl hbA hS (hin 2 (by omega)) dL_law_852 ?_
  refine cl_V (As := [.int (xs (nI i + 1).toNatClampNeg), .int (xs (nI i + 2).toNatClampNeg)]) (rest := [.int r]) ⟨hx, hb, hml, hown, hts⟩ hK hZ hfrM (ct_mX11_job l D C B adK adV hB (hf := e2)) (cwV 2 hts (gd_V kw_1085 kw_1086 kw_1087 kw_5 kw_1088) rfl rfl rfl (by decide +kernel) ⟨Nat.le_of_ble_eq_true rfl, Nat.le_of_ble_eq_true rfl⟩) (va_recv hK hP2 (ci := 11) (q0 := 0) rfl rfl) hP2 hP hwX hS rfl hl.1 rfl (Nat.le_of_ble_eq_true rfl) dL_law_853 ⟨by decide, by decide⟩ (fun H locs hP2 hP hS => ?_)
  exact lv_icmp_eq (tgt := 874) hx hb dL_law_856 (by decide) (fun c9 => kk q' σ' τ' H locs hq' hX' hM' hP hP2 hS) (fun c9 => absurd rfl c9)
set_option maxHeartbeats 4000000 in
set_option maxRecDepth 100000 in
theorem lc_861 {p : Program} {l : Launch} {e : Env} {s : State} {m : MethodId} {below : List Frame} {meth : Method} {c : Code} {D : va_G} {C : Nat → ClassId} {adK adV A B : Nat → Nat} {b L : Nat} {xs : Nat → Int32} (hc : LwC D C adK adV A B p s m meth c b L xs) {i : Nat} (hi : i + 6 ≤ L) (hL : L ≤ 3072) {q : Ab} {σ τ : St} (hq : OKq q) (hX : AX q σ) (hM : AM q τ) {H : Heap} {locs : List Loc} (hP : va_P D vwCl (wX A C σ) H) (hP2 : va_P D vwCl (wM B C τ) H) (hS : va_S (fun q => s.heap.size ≤ q) s.heap H locs) {ls : Array Slot} (hl : lv_has ls 4 [(3, .int (nI i)), (2, .ref (B 0)), (1, .ref (A 0)), (0, .ref b)]) (kk : ∀ (q' : Ab) (σ' τ' : St) (H : Heap) (locs : List Loc), OKq q' → AX q' σ' → AM q' τ' → va_P D vwCl (wX A C σ') H → va_P D vwCl (wM B C τ') H → va_S (fun q => s.heap.size ≤ q) s.heap H locs → W p l e room_1 s m #[Value.ref b] below meth c H locs 93 7943 (lw_Z below #[Value.ref b] s) (F0 m 874 ls [])) : W p l e room_1 s m #[Value.ref b] below meth c H locs 93 7943 (lw_Z below #[Value.ref b] s) (F0 m 861 ls []) := by
  obtain ⟨⟨hx, hb, hr, hml, hown, hts0, hXs, hbl, hlocks, hgv⟩, hK, hZ, hA, hB, hAs, hBs, hAB⟩ := hc
  have hts : ∀ w ∈ wsL_law, w.before #[Value.ref b] s = true := fun w h => hts0 w (wsL_law_in w h)
  have hbA : ¬ s.heap.size ≤ b := Nat.not_le.mpr hbl
  have hin : ∀ k, k < 6 → vp_in (nI i + nI k) L := fun k hk => by rw [nI_add]; exact vp_in_nI (by omega) (by omega)
  have hfrX : ∀ q, fxA A 60 q → s.heap.size ≤ q := fun q ⟨k, h1, h2⟩ => by rw [h2]; exact hAs k h1
  have hfrM : ∀ q, fxA B 33 q → s.heap.size ≤ q := fun q ⟨k, h1, h2⟩ => by rw [h2]; exact hBs k h1
  have hwM : ∀ {τ : St} (k : Nat) (q : Nat × va_E), (wM B C τ)[k]? = some q → ¬ fxA A 60 q.1 := fun k q h ⟨j, h1, h2⟩ => hAB j k h1 (wM_at h).1 (h2.symm.trans (wM_at h).2)
  have hwX : ∀ {σ : St} (k : Nat) (q : Nat × va_E), (wX A C σ)[k]? = some q → ¬ fxA B 33 q.1 := fun k q h ⟨j, h1, h2⟩ => hAB k j (wX_at h).1 h1 ((wX_at h).2.symm.trans h2)
  obtain ⟨r, q', σ', τ', e1, e2, hq', hX', hM'⟩ := (api_night).two q σ τ hq hX hM
  refine lv_aload_n hx hb dL_law_861 rfl (lv_at hl 2 rfl) ?_
  refine cl_V (As := []) (rest := []) ⟨hx, hb, hml, hown, hts⟩ hK hZ hfrX (ct_xX10_night l D C A adK adV hA (hf := e1)) (cwV 0 hts (gd_V kw_1090 kw_1091 kw_1092 kw_2 kw_1093) rfl rfl rfl (by decide +kernel) ⟨Nat.le_of_ble_eq_true rfl, Nat.le_of_ble_eq_true rfl⟩) (va_recv hK hP (ci := 10) (q0 := 0) rfl rfl) hP hP2 hwM hS rfl hl.1 rfl (Nat.le_of_ble_eq_true rfl) dL_law_862 ⟨by decide, by decide⟩ (fun H locs hP hP2 hS => ?_)
  refine lv_aload_n hx hb dL_law_865 rfl (lv_at hl 1 rfl) ?_
  refine cl_V (As := []) (rest := [.int r]) ⟨hx, hb, hml, hown, hts⟩ hK hZ hfrM (ct_mX11_night l D C B adK adV hB (hf := e2)) (cwV 0 hts (gd_V kw_1104 kw_1105 kw_1106 kw_5 kw_1107) rfl rfl rfl (by decide +kernel) ⟨Nat.le_of_ble_eq_true rfl, Nat.le_of_ble_eq_true rfl⟩) (va_recv hK hP2 (ci := 11) (q0 := 0) rfl rfl) hP2 hP hwX hS rfl hl.1 rfl (Nat.le_of_ble_eq_true rfl) dL_law_866 ⟨by decide, by decide⟩ (fun H locs hP2 hP hS => ?_)
  exact lv_icmp_eq (tgt := 874) hx hb dL_law_869 (by decide) (fun c9 => kk q' σ' τ' H locs hq' hX' hM' hP hP2 hS) (fun c9 => absurd rfl c9)
