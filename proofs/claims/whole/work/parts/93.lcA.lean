/-! the law's cases -/
set_option maxHeartbeats 4000000 in
set_option maxRecDepth 100000 in
theorem lc_160 {p : Program} {l : Launch} {e : Env} {s : State} {m : MethodId} {below : List Frame} {meth : Method} {c : Code} {D : va_G} {C : Nat → ClassId} {adK adV A B : Nat → Nat} {b L : Nat} {xs : Nat → Int32} (hc : LwC D C adK adV A B p s m meth c b L xs) {i : Nat} (hi : i + 6 ≤ L) (hL : L ≤ 3072) {q : Ab} {σ τ : St} (hq : OKq q) (hX : AX q σ) (hM : AM q τ) {H : Heap} {locs : List Loc} (hP : va_P D vwCl (wX A C σ) H) (hP2 : va_P D vwCl (wM B C τ) H) (hS : va_S (fun q => s.heap.size ≤ q) s.heap H locs) {ls : Array Slot} (hl : lv_has ls 4 [(3, .int (nI i)), (2, .ref (B 0)), (1, .ref (A 0)), (0, .ref b)]) (kk : ∀ (q' : Ab) (σ' τ' : St) (H : Heap) (locs : List Loc), OKq q' → AX q' σ' → AM q' τ' → va_P D vwCl (wX A C σ') H → va_P D vwCl (wM B C τ') H → va_S (fun q => s.heap.size ≤ q) s.heap H locs → W p l e room_1 s m #[Value.ref b] below meth c H locs 93 7943 (lw_Z below #[Value.ref b] s) (F0 m 874 ls [])) : W p l e room_1 s m #[Value.ref b] below meth c H locs 93 7943 (lw_Z below #[Value.ref b] s) (F0 m 160 ls []) := by
  obtain ⟨⟨hx, hb, hr, hml, hown, hts0, hXs, hbl, hlocks, hgv⟩, hK, hZ, hA, hB, hAs, hBs, hAB⟩ := hc
  have hts : ∀ w ∈ wsL_law, w.before #[Value.ref b] s = true := fun w h => hts0 w (wsL_law_in w h)
  have hbA : ¬ s.heap.size ≤ b := Nat.not_le.mpr hbl
  have hin : ∀ k, k < 6 → vp_in (nI i + nI k) L := fun k hk => by rw [nI_add]; exact vp_in_nI (by omega) (by omega)
  have hfrX : ∀ q, fxA A 60 q → s.heap.size ≤ q := fun q ⟨k, h1, h2⟩ => by rw [h2]; exact hAs k h1
  have hfrM : ∀ q, fxA B 33 q → s.heap.size ≤ q := fun q ⟨k, h1, h2⟩ => by rw [h2]; exact hBs k h1
  have hwM : ∀ {τ : St} (k : Nat) (q : Nat × va_E), (wM B C τ)[k]? = some q → ¬ fxA A 60 q.1 := fun k q h ⟨j, h1, h2⟩ => hAB j k h1 (wM_at h).1 (h2.symm.trans (wM_at h).2)
  have hwX : ∀ {σ : St} (k : Nat) (q : Nat × va_E), (wX A C σ)[k]? = some q → ¬ fxA B 33 q.1 := fun k q h ⟨j, h1, h2⟩ => hAB k j (wX_at h).1 h1 ((wX_at h).2.symm.trans h2)
  obtain ⟨r, q', σ', τ', e1, e2, hq', hX', hM'⟩ := (api_feed (xs (nI i + 1).toNatClampNeg) (xs (nI i + 2).toNatClampNeg) (xs (nI i + 3).toNatClampNeg) (xs (nI i + 4).toNatClampNeg) (xs (nI i + 5).toNatClampNeg)).two q σ τ hq hX hM
  refine lv_aload_n hx hb dL_law_160 rfl (lv_at hl 2 rfl) ?_
  refine lv_aload_n hx hb dL_law_161 rfl (lv_at hl 3 rfl) ?_
  refine lv_iload_n hx hb dL_law_162 rfl (lv_at hl 0 rfl) ?_
  refine lv_iconst (v := 1) hx hb dL_law_163 (by decide) ?_
  refine lv_iadd hx hb dL_law_164 ?_
  refine va_sld hx hb hXs hbl hbA hS (hin 1 (by omega)) dL_law_165 ?_
  refine lv_aload_n hx hb dL_law_166 rfl (lv_at hl 3 rfl) ?_
  refine lv_iload_n hx hb dL_law_167 rfl (lv_at hl 0 rfl) ?_
  refine lv_iconst (v := 2) hx hb dL_law_168 (by decide) ?_
  refine lv_iadd hx hb dL_law_169 ?_
  refine va_sld hx hb hXs hbl hbA hS (hin 2 (by omega)) dL_law_170 ?_
  refine lv_aload_n hx hb dL_law_171 rfl (lv_at hl 3 rfl) ?_
  refine lv_iload_n hx hb dL_law_172 rfl (lv_at hl 0 rfl) ?_
  refine lv_iconst (v := 3) hx hb dL_law_173 (by decide) ?_
  refine lv_iadd hx hb dL_law_174 ?_
  refine va_sld hx hb hXs hbl hbA hS (hin 3 (by omega)) dL_law_175 ?_
  refine lv_aload_n hx hb dL_law_176 rfl (lv_at hl 3 rfl) ?_
  refine lv_iload_n hx hb dL_law_177 rfl (lv_at hl 0 rfl) ?_
  refine lv_iconst (v := 4) hx hb dL_law_178 (by decide) ?_
  refine lv_iadd hx hb dL_law_179 ?_
  refine va_sld hx hb hXs hbl hbA hS (hin 4 (by omega)) dL_law_180 ?_
  refine lv_aload_n hx hb dL_law_181 rfl (lv_at hl 3 rfl) ?_
  refine lv_iload_n hx hb dL_law_182 rfl (lv_at hl 0 rfl) ?_
  refine lv_iconst (v := 5) hx hb dL_law_183 (by decide) ?_
  refine lv_iadd hx hb dL_law_184 ?_
  refine va_sld hx hb hXs hbl hbA hS (hin 5 (by omega)) dL_law_185 ?_
  refine cl_V (As := [.int (xs (nI i + 1).toNatClampNeg), .int (xs (nI i + 2).toNatClampNeg), .int (xs (nI i + 3).toNatClampNeg), .int (xs (nI i + 4).toNatClampNeg), .int (xs (nI i + 5).toNatClampNeg)]) (rest := []) ⟨hx, hb, hml, hown, hts⟩ hK hZ hfrX (ct_xX10_feed l D C A adK adV hA (hf := e1)) (cwV 5 hts (gd_V kw_188 kw_189 kw_190 kw_2 kw_191) rfl rfl rfl (by decide +kernel) ⟨Nat.le_of_ble_eq_true rfl, Nat.le_of_ble_eq_true rfl⟩) (va_recv hK hP (ci := 10) (q0 := 0) rfl rfl) hP hP2 hwM hS rfl hl.1 rfl (Nat.le_of_ble_eq_true rfl) dL_law_186 ⟨by decide, by decide⟩ (fun H locs hP hP2 hS => ?_)
  refine lv_aload_n hx hb dL_law_189 rfl (lv_at hl 1 rfl) ?_
  refine lv_aload_n hx hb dL_law_190 rfl (lv_at hl 3 rfl) ?_
  refine lv_iload_n hx hb dL_law_191 rfl (lv_at hl 0 rfl) ?_
  refine lv_iconst (v := 1) hx hb dL_law_192 (by decide) ?_
  refine lv_iadd hx hb dL_law_193 ?_
  refine va_sld hx hb hXs hbl hbA hS (hin 1 (by omega)) dL_law_194 ?_
  refine lv_aload_n hx hb dL_law_195 rfl (lv_at hl 3 rfl) ?_
  refine lv_iload_n hx hb dL_law_196 rfl (lv_at hl 0 rfl) ?_
  refine lv_iconst (v := 2) hx hb dL_law_197 (by decide) ?_
  refine lv_iadd hx hb dL_law_198 ?_
  refine va_sld hx hb hXs hbl hbA hS (hin 2 (by omega)) dL_law_199 ?_
  refine lv_aload_n hx hb dL_law_200 rfl (lv_at hl 3 rfl) ?_
  refine lv_iload_n hx hb dL_law_201 rfl (lv_at hl 0 rfl) ?_
  refine lv_iconst (v := 3) hx hb dL_law_202 (by decide) ?_
  refine lv_iadd hx hb dL_law_203 ?_
  refine va_sld hx hb hXs hbl hbA hS (hin 3 (by omega)) dL_law_204 ?_
  refine lv_aload_n hx hb dL_law_205 rfl (lv_at hl 3 rfl) ?_
  refine lv_iload_n hx hb dL_law_206 rfl (lv_at hl 0 rfl) ?_
  refine lv_iconst (v := 4) hx hb dL_law_207 (by decide) ?_
  refine lv_iadd hx hb dL_law_208 ?_
  refine va_sld hx hb hXs hbl hbA hS (hin 4 (by omega)) dL_law_209 ?_
  refine lv_aload_n hx hb dL_law_210 rfl (lv_at hl 3 rfl) ?_
  refine lv_iload_n hx hb dL_law_211 rfl (lv_at hl 0 rfl) ?_
  refine lv_iconst (v := 5) hx hb dL_law_212 (by decide) ?_
  refine lv_iadd hx hb dL_law_213 ?_
  refine va_sld hx hb hXs hbl hbA hS (hin 5 (by omega)) dL_law_214 ?_
  refine cl_V (As := [.int (xs (nI i + 1).toNatClampNeg), .int (xs (nI i + 2).toNatClampNeg), .int (xs (nI i + 3).toNatClampNeg), .int (xs (nI i + 4).toNatClampNeg), .int (xs (nI i + 5).toNatClampNeg)]) (rest := [.int r]) ⟨hx, hb, hml, hown, hts⟩ hK hZ hfrM (ct_mX11_feed l D C B adK adV hB (hf := e2)) (cwV 5 hts (gd_V kw_202 kw_203 kw_204 kw_5 kw_205) rfl rfl rfl (by decide +kernel) ⟨Nat.le_of_ble_eq_true rfl, Nat.le_of_ble_eq_true rfl⟩) (va_recv hK hP2 (ci := 11) (q0 := 0) rfl rfl) hP2 hP hwX hS rfl hl.1 rfl (Nat.le_of_ble_eq_true rfl) dL_law_215 ⟨by decide, by decide⟩ (fun H locs hP2 hP hS => ?_)
  exact lv_icmp_eq (tgt := 874) hx hb dL_law_218 (by decide) (fun c9 => kk q' σ' τ' H locs hq' hX' hM' hP hP2 hS) (fun c9 => absurd rfl c9)
set_option maxHeartbeats 4000000 in
set_option maxRecDepth 100000 in
theorem lc_223 {p : Program} {l : Launch} {e : Env} {s : State} {m : MethodId} {below : List Frame} {meth : Method} {c : Code} {D : va_G} {C : Nat → ClassId} {adK adV A B : Nat → Nat} {b L : Nat} {xs : Nat → Int32} (hc : LwC D C adK adV A B p s m meth c b L xs) {i : Nat} (hi : i + 6 ≤ L) (hL : L ≤ 3072) {q : Ab} {σ τ : St} (hq : OKq q) (hX : AX q σ) (hM : AM q τ) {H : Heap} {locs : List Loc} (hP : va_P D vwCl (wX A C σ) H) (hP2 : va_P D vwCl (wM B C τ) H) (hS : va_S (fun q => s.heap.size ≤ q) s.heap H locs) {ls : Array Slot} (hl : lv_has ls 4 [(3, .int (nI i)), (2, .ref (B 0)), (1, .ref (A 0)), (0, .ref b)]) (kk : ∀ (q' : Ab) (σ' τ' : St) (H : Heap) (locs : List Loc), OKq q' → AX q' σ' → AM q' τ' → va_P D vwCl (wX A C σ') H → va_P D vwCl (wM B C τ') H → va_S (fun q => s.heap.size ≤ q) s.heap H locs → W p l e room_1 s m #[Value.ref b] below meth c H locs 93 7943 (lw_Z below #[Value.ref b] s) (F0 m 874 ls [])) : W p l e room_1 s m #[Value.ref b] below meth c H locs 93 7943 (lw_Z below #[Value.ref b] s) (F0 m 223 ls []) := by
  obtain ⟨⟨hx, hb, hr, hml, hown, hts0, hXs, hbl, hlocks, hgv⟩, hK, hZ, hA, hB, hAs, hBs, hAB⟩ := hc
  have hts : ∀ w ∈ wsL_law, w.before #[Value.ref b] s = true := fun w h => hts0 w (wsL_law_in w h)
  have hbA : ¬ s.heap.size ≤ b := Nat.not_le.mpr hbl
  have hin : ∀ k, k < 6 → vp_in (nI i + nI k) L := fun k hk => by rw [nI_add]; exact vp_in_nI (by omega) (by omega)
  have hfrX : ∀ q, fxA A 60 q → s.heap.size ≤ q := fun q ⟨k, h1, h2⟩ => by rw [h2]; exact hAs k h1
  have hfrM : ∀ q, fxA B 33 q → s.heap.size ≤ q := fun q ⟨k, h1, h2⟩ => by rw [h2]; exact hBs k h1
  have hwM : ∀ {τ : St} (k : Nat) (q : Nat × va_E), (wM B C τ)[k]? = some q → ¬ fxA A 60 q.1 := fun k q h ⟨j, h1, h2⟩ => hAB j k h1 (wM_at h).1 (h2.symm.trans (wM_at h).2)
  have hwX : ∀ {σ : St} (k : Nat) (q : Nat × va_E), (wX A C σ)[k]? = some q → ¬ fxA B 33 q.1 := fun k q h ⟨j, h1, h2⟩ => hAB k j (wX_at h).1 h1 ((wX_at h).2.symm.trans h2)
  obtain ⟨r, q', σ', τ', e1, e2, hq', hX', hM'⟩ := (api_end (xs (nI i + 1).toNatClampNeg)).two q σ τ hq hX hM
  refine lv_aload_n hx hb dL_law_223 rfl (lv_at hl 2 rfl) ?_
  refine lv_aload_n hx hb dL_law_224 rfl (lv_at hl 3 rfl) ?_
  refine lv_iload_n hx hb dL_law_225 rfl (lv_at hl 0 rfl) ?_
  refine lv_iconst (v := 1) hx hb dL_law_226 (by decide) ?_
  refine lv_iadd hx hb dL_law_227 ?_
  refine va_sld hx hb hXs hbl hbA hS (hin 1 (by omega)) dL_law_228 ?_
  refine cl_V (As := [.int (xs (nI i + 1).toNatClampNeg)]) (rest := []) ⟨hx, hb, hml, hown, hts⟩ hK hZ hfrX (ct_xX10_end l D C A adK adV hA (hf := e1)) (cwV 1 hts (gd_V kw_207 kw_208 kw_209 kw_2 kw_210) rfl rfl rfl (by decide +kernel) ⟨Nat.le_of_ble_eq_true rfl, Nat.le_of_ble_eq_true rfl⟩) (va_recv hK hP (ci := 10) (q0 := 0) rfl rfl) hP hP2 hwM hS rfl hl.1 rfl (Nat.le_of_ble_eq_true rfl) dL_law_229 ⟨by decide, by decide⟩ (fun H locs hP hP2 hS => ?_)
  refine lv_aload_n hx hb dL_law_232 rfl (lv_at hl 1 rfl) ?_
  refine lv_aload_n hx hb dL_law_233 rfl (lv_at hl 3 rfl) ?_
  refine lv_iload_n hx hb dL_law_234 rfl (lv_at hl 0 rfl) ?_
  refine lv_iconst (v := 1) hx hb dL_law_235 (by decide) ?_
  refine lv_iadd hx hb dL_law_236 ?_
  refine va_sld hx hb hXs hbl hbA hS (hin 1 (by omega)) dL_law_237 ?_
  refine cl_V (As := [.int (xs (nI i + 1).toNatClampNeg)]) (rest := [.int r]) ⟨hx, hb, hml, hown, hts⟩ hK hZ hfrM (ct_mX11_end l D C B adK adV hB (hf := e2)) (cwV 1 hts (gd_V kw_211 kw_212 kw_213 kw_5 kw_214) rfl rfl rfl (by decide +kernel) ⟨Nat.le_of_ble_eq_true rfl, Nat.le_of_ble_eq_true rfl⟩) (va_recv hK hP2 (ci := 11) (q0 := 0) rfl rfl) hP2 hP hwX hS rfl hl.1 rfl (Nat.le_of_ble_eq_true rfl) dL_law_238 ⟨by decide, by decide⟩ (fun H locs hP2 hP hS => ?_)
  exact lv_icmp_eq (tgt := 874) hx hb dL_law_241 (by decide) (fun c9 => kk q' σ' τ' H locs hq' hX' hM' hP hP2 hS) (fun c9 => absurd rfl c9)
set_option maxHeartbeats 4000000 in
set_option maxRecDepth 100000 in
theorem lc_246 {p : Program} {l : Launch} {e : Env} {s : State} {m : MethodId} {below : List Frame} {meth : Method} {c : Code} {D : va_G} {C : Nat → ClassId} {adK adV A B : Nat → Nat} {b L : Nat} {xs : Nat → Int32} (hc : LwC D C adK adV A B p s m meth c b L xs) {i : Nat} (hi : i + 6 ≤ L) (hL : L ≤ 3072) {q : Ab} {σ τ : St} (hq : OKq q) (hX : AX q σ) (hM : AM q τ) {H : Heap} {locs : List Loc} (hP : va_P D vwCl (wX A C σ) H) (hP2 : va_P D vwCl (wM B C τ) H) (hS : va_S (fun q => s.heap.size ≤ q) s.heap H locs) {ls : Array Slot} (hl : lv_has ls 4 [(3, .int (nI i)), (2, .ref (B 0)), (1, .ref (A 0)), (0, .ref b)]) (kk : ∀ (q' : Ab) (σ' τ' : St) (H : Heap) (locs : List Loc), OKq q' → AX q' σ' → AM q' τ' → va_P D vwCl (wX A C σ') H → va_P D vwCl (wM B C τ') H → va_S (fun q => s.heap.size ≤ q) s.heap H locs → W p l e room_1 s m #[Value.ref b] below meth c H locs 93 7943 (lw_Z below #[Value.ref b] s) (F0 m 874 ls [])) : W p l e room_1 s m #[Value.ref b] below meth c H locs 93 7943 (lw_Z below #[Value.ref b] s) (F0 m 246 ls []) := by
  obtain ⟨⟨hx, hb, hr, hml, hown, hts0, hXs, hbl, hlocks, hgv⟩, hK, hZ, hA, hB, hAs, hBs, hAB⟩ := hc
  have hts : ∀ w ∈ wsL_law, w.before #[Value.ref b] s = true := fun w h => hts0 w (wsL_law_in w h)
  have hbA : ¬ s.heap.size ≤ b := Nat.not_le.mpr hbl
  have hin : ∀ k, k < 6 → vp_in (nI i + nI k) L := fun k hk => by rw [nI_add]; exact vp_in_nI (by omega) (by omega)
  have hfrX : ∀ q, fxA A 60 q → s.heap.size ≤ q := fun q ⟨k, h1, h2⟩ => by rw [h2]; exact hAs k h1
  have hfrM : ∀ q, fxA B 33 q → s.heap.size ≤ q := fun q ⟨k, h1, h2⟩ => by rw [h2]; exact hBs k h1
  have hwM : ∀ {τ : St} (k : Nat) (q : Nat × va_E), (wM B C τ)[k]? = some q → ¬ fxA A 60 q.1 := fun k q h ⟨j, h1, h2⟩ => hAB j k h1 (wM_at h).1 (h2.symm.trans (wM_at h).2)
  have hwX : ∀ {σ : St} (k : Nat) (q : Nat × va_E), (wX A C σ)[k]? = some q → ¬ fxA B 33 q.1 := fun k q h ⟨j, h1, h2⟩ => hAB k j (wX_at h).1 h1 ((wX_at h).2.symm.trans h2)
  obtain ⟨r, q', σ', τ', e1, e2, hq', hX', hM'⟩ := api_drum q σ τ hq hX hM
  refine lv_aload_n hx hb dL_law_246 rfl (lv_at hl 2 rfl) ?_
  refine cl_V (As := []) (rest := []) ⟨hx, hb, hml, hown, hts⟩ hK hZ hfrX (ct_xX10_drum l D C A adK adV hA (hf := e1)) (cwV 0 hts (gd_V kw_215 kw_216 kw_217 kw_2 kw_218) rfl rfl rfl (by decide +kernel) ⟨Nat.le_of_ble_eq_true rfl, Nat.le_of_ble_eq_true rfl⟩) (va_recv hK hP (ci := 10) (q0 := 0) rfl rfl) hP hP2 hwM hS rfl hl.1 rfl (Nat.le_of_ble_eq_true rfl) dL_law_247 ⟨by decide, by decide⟩ (fun H locs hP hP2 hS => ?_)
  refine lv_aload_n hx hb dL_law_250 rfl (lv_at hl 1 rfl) ?_
  refine cl_V (As := []) (rest := [.int r]) ⟨hx, hb, hml, hown, hts⟩ hK hZ hfrM (ct_mX11_drum l D C B adK adV hB (hf := e2)) (cwV 0 hts (gd_V kw_410 kw_411 kw_412 kw_5 kw_413) rfl rfl rfl (by decide +kernel) ⟨Nat.le_of_ble_eq_true rfl, Nat.le_of_ble_eq_true rfl⟩) (va_recv hK hP2 (ci := 11) (q0 := 0) rfl rfl) hP2 hP hwX hS rfl hl.1 rfl (Nat.le_of_ble_eq_true rfl) dL_law_251 ⟨by decide, by decide⟩ (fun H locs hP2 hP hS => ?_)
  exact lv_icmp_eq (tgt := 874) hx hb dL_law_254 (by decide) (fun c9 => kk q' σ' τ' H locs hq' hX' hM' hP hP2 hS) (fun c9 => absurd rfl c9)
set_option maxHeartbeats 4000000 in
set_option maxRecDepth 100000 in
theorem lc_259 {p : Program} {l : Launch} {e : Env} {s : State} {m : MethodId} {below : List Frame} {meth : Method} {c : Code} {D : va_G} {C : Nat → ClassId} {adK adV A B : Nat → Nat} {b L : Nat} {xs : Nat → Int32} (hc : LwC D C adK adV A B p s m meth c b L xs) {i : Nat} (hi : i + 6 ≤ L) (hL : L ≤ 3072) {q : Ab} {σ τ : St} (hq : OKq q) (hX : AX q σ) (hM : AM q τ) {H : Heap} {locs : List Loc} (hP : va_P D vwCl (wX A C σ) H) (hP2 : va_P D vwCl (wM B C τ) H) (hS : va_S (fun q => s.heap.size ≤ q) s.heap H locs) {ls : Array Slot} (hl : lv_has ls 4 [(3, .int (nI i)), (2, .ref (B 0)), (1, .ref (A 0)), (0, .ref b)]) (kk : ∀ (q' : Ab) (σ' τ' : St) (H : Heap) (locs : List Loc), OKq q' → AX q' σ' → AM q' τ' → va_P D vwCl (wX A C σ') H → va_P D vwCl (wM B C τ') H → va_S (fun q => s.heap.size ≤ q) s.heap H locs → W p l e room_1 s m #[Value.ref b] below meth c H locs 93 7943 (lw_Z below #[Value.ref b] s) (F0 m 874 ls [])) : W p l e room_1 s m #[Value.ref b] below meth c H locs 93 7943 (lw_Z below #[Value.ref b] s) (F0 m 259 ls []) := by
  obtain ⟨⟨hx, hb, hr, hml, hown, hts0, hXs, hbl, hlocks, hgv⟩, hK, hZ, hA, hB, hAs, hBs, hAB⟩ := hc
  have hts : ∀ w ∈ wsL_law, w.before #[Value.ref b] s = true := fun w h => hts0 w (wsL_law_in w h)
  have hbA : ¬ s.heap.size ≤ b := Nat.not_le.mpr hbl
  have hin : ∀ k, k < 6 → vp_in (nI i + nI k) L := fun k hk => by rw [nI_add]; exact vp_in_nI (by omega) (by omega)
  have hfrX : ∀ q, fxA A 60 q → s.heap.size ≤ q := fun q ⟨k, h1, h2⟩ => by rw [h2]; exact hAs k h1
  have hfrM : ∀ q, fxA B 33 q → s.heap.size ≤ q := fun q ⟨k, h1, h2⟩ => by rw [h2]; exact hBs k h1
  have hwM : ∀ {τ : St} (k : Nat) (q : Nat × va_E), (wM B C τ)[k]? = some q → ¬ fxA A 60 q.1 := fun k q h ⟨j, h1, h2⟩ => hAB j k h1 (wM_at h).1 (h2.symm.trans (wM_at h).2)
  have hwX : ∀ {σ : St} (k : Nat) (q : Nat × va_E), (wX A C σ)[k]? = some q → ¬ fxA B 33 q.1 := fun k q h ⟨j, h1, h2⟩ => hAB k j (wX_at h).1 h1 ((wX_at h).2.symm.trans h2)
  obtain ⟨r, q', σ', τ', e1, e2, hq', hX', hM'⟩ := api_program q σ τ hq hX hM
  refine lv_aload_n hx hb dL_law_259 rfl (lv_at hl 2 rfl) ?_
  refine cl_V (As := []) (rest := []) ⟨hx, hb, hml, hown, hts⟩ hK hZ hfrX (ct_xX10_program l D C A adK adV hA (hf := e1)) (cwV 0 hts (gd_V kw_479 kw_480 kw_481 kw_2 kw_482) rfl rfl rfl (by decide +kernel) ⟨Nat.le_of_ble_eq_true rfl, Nat.le_of_ble_eq_true rfl⟩) (va_recv hK hP (ci := 10) (q0 := 0) rfl rfl) hP hP2 hwM hS rfl hl.1 rfl (Nat.le_of_ble_eq_true rfl) dL_law_260 ⟨by decide, by decide⟩ (fun H locs hP hP2 hS => ?_)
  refine lv_aload_n hx hb dL_law_263 rfl (lv_at hl 1 rfl) ?_
  refine cl_V (As := []) (rest := [.int r]) ⟨hx, hb, hml, hown, hts⟩ hK hZ hfrM (ct_mX11_program l D C B adK adV hB (hf := e2)) (cwV 0 hts (gd_V kw_532 kw_533 kw_534 kw_5 kw_535) rfl rfl rfl (by decide +kernel) ⟨Nat.le_of_ble_eq_true rfl, Nat.le_of_ble_eq_true rfl⟩) (va_recv hK hP2 (ci := 11) (q0 := 0) rfl rfl) hP2 hP hwX hS rfl hl.1 rfl (Nat.le_of_ble_eq_true rfl) dL_law_264 ⟨by decide, by decide⟩ (fun H locs hP2 hP hS => ?_)
  exact lv_icmp_eq (tgt := 874) hx hb dL_law_267 (by decide) (fun c9 => kk q' σ' τ' H locs hq' hX' hM' hP hP2 hS) (fun c9 => absurd rfl c9)
set_option maxHeartbeats 4000000 in
set_option maxRecDepth 100000 in
theorem lc_272 {p : Program} {l : Launch} {e : Env} {s : State} {m : MethodId} {below : List Frame} {meth : Method} {c : Code} {D : va_G} {C : Nat → ClassId} {adK adV A B : Nat → Nat} {b L : Nat} {xs : Nat → Int32} (hc : LwC D C adK adV A B p s m meth c b L xs) {i : Nat} (hi : i + 6 ≤ L) (hL : L ≤ 3072) {q : Ab} {σ τ : St} (hq : OKq q) (hX : AX q σ) (hM : AM q τ) {H : Heap} {locs : List Loc} (hP : va_P D vwCl (wX A C σ) H) (hP2 : va_P D vwCl (wM B C τ) H) (hS : va_S (fun q => s.heap.size ≤ q) s.heap H locs) {ls : Array Slot} (hl : lv_has ls 4 [(3, .int (nI i)), (2, .ref (B 0)), (1, .ref (A 0)), (0, .ref b)]) (kk : ∀ (q' : Ab) (σ' τ' : St) (H : Heap) (locs : List Loc), OKq q' → AX q' σ' → AM q' τ' → va_P D vwCl (wX A C σ') H → va_P D vwCl (wM B C τ') H → va_S (fun q => s.heap.size ≤ q) s.heap H locs → W p l e room_1 s m #[Value.ref b] below meth c H locs 93 7943 (lw_Z below #[Value.ref b] s) (F0 m 874 ls [])) : W p l e room_1 s m #[Value.ref b] below meth c H locs 93 7943 (lw_Z below #[Value.ref b] s) (F0 m 272 ls []) := by
  obtain ⟨⟨hx, hb, hr, hml, hown, hts0, hXs, hbl, hlocks, hgv⟩, hK, hZ, hA, hB, hAs, hBs, hAB⟩ := hc
  have hts : ∀ w ∈ wsL_law, w.before #[Value.ref b] s = true := fun w h => hts0 w (wsL_law_in w h)
  have hbA : ¬ s.heap.size ≤ b := Nat.not_le.mpr hbl
  have hin : ∀ k, k < 6 → vp_in (nI i + nI k) L := fun k hk => by rw [nI_add]; exact vp_in_nI (by omega) (by omega)
  have hfrX : ∀ q, fxA A 60 q → s.heap.size ≤ q := fun q ⟨k, h1, h2⟩ => by rw [h2]; exact hAs k h1
  have hfrM : ∀ q, fxA B 33 q → s.heap.size ≤ q := fun q ⟨k, h1, h2⟩ => by rw [h2]; exact hBs k h1
  have hwM : ∀ {τ : St} (k : Nat) (q : Nat × va_E), (wM B C τ)[k]? = some q → ¬ fxA A 60 q.1 := fun k q h ⟨j, h1, h2⟩ => hAB j k h1 (wM_at h).1 (h2.symm.trans (wM_at h).2)
  have hwX : ∀ {σ : St} (k : Nat) (q : Nat × va_E), (wX A C σ)[k]? = some q → ¬ fxA B 33 q.1 := fun k q h ⟨j, h1, h2⟩ => hAB k j (wX_at h).1 h1 ((wX_at h).2.symm.trans h2)
  obtain ⟨r, q', σ', τ', e1, e2, hq', hX', hM'⟩ := (api_fault (xs (nI i + 1).toNatClampNeg)).two q σ τ hq hX hM
  refine lv_aload_n hx hb dL_law_272 rfl (lv_at hl 2 rfl) ?_
  refine lv_aload_n hx hb dL_law_273 rfl (lv_at hl 3 rfl) ?_
  refine lv_iload_n hx hb dL_law_274 rfl (lv_at hl 0 rfl) ?_
  refine lv_iconst (v := 1) hx hb dL_law_275 (by decide) ?_
  refine lv_iadd hx hb dL_law_276 ?_
  refine va_sld hx hb hXs hbl hbA hS (hin 1 (by omega)) dL_law_277 ?_
  refine cl_V (As := [.int (xs (nI i + 1).toNatClampNeg)]) (rest := []) ⟨hx, hb, hml, hown, hts⟩ hK hZ hfrX (ct_xX10_fault l D C A adK adV hA (hf := e1)) (cwV 1 hts (gd_V kw_550 kw_551 kw_552 kw_2 kw_553) rfl rfl rfl (by decide +kernel) ⟨Nat.le_of_ble_eq_true rfl, Nat.le_of_ble_eq_true rfl⟩) (va_recv hK hP (ci := 10) (q0 := 0) rfl rfl) hP hP2 hwM hS rfl hl.1 rfl (Nat.le_of_ble_eq_true rfl) dL_law_278 ⟨by decide, by decide⟩ (fun H locs hP hP2 hS => ?_)
  refine lv_aload_n hx hb dL_law_281 rfl (lv_at hl 1 rfl) ?_
  refine lv_aload_n hx hb dL_law_282 rfl (lv_at hl 3 rfl) ?_
  refine lv_iload_n hx hb dL_law_283 rfl (lv_at hl 0 rfl) ?_
  refine lv_iconst (v := 1) hx hb dL_law_284 (by decide) ?_
  refine lv_iadd hx hb dL_law_285 ?_
  refine va_sld hx hb hXs hbl hbA hS (hin 1 (by omega)) dL_law_286 ?_
  refine cl_V (As := [.int (xs (nI i + 1).toNatClampNeg)]) (rest := [.int r]) ⟨hx, hb, hml, hown, hts⟩ hK hZ hfrM (ct_mX11_fault l D C B adK adV hB (hf := e2)) (cwV 1 hts (gd_V kw_556 kw_557 kw_558 kw_5 kw_559) rfl rfl rfl (by decide +kernel) ⟨Nat.le_of_ble_eq_true rfl, Nat.le_of_ble_eq_true rfl⟩) (va_recv hK hP2 (ci := 11) (q0 := 0) rfl rfl) hP2 hP hwX hS rfl hl.1 rfl (Nat.le_of_ble_eq_true rfl) dL_law_287 ⟨by decide, by decide⟩ (fun H locs hP2 hP hS => ?_)
  exact lv_icmp_eq (tgt := 874) hx hb dL_law_290 (by decide) (fun c9 => kk q' σ' τ' H locs hq' hX' hM' hP hP2 hS) (fun c9 => absurd rfl c9)
