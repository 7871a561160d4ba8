set_option maxHeartbeats 4000000 in
set_option maxRecDepth 100000 in
theorem w_F_mX11_best_133 {p : Program} {l : Launch} {e : Env} {s : State} {m : MethodId} {args : Array Value} {below : List Frame} {meth : Method} {c : Code} {D : va_G} {C : Nat → ClassId} {A adK adV : Nat → Nat} (hA : apA A 33) (cx : Cxx D C adK adV (fxA A 33) p s m args meth c cX11_best 9 RX11 (some .int)) {res : (Int32 × St)} {b109 : Int32 → Int32 → St → Option (Int32 × St)} (hb109 : ∀ (x3 : Int32) (x4 : Int32) (σ : St) (H : Heap) (locs : List Loc) (ls : Array Slot), b109 x3 x4 σ = some res → lv_has ls 9 [(0, .ref (A 0)), (3, .int x3), (4, .int x4)] → va_P D vwCl (wM A C σ) H → va_S (fxA A 33) s.heap H locs → W p l e rm_X11_best s m args below meth c H locs 0 0 (MQ below (Qcx D (wM A C) (fxA A 33) (some (.int res.1)) res.2) args s 0 0 (fxA A 33)) (F0 m 109 ls [])) : ∀ (n : Nat), ∀ (x3 : Int32) (x4 : Int32) (x5 : Int32) (x6 : Int32) (σ : St) (H : Heap) (locs : List Loc) (ls : Array Slot), F_mX11_best_133 b109 n x3 x4 x5 x6 σ = some res → lv_has ls 9 [(0, .ref (A 0)), (3, .int x3), (4, .int x4), (5, .int x5), (6, .int x6)] → va_P D vwCl (wM A C σ) H → va_S (fxA A 33) s.heap H locs → W p l e rm_X11_best s m args below meth c H locs 0 0 (MQ below (Qcx D (wM A C) (fxA A 33) (some (.int res.1)) res.2) args s 0 0 (fxA A 33)) (F0 m 133 ls []) := by
  obtain ⟨hx, hb, hml, hown, hts, hK, hr, hlk, hZ⟩ := id cx
  intro n
  induction n with
  | zero =>
    intro x3 x4 x5 x6 σ H locs ls hf hl hP hS
    exact absurd (show (none : Option (Int32 × St)) = some res from hf) (by intro h; cases h)
  | succ n ih =>
    intro x3 x4 x5 x6 σ H locs ls hf hl hP hS
    refine lv_iload hx hb dX11_best_133 (lv_at hl 4 rfl) ?_
    refine lv_if_le (tgt := 174) hx hb dX11_best_135 (by decide) (fun c13 => ?_) (fun c13 => ?_)
    · have hf := (if_pos c13).symm.trans hf
      refine lv_aload_n hx hb dX11_best_174 rfl (lv_at hl 0 rfl) ?_
      refine gM_0_50 hx hb hts hown hK hP (hts _ kw_178) dX11_best_175 ?_
      refine lv_iload hx hb dX11_best_178 (lv_at hl 4 rfl) ?_
      refine lv_iload hx hb dX11_best_180 (lv_at hl 3 rfl) ?_
      obtain ⟨z14, hf⟩ := gd_some hf
      refine pM_a25 hx hb hK hP hA hS (ib_in z14) dX11_best_182 (fun H locs hP hS => ?_)
      refine lv_iinc (v := (x4 + 1)) (lv' := [(4, .int (x4 + 1)), (0, .ref (A 0)), (3, .int x3), (5, .int x5), (6, .int x6)]) hx hb dX11_best_183 hl (k := 2) rfl rfl (by decide) rfl (fun ls hl => ?_)
      refine lv_goto (tgt := 109) hx hb dX11_best_186 (by decide) ?_
      have hP : va_P D vwCl (wM A C (sA σ 25 (upd (σ.2.1 25) x6.toNatClampNeg x5))) H := hP
      exact hb109 _ _ _ _ _ _ hf (lv_sub hl [1, 2, 0] rfl) hP hS
    · have hf := (if_neg c13).symm.trans hf
      refine lv_aload_n hx hb dX11_best_138 rfl (lv_at hl 0 rfl) ?_
      refine gM_0_50 hx hb hts hown hK hP (hts _ kw_178) dX11_best_139 ?_
      refine lv_iload hx hb dX11_best_142 (lv_at hl 4 rfl) ?_
      refine lv_iconst (v := 1) hx hb dX11_best_144 (by decide) ?_
      refine lv_isub hx hb dX11_best_145 ?_
      obtain ⟨z15, hf⟩ := gd_some hf
      refine gM_a25 hx hb hK hP (ib_in z15) (v := (σ.2.1 25 (x6 - 1).toNatClampNeg)) rfl dX11_best_146 ?_
      refine lv_iload hx hb dX11_best_147 (lv_at hl 3 rfl) ?_
      refine lv_icmp_le (tgt := 174) hx hb dX11_best_149 (by decide) (fun c16 => ?_) (fun c16 => ?_)
      · have hf := (if_pos c16).symm.trans hf
        refine lv_aload_n hx hb dX11_best_174 rfl (lv_at hl 0 rfl) ?_
        refine gM_0_50 hx hb hts hown hK hP (hts _ kw_178) dX11_best_175 ?_
        refine lv_iload hx hb dX11_best_178 (lv_at hl 4 rfl) ?_
        refine lv_iload hx hb dX11_best_180 (lv_at hl 3 rfl) ?_
        obtain ⟨z17, hf⟩ := gd_some hf
        refine pM_a25 hx hb hK hP hA hS (ib_in z17) dX11_best_182 (fun H locs hP hS => ?_)
        refine lv_iinc (v := (x4 + 1)) (lv' := [(4, .int (x4 + 1)), (0, .ref (A 0)), (3, .int x3), (5, .int x5), (6, .int x6)]) hx hb dX11_best_183 hl (k := 2) rfl rfl (by decide) rfl (fun ls hl => ?_)
        refine lv_goto (tgt := 109) hx hb dX11_best_186 (by decide) ?_
        have hP : va_P D vwCl (wM A C (sA σ 25 (upd (σ.2.1 25) x6.toNatClampNeg x5))) H := hP
        exact hb109 _ _ _ _ _ _ hf (lv_sub hl [1, 2, 0] rfl) hP hS
      · have hf := (if_neg c16).symm.trans hf
        refine lv_aload_n hx hb dX11_best_152 rfl (lv_at hl 0 rfl) ?_
        refine gM_0_50 hx hb hts hown hK hP (hts _ kw_178) dX11_best_153 ?_
        refine lv_iload hx hb dX11_best_156 (lv_at hl 4 rfl) ?_
        refine lv_aload_n hx hb dX11_best_158 rfl (lv_at hl 0 rfl) ?_
        refine gM_0_50 hx hb hts hown hK hP (hts _ kw_178) dX11_best_159 ?_
        refine lv_iload hx hb dX11_best_162 (lv_at hl 4 rfl) ?_
        refine lv_iconst (v := 1) hx hb dX11_best_164 (by decide) ?_
        refine lv_isub hx hb dX11_best_165 ?_
        refine gM_a25 hx hb hK hP (ib_in z15) (v := (σ.2.1 25 (x6 - 1).toNatClampNeg)) rfl dX11_best_166 ?_
        obtain ⟨z18, hf⟩ := gd_some hf
        refine pM_a25 hx hb hK hP hA hS (ib_in z18) dX11_best_167 (fun H locs hP hS => ?_)
        refine lv_iinc (v := (x6 + (-1))) (lv' := [(6, .int (x6 + (-1))), (0, .ref (A 0)), (3, .int x3), (4, .int x4), (5, .int x5)]) hx hb dX11_best_168 hl (k := 4) rfl rfl (by decide) rfl (fun ls hl => ?_)
        refine lv_goto (tgt := 133) hx hb dX11_best_171 (by decide) ?_
        have hP : va_P D vwCl (wM A C (sA σ 25 (upd (σ.2.1 25) x6.toNatClampNeg (σ.2.1 25 (x6 - 1).toNatClampNeg)))) H := hP
        exact ih _ _ _ _ _ _ _ _ hf (lv_sub hl [1, 2, 3, 4, 0] rfl) hP hS
set_option maxHeartbeats 4000000 in
set_option maxRecDepth 100000 in
theorem w_F_mX11_best_265 {p : Program} {l : Launch} {e : Env} {s : State} {m : MethodId} {args : Array Value} {below : List Frame} {meth : Method} {c : Code} {D : va_G} {C : Nat → ClassId} {A adK adV : Nat → Nat} (hA : apA A 33) (cx : Cxx D C adK adV (fxA A 33) p s m args meth c cX11_best 9 RX11 (some .int)) {res : (Int32 × St)} {b220 : Int32 → Int32 → Int32 → Int32 → St → Option (Int32 × St)} (hb220 : ∀ (x3 : Int32) (x4 : Int32) (x5 : Int32) (x6 : Int32) (σ : St) (H : Heap) (locs : List Loc) (ls : Array Slot), b220 x3 x4 x5 x6 σ = some res → lv_has ls 9 [(0, .ref (A 0)), (3, .int x3), (4, .int x4), (5, .int x5), (6, .int x6)] → va_P D vwCl (wM A C σ) H → va_S (fxA A 33) s.heap H locs → W p l e rm_X11_best s m args below meth c H locs 0 0 (MQ below (Qcx D (wM A C) (fxA A 33) (some (.int res.1)) res.2) args s 0 0 (fxA A 33)) (F0 m 220 ls [])) : ∀ (n : Nat), ∀ (x3 : Int32) (x4 : Int32) (x5 : Int32) (x6 : Int32) (x8 : Int32) (σ : St) (H : Heap) (locs : List Loc) (ls : Array Slot), F_mX11_best_265 b220 n x3 x4 x5 x6 x8 σ = some res → lv_has ls 9 [(0, .ref (A 0)), (3, .int x3), (4, .int x4), (5, .int x5), (6, .int x6), (8, .int x8)] → va_P D vwCl (wM A C σ) H → va_S (fxA A 33) s.heap H locs → W p l e rm_X11_best s m args below meth c H locs 0 0 (MQ below (Qcx D (wM A C) (fxA A 33) (some (.int res.1)) res.2) args s 0 0 (fxA A 33)) (F0 m 265 ls []) := by
  obtain ⟨hx, hb, hml, hown, hts, hK, hr, hlk, hZ⟩ := id cx
  intro n
  induction n with
  | zero =>
    intro x3 x4 x5 x6 x8 σ H locs ls hf hl hP hS
    exact absurd (show (none : Option (Int32 × St)) = some res from hf) (by intro h; cases h)
  | succ n ih =>
    intro x3 x4 x5 x6 x8 σ H locs ls hf hl hP hS
    refine lv_iload hx hb dX11_best_265 (lv_at hl 5 rfl) ?_
    refine lv_iload_n hx hb dX11_best_267 rfl (lv_at hl 1 rfl) ?_
    refine lv_icmp_ge (tgt := 296) hx hb dX11_best_268 (by decide) (fun c4 => ?_) (fun c4 => ?_)
    · have hf := (if_pos c4).symm.trans hf
      refine lv_iinc (v := (x6 + 1)) (lv' := [(6, .int (x6 + 1)), (0, .ref (A 0)), (3, .int x3), (4, .int x4), (5, .int x5), (8, .int x8)]) hx hb dX11_best_296 hl (k := 4) rfl rfl (by decide) rfl (fun ls hl => ?_)
      refine lv_goto (tgt := 220) hx hb dX11_best_299 (by decide) ?_
      exact hb220 _ _ _ _ _ _ _ _ hf (lv_sub hl [1, 2, 3, 4, 0] rfl) hP hS
    · have hf := (if_neg c4).symm.trans hf
      refine lv_aload_n hx hb dX11_best_271 rfl (lv_at hl 0 rfl) ?_
      refine gM_0_51 hx hb hts hown hK hP (hts _ kw_179) dX11_best_272 ?_
      refine lv_iload hx hb dX11_best_275 (lv_at hl 5 rfl) ?_
      refine lv_aload_n hx hb dX11_best_277 rfl (lv_at hl 0 rfl) ?_
      refine gM_0_23 hx hb hts hown hK hP (hts _ kw_160) dX11_best_278 ?_
      refine lv_aload_n hx hb dX11_best_281 rfl (lv_at hl 0 rfl) ?_
      refine gM_0_49 hx hb hts hown hK hP (hts _ kw_177) dX11_best_282 ?_
      refine lv_iload hx hb dX11_best_285 (lv_at hl 5 rfl) ?_
      obtain ⟨z5, hf⟩ := gd_some hf
      refine gM_a24 hx hb hK hP (ib_in z5) (v := (σ.2.1 24 x8.toNatClampNeg)) rfl dX11_best_287 ?_
      obtain ⟨z6, hf⟩ := gd_some hf
      refine gM_a7 hx hb hK hP (ib_in z6) (v := (σ.2.1 7 (σ.2.1 24 x8.toNatClampNeg).toNatClampNeg)) rfl dX11_best_288 ?_
      refine pM_a26 hx hb hK hP hA hS (ib_in z5) dX11_best_289 (fun H locs hP hS => ?_)
      refine lv_iinc (v := (x8 + 1)) (lv' := [(8, .int (x8 + 1)), (0, .ref (A 0)), (3, .int x3), (4, .int x4), (5, .int x5), (6, .int x6)]) hx hb dX11_best_290 hl (k := 5) rfl rfl (by decide) rfl (fun ls hl => ?_)
      refine lv_goto (tgt := 265) hx hb dX11_best_293 (by decide) ?_
      have hP : va_P D vwCl (wM A C (sA σ 26 (upd (σ.2.1 26) x8.toNatClampNeg (σ.2.1 7 (σ.2.1 24 x8.toNatClampNeg).toNatClampNeg)))) H := hP
      exact ih _ _ _ _ _ _ _ _ _ hf (lv_sub hl [1, 2, 3, 4, 5, 0] rfl) hP hS
set_option maxHeartbeats 4000000 in
set_option maxRecDepth 100000 in
theorem w_F_mX11_best_305 {p : Program} {l : Launch} {e : Env} {s : State} {m : MethodId} {args : Array Value} {below : List Frame} {meth : Method} {c : Code} {D : va_G} {C : Nat → ClassId} {A adK adV : Nat → Nat} (hA : apA A 33) (cx : Cxx D C adK adV (fxA A 33) p s m args meth c cX11_best 9 RX11 (some .int)) {res : (Int32 × St)} : ∀ (n : Nat), ∀ (x3 : Int32) (x5 : Int32) (x6 : Int32) (σ : St) (H : Heap) (locs : List Loc) (ls : Array Slot), F_mX11_best_305 n x3 x5 x6 σ = some res → lv_has ls 9 [(0, .ref (A 0)), (3, .int x3), (5, .int x5), (6, .int x6)] → va_P D vwCl (wM A C σ) H → va_S (fxA A 33) s.heap H locs → W p l e rm_X11_best s m args below meth c H locs 0 0 (MQ below (Qcx D (wM A C) (fxA A 33) (some (.int res.1)) res.2) args s 0 0 (fxA A 33)) (F0 m 305 ls []) := by
  obtain ⟨hx, hb, hml, hown, hts, hK, hr, hlk, hZ⟩ := id cx
  intro n
  induction n with
  | zero =>
    intro x3 x5 x6 σ H locs ls hf hl hP hS
    exact absurd (show (none : Option (Int32 × St)) = some res from hf) (by intro h; cases h)
  | succ n ih =>
    intro x3 x5 x6 σ H locs ls hf hl hP hS
    refine lv_iload hx hb dX11_best_305 (lv_at hl 3 rfl) ?_
    refine lv_iload_n hx hb dX11_best_307 rfl (lv_at hl 1 rfl) ?_
    refine lv_icmp_ge (tgt := 336) hx hb dX11_best_308 (by decide) (fun c1 => ?_) (fun c1 => ?_)
    · have hf := (if_pos c1).symm.trans hf
      refine lv_iload hx hb dX11_best_336 (lv_at hl 2 rfl) ?_
      exact cx_iret cx hP hS hf dX11_best_338
    · have hf := (if_neg c1).symm.trans hf
      refine lv_aload_n hx hb dX11_best_311 rfl (lv_at hl 0 rfl) ?_
      refine gM_0_23 hx hb hts hown hK hP (hts _ kw_160) dX11_best_312 ?_
      refine lv_aload_n hx hb dX11_best_315 rfl (lv_at hl 0 rfl) ?_
      refine gM_0_49 hx hb hts hown hK hP (hts _ kw_177) dX11_best_316 ?_
      refine lv_iload hx hb dX11_best_319 (lv_at hl 3 rfl) ?_
      obtain ⟨z2, hf⟩ := gd_some hf
      refine gM_a24 hx hb hK hP (ib_in z2) (v := (σ.2.1 24 x6.toNatClampNeg)) rfl dX11_best_321 ?_
      refine lv_aload_n hx hb dX11_best_322 rfl (lv_at hl 0 rfl) ?_
      refine gM_0_51 hx hb hts hown hK hP (hts _ kw_179) dX11_best_323 ?_
      refine lv_iload hx hb dX11_best_326 (lv_at hl 3 rfl) ?_
      refine gM_a26 hx hb hK hP (ib_in z2) (v := (σ.2.1 26 x6.toNatClampNeg)) rfl dX11_best_328 ?_
      obtain ⟨z3, hf⟩ := gd_some hf
      refine pM_a7 hx hb hK hP hA hS (ib_in z3) dX11_best_329 (fun H locs hP hS => ?_)
      refine lv_iinc (v := (x6 + 1)) (lv' := [(6, .int (x6 + 1)), (0, .ref (A 0)), (3, .int x3), (5, .int x5)]) hx hb dX11_best_330 hl (k := 3) rfl rfl (by decide) rfl (fun ls hl => ?_)
      refine lv_goto (tgt := 305) hx hb dX11_best_333 (by decide) ?_
      have hP : va_P D vwCl (wM A C (sA σ 7 (upd (σ.2.1 7) (σ.2.1 24 x6.toNatClampNeg).toNatClampNeg (σ.2.1 26 x6.toNatClampNeg)))) H := hP
      exact ih _ _ _ _ _ _ _ hf (lv_sub hl [1, 2, 3, 0] rfl) hP hS
set_option maxHeartbeats 4000000 in
set_option maxRecDepth 100000 in
theorem w_F_mX11_best_220 {p : Program} {l : Launch} {e : Env} {s : State} {m : MethodId} {args : Array Value} {below : List Frame} {meth : Method} {c : Code} {D : va_G} {C : Nat → ClassId} {A adK adV : Nat → Nat} (hA : apA A 33) (cx : Cxx D C adK adV (fxA A 33) p s m args meth c cX11_best 9 RX11 (some .int)) {res : (Int32 × St)} : ∀ (n : Nat), ∀ (x3 : Int32) (x4 : Int32) (x5 : Int32) (x6 : Int32) (σ : St) (H : Heap) (locs : List Loc) (ls : Array Slot), F_mX11_best_220 n x3 x4 x5 x6 σ = some res → lv_has ls 9 [(0, .ref (A 0)), (3, .int x3), (4, .int x4), (5, .int x5), (6, .int x6)] → va_P D vwCl (wM A C σ) H → va_S (fxA A 33) s.heap H locs → W p l e rm_X11_best s m args below meth c H locs 0 0 (MQ below (Qcx D (wM A C) (fxA A 33) (some (.int res.1)) res.2) args s 0 0 (fxA A 33)) (F0 m 220 ls []) := by
  obtain ⟨hx, hb, hml, hown, hts, hK, hr, hlk, hZ⟩ := id cx
  intro n
  induction n with
  | zero =>
    intro x3 x4 x5 x6 σ H locs ls hf hl hP hS
    exact absurd (show (none : Option (Int32 × St)) = some res from hf) (by intro h; cases h)
  | succ n ih =>
    intro x3 x4 x5 x6 σ H locs ls hf hl hP hS
    refine lv_iload hx hb dX11_best_220 (lv_at hl 4 rfl) ?_
    refine lv_iload hx hb dX11_best_222 (lv_at hl 2 rfl) ?_
    refine lv_icmp_ge (tgt := 302) hx hb dX11_best_224 (by decide) (fun c7 => ?_) (fun c7 => ?_)
    · have hf := (if_pos c7).symm.trans hf
      refine lv_iconst (v := 0) hx hb dX11_best_302 (by decide) ?_
      refine lv_istore (lv' := [(6, .int 0), (0, .ref (A 0)), (3, .int x3), (4, .int x4), (5, .int x5)]) hx hb dX11_best_303 hl (by decide) rfl (fun ls hl => ?_)
      exact w_F_mX11_best_305 hA cx FU _ _ _ _ _ _ _ hf (lv_sub hl [1, 2, 4, 0] rfl) hP hS
    · have hf := (if_neg c7).symm.trans hf
      refine lv_aload_n hx hb dX11_best_227 rfl (lv_at hl 0 rfl) ?_
      refine lv_iload hx hb dX11_best_228 (lv_at hl 4 rfl) ?_
      refine lv_iload_n hx hb dX11_best_230 rfl (lv_at hl 1 rfl) ?_
      refine lv_iload hx hb dX11_best_231 (lv_at hl 2 rfl) ?_
      obtain ⟨σ_r8, h_r8, hf⟩ := bv_some hf
      refine cx_V (As := [.int x6, .int x3, .int x4]) (rest := []) cx (ct_mX11_rowOf l D C A adK adV hA h_r8) (cw_X11_305 hts ⟨Nat.le_of_ble_eq_true rfl, Nat.le_of_ble_eq_true rfl⟩) (va_recv hK hP (ci := 11) (q0 := 0) rfl (wM_0 A C _)) hP hS rfl hl.1 rfl (Nat.le_of_ble_eq_true rfl) dX11_best_233 ⟨Nat.zero_le _, Nat.zero_le _⟩ (fun H locs hP hS => ?_)
      refine lv_aload_n hx hb dX11_best_236 rfl (lv_at hl 0 rfl) ?_
      obtain ⟨⟨r9, σ_r9⟩, h_r9, hf⟩ := bd_some hf
      refine cx_V (As := []) (rest := []) cx (ct_mX11_timeNow l D C A adK adV hA h_r9) (cw_X11_296 hts ⟨Nat.le_of_ble_eq_true rfl, Nat.le_of_ble_eq_true rfl⟩) (va_recv hK hP (ci := 11) (q0 := 0) rfl (wM_0 A C _)) hP hS rfl hl.1 rfl (Nat.le_of_ble_eq_true rfl) dX11_best_237 ⟨Nat.zero_le _, Nat.zero_le _⟩ (fun H locs hP hS => ?_)
      refine lv_istore (lv' := [(7, .int r9), (0, .ref (A 0)), (3, .int x3), (4, .int x4), (5, .int x5), (6, .int x6)]) hx hb dX11_best_240 hl (by decide) rfl (fun ls hl => ?_)
      refine lv_iload hx hb dX11_best_242 (lv_at hl 4 rfl) ?_
      refine lv_iconst (v := (-1)) hx hb dX11_best_244 (by decide) ?_
      refine lv_icmp_eq (tgt := 258) hx hb dX11_best_245 (by decide) (fun c10 => ?_) (fun c10 => ?_)
      · have hf := (if_pos c10).symm.trans hf
        refine lv_iload hx hb dX11_best_258 (lv_at hl 0 rfl) ?_
        refine lv_istore (lv' := [(5, .int r9), (7, .int r9), (0, .ref (A 0)), (3, .int x3), (4, .int x4), (6, .int x6)]) hx hb dX11_best_260 hl (by decide) rfl (fun ls hl => ?_)
        refine lv_iconst (v := 0) hx hb dX11_best_262 (by decide) ?_
        refine lv_istore (lv' := [(8, .int 0), (5, .int r9), (7, .int r9), (0, .ref (A 0)), (3, .int x3), (4, .int x4), (6, .int x6)]) hx hb dX11_best_263 hl (by decide) rfl (fun ls hl => ?_)
        exact w_F_mX11_best_265 hA cx ih FU _ _ _ _ _ _ _ _ _ hf (lv_sub hl [3, 4, 5, 1, 6, 0] rfl) hP hS
      · have hf := (if_neg c10).symm.trans hf
        refine lv_iload hx hb dX11_best_248 (lv_at hl 0 rfl) ?_
        refine lv_iload hx hb dX11_best_250 (lv_at hl 4 rfl) ?_
        refine lv_icmp_lt (tgt := 258) hx hb dX11_best_252 (by decide) (fun c11 => ?_) (fun c11 => ?_)
        · have hf := (if_pos c11).symm.trans hf
          refine lv_iload hx hb dX11_best_258 (lv_at hl 0 rfl) ?_
          refine lv_istore (lv' := [(5, .int r9), (7, .int r9), (0, .ref (A 0)), (3, .int x3), (4, .int x4), (6, .int x6)]) hx hb dX11_best_260 hl (by decide) rfl (fun ls hl => ?_)
          refine lv_iconst (v := 0) hx hb dX11_best_262 (by decide) ?_
          refine lv_istore (lv' := [(8, .int 0), (5, .int r9), (7, .int r9), (0, .ref (A 0)), (3, .int x3), (4, .int x4), (6, .int x6)]) hx hb dX11_best_263 hl (by decide) rfl (fun ls hl => ?_)
          exact w_F_mX11_best_265 hA cx ih FU _ _ _ _ _ _ _ _ _ hf (lv_sub hl [3, 4, 5, 1, 6, 0] rfl) hP hS
        · have hf := (if_neg c11).symm.trans hf
          refine lv_goto (tgt := 296) hx hb dX11_best_255 (by decide) ?_
          refine lv_iinc (v := (x6 + 1)) (lv' := [(6, .int (x6 + 1)), (7, .int r9), (0, .ref (A 0)), (3, .int x3), (4, .int x4), (5, .int x5)]) hx hb dX11_best_296 hl (k := 5) rfl rfl (by decide) rfl (fun ls hl => ?_)
          refine lv_goto (tgt := 220) hx hb dX11_best_299 (by decide) ?_
          exact ih _ _ _ _ _ _ _ _ hf (lv_sub hl [2, 3, 4, 5, 0] rfl) hP hS
set_option maxHeartbeats 4000000 in
set_option maxRecDepth 100000 in
theorem w_F_mX11_best_195 {p : Program} {l : Launch} {e : Env} {s : State} {m : MethodId} {args : Array Value} {below : List Frame} {meth : Method} {c : Code} {D : va_G} {C : Nat → ClassId} {A adK adV : Nat → Nat} (hA : apA A 33) (cx : Cxx D C adK adV (fxA A 33) p s m args meth c cX11_best 9 RX11 (some .int)) {res : (Int32 × St)} : ∀ (n : Nat), ∀ (x3 : Int32) (x4 : Int32) (x5 : Int32) (σ : St) (H : Heap) (locs : List Loc) (ls : Array Slot), F_mX11_best_195 n x3 x4 x5 σ = some res → lv_has ls 9 [(0, .ref (A 0)), (3, .int x3), (4, .int x4), (5, .int x5)] → va_P D vwCl (wM A C σ) H → va_S (fxA A 33) s.heap H locs → W p l e rm_X11_best s m args below meth c H locs 0 0 (MQ below (Qcx D (wM A C) (fxA A 33) (some (.int res.1)) res.2) args s 0 0 (fxA A 33)) (F0 m 195 ls []) := by
  obtain ⟨hx, hb, hml, hown, hts, hK, hr, hlk, hZ⟩ := id cx
  intro n
  induction n with
  | zero =>
    intro x3 x4 x5 σ H locs ls hf hl hP hS
    exact absurd (show (none : Option (Int32 × St)) = some res from hf) (by intro h; cases h)
  | succ n ih =>
    intro x3 x4 x5 σ H locs ls hf hl hP hS
    refine lv_iload hx hb dX11_best_195 (lv_at hl 3 rfl) ?_
    refine lv_iload_n hx hb dX11_best_197 rfl (lv_at hl 1 rfl) ?_
    refine lv_icmp_gt (tgt := 214) hx hb dX11_best_198 (by decide) (fun c12 => ?_) (fun c12 => ?_)
    · have hf := (if_pos c12).symm.trans hf
      refine lv_iconst (v := (-1)) hx hb dX11_best_214 (by decide) ?_
      refine lv_istore (lv' := [(5, .int (-1)), (0, .ref (A 0)), (3, .int x3), (4, .int x4)]) hx hb dX11_best_215 hl (by decide) rfl (fun ls hl => ?_)
      refine lv_iconst (v := 0) hx hb dX11_best_217 (by decide) ?_
      refine lv_istore (lv' := [(6, .int 0), (5, .int (-1)), (0, .ref (A 0)), (3, .int x3), (4, .int x4)]) hx hb dX11_best_218 hl (by decide) rfl (fun ls hl => ?_)
      exact w_F_mX11_best_220 hA cx FU _ _ _ _ _ _ _ _ hf (lv_sub hl [2, 3, 4, 1, 0] rfl) hP hS
    · have hf := (if_neg c12).symm.trans hf
      refine lv_iload hx hb dX11_best_201 (lv_at hl 2 rfl) ?_
      refine lv_iload hx hb dX11_best_203 (lv_at hl 3 rfl) ?_
      refine lv_imul hx hb dX11_best_205 ?_
      refine lv_istore (lv' := [(4, .int (x4 * x5)), (0, .ref (A 0)), (3, .int x3), (5, .int x5)]) hx hb dX11_best_206 hl (by decide) rfl (fun ls hl => ?_)
      refine lv_iinc (v := (x5 + 1)) (lv' := [(5, .int (x5 + 1)), (4, .int (x4 * x5)), (0, .ref (A 0)), (3, .int x3)]) hx hb dX11_best_208 hl (k := 3) rfl rfl (by decide) rfl (fun ls hl => ?_)
      refine lv_goto (tgt := 195) hx hb dX11_best_211 (by decide) ?_
      exact ih _ _ _ _ _ _ _ hf (lv_sub hl [2, 3, 1, 0] rfl) hP hS
set_option maxHeartbeats 4000000 in
set_option maxRecDepth 100000 in
theorem w_F_mX11_best_109 {p : Program} {l : Launch} {e : Env} {s : State} {m : MethodId} {args : Array Value} {below : List Frame} {meth : Method} {c : Code} {D : va_G} {C : Nat → ClassId} {A adK adV : Nat → Nat} (hA : apA A 33) (cx : Cxx D C adK adV (fxA A 33) p s m args meth c cX11_best 9 RX11 (some .int)) {res : (Int32 × St)} : ∀ (n : Nat), ∀ (x3 : Int32) (x4 : Int32) (σ : St) (H : Heap) (locs : List Loc) (ls : Array Slot), F_mX11_best_109 n x3 x4 σ = some res → lv_has ls 9 [(0, .ref (A 0)), (3, .int x3), (4, .int x4)] → va_P D vwCl (wM A C σ) H → va_S (fxA A 33) s.heap H locs → W p l e rm_X11_best s m args below meth c H locs 0 0 (MQ below (Qcx D (wM A C) (fxA A 33) (some (.int res.1)) res.2) args s 0 0 (fxA A 33)) (F0 m 109 ls []) := by
  obtain ⟨hx, hb, hml, hown, hts, hK, hr, hlk, hZ⟩ := id cx
  intro n
  induction n with
  | zero =>
    intro x3 x4 σ H locs ls hf hl hP hS
    exact absurd (show (none : Option (Int32 × St)) = some res from hf) (by intro h; cases h)
  | succ n ih =>
    intro x3 x4 σ H locs ls hf hl hP hS
    refine lv_iload hx hb dX11_best_109 (lv_at hl 2 rfl) ?_
    refine lv_iload_n hx hb dX11_best_111 rfl (lv_at hl 1 rfl) ?_
    refine lv_icmp_ge (tgt := 189) hx hb dX11_best_112 (by decide) (fun c19 => ?_) (fun c19 => ?_)
    · have hf := (if_pos c19).symm.trans hf
      refine lv_iconst (v := 1) hx hb dX11_best_189 (by decide) ?_
      refine lv_istore (lv' := [(4, .int 1), (0, .ref (A 0)), (3, .int x3)]) hx hb dX11_best_190 hl (by decide) rfl (fun ls hl => ?_)
      refine lv_iconst (v := 2) hx hb dX11_best_192 (by decide) ?_
      refine lv_istore (lv' := [(5, .int 2), (4, .int 1), (0, .ref (A 0)), (3, .int x3)]) hx hb dX11_best_193 hl (by decide) rfl (fun ls hl => ?_)
      exact w_F_mX11_best_195 hA cx FU _ _ _ _ _ _ _ hf (lv_sub hl [2, 3, 1, 0] rfl) hP hS
    · have hf := (if_neg c19).symm.trans hf
      refine lv_aload_n hx hb dX11_best_115 rfl (lv_at hl 0 rfl) ?_
      refine gM_0_23 hx hb hts hown hK hP (hts _ kw_160) dX11_best_116 ?_
      refine lv_aload_n hx hb dX11_best_119 rfl (lv_at hl 0 rfl) ?_
      refine gM_0_49 hx hb hts hown hK hP (hts _ kw_177) dX11_best_120 ?_
      refine lv_iload hx hb dX11_best_123 (lv_at hl 2 rfl) ?_
      obtain ⟨z20, hf⟩ := gd_some hf
      refine gM_a24 hx hb hK hP (ib_in z20) (v := (σ.2.1 24 x4.toNatClampNeg)) rfl dX11_best_125 ?_
      obtain ⟨z21, hf⟩ := gd_some hf
      refine gM_a7 hx hb hK hP (ib_in z21) (v := (σ.2.1 7 (σ.2.1 24 x4.toNatClampNeg).toNatClampNeg)) rfl dX11_best_126 ?_
      refine lv_istore (lv' := [(5, .int (σ.2.1 7 (σ.2.1 24 x4.toNatClampNeg).toNatClampNeg)), (0, .ref (A 0)), (3, .int x3), (4, .int x4)]) hx hb dX11_best_127 hl (by decide) rfl (fun ls hl => ?_)
      refine lv_iload hx hb dX11_best_129 (lv_at hl 3 rfl) ?_
      refine lv_istore (lv' := [(6, .int x4), (5, .int (σ.2.1 7 (σ.2.1 24 x4.toNatClampNeg).toNatClampNeg)), (0, .ref (A 0)), (3, .int x3), (4, .int x4)]) hx hb dX11_best_131 hl (by decide) rfl (fun ls hl => ?_)
      exact w_F_mX11_best_133 hA cx ih FU _ _ _ _ _ _ _ _ hf (lv_sub hl [2, 3, 4, 1, 0] rfl) hP hS
set_option maxHeartbeats 4000000 in
set_option maxRecDepth 100000 in
theorem w_F_mX11_best_71 {p : Program} {l : Launch} {e : Env} {s : State} {m : MethodId} {args : Array Value} {below : List Frame} {meth : Method} {c : Code} {D : va_G} {C : Nat → ClassId} {A adK adV : Nat → Nat} (hA : apA A 33) (cx : Cxx D C adK adV (fxA A 33) p s m args meth c cX11_best 9 RX11 (some .int)) {res : (Int32 × St)} : ∀ (n : Nat), ∀ (x3 : Int32) (x4 : Int32) (σ : St) (H : Heap) (locs : List Loc) (ls : Array Slot), F_mX11_best_71 n x3 x4 σ = some res → lv_has ls 9 [(0, .ref (A 0)), (3, .int x3), (4, .int x4)] → va_P D vwCl (wM A C σ) H → va_S (fxA A 33) s.heap H locs → W p l e rm_X11_best s m args below meth c H locs 0 0 (MQ below (Qcx D (wM A C) (fxA A 33) (some (.int res.1)) res.2) args s 0 0 (fxA A 33)) (F0 m 71 ls []) := by
  obtain ⟨hx, hb, hml, hown, hts, hK, hr, hlk, hZ⟩ := id cx
  intro n
  induction n with
  | zero =>
    intro x3 x4 σ H locs ls hf hl hP hS
    exact absurd (show (none : Option (Int32 × St)) = some res from hf) (by intro h; cases h)
  | succ n ih =>
    intro x3 x4 σ H locs ls hf hl hP hS
    refine lv_iload hx hb dX11_best_71 (lv_at hl 2 rfl) ?_
    refine lv_iload_n hx hb dX11_best_73 rfl (lv_at hl 1 rfl) ?_
    refine lv_icmp_ge (tgt := 106) hx hb dX11_best_74 (by decide) (fun c22 => ?_) (fun c22 => ?_)
    · have hf := (if_pos c22).symm.trans hf
      refine lv_iconst (v := 0) hx hb dX11_best_106 (by decide) ?_
      refine lv_istore (lv' := [(4, .int 0), (0, .ref (A 0)), (3, .int x3)]) hx hb dX11_best_107 hl (by decide) rfl (fun ls hl => ?_)
      exact w_F_mX11_best_109 hA cx FU _ _ _ _ _ _ hf (lv_sub hl [1, 2, 0] rfl) hP hS
    · have hf := (if_neg c22).symm.trans hf
      refine lv_aload_n hx hb dX11_best_77 rfl (lv_at hl 0 rfl) ?_
      refine gM_0_16 hx hb hts hown hK hP (hts _ kw_156) dX11_best_78 ?_
      refine lv_aload_n hx hb dX11_best_81 rfl (lv_at hl 0 rfl) ?_
      refine gM_0_23 hx hb hts hown hK hP (hts _ kw_160) dX11_best_82 ?_
      refine lv_aload_n hx hb dX11_best_85 rfl (lv_at hl 0 rfl) ?_
      refine gM_0_49 hx hb hts hown hK hP (hts _ kw_177) dX11_best_86 ?_
      refine lv_iload hx hb dX11_best_89 (lv_at hl 2 rfl) ?_
      obtain ⟨z23, hf⟩ := gd_some hf
      refine gM_a24 hx hb hK hP (ib_in z23) (v := (σ.2.1 24 x4.toNatClampNeg)) rfl dX11_best_91 ?_
      obtain ⟨z24, hf⟩ := gd_some hf
      refine gM_a7 hx hb hK hP (ib_in z24) (v := (σ.2.1 7 (σ.2.1 24 x4.toNatClampNeg).toNatClampNeg)) rfl dX11_best_92 ?_
      obtain ⟨z25, hf⟩ := gd_some hf
      refine gM_a4 hx hb hK hP (ib_in z25) (v := (σ.2.1 4 (σ.2.1 7 (σ.2.1 24 x4.toNatClampNeg).toNatClampNeg).toNatClampNeg)) rfl dX11_best_93 ?_
      refine lv_if_eq (tgt := 100) hx hb dX11_best_94 (by decide) (fun c26 => ?_) (fun c26 => ?_)
      · have hf := (if_pos c26).symm.trans hf
        refine lv_iinc (v := (x4 + 1)) (lv' := [(4, .int (x4 + 1)), (0, .ref (A 0)), (3, .int x3)]) hx hb dX11_best_100 hl (k := 2) rfl rfl (by decide) rfl (fun ls hl => ?_)
        refine lv_goto (tgt := 71) hx hb dX11_best_103 (by decide) ?_
        exact ih _ _ _ _ _ _ hf (lv_sub hl [1, 2, 0] rfl) hP hS
      · have hf := (if_neg c26).symm.trans hf
        refine lv_bipush (v := (-4)) hx hb dX11_best_97 (by decide) ?_
        exact cx_iret cx hP hS hf dX11_best_99
set_option maxHeartbeats 4000000 in
set_option maxRecDepth 100000 in
theorem w_F_mX11_best_5 {p : Program} {l : Launch} {e : Env} {s : State} {m : MethodId} {args : Array Value} {below : List Frame} {meth : Method} {c : Code} {D : va_G} {C : Nat → ClassId} {A adK adV : Nat → Nat} (hA : apA A 33) (cx : Cxx D C adK adV (fxA A 33) p s m args meth c cX11_best 9 RX11 (some .int)) {res : (Int32 × St)} : ∀ (n : Nat), ∀ (x1 : Int64) (x3 : Int32) (x4 : Int32) (σ : St) (H : Heap) (locs : List Loc) (ls : Array Slot), F_mX11_best_5 n x1 x3 x4 σ = some res → lv_has ls 9 [(0, .ref (A 0)), (1, .long x1), (3, .int x3), (4, .int x4)] → va_P D vwCl (wM A C σ) H → va_S (fxA A 33) s.heap H locs → W p l e rm_X11_best s m args below meth c H locs 0 0 (MQ below (Qcx D (wM A C) (fxA A 33) (some (.int res.1)) res.2) args s 0 0 (fxA A 33)) (F0 m 5 ls []) := by
  obtain ⟨hx, hb, hml, hown, hts, hK, hr, hlk, hZ⟩ := id cx
  intro n
  induction n with
  | zero =>
    intro x1 x3 x4 σ H locs ls hf hl hP hS
    exact absurd (show (none : Option (Int32 × St)) = some res from hf) (by intro h; cases h)
  | succ n ih =>
    intro x1 x3 x4 σ H locs ls hf hl hP hS
    refine lv_iload hx hb dX11_best_5 (lv_at hl 3 rfl) ?_
    refine lv_bipush (v := 64) hx hb dX11_best_7 (by decide) ?_
    refine lv_icmp_ge (tgt := 61) hx hb dX11_best_9 (by decide) (fun c27 => ?_) (fun c27 => ?_)
    · have hf := (if_pos c27).symm.trans hf
      refine lv_iload_n hx hb dX11_best_61 rfl (lv_at hl 2 rfl) ?_
      refine lv_if_ne (tgt := 68) hx hb dX11_best_62 (by decide) (fun c28 => ?_) (fun c28 => ?_)
      · have hf := (if_neg c28).symm.trans hf
        refine lv_iconst (v := 0) hx hb dX11_best_68 (by decide) ?_
        refine lv_istore (lv' := [(4, .int 0), (0, .ref (A 0)), (1, .long x1), (3, .int x3)]) hx hb dX11_best_69 hl (by decide) rfl (fun ls hl => ?_)
        exact w_F_mX11_best_71 hA cx FU _ _ _ _ _ _ hf (lv_sub hl [1, 3, 0] rfl) hP hS
      · have hf := (if_pos c28).symm.trans hf
        refine lv_bipush (v := (-2)) hx hb dX11_best_65 (by decide) ?_
        exact cx_iret cx hP hS hf dX11_best_67
    · have hf := (if_neg c27).symm.trans hf
      refine lv_lload_n hx hb dX11_best_12 rfl (lv_at hl 1 rfl) ?_
      refine lv_iload hx hb dX11_best_13 (lv_at hl 3 rfl) ?_
      refine lv_lshr hx hb dX11_best_15 rfl ?_
      refine lv_lconst (v := 1) hx hb dX11_best_16 (by decide) ?_
      refine lv_land hx hb dX11_best_17 ?_
      refine lv_lconst (v := 0) hx hb dX11_best_18 (by decide) ?_
      refine W.lcmp hx hb dX11_best_19 ?_
      refine lv_if_ne (tgt := 26) hx hb dX11_best_20 (by decide) (fun c29 => ?_) (fun c29 => ?_)
      · have hf := (if_neg c29).symm.trans hf
        refine lv_iload hx hb dX11_best_26 (lv_at hl 3 rfl) ?_
        refine lv_aload_n hx hb dX11_best_28 rfl (lv_at hl 0 rfl) ?_
        refine gM_0_17 hx hb hts hown hK hP (v := (σ.1 12)) rfl (hts _ kw_416) dX11_best_29 ?_
        refine lv_icmp_ge (tgt := 41) hx hb dX11_best_32 (by decide) (fun c30 => ?_) (fun c30 => ?_)
        · have hf := (if_pos c30).symm.trans hf
          refine lv_bipush (v := (-2)) hx hb dX11_best_41 (by decide) ?_
          exact cx_iret cx hP hS hf dX11_best_43
        · have hf := (if_neg c30).symm.trans hf
          refine lv_iload_n hx hb dX11_best_35 rfl (lv_at hl 2 rfl) ?_
          refine lv_bipush (v := 6) hx hb dX11_best_36 (by decide) ?_
          refine lv_icmp_ne (tgt := 44) hx hb dX11_best_38 (by decide) (fun c31 => ?_) (fun c31 => ?_)
          · have hf := (if_neg c31).symm.trans hf
            refine lv_aload_n hx hb dX11_best_44 rfl (lv_at hl 0 rfl) ?_
            refine gM_0_49 hx hb hts hown hK hP (hts _ kw_177) dX11_best_45 ?_
            refine lv_iload_n hx hb dX11_best_48 rfl (lv_at hl 2 rfl) ?_
            refine lv_iload hx hb dX11_best_49 (lv_at hl 3 rfl) ?_
            obtain ⟨z32, hf⟩ := gd_some hf
            refine pM_a24 hx hb hK hP hA hS (ib_in z32) dX11_best_51 (fun H locs hP hS => ?_)
            refine lv_iinc (v := (x3 + 1)) (lv' := [(3, .int (x3 + 1)), (0, .ref (A 0)), (1, .long x1), (4, .int x4)]) hx hb dX11_best_52 hl (k := 2) rfl rfl (by decide) rfl (fun ls hl => ?_)
            refine lv_iinc (v := (x4 + 1)) (lv' := [(4, .int (x4 + 1)), (3, .int (x3 + 1)), (0, .ref (A 0)), (1, .long x1)]) hx hb dX11_best_55 hl (k := 3) rfl rfl (by decide) rfl (fun ls hl => ?_)
            refine lv_goto (tgt := 5) hx hb dX11_best_58 (by decide) ?_
            have hP : va_P D vwCl (wM A C (sA σ 24 (upd (σ.2.1 24) x3.toNatClampNeg x4))) H := hP
            exact ih _ _ _ _ _ _ _ hf (lv_sub hl [2, 3, 1, 0] rfl) hP hS
          · have hf := (if_pos c31).symm.trans hf
            refine lv_bipush (v := (-2)) hx hb dX11_best_41 (by decide) ?_
            exact cx_iret cx hP hS hf dX11_best_43
      · have hf := (if_pos c29).symm.trans hf
        refine lv_goto (tgt := 55) hx hb dX11_best_23 (by decide) ?_
        refine lv_iinc (v := (x4 + 1)) (lv' := [(4, .int (x4 + 1)), (0, .ref (A 0)), (1, .long x1), (3, .int x3)]) hx hb dX11_best_55 hl (k := 3) rfl rfl (by decide) rfl (fun ls hl => ?_)
        refine lv_goto (tgt := 5) hx hb dX11_best_58 (by decide) ?_
        exact ih _ _ _ _ _ _ _ hf (lv_sub hl [1, 2, 3, 0] rfl) hP hS
set_option maxHeartbeats 4000000 in
set_option maxRecDepth 100000 in
theorem ct_mX11_best (l : Launch) (D : va_G) (C : Nat → ClassId) (A adK adV : Nat → Nat) (hA : apA A 33) {x1 : Int64} {σ : St} {res : (Int32 × St)} (hf : F_mX11_best x1 σ = some res) : Met l yX11_best (Cond.code yX11_best cX11_best 9 (some .int) :: wsL_law) rm_X11_best (Pcx D C (wM A C) adK adV (fxA A 33) [.ref (A 0), .long x1] σ) (Qcx D (wM A C) (fxA A 33) (some (.int res.1)) res.2) 0 0 (fxA A 33) := by
  refine Met.ofW (cc := cX11_best) (maxL := 9) (ret := (some .int)) (by decide) rfl ?_
  intro p e s m args below meth c s₁ B hml hv
  obtain ⟨rfl, hP, hK, hZ⟩ := hv
  have cx : Cxx D C adK adV (fxA A 33) p s m _ meth c cX11_best 9 RX11 (some .int) := ⟨B.exec, B.bytes, hml, findClass_of_methodNamed B.named, fun w h => atoms_spec (ws := Cond.code yX11_best cX11_best 9 (some .int) :: wsL_law) B.pre w (List.mem_cons_of_mem _ h), hK, B.returns, B.notSynchronized, hZ⟩
  obtain ⟨hx, hb, -, hown, hts, -, hr, hlk, -⟩ := id cx
  have hS : va_S (fxA A 33) s.heap s.heap [] := va_S.rf
  have hl := lv_entry ([.ref (A 0), .long x1]) (n := 9) (Nat.le_of_ble_eq_true rfl)
  rw [lg_entry_eq]
  generalize (lg_sl ([.ref (A 0), .long x1]) ++ List.replicate (9 - (lg_sl ([.ref (A 0), .long x1])).length) Slot.unset).toArray = ls at hl ⊢
  have hl : lv_has ls 9 [(0, .ref (A 0)), (1, .long x1)] := hl
  show W p l e rm_X11_best s m _ below meth c s.heap [] 0 0 _ _
  refine lv_iconst (v := 0) hx hb dX11_best_0 (by decide) ?_
  refine lv_istore_n (lv' := [(3, .int 0), (0, .ref (A 0)), (1, .long x1)]) hx hb dX11_best_1 rfl hl (by decide) rfl (fun ls hl => ?_)
  refine lv_iconst (v := 0) hx hb dX11_best_2 (by decide) ?_
  refine lv_istore (lv' := [(4, .int 0), (3, .int 0), (0, .ref (A 0)), (1, .long x1)]) hx hb dX11_best_3 hl (by decide) rfl (fun ls hl => ?_)
  exact w_F_mX11_best_5 hA cx FU _ _ _ _ _ _ _ hf (lv_sub hl [2, 3, 1, 0] rfl) hP hS
set_option maxHeartbeats 4000000 in
set_option maxRecDepth 100000 in
theorem w_F_mX11_keep_31 {p : Program} {l : Launch} {e : Env} {s : State} {m : MethodId} {args : Array Value} {below : List Frame} {meth : Method} {c : Code} {D : va_G} {C : Nat → ClassId} {A adK adV : Nat → Nat} (hA : apA A 33) (cx : Cxx D C adK adV (fxA A 33) p s m args meth c cX11_keep 3 RX11 (some .int)) {res : (Int32 × St)} : ∀ (n : Nat), ∀ (x1 : Int32) (x2 : Int32) (σ : St) (H : Heap) (locs : List Loc) (ls : Array Slot), F_mX11_keep_31 n x1 x2 σ = some res → lv_has ls 3 [(0, .ref (A 0)), (1, .int x1), (2, .int x2)] → va_P D vwCl (wM A C σ) H → va_S (fxA A 33) s.heap H locs → W p l e rm_X11_keep s m args below meth c H locs 0 0 (MQ below (Qcx D (wM A C) (fxA A 33) (some (.int res.1)) res.2) args s 0 0 (fxA A 33)) (F0 m 31 ls []) := by
  obtain ⟨hx, hb, hml, hown, hts, hK, hr, hlk, hZ⟩ := id cx
  intro n
  induction n with
  | zero =>
    intro x1 x2 σ H locs ls hf hl hP hS
    exact absurd (show (none : Option (Int32 × St)) = some res from hf) (by intro h; cases h)
  | succ n ih =>
    intro x1 x2 σ H locs ls hf hl hP hS
    refine lv_iload_n hx hb dX11_keep_31 rfl (lv_at hl 2 rfl) ?_
    refine lv_aload_n hx hb dX11_keep_32 rfl (lv_at hl 0 rfl) ?_
    refine gM_0_17 hx hb hts hown hK hP (v := (σ.1 12)) rfl (hts _ kw_416) dX11_keep_33 ?_
    refine lv_icmp_ge (tgt := 62) hx hb dX11_keep_36 (by decide) (fun c1 => ?_) (fun c1 => ?_)
    · have hf := (if_pos c1).symm.trans hf
      refine lv_iconst (v := 1) hx hb dX11_keep_62 (by decide) ?_
      exact cx_iret cx hP hS hf dX11_keep_63
    · have hf := (if_neg c1).symm.trans hf
      refine lv_aload_n hx hb dX11_keep_39 rfl (lv_at hl 0 rfl) ?_
      refine gM_0_53 hx hb hts hown hK hP (hts _ kw_181) dX11_keep_40 ?_
      refine lv_bipush (v := 40) hx hb dX11_keep_43 (by decide) ?_
      refine lv_iload_n hx hb dX11_keep_45 rfl (lv_at hl 1 rfl) ?_
      refine lv_imul hx hb dX11_keep_46 ?_
      refine lv_iload_n hx hb dX11_keep_47 rfl (lv_at hl 2 rfl) ?_
      refine lv_iadd hx hb dX11_keep_48 ?_
      refine lv_aload_n hx hb dX11_keep_49 rfl (lv_at hl 0 rfl) ?_
      refine gM_0_23 hx hb hts hown hK hP (hts _ kw_160) dX11_keep_50 ?_
      refine lv_iload_n hx hb dX11_keep_53 rfl (lv_at hl 2 rfl) ?_
      obtain ⟨z2, hf⟩ := gd_some hf
      refine gM_a7 hx hb hK hP (ib_in z2) (v := (σ.2.1 7 x2.toNatClampNeg)) rfl dX11_keep_54 ?_
      obtain ⟨z3, hf⟩ := gd_some hf
      refine pM_a28 hx hb hK hP hA hS (ib_in z3) dX11_keep_55 (fun H locs hP hS => ?_)
      refine lv_iinc (v := (x2 + 1)) (lv' := [(2, .int (x2 + 1)), (0, .ref (A 0)), (1, .int x1)]) hx hb dX11_keep_56 hl (k := 2) rfl rfl (by decide) rfl (fun ls hl => ?_)
      refine lv_goto (tgt := 31) hx hb dX11_keep_59 (by decide) ?_
      have hP : va_P D vwCl (wM A C (sA σ 28 (upd (σ.2.1 28) ((40 * x1) + x2).toNatClampNeg (σ.2.1 7 x2.toNatClampNeg)))) H := hP
      exact ih _ _ _ _ _ _ hf (lv_sub hl [1, 2, 0] rfl) hP hS
set_option maxHeartbeats 4000000 in
set_option maxRecDepth 100000 in
theorem ct_mX11_keep (l : Launch) (D : va_G) (C : Nat → ClassId) (A adK adV : Nat → Nat) (hA : apA A 33) {x1 : Int32} {σ : St} {res : (Int32 × St)} (hf : F_mX11_keep x1 σ = some res) : Met l yX11_keep (Cond.code yX11_keep cX11_keep 3 (some .int) :: wsL_law) rm_X11_keep (Pcx D C (wM A C) adK adV (fxA A 33) [.ref (A 0), .int x1] σ) (Qcx D (wM A C) (fxA A 33) (some (.int res.1)) res.2) 0 0 (fxA A 33) := by
  refine Met.ofW (cc := cX11_keep) (maxL := 3) (ret := (some .int)) (by decide) rfl ?_
  intro p e s m args below meth c s₁ B hml hv
  obtain ⟨rfl, hP, hK, hZ⟩ := hv
  have cx : Cxx D C adK adV (fxA A 33) p s m _ meth c cX11_keep 3 RX11 (some .int) := ⟨B.exec, B.bytes, hml, findClass_of_methodNamed B.named, fun w h => atoms_spec (ws := Cond.code yX11_keep cX11_keep 3 (some .int) :: wsL_law) B.pre w (List.mem_cons_of_mem _ h), hK, B.returns, B.notSynchronized, hZ⟩
  obtain ⟨hx, hb, -, hown, hts, -, hr, hlk, -⟩ := id cx
  have hS : va_S (fxA A 33) s.heap s.heap [] := va_S.rf
  have hl := lv_entry ([.ref (A 0), .int x1]) (n := 3) (Nat.le_of_ble_eq_true rfl)
  rw [lg_entry_eq]
  generalize (lg_sl ([.ref (A 0), .int x1]) ++ List.replicate (3 - (lg_sl ([.ref (A 0), .int x1])).length) Slot.unset).toArray = ls at hl ⊢
  have hl : lv_has ls 3 [(0, .ref (A 0)), (1, .int x1)] := hl
  show W p l e rm_X11_keep s m _ below meth c s.heap [] 0 0 _ _
  refine lv_iload_n hx hb dX11_keep_0 rfl (lv_at hl 1 rfl) ?_
  refine lv_iconst (v := 0) hx hb dX11_keep_1 (by decide) ?_
  refine lv_iconst (v := 3) hx hb dX11_keep_2 (by decide) ?_
  obtain ⟨⟨r4, σ_r4⟩, h_r4, hf⟩ := bd_some hf
  refine cx_S (As := [.int x1, .int 0, .int 3]) (rest := []) cx (ct_mX11_in l D C A adK adV hA h_r4) (cw_X11_181 hts ⟨Nat.le_of_ble_eq_true rfl, Nat.le_of_ble_eq_true rfl⟩) hP hS rfl hl.1 rfl (Nat.le_of_ble_eq_true rfl) dX11_keep_3 ⟨Nat.zero_le _, Nat.zero_le _⟩ (fun H locs hP hS => ?_)
  refine lv_if_ne (tgt := 12) hx hb dX11_keep_6 (by decide) (fun c5 => ?_) (fun c5 => ?_)
  · have hf := (if_neg c5).symm.trans hf
    refine lv_aload_n hx hb dX11_keep_12 rfl (lv_at hl 0 rfl) ?_
    refine gM_0_17 hx hb hts hown hK hP (v := (σ_r4.1 12)) rfl (hts _ kw_416) dX11_keep_13 ?_
    refine lv_if_ne (tgt := 22) hx hb dX11_keep_16 (by decide) (fun c6 => ?_) (fun c6 => ?_)
    · have hf := (if_neg c6).symm.trans hf
      refine lv_aload_n hx hb dX11_keep_22 rfl (lv_at hl 0 rfl) ?_
      refine gM_0_52 hx hb hts hown hK hP (hts _ kw_180) dX11_keep_23 ?_
      refine lv_iload_n hx hb dX11_keep_26 rfl (lv_at hl 1 rfl) ?_
      refine lv_iconst (v := 1) hx hb dX11_keep_27 (by decide) ?_
      obtain ⟨z7, hf⟩ := gd_some hf
      refine pM_a27 hx hb hK hP hA hS (ib_in z7) dX11_keep_28 (fun H locs hP hS => ?_)
      refine lv_iconst (v := 0) hx hb dX11_keep_29 (by decide) ?_
      refine lv_istore_n (lv' := [(2, .int 0), (0, .ref (A 0)), (1, .int x1)]) hx hb dX11_keep_30 rfl hl (by decide) rfl (fun ls hl => ?_)
      have hP : va_P D vwCl (wM A C (sA σ_r4 27 (upd (σ_r4.2.1 27) x1.toNatClampNeg (vp_nar .boolean 1)))) H := hP
      exact w_F_mX11_keep_31 hA cx FU _ _ _ _ _ _ hf (lv_sub hl [1, 2, 0] rfl) hP hS
    · have hf := (if_pos c6).symm.trans hf
      refine lv_bipush (v := (-4)) hx hb dX11_keep_19 (by decide) ?_
      exact cx_iret cx hP hS hf dX11_keep_21
  · have hf := (if_pos c5).symm.trans hf
    refine lv_bipush (v := (-2)) hx hb dX11_keep_9 (by decide) ?_
    exact cx_iret cx hP hS hf dX11_keep_11
set_option maxHeartbeats 4000000 in
set_option maxRecDepth 100000 in
theorem w_F_mX11_take__64 {p : Program} {l : Launch} {e : Env} {s : State} {m : MethodId} {args : Array Value} {below : List Frame} {meth : Method} {c : Code} {D : va_G} {C : Nat → ClassId} {A adK adV : Nat → Nat} (hA : apA A 33) (cx : Cxx D C adK adV (fxA A 33) p s m args meth c cX11_take_ 3 RX11 (some .int)) {res : (Int32 × St)} : ∀ (n : Nat), ∀ (x1 : Int32) (x2 : Int32) (σ : St) (H : Heap) (locs : List Loc) (ls : Array Slot), F_mX11_take__64 n x1 x2 σ = some res → lv_has ls 3 [(0, .ref (A 0)), (1, .int x1), (2, .int x2)] → va_P D vwCl (wM A C σ) H → va_S (fxA A 33) s.heap H locs → W p l e rm_X11_take_ s m args below meth c H locs 0 0 (MQ below (Qcx D (wM A C) (fxA A 33) (some (.int res.1)) res.2) args s 0 0 (fxA A 33)) (F0 m 64 ls []) := by
  obtain ⟨hx, hb, hml, hown, hts, hK, hr, hlk, hZ⟩ := id cx
  intro n
  induction n with
  | zero =>
    intro x1 x2 σ H locs ls hf hl hP hS
    exact absurd (show (none : Option (Int32 × St)) = some res from hf) (by intro h; cases h)
  | succ n ih =>
    intro x1 x2 σ H locs ls hf hl hP hS
    refine lv_iload_n hx hb dX11_take__64 rfl (lv_at hl 2 rfl) ?_
    refine lv_aload_n hx hb dX11_take__65 rfl (lv_at hl 0 rfl) ?_
    refine gM_0_17 hx hb hts hown hK hP (v := (σ.1 12)) rfl (hts _ kw_416) dX11_take__66 ?_
    refine lv_icmp_ge (tgt := 95) hx hb dX11_take__69 (by decide) (fun c1 => ?_) (fun c1 => ?_)
    · have hf := (if_pos c1).symm.trans hf
      refine lv_aload_n hx hb dX11_take__95 rfl (lv_at hl 0 rfl) ?_
      obtain ⟨⟨r2, σ_r2⟩, h_r2, hf⟩ := bd_some hf
      refine cx_V (As := []) (rest := []) cx (ct_mX11_timeNow l D C A adK adV hA h_r2) (cw_X11_296 hts ⟨Nat.le_of_ble_eq_true rfl, Nat.le_of_ble_eq_true rfl⟩) (va_recv hK hP (ci := 11) (q0 := 0) rfl (wM_0 A C _)) hP hS rfl hl.1 rfl (Nat.le_of_ble_eq_true rfl) dX11_take__96 ⟨Nat.zero_le _, Nat.zero_le _⟩ (fun H locs hP hS => ?_)
      exact cx_iret cx hP hS hf dX11_take__99
    · have hf := (if_neg c1).symm.trans hf
      refine lv_aload_n hx hb dX11_take__72 rfl (lv_at hl 0 rfl) ?_
      refine gM_0_23 hx hb hts hown hK hP (hts _ kw_160) dX11_take__73 ?_
      refine lv_iload_n hx hb dX11_take__76 rfl (lv_at hl 2 rfl) ?_
      refine lv_aload_n hx hb dX11_take__77 rfl (lv_at hl 0 rfl) ?_
      refine gM_0_53 hx hb hts hown hK hP (hts _ kw_181) dX11_take__78 ?_
      refine lv_bipush (v := 40) hx hb dX11_take__81 (by decide) ?_
      refine lv_iload_n hx hb dX11_take__83 rfl (lv_at hl 1 rfl) ?_
      refine lv_imul hx hb dX11_take__84 ?_
      refine lv_iload_n hx hb dX11_take__85 rfl (lv_at hl 2 rfl) ?_
      refine lv_iadd hx hb dX11_take__86 ?_
      obtain ⟨z3, hf⟩ := gd_some hf
      refine gM_a28 hx hb hK hP (ib_in z3) (v := (σ.2.1 28 ((40 * x1) + x2).toNatClampNeg)) rfl dX11_take__87 ?_
      obtain ⟨z4, hf⟩ := gd_some hf
      refine pM_a7 hx hb hK hP hA hS (ib_in z4) dX11_take__88 (fun H locs hP hS => ?_)
      refine lv_iinc (v := (x2 + 1)) (lv' := [(2, .int (x2 + 1)), (0, .ref (A 0)), (1, .int x1)]) hx hb dX11_take__89 hl (k := 2) rfl rfl (by decide) rfl (fun ls hl => ?_)
      refine lv_goto (tgt := 64) hx hb dX11_take__92 (by decide) ?_
      have hP : va_P D vwCl (wM A C (sA σ 7 (upd (σ.2.1 7) x2.toNatClampNeg (σ.2.1 28 ((40 * x1) + x2).toNatClampNeg)))) H := hP
      exact ih _ _ _ _ _ _ hf (lv_sub hl [1, 2, 0] rfl) hP hS
set_option maxHeartbeats 4000000 in
set_option maxRecDepth 100000 in
theorem w_F_mX11_take__26 {p : Program} {l : Launch} {e : Env} {s : State} {m : MethodId} {args : Array Value} {below : List Frame} {meth : Method} {c : Code} {D : va_G} {C : Nat → ClassId} {A adK adV : Nat → Nat} (hA : apA A 33) (cx : Cxx D C adK adV (fxA A 33) p s m args meth c cX11_take_ 3 RX11 (some .int)) {res : (Int32 × St)} : ∀ (n : Nat), ∀ (x1 : Int32) (x2 : Int32) (σ : St) (H : Heap) (locs : List Loc) (ls : Array Slot), F_mX11_take__26 n x1 x2 σ = some res → lv_has ls 3 [(0, .ref (A 0)), (1, .int x1), (2, .int x2)] → va_P D vwCl (wM A C σ) H → va_S (fxA A 33) s.heap H locs → W p l e rm_X11_take_ s m args below meth c H locs 0 0 (MQ below (Qcx D (wM A C) (fxA A 33) (some (.int res.1)) res.2) args s 0 0 (fxA A 33)) (F0 m 26 ls []) := by
  obtain ⟨hx, hb, hml, hown, hts, hK, hr, hlk, hZ⟩ := id cx
  intro n
  induction n with
  | zero =>
    intro x1 x2 σ H locs ls hf hl hP hS
    exact absurd (show (none : Option (Int32 × St)) = some res from hf) (by intro h; cases h)
  | succ n ih =>
    intro x1 x2 σ H locs ls hf hl hP hS
    refine lv_iload_n hx hb dX11_take__26 rfl (lv_at hl 2 rfl) ?_
    refine lv_aload_n hx hb dX11_take__27 rfl (lv_at hl 0 rfl) ?_
    refine gM_0_17 hx hb hts hown hK hP (v := (σ.1 12)) rfl (hts _ kw_416) dX11_take__28 ?_
    refine lv_icmp_ge (tgt := 62) hx hb dX11_take__31 (by decide) (fun c5 => ?_) (fun c5 => ?_)
    · have hf := (if_pos c5).symm.trans hf
      refine lv_iconst (v := 0) hx hb dX11_take__62 (by decide) ?_
      refine lv_istore_n (lv' := [(2, .int 0), (0, .ref (A 0)), (1, .int x1)]) hx hb dX11_take__63 rfl hl (by decide) rfl (fun ls hl => ?_)
      exact w_F_mX11_take__64 hA cx FU _ _ _ _ _ _ hf (lv_sub hl [1, 2, 0] rfl) hP hS
    · have hf := (if_neg c5).symm.trans hf
      refine lv_aload_n hx hb dX11_take__34 rfl (lv_at hl 0 rfl) ?_
      refine gM_0_16 hx hb hts hown hK hP (hts _ kw_156) dX11_take__35 ?_
      refine lv_aload_n hx hb dX11_take__38 rfl (lv_at hl 0 rfl) ?_
      refine gM_0_53 hx hb hts hown hK hP (hts _ kw_181) dX11_take__39 ?_
      refine lv_bipush (v := 40) hx hb dX11_take__42 (by decide) ?_
      refine lv_iload_n hx hb dX11_take__44 rfl (lv_at hl 1 rfl) ?_
      refine lv_imul hx hb dX11_take__45 ?_
      refine lv_iload_n hx hb dX11_take__46 rfl (lv_at hl 2 rfl) ?_
      refine lv_iadd hx hb dX11_take__47 ?_
      obtain ⟨z6, hf⟩ := gd_some hf
      refine gM_a28 hx hb hK hP (ib_in z6) (v := (σ.2.1 28 ((40 * x1) + x2).toNatClampNeg)) rfl dX11_take__48 ?_
      obtain ⟨z7, hf⟩ := gd_some hf
      refine gM_a4 hx hb hK hP (ib_in z7) (v := (σ.2.1 4 (σ.2.1 28 ((40 * x1) + x2).toNatClampNeg).toNatClampNeg)) rfl dX11_take__49 ?_
      refine lv_if_eq (tgt := 56) hx hb dX11_take__50 (by decide) (fun c8 => ?_) (fun c8 => ?_)
      · have hf := (if_pos c8).symm.trans hf
        refine lv_iinc (v := (x2 + 1)) (lv' := [(2, .int (x2 + 1)), (0, .ref (A 0)), (1, .int x1)]) hx hb dX11_take__56 hl (k := 2) rfl rfl (by decide) rfl (fun ls hl => ?_)
        refine lv_goto (tgt := 26) hx hb dX11_take__59 (by decide) ?_
        exact ih _ _ _ _ _ _ hf (lv_sub hl [1, 2, 0] rfl) hP hS
      · have hf := (if_neg c8).symm.trans hf
        refine lv_bipush (v := (-4)) hx hb dX11_take__53 (by decide) ?_
        exact cx_iret cx hP hS hf dX11_take__55
set_option maxHeartbeats 4000000 in
set_option maxRecDepth 100000 in
theorem ct_mX11_take_ (l : Launch) (D : va_G) (C : Nat → ClassId) (A adK adV : Nat → Nat) (hA : apA A 33) {x1 : Int32} {σ : St} {res : (Int32 × St)} (hf : F_mX11_take_ x1 σ = some res) : Met l yX11_take_ (Cond.code yX11_take_ cX11_take_ 3 (some .int) :: wsL_law) rm_X11_take_ (Pcx D C (wM A C) adK adV (fxA A 33) [.ref (A 0), .int x1] σ) (Qcx D (wM A C) (fxA A 33) (some (.int res.1)) res.2) 0 0 (fxA A 33) := by
  refine Met.ofW (cc := cX11_take_) (maxL := 3) (ret := (some .int)) (by decide) rfl ?_
  intro p e s m args below meth c s₁ B hml hv
  obtain ⟨rfl, hP, hK, hZ⟩ := hv
  have cx : Cxx D C adK adV (fxA A 33) p s m _ meth c cX11_take_ 3 RX11 (some .int) := ⟨B.exec, B.bytes, hml, findClass_of_methodNamed B.named, fun w h => atoms_spec (ws := Cond.code yX11_take_ cX11_take_ 3 (some .int) :: wsL_law) B.pre w (List.mem_cons_of_mem _ h), hK, B.returns, B.notSynchronized, hZ⟩
  obtain ⟨hx, hb, -, hown, hts, -, hr, hlk, -⟩ := id cx
  have hS : va_S (fxA A 33) s.heap s.heap [] := va_S.rf
  have hl := lv_entry ([.ref (A 0), .int x1]) (n := 3) (Nat.le_of_ble_eq_true rfl)
  rw [lg_entry_eq]
  generalize (lg_sl ([.ref (A 0), .int x1]) ++ List.replicate (3 - (lg_sl ([.ref (A 0), .int x1])).length) Slot.unset).toArray = ls at hl ⊢
  have hl : lv_has ls 3 [(0, .ref (A 0)), (1, .int x1)] := hl
  show W p l e rm_X11_take_ s m _ below meth c s.heap [] 0 0 _ _
  refine lv_iload_n hx hb dX11_take__0 rfl (lv_at hl 1 rfl) ?_
  refine lv_iconst (v := 0) hx hb dX11_take__1 (by decide) ?_
  refine lv_iconst (v := 3) hx hb dX11_take__2 (by decide) ?_
  obtain ⟨⟨r9, σ_r9⟩, h_r9, hf⟩ := bd_some hf
  refine cx_S (As := [.int x1, .int 0, .int 3]) (rest := []) cx (ct_mX11_in l D C A adK adV hA h_r9) (cw_X11_181 hts ⟨Nat.le_of_ble_eq_true rfl, Nat.le_of_ble_eq_true rfl⟩) hP hS rfl hl.1 rfl (Nat.le_of_ble_eq_true rfl) dX11_take__3 ⟨Nat.zero_le _, Nat.zero_le _⟩ (fun H locs hP hS => ?_)
  refine lv_if_ne (tgt := 12) hx hb dX11_take__6 (by decide) (fun c10 => ?_) (fun c10 => ?_)
  · have hf := (if_neg c10).symm.trans hf
    refine lv_aload_n hx hb dX11_take__12 rfl (lv_at hl 0 rfl) ?_
    refine gM_0_52 hx hb hts hown hK hP (hts _ kw_180) dX11_take__13 ?_
    refine lv_iload_n hx hb dX11_take__16 rfl (lv_at hl 1 rfl) ?_
    obtain ⟨z11, hf⟩ := gd_some hf
    refine gM_a27 hx hb hK hP (ib_in z11) (v := (σ_r9.2.1 27 x1.toNatClampNeg)) rfl dX11_take__17 ?_
    refine lv_if_ne (tgt := 24) hx hb dX11_take__18 (by decide) (fun c12 => ?_) (fun c12 => ?_)
    · have hf := (if_neg c12).symm.trans hf
      refine lv_iconst (v := 0) hx hb dX11_take__24 (by decide) ?_
      refine lv_istore_n (lv' := [(2, .int 0), (0, .ref (A 0)), (1, .int x1)]) hx hb dX11_take__25 rfl hl (by decide) rfl (fun ls hl => ?_)
      exact w_F_mX11_take__26 hA cx FU _ _ _ _ _ _ hf (lv_sub hl [1, 2, 0] rfl) hP hS
    · have hf := (if_pos c12).symm.trans hf
      refine lv_bipush (v := (-4)) hx hb dX11_take__21 (by decide) ?_
      exact cx_iret cx hP hS hf dX11_take__23
  · have hf := (if_pos c10).symm.trans hf
    refine lv_bipush (v := (-2)) hx hb dX11_take__9 (by decide) ?_
    exact cx_iret cx hP hS hf dX11_take__11
set_option maxHeartbeats 4000000 in
set_option maxRecDepth 100000 in
theorem w_F_mX11_longest_58 {p : Program} {l : Launch} {e : Env} {s : State} {m : MethodId} {args : Array Value} {below : List Frame} {meth : Method} {c : Code} {D : va_G} {C : Nat → ClassId} {A adK adV : Nat → Nat} (hA : apA A 33) (cx : Cxx D C adK adV (fxA A 33) p s m args meth c cX11_longest 10 RX11 (some .int)) {res : (Int32 × St)} : ∀ (n : Nat), ∀ (x1 : Int32) (x3 : Int32) (x4 : Int32) (x5 : Int32) (x6 : Int32) (x7 : Int32) (x8 : Int64) (σ : St) (H : Heap) (locs : List Loc) (ls : Array Slot), F_mX11_longest_58 n x1 x3 x4 x5 x6 x7 x8 σ = some res → lv_has ls 10 [(0, .ref (A 0)), (1, .int x1), (3, .int x3), (4, .int x4), (5, .int x5), (6, .int x6), (7, .int x7), (8, .long x8)] → va_P D vwCl (wM A C σ) H → va_S (fxA A 33) s.heap H locs → W p l e rm_X11_longest s m args below meth c H locs 0 0 (MQ below (Qcx D (wM A C) (fxA A 33) (some (.int res.1)) res.2) args s 0 0 (fxA A 33)) (F0 m 58 ls []) := by
  obtain ⟨hx, hb, hml, hown, hts, hK, hr, hlk, hZ⟩ := id cx
  intro n
  induction n with
  | zero =>
    intro x1 x3 x4 x5 x6 x7 x8 σ H locs ls hf hl hP hS
    exact absurd (show (none : Option (Int32 × St)) = some res from hf) (by intro h; cases h)
  | succ n ih =>
    intro x1 x3 x4 x5 x6 x7 x8 σ H locs ls hf hl hP hS
    refine lv_lload hx hb dX11_longest_58 (lv_at hl 7 rfl) ?_
    refine lv_iload_n hx hb dX11_longest_60 rfl (lv_at hl 2 rfl) ?_
    refine lv_i2l hx hb dX11_longest_61 rfl ?_
    refine W.lcmp hx hb dX11_longest_62 ?_
    refine lv_if_gt (tgt := 118) hx hb dX11_longest_63 (by decide) (fun c1 => ?_) (fun c1 => ?_)
    · have hf := (if_pos c1).symm.trans hf
      refine lv_aload_n hx hb dX11_longest_118 rfl (lv_at hl 0 rfl) ?_
      refine gM_0_22 hx hb hts hown hK hP (hts _ kw_159) dX11_longest_119 ?_
      refine lv_iload_n hx hb dX11_longest_122 rfl (lv_at hl 1 rfl) ?_
      refine lv_iload hx hb dX11_longest_123 (lv_at hl 4 rfl) ?_
      obtain ⟨z2, hf⟩ := gd_some hf
      refine pM_a6 hx hb hK hP hA hS (ib_in z2) dX11_longest_125 (fun H locs hP hS => ?_)
      refine lv_iload hx hb dX11_longest_126 (lv_at hl 5 rfl) ?_
      refine lv_iconst (v := (-1)) hx hb dX11_longest_128 (by decide) ?_
      refine lv_icmp_ne (tgt := 137) hx hb dX11_longest_129 (by decide) (fun c3 => ?_) (fun c3 => ?_)
      · have hf := (if_neg c3).symm.trans hf
        refine lv_iload hx hb dX11_longest_137 (lv_at hl 3 rfl) ?_
        refine lv_if_ne (tgt := 147) hx hb dX11_longest_139 (by decide) (fun c4 => ?_) (fun c4 => ?_)
        · have hf := (if_neg c4).symm.trans hf
          refine lv_iload hx hb dX11_longest_147 (lv_at hl 6 rfl) ?_
          have hP : va_P D vwCl (wM A C (sA σ 6 (upd (σ.2.1 6) x1.toNatClampNeg x5))) H := hP
          exact cx_iret cx hP hS hf dX11_longest_149
        · have hf := (if_pos c4).symm.trans hf
          refine lv_iload hx hb dX11_longest_142 (lv_at hl 5 rfl) ?_
          refine lv_goto (tgt := 149) hx hb dX11_longest_144 (by decide) ?_
          have hP : va_P D vwCl (wM A C (sA σ 6 (upd (σ.2.1 6) x1.toNatClampNeg x5))) H := hP
          exact cx_iret cx hP hS hf dX11_longest_149
      · have hf := (if_pos c3).symm.trans hf
        refine lv_bipush (v := (-4)) hx hb dX11_longest_132 (by decide) ?_
        refine lv_goto (tgt := 149) hx hb dX11_longest_134 (by decide) ?_
        have hP : va_P D vwCl (wM A C (sA σ 6 (upd (σ.2.1 6) x1.toNatClampNeg x5))) H := hP
        exact cx_iret cx hP hS hf dX11_longest_149
    · have hf := (if_neg c1).symm.trans hf
      refine lv_aload_n hx hb dX11_longest_66 rfl (lv_at hl 0 rfl) ?_
      refine gM_0_22 hx hb hts hown hK hP (hts _ kw_159) dX11_longest_67 ?_
      refine lv_iload_n hx hb dX11_longest_70 rfl (lv_at hl 1 rfl) ?_
      refine lv_lload hx hb dX11_longest_71 (lv_at hl 7 rfl) ?_
      refine lv_l2i hx hb dX11_longest_73 rfl ?_
      obtain ⟨z5, hf⟩ := gd_some hf
      refine pM_a6 hx hb hK hP hA hS (ib_in z5) dX11_longest_74 (fun H locs hP hS => ?_)
      refine lv_aload_n hx hb dX11_longest_75 rfl (lv_at hl 0 rfl) ?_
      have hP : va_P D vwCl (wM A C (sA σ 6 (upd (σ.2.1 6) x1.toNatClampNeg (Int64.toInt32 x8)))) H := hP
      obtain ⟨σ_r6, h_r6, hf⟩ := bv_some hf
      refine cx_V (As := []) (rest := []) cx (ct_mX11_goes l D C A adK adV hA h_r6) (cw_X11_280 hts ⟨Nat.le_of_ble_eq_true rfl, Nat.le_of_ble_eq_true rfl⟩) (va_recv hK hP (ci := 11) (q0 := 0) rfl (wM_0 A C _)) hP hS rfl hl.1 rfl (Nat.le_of_ble_eq_true rfl) dX11_longest_76 ⟨Nat.zero_le _, Nat.zero_le _⟩ (fun H locs hP hS => ?_)
      refine lv_aload_n hx hb dX11_longest_79 rfl (lv_at hl 0 rfl) ?_
      refine gM_0_32 hx hb hts hown hK hP (v := (σ_r6.1 17)) rfl (hts _ kw_739) dX11_longest_80 ?_
      refine lv_if_ne (tgt := 109) hx hb dX11_longest_83 (by decide) (fun c7 => ?_) (fun c7 => ?_)
      · have hf := (if_neg c7).symm.trans hf
        refine lv_lload hx hb dX11_longest_109 (lv_at hl 7 rfl) ?_
        refine lv_lconst (v := 1) hx hb dX11_longest_111 (by decide) ?_
        refine lv_ladd hx hb dX11_longest_112 ?_
        refine lv_lstore (lv' := [(8, .long (x8 + (1 : Int64))), (0, .ref (A 0)), (1, .int x1), (3, .int x3), (4, .int x4), (5, .int x5), (6, .int x6), (7, .int x7)]) hx hb dX11_longest_113 hl (by decide) rfl (fun ls hl => ?_)
        refine lv_goto (tgt := 58) hx hb dX11_longest_115 (by decide) ?_
        exact ih _ _ _ _ _ _ _ _ _ _ _ hf (lv_sub hl [1, 2, 3, 4, 5, 6, 7, 0] rfl) hP hS
      · have hf := (if_pos c7).symm.trans hf
        refine lv_aload_n hx hb dX11_longest_86 rfl (lv_at hl 0 rfl) ?_
        refine gM_0_36 hx hb hts hown hK hP (v := (σ_r6.1 21)) rfl (hts _ kw_743) dX11_longest_87 ?_
        refine lv_iload hx hb dX11_longest_90 (lv_at hl 5 rfl) ?_
        refine lv_icmp_gt (tgt := 98) hx hb dX11_longest_92 (by decide) (fun c8 => ?_) (fun c8 => ?_)
        · have hf := (if_pos c8).symm.trans hf
          refine lv_aload_n hx hb dX11_longest_98 rfl (lv_at hl 0 rfl) ?_
          refine gM_0_36 hx hb hts hown hK hP (v := (σ_r6.1 21)) rfl (hts _ kw_743) dX11_longest_99 ?_
          refine lv_istore (lv' := [(6, .int (σ_r6.1 21)), (0, .ref (A 0)), (1, .int x1), (3, .int x3), (4, .int x4), (5, .int x5), (7, .int x7), (8, .long x8)]) hx hb dX11_longest_102 hl (by decide) rfl (fun ls hl => ?_)
          refine lv_lload hx hb dX11_longest_104 (lv_at hl 7 rfl) ?_
          refine lv_l2i hx hb dX11_longest_106 rfl ?_
          refine lv_istore (lv' := [(7, .int (Int64.toInt32 x8)), (6, .int (σ_r6.1 21)), (0, .ref (A 0)), (1, .int x1), (3, .int x3), (4, .int x4), (5, .int x5), (8, .long x8)]) hx hb dX11_longest_107 hl (by decide) rfl (fun ls hl => ?_)
          refine lv_lload hx hb dX11_longest_109 (lv_at hl 7 rfl) ?_
          refine lv_lconst (v := 1) hx hb dX11_longest_111 (by decide) ?_
          refine lv_ladd hx hb dX11_longest_112 ?_
          refine lv_lstore (lv' := [(8, .long (x8 + (1 : Int64))), (7, .int (Int64.toInt32 x8)), (6, .int (σ_r6.1 21)), (0, .ref (A 0)), (1, .int x1), (3, .int x3), (4, .int x4), (5, .int x5)]) hx hb dX11_longest_113 hl (by decide) rfl (fun ls hl => ?_)
          refine lv_goto (tgt := 58) hx hb dX11_longest_115 (by decide) ?_
          exact ih _ _ _ _ _ _ _ _ _ _ _ hf (lv_sub hl [3, 4, 5, 6, 7, 2, 1, 0] rfl) hP hS
        · have hf := (if_neg c8).symm.trans hf
          refine lv_goto (tgt := 109) hx hb dX11_longest_95 (by decide) ?_
          refine lv_lload hx hb dX11_longest_109 (lv_at hl 7 rfl) ?_
          refine lv_lconst (v := 1) hx hb dX11_longest_111 (by decide) ?_
          refine lv_ladd hx hb dX11_longest_112 ?_
          refine lv_lstore (lv' := [(8, .long (x8 + (1 : Int64))), (0, .ref (A 0)), (1, .int x1), (3, .int x3), (4, .int x4), (5, .int x5), (6, .int x6), (7, .int x7)]) hx hb dX11_longest_113 hl (by decide) rfl (fun ls hl => ?_)
          refine lv_goto (tgt := 58) hx hb dX11_longest_115 (by decide) ?_
          exact ih _ _ _ _ _ _ _ _ _ _ _ hf (lv_sub hl [1, 2, 3, 4, 5, 6, 7, 0] rfl) hP hS
set_option maxHeartbeats 4000000 in
set_option maxRecDepth 100000 in
theorem ct_mX11_longest (l : Launch) (D : va_G) (C : Nat → ClassId) (A adK adV : Nat → Nat) (hA : apA A 33) {x1 : Int32} {x2 : Int32} {x3 : Int32} {x4 : Int32} {σ : St} {res : (Int32 × St)} (hf : F_mX11_longest x1 x2 x3 x4 σ = some res) : Met l yX11_longest (Cond.code yX11_longest cX11_longest 10 (some .int) :: wsL_law) rm_X11_longest (Pcx D C (wM A C) adK adV (fxA A 33) [.ref (A 0), .int x1, .int x2, .int x3, .int x4] σ) (Qcx D (wM A C) (fxA A 33) (some (.int res.1)) res.2) 0 0 (fxA A 33) := by
  refine Met.ofW (cc := cX11_longest) (maxL := 10) (ret := (some .int)) (by decide) rfl ?_
  intro p e s m args below meth c s₁ B hml hv
  obtain ⟨rfl, hP, hK, hZ⟩ := hv
  have cx : Cxx D C adK adV (fxA A 33) p s m _ meth c cX11_longest 10 RX11 (some .int) := ⟨B.exec, B.bytes, hml, findClass_of_methodNamed B.named, fun w h => atoms_spec (ws := Cond.code yX11_longest cX11_longest 10 (some .int) :: wsL_law) B.pre w (List.mem_cons_of_mem _ h), hK, B.returns, B.notSynchronized, hZ⟩
  obtain ⟨hx, hb, -, hown, hts, -, hr, hlk, -⟩ := id cx
  have hS : va_S (fxA A 33) s.heap s.heap [] := va_S.rf
  have hl := lv_entry ([.ref (A 0), .int x1, .int x2, .int x3, .int x4]) (n := 10) (Nat.le_of_ble_eq_true rfl)
  rw [lg_entry_eq]
  generalize (lg_sl ([.ref (A 0), .int x1, .int x2, .int x3, .int x4]) ++ List.replicate (10 - (lg_sl ([.ref (A 0), .int x1, .int x2, .int x3, .int x4])).length) Slot.unset).toArray = ls at hl ⊢
  have hl : lv_has ls 10 [(0, .ref (A 0)), (1, .int x1), (2, .int x2), (3, .int x3), (4, .int x4)] := hl
  show W p l e rm_X11_longest s m _ below meth c s.heap [] 0 0 _ _
  refine lv_aload_n hx hb dX11_longest_0 rfl (lv_at hl 0 rfl) ?_
  refine lv_iload_n hx hb dX11_longest_1 rfl (lv_at hl 1 rfl) ?_
  obtain ⟨⟨r9, σ_r9⟩, h_r9, hf⟩ := bd_some hf
  refine cx_V (As := [.int x1]) (rest := []) cx (ct_mX11_isName l D C A adK adV hA h_r9) (cw_X11_241 hts ⟨Nat.le_of_ble_eq_true rfl, Nat.le_of_ble_eq_true rfl⟩) (va_recv hK hP (ci := 11) (q0 := 0) rfl (wM_0 A C _)) hP hS rfl hl.1 rfl (Nat.le_of_ble_eq_true rfl) dX11_longest_2 ⟨Nat.zero_le _, Nat.zero_le _⟩ (fun H locs hP hS => ?_)
  refine lv_if_eq (tgt := 25) hx hb dX11_longest_5 (by decide) (fun c10 => ?_) (fun c10 => ?_)
  · have hf := (if_pos c10).symm.trans hf
    refine lv_bipush (v := (-2)) hx hb dX11_longest_25 (by decide) ?_
    exact cx_iret cx hP hS hf dX11_longest_27
  · have hf := (if_neg c10).symm.trans hf
    refine lv_iload_n hx hb dX11_longest_8 rfl (lv_at hl 3 rfl) ?_
    refine lv_iload_n hx hb dX11_longest_9 rfl (lv_at hl 2 rfl) ?_
    refine lv_icmp_lt (tgt := 25) hx hb dX11_longest_10 (by decide) (fun c11 => ?_) (fun c11 => ?_)
    · have hf := (if_pos c11).symm.trans hf
      refine lv_bipush (v := (-2)) hx hb dX11_longest_25 (by decide) ?_
      exact cx_iret cx hP hS hf dX11_longest_27
    · have hf := (if_neg c11).symm.trans hf
      refine lv_iload_n hx hb dX11_longest_13 rfl (lv_at hl 3 rfl) ?_
      refine lv_i2l hx hb dX11_longest_14 rfl ?_
      refine lv_iload_n hx hb dX11_longest_15 rfl (lv_at hl 2 rfl) ?_
      refine lv_i2l hx hb dX11_longest_16 rfl ?_
      refine lv_lsub hx hb dX11_longest_17 ?_
      refine lv_ldc2 (v := 100) hx hb hown (hts _ kw_1029) dX11_longest_18 ?_
      refine W.lcmp hx hb dX11_longest_21 ?_
      refine lv_if_le (tgt := 28) hx hb dX11_longest_22 (by decide) (fun c12 => ?_) (fun c12 => ?_)
      · have hf := (if_pos c12).symm.trans hf
        refine lv_iload hx hb dX11_longest_28 (lv_at hl 4 rfl) ?_
        refine lv_iconst (v := 0) hx hb dX11_longest_30 (by decide) ?_
        refine lv_iconst (v := 1) hx hb dX11_longest_31 (by decide) ?_
        obtain ⟨⟨r13, σ_r13⟩, h_r13, hf⟩ := bd_some hf
        refine cx_S (As := [.int x4, .int 0, .int 1]) (rest := []) cx (ct_mX11_in l D C A adK adV hA h_r13) (cw_X11_181 hts ⟨Nat.le_of_ble_eq_true rfl, Nat.le_of_ble_eq_true rfl⟩) hP hS rfl hl.1 rfl (Nat.le_of_ble_eq_true rfl) dX11_longest_32 ⟨Nat.zero_le _, Nat.zero_le _⟩ (fun H locs hP hS => ?_)
        refine lv_if_ne (tgt := 40) hx hb dX11_longest_35 (by decide) (fun c14 => ?_) (fun c14 => ?_)
        · have hf := (if_neg c14).symm.trans hf
          refine lv_aload_n hx hb dX11_longest_40 rfl (lv_at hl 0 rfl) ?_
          refine gM_0_22 hx hb hts hown hK hP (hts _ kw_159) dX11_longest_41 ?_
          refine lv_iload_n hx hb dX11_longest_44 rfl (lv_at hl 1 rfl) ?_
          obtain ⟨z15, hf⟩ := gd_some hf
          refine gM_a6 hx hb hK hP (ib_in z15) (v := (σ_r13.2.1 6 x1.toNatClampNeg)) rfl dX11_longest_45 ?_
          refine lv_istore (lv' := [(5, .int (σ_r13.2.1 6 x1.toNatClampNeg)), (0, .ref (A 0)), (1, .int x1), (2, .int x2), (3, .int x3), (4, .int x4)]) hx hb dX11_longest_46 hl (by decide) rfl (fun ls hl => ?_)
          refine lv_iconst (v := (-1)) hx hb dX11_longest_48 (by decide) ?_
          refine lv_istore (lv' := [(6, .int (-1)), (5, .int (σ_r13.2.1 6 x1.toNatClampNeg)), (0, .ref (A 0)), (1, .int x1), (2, .int x2), (3, .int x3), (4, .int x4)]) hx hb dX11_longest_49 hl (by decide) rfl (fun ls hl => ?_)
          refine lv_iconst (v := 0) hx hb dX11_longest_51 (by decide) ?_
          refine lv_istore (lv' := [(7, .int 0), (6, .int (-1)), (5, .int (σ_r13.2.1 6 x1.toNatClampNeg)), (0, .ref (A 0)), (1, .int x1), (2, .int x2), (3, .int x3), (4, .int x4)]) hx hb dX11_longest_52 hl (by decide) rfl (fun ls hl => ?_)
          refine lv_iload_n hx hb dX11_longest_54 rfl (lv_at hl 5 rfl) ?_
          refine lv_i2l hx hb dX11_longest_55 rfl ?_
          refine lv_lstore (lv' := [(8, .long (Int32.toInt64 x2)), (7, .int 0), (6, .int (-1)), (5, .int (σ_r13.2.1 6 x1.toNatClampNeg)), (0, .ref (A 0)), (1, .int x1), (2, .int x2), (3, .int x3), (4, .int x4)]) hx hb dX11_longest_56 hl (by decide) rfl (fun ls hl => ?_)
          exact w_F_mX11_longest_58 hA cx FU _ _ _ _ _ _ _ _ _ _ _ hf (lv_sub hl [4, 5, 7, 8, 3, 2, 1, 0] rfl) hP hS
        · have hf := (if_pos c14).symm.trans hf
          refine lv_iconst (v := (-1)) hx hb dX11_longest_38 (by decide) ?_
          exact cx_iret cx hP hS hf dX11_longest_39
      · have hf := (if_neg c12).symm.trans hf
        refine lv_bipush (v := (-2)) hx hb dX11_longest_25 (by decide) ?_
        exact cx_iret cx hP hS hf dX11_longest_27
set_option maxHeartbeats 4000000 in
set_option maxRecDepth 100000 in
theorem w_F_mX11_step_86 {p : Program} {l : Launch} {e : Env} {s : State} {m : MethodId} {args : Array Value} {below : List Frame} {meth : Method} {c : Code} {D : va_G} {C : Nat → ClassId} {A adK adV : Nat → Nat} (hA : apA A 33) (cx : Cxx D C adK adV (fxA A 33) p s m args meth c cX11_step 10 RX11 (some .int)) {res : (Int32 × St)} {b32 : Int32 → Int32 → Int32 → Int32 → Int32 → St → Option (Int32 × St)} (hb32 : ∀ (x1 : Int32) (x2 : Int32) (x3 : Int32) (x4 : Int32) (x5 : Int32) (σ : St) (H : Heap) (locs : List Loc) (ls : Array Slot), b32 x1 x2 x3 x4 x5 σ = some res → lv_has ls 10 [(0, .ref (A 0)), (1, .int x1), (2, .int x2), (3, .int x3), (4, .int x4), (5, .int x5)] → va_P D vwCl (wM A C σ) H → va_S (fxA A 33) s.heap H locs → W p l e rm_X11_step s m args below meth c H locs 0 0 (MQ below (Qcx D (wM A C) (fxA A 33) (some (.int res.1)) res.2) args s 0 0 (fxA A 33)) (F0 m 32 ls [])) {b50 : Int32 → Int32 → Int32 → Int32 → Int32 → Int64 → Int32 → Int32 → St → Option (Int32 × St)} (hb50 : ∀ (x1 : Int32) (x2 : Int32) (x3 : Int32) (x4 : Int32) (x5 : Int32) (x6 : Int64) (x8 : Int32) (x9 : Int32) (σ : St) (H : Heap) (locs : List Loc) (ls : Array Slot), b50 x1 x2 x3 x4 x5 x6 x8 x9 σ = some res → lv_has ls 10 [(0, .ref (A 0)), (1, .int x1), (2, .int x2), (3, .int x3), (4, .int x4), (5, .int x5), (6, .long x6), (8, .int x8), (9, .int x9)] → va_P D vwCl (wM A C σ) H → va_S (fxA A 33) s.heap H locs → W p l e rm_X11_step s m args below meth c H locs 0 0 (MQ below (Qcx D (wM A C) (fxA A 33) (some (.int res.1)) res.2) args s 0 0 (fxA A 33)) (F0 m 50 ls [])) : ∀ (x1 : Int32) (x2 : Int32) (x3 : Int32) (x4 : Int32) (x5 : Int32) (x6 : Int64) (x9 : Int32) (y0 : Int32) (σ : St) (H : Heap) (locs : List Loc) (ls : Array Slot), F_mX11_step_86 b32 b50 x1 x2 x3 x4 x5 x6 x9 y0 σ = some res → lv_has ls 10 [(0, .ref (A 0)), (1, .int x1), (2, .int x2), (3, .int x3), (4, .int x4), (5, .int x5), (6, .long x6), (9, .int x9)] → va_P D vwCl (wM A C σ) H → va_S (fxA A 33) s.heap H locs → W p l e rm_X11_step s m args below meth c H locs 0 0 (MQ below (Qcx D (wM A C) (fxA A 33) (some (.int res.1)) res.2) args s 0 0 (fxA A 33)) (F0 m 86 ls [.int y0]) := by
  obtain ⟨hx, hb, hml, hown, hts, hK, hr, hlk, hZ⟩ := id cx
  intro x1 x2 x3 x4 x5 x6 x9 y0 σ H locs ls hf hl hP hS
  refine lv_istore (lv' := [(8, .int y0), (0, .ref (A 0)), (1, .int x1), (2, .int x2), (3, .int x3), (4, .int x4), (5, .int x5), (6, .long x6), (9, .int x9)]) hx hb dX11_step_86 hl (by decide) rfl (fun ls hl => ?_)
  refine lv_lload hx hb dX11_step_88 (lv_at hl 7 rfl) ?_
  refine lv_lconst (v := 1) hx hb dX11_step_90 (by decide) ?_
  refine lv_iload hx hb dX11_step_91 (lv_at hl 8 rfl) ?_
  refine lv_iload hx hb dX11_step_93 (lv_at hl 6 rfl) ?_
  refine lv_imul hx hb dX11_step_95 ?_
  refine lv_aload_n hx hb dX11_step_96 rfl (lv_at hl 1 rfl) ?_
  refine gM_0_10 hx hb hts hown hK hP (v := (σ.1 8)) rfl (hts _ kw_186) dX11_step_97 ?_
  obtain ⟨z6, hf⟩ := gn_some hf
  refine lv_irem hx hb dX11_step_100 z6 ?_
  refine lv_lshl hx hb dX11_step_101 rfl ?_
  refine lv_lor hx hb dX11_step_102 ?_
  refine lv_topl (fun v7 e_v7 => ?_)
  have hf := nm_use e_v7 hf
  refine lv_lstore (lv' := [(6, .long v7), (8, .int y0), (0, .ref (A 0)), (1, .int x1), (2, .int x2), (3, .int x3), (4, .int x4), (5, .int x5), (9, .int x9)]) hx hb dX11_step_103 hl (by decide) rfl (fun ls hl => ?_)
  refine lv_iinc (v := (x9 + 1)) (lv' := [(9, .int (x9 + 1)), (6, .long v7), (8, .int y0), (0, .ref (A 0)), (1, .int x1), (2, .int x2), (3, .int x3), (4, .int x4), (5, .int x5)]) hx hb dX11_step_105 hl (k := 8) rfl rfl (by decide) rfl (fun ls hl => ?_)
  refine lv_goto (tgt := 50) hx hb dX11_step_108 (by decide) ?_
  exact hb50 _ _ _ _ _ _ _ _ _ _ _ _ hf (lv_sub hl [3, 4, 5, 6, 7, 8, 1, 2, 0] rfl) hP hS
set_option maxHeartbeats 4000000 in
set_option maxRecDepth 100000 in
theorem w_F_mX11_step_111 {p : Program} {l : Launch} {e : Env} {s : State} {m : MethodId} {args : Array Value} {below : List Frame} {meth : Method} {c : Code} {D : va_G} {C : Nat → ClassId} {A adK adV : Nat → Nat} (hA : apA A 33) (cx : Cxx D C adK adV (fxA A 33) p s m args meth c cX11_step 10 RX11 (some .int)) {res : (Int32 × St)} {b32 : Int32 → Int32 → Int32 → Int32 → Int32 → St → Option (Int32 × St)} (hb32 : ∀ (x1 : Int32) (x2 : Int32) (x3 : Int32) (x4 : Int32) (x5 : Int32) (σ : St) (H : Heap) (locs : List Loc) (ls : Array Slot), b32 x1 x2 x3 x4 x5 σ = some res → lv_has ls 10 [(0, .ref (A 0)), (1, .int x1), (2, .int x2), (3, .int x3), (4, .int x4), (5, .int x5)] → va_P D vwCl (wM A C σ) H → va_S (fxA A 33) s.heap H locs → W p l e rm_X11_step s m args below meth c H locs 0 0 (MQ below (Qcx D (wM A C) (fxA A 33) (some (.int res.1)) res.2) args s 0 0 (fxA A 33)) (F0 m 32 ls [])) : ∀ (x1 : Int32) (x2 : Int32) (x3 : Int32) (x4 : Int32) (x5 : Int32) (x8 : Int32) (σ : St) (H : Heap) (locs : List Loc) (ls : Array Slot), F_mX11_step_111 b32 x1 x2 x3 x4 x5 x8 σ = some res → lv_has ls 10 [(0, .ref (A 0)), (1, .int x1), (2, .int x2), (3, .int x3), (4, .int x4), (5, .int x5), (8, .int x8)] → va_P D vwCl (wM A C σ) H → va_S (fxA A 33) s.heap H locs → W p l e rm_X11_step s m args below meth c H locs 0 0 (MQ below (Qcx D (wM A C) (fxA A 33) (some (.int res.1)) res.2) args s 0 0 (fxA A 33)) (F0 m 111 ls []) := by
  obtain ⟨hx, hb, hml, hown, hts, hK, hr, hlk, hZ⟩ := id cx
  intro x1 x2 x3 x4 x5 x8 σ H locs ls hf hl hP hS
  refine lv_iload hx hb dX11_step_111 (lv_at hl 5 rfl) ?_
  refine lv_iload_n hx hb dX11_step_113 rfl (lv_at hl 2 rfl) ?_
  refine lv_aload_n hx hb dX11_step_114 rfl (lv_at hl 0 rfl) ?_
  refine gM_0_10 hx hb hts hown hK hP (v := (σ.1 8)) rfl (hts _ kw_186) dX11_step_115 ?_
  obtain ⟨z1, hf⟩ := gn_some hf
  refine lv_irem hx hb dX11_step_118 z1 ?_
  refine lv_isub hx hb dX11_step_119 ?_
  refine lv_aload_n hx hb dX11_step_120 rfl (lv_at hl 0 rfl) ?_
  refine gM_0_10 hx hb hts hown hK hP (v := (σ.1 8)) rfl (hts _ kw_186) dX11_step_121 ?_
  refine lv_iadd hx hb dX11_step_124 ?_
  refine lv_aload_n hx hb dX11_step_125 rfl (lv_at hl 0 rfl) ?_
  refine gM_0_10 hx hb hts hown hK hP (v := (σ.1 8)) rfl (hts _ kw_186) dX11_step_126 ?_
  refine lv_irem hx hb dX11_step_129 z1 ?_
  refine lv_topi (fun v2 e_v2 => ?_)
  have hf := nm_use e_v2 hf
  refine lv_istore (lv' := [(9, .int v2), (0, .ref (A 0)), (1, .int x1), (2, .int x2), (3, .int x3), (4, .int x4), (5, .int x5), (8, .int x8)]) hx hb dX11_step_130 hl (by decide) rfl (fun ls hl => ?_)
  refine lv_iload hx hb dX11_step_132 (lv_at hl 7 rfl) ?_
  refine lv_if_eq (tgt := 159) hx hb dX11_step_134 (by decide) (fun c3 => ?_) (fun c3 => ?_)
  · have hf := (if_pos c3).symm.trans hf
    refine lv_iinc (v := (x5 + 1)) (lv' := [(5, .int (x5 + 1)), (9, .int v2), (0, .ref (A 0)), (1, .int x1), (2, .int x2), (3, .int x3), (4, .int x4), (8, .int x8)]) hx hb dX11_step_159 hl (k := 6) rfl rfl (by decide) rfl (fun ls hl => ?_)
    refine lv_goto (tgt := 32) hx hb dX11_step_162 (by decide) ?_
    exact hb32 _ _ _ _ _ _ _ _ _ hf (lv_sub hl [2, 3, 4, 5, 6, 0] rfl) hP hS
  · have hf := (if_neg c3).symm.trans hf
    refine lv_iload_n hx hb dX11_step_137 rfl (lv_at hl 4 rfl) ?_
    refine lv_iconst (v := (-1)) hx hb dX11_step_138 (by decide) ?_
    refine lv_icmp_eq (tgt := 152) hx hb dX11_step_139 (by decide) (fun c4 => ?_) (fun c4 => ?_)
    · have hf := (if_pos c4).symm.trans hf
      refine lv_iload hx hb dX11_step_152 (lv_at hl 6 rfl) ?_
      refine lv_istore_n (lv' := [(3, .int x5), (9, .int v2), (0, .ref (A 0)), (1, .int x1), (2, .int x2), (4, .int x4), (5, .int x5), (8, .int x8)]) hx hb dX11_step_154 rfl hl (by decide) rfl (fun ls hl => ?_)
      refine lv_iload hx hb dX11_step_155 (lv_at hl 1 rfl) ?_
      refine lv_istore (lv' := [(4, .int v2), (3, .int x5), (9, .int v2), (0, .ref (A 0)), (1, .int x1), (2, .int x2), (5, .int x5), (8, .int x8)]) hx hb dX11_step_157 hl (by decide) rfl (fun ls hl => ?_)
      refine lv_iinc (v := (x5 + 1)) (lv' := [(5, .int (x5 + 1)), (4, .int v2), (3, .int x5), (9, .int v2), (0, .ref (A 0)), (1, .int x1), (2, .int x2), (8, .int x8)]) hx hb dX11_step_159 hl (k := 6) rfl rfl (by decide) rfl (fun ls hl => ?_)
      refine lv_goto (tgt := 32) hx hb dX11_step_162 (by decide) ?_
      exact hb32 _ _ _ _ _ _ _ _ _ hf (lv_sub hl [4, 5, 6, 2, 1, 0] rfl) hP hS
    · have hf := (if_neg c4).symm.trans hf
      refine lv_iload hx hb dX11_step_142 (lv_at hl 0 rfl) ?_
      refine lv_iload hx hb dX11_step_144 (lv_at hl 5 rfl) ?_
      refine lv_icmp_lt (tgt := 152) hx hb dX11_step_146 (by decide) (fun c5 => ?_) (fun c5 => ?_)
      · have hf := (if_pos c5).symm.trans hf
        refine lv_iload hx hb dX11_step_152 (lv_at hl 6 rfl) ?_
        refine lv_istore_n (lv' := [(3, .int x5), (9, .int v2), (0, .ref (A 0)), (1, .int x1), (2, .int x2), (4, .int x4), (5, .int x5), (8, .int x8)]) hx hb dX11_step_154 rfl hl (by decide) rfl (fun ls hl => ?_)
        refine lv_iload hx hb dX11_step_155 (lv_at hl 1 rfl) ?_
        refine lv_istore (lv' := [(4, .int v2), (3, .int x5), (9, .int v2), (0, .ref (A 0)), (1, .int x1), (2, .int x2), (5, .int x5), (8, .int x8)]) hx hb dX11_step_157 hl (by decide) rfl (fun ls hl => ?_)
        refine lv_iinc (v := (x5 + 1)) (lv' := [(5, .int (x5 + 1)), (4, .int v2), (3, .int x5), (9, .int v2), (0, .ref (A 0)), (1, .int x1), (2, .int x2), (8, .int x8)]) hx hb dX11_step_159 hl (k := 6) rfl rfl (by decide) rfl (fun ls hl => ?_)
        refine lv_goto (tgt := 32) hx hb dX11_step_162 (by decide) ?_
        exact hb32 _ _ _ _ _ _ _ _ _ hf (lv_sub hl [4, 5, 6, 2, 1, 0] rfl) hP hS
      · have hf := (if_neg c5).symm.trans hf
        refine lv_goto (tgt := 159) hx hb dX11_step_149 (by decide) ?_
        refine lv_iinc (v := (x5 + 1)) (lv' := [(5, .int (x5 + 1)), (9, .int v2), (0, .ref (A 0)), (1, .int x1), (2, .int x2), (3, .int x3), (4, .int x4), (8, .int x8)]) hx hb dX11_step_159 hl (k := 6) rfl rfl (by decide) rfl (fun ls hl => ?_)
        refine lv_goto (tgt := 32) hx hb dX11_step_162 (by decide) ?_
        exact hb32 _ _ _ _ _ _ _ _ _ hf (lv_sub hl [2, 3, 4, 5, 6, 0] rfl) hP hS
set_option maxHeartbeats 4000000 in
set_option maxRecDepth 100000 in
theorem w_F_mX11_step_50 {p : Program} {l : Launch} {e : Env} {s : State} {m : MethodId} {args : Array Value} {below : List Frame} {meth : Method} {c : Code} {D : va_G} {C : Nat → ClassId} {A adK adV : Nat → Nat} (hA : apA A 33) (cx : Cxx D C adK adV (fxA A 33) p s m args meth c cX11_step 10 RX11 (some .int)) {res : (Int32 × St)} {b32 : Int32 → Int32 → Int32 → Int32 → Int32 → St → Option (Int32 × St)} (hb32 : ∀ (x1 : Int32) (x2 : Int32) (x3 : Int32) (x4 : Int32) (x5 : Int32) (σ : St) (H : Heap) (locs : List Loc) (ls : Array Slot), b32 x1 x2 x3 x4 x5 σ = some res → lv_has ls 10 [(0, .ref (A 0)), (1, .int x1), (2, .int x2), (3, .int x3), (4, .int x4), (5, .int x5)] → va_P D vwCl (wM A C σ) H → va_S (fxA A 33) s.heap H locs → W p l e rm_X11_step s m args below meth c H locs 0 0 (MQ below (Qcx D (wM A C) (fxA A 33) (some (.int res.1)) res.2) args s 0 0 (fxA A 33)) (F0 m 32 ls [])) : ∀ (n : Nat), ∀ (x1 : Int32) (x2 : Int32) (x3 : Int32) (x4 : Int32) (x5 : Int32) (x6 : Int64) (x8 : Int32) (x9 : Int32) (σ : St) (H : Heap) (locs : List Loc) (ls : Array Slot), F_mX11_step_50 b32 n x1 x2 x3 x4 x5 x6 x8 x9 σ = some res → lv_has ls 10 [(0, .ref (A 0)), (1, .int x1), (2, .int x2), (3, .int x3), (4, .int x4), (5, .int x5), (6, .long x6), (8, .int x8), (9, .int x9)] → va_P D vwCl (wM A C σ) H → va_S (fxA A 33) s.heap H locs → W p l e rm_X11_step s m args below meth c H locs 0 0 (MQ below (Qcx D (wM A C) (fxA A 33) (some (.int res.1)) res.2) args s 0 0 (fxA A 33)) (F0 m 50 ls []) := by
  obtain ⟨hx, hb, hml, hown, hts, hK, hr, hlk, hZ⟩ := id cx
  intro n
  induction n with
  | zero =>
    intro x1 x2 x3 x4 x5 x6 x8 x9 σ H locs ls hf hl hP hS
    exact absurd (show (none : Option (Int32 × St)) = some res from hf) (by intro h; cases h)
  | succ n ih =>
    intro x1 x2 x3 x4 x5 x6 x8 x9 σ H locs ls hf hl hP hS
    refine lv_iload hx hb dX11_step_50 (lv_at hl 8 rfl) ?_
    refine lv_iload_n hx hb dX11_step_52 rfl (lv_at hl 1 rfl) ?_
    refine lv_icmp_ge (tgt := 111) hx hb dX11_step_53 (by decide) (fun c8 => ?_) (fun c8 => ?_)
    · have hf := (if_pos c8).symm.trans hf
      exact w_F_mX11_step_111 hA cx hb32 _ _ _ _ _ _ _ _ _ _ hf (lv_sub hl [0, 1, 2, 3, 4, 5, 7] rfl) hP hS
    · have hf := (if_neg c8).symm.trans hf
      refine lv_iload hx hb dX11_step_56 (lv_at hl 7 rfl) ?_
      refine lv_if_eq (tgt := 111) hx hb dX11_step_58 (by decide) (fun c9 => ?_) (fun c9 => ?_)
      · have hf := (if_pos c9).symm.trans hf
        exact w_F_mX11_step_111 hA cx hb32 _ _ _ _ _ _ _ _ _ _ hf (lv_sub hl [0, 1, 2, 3, 4, 5, 7] rfl) hP hS
      · have hf := (if_neg c9).symm.trans hf
        refine lv_lload hx hb dX11_step_61 (lv_at hl 6 rfl) ?_
        refine lv_iload hx hb dX11_step_63 (lv_at hl 8 rfl) ?_
        refine lv_iload hx hb dX11_step_65 (lv_at hl 5 rfl) ?_
        refine lv_imul hx hb dX11_step_67 ?_
        refine lv_aload_n hx hb dX11_step_68 rfl (lv_at hl 0 rfl) ?_
        refine gM_0_10 hx hb hts hown hK hP (v := (σ.1 8)) rfl (hts _ kw_186) dX11_step_69 ?_
        obtain ⟨z10, hf⟩ := gn_some hf
        refine lv_irem hx hb dX11_step_72 z10 ?_
        refine lv_lshr hx hb dX11_step_73 rfl ?_
        refine lv_lconst (v := 1) hx hb dX11_step_74 (by decide) ?_
        refine lv_land hx hb dX11_step_75 ?_
        refine lv_lconst (v := 0) hx hb dX11_step_76 (by decide) ?_
        refine W.lcmp hx hb dX11_step_77 ?_
        refine lv_if_ne (tgt := 85) hx hb dX11_step_78 (by decide) (fun c11 => ?_) (fun c11 => ?_)
        · have hf := (if_neg c11).symm.trans hf
          refine lv_iconst (v := 0) hx hb dX11_step_85 (by decide) ?_
          exact w_F_mX11_step_86 hA cx hb32 ih _ _ _ _ _ _ _ _ _ _ _ _ hf (lv_sub hl [0, 1, 2, 3, 4, 5, 6, 8] rfl) hP hS
        · have hf := (if_pos c11).symm.trans hf
          refine lv_iconst (v := 1) hx hb dX11_step_81 (by decide) ?_
          refine lv_goto (tgt := 86) hx hb dX11_step_82 (by decide) ?_
          exact w_F_mX11_step_86 hA cx hb32 ih _ _ _ _ _ _ _ _ _ _ _ _ hf (lv_sub hl [0, 1, 2, 3, 4, 5, 6, 8] rfl) hP hS
set_option maxHeartbeats 4000000 in
set_option maxRecDepth 100000 in
theorem w_F_mX11_step_32 {p : Program} {l : Launch} {e : Env} {s : State} {m : MethodId} {args : Array Value} {below : List Frame} {meth : Method} {c : Code} {D : va_G} {C : Nat → ClassId} {A adK adV : Nat → Nat} (hA : apA A 33) (cx : Cxx D C adK adV (fxA A 33) p s m args meth c cX11_step 10 RX11 (some .int)) {res : (Int32 × St)} : ∀ (n : Nat), ∀ (x1 : Int32) (x2 : Int32) (x3 : Int32) (x4 : Int32) (x5 : Int32) (σ : St) (H : Heap) (locs : List Loc) (ls : Array Slot), F_mX11_step_32 n x1 x2 x3 x4 x5 σ = some res → lv_has ls 10 [(0, .ref (A 0)), (1, .int x1), (2, .int x2), (3, .int x3), (4, .int x4), (5, .int x5)] → va_P D vwCl (wM A C σ) H → va_S (fxA A 33) s.heap H locs → W p l e rm_X11_step s m args below meth c H locs 0 0 (MQ below (Qcx D (wM A C) (fxA A 33) (some (.int res.1)) res.2) args s 0 0 (fxA A 33)) (F0 m 32 ls []) := by
  obtain ⟨hx, hb, hml, hown, hts, hK, hr, hlk, hZ⟩ := id cx
  intro n
  induction n with
  | zero =>
    intro x1 x2 x3 x4 x5 σ H locs ls hf hl hP hS
    exact absurd (show (none : Option (Int32 × St)) = some res from hf) (by intro h; cases h)
  | succ n ih =>
    intro x1 x2 x3 x4 x5 σ H locs ls hf hl hP hS
    refine lv_iload hx hb dX11_step_32 (lv_at hl 5 rfl) ?_
    refine lv_aload_n hx hb dX11_step_34 rfl (lv_at hl 0 rfl) ?_
    refine gM_0_10 hx hb hts hown hK hP (v := (σ.1 8)) rfl (hts _ kw_186) dX11_step_35 ?_
    refine lv_icmp_ge (tgt := 165) hx hb dX11_step_38 (by decide) (fun c12 => ?_) (fun c12 => ?_)
    · have hf := (if_pos c12).symm.trans hf
      refine lv_iload_n hx hb dX11_step_165 rfl (lv_at hl 3 rfl) ?_
      exact cx_iret cx hP hS hf dX11_step_166
    · have hf := (if_neg c12).symm.trans hf
      refine lv_lconst (v := 0) hx hb dX11_step_41 (by decide) ?_
      refine lv_lstore (lv' := [(6, .long (0 : Int64)), (0, .ref (A 0)), (1, .int x1), (2, .int x2), (3, .int x3), (4, .int x4), (5, .int x5)]) hx hb dX11_step_42 hl (by decide) rfl (fun ls hl => ?_)
      refine lv_iconst (v := 1) hx hb dX11_step_44 (by decide) ?_
      refine lv_istore (lv' := [(8, .int 1), (6, .long (0 : Int64)), (0, .ref (A 0)), (1, .int x1), (2, .int x2), (3, .int x3), (4, .int x4), (5, .int x5)]) hx hb dX11_step_45 hl (by decide) rfl (fun ls hl => ?_)
      refine lv_iconst (v := 0) hx hb dX11_step_47 (by decide) ?_
      refine lv_istore (lv' := [(9, .int 0), (8, .int 1), (6, .long (0 : Int64)), (0, .ref (A 0)), (1, .int x1), (2, .int x2), (3, .int x3), (4, .int x4), (5, .int x5)]) hx hb dX11_step_48 hl (by decide) rfl (fun ls hl => ?_)
      exact w_F_mX11_step_50 hA cx ih FU _ _ _ _ _ _ _ _ _ _ _ _ hf (lv_sub hl [3, 4, 5, 6, 7, 8, 2, 1, 0] rfl) hP hS
set_option maxHeartbeats 4000000 in
set_option maxRecDepth 100000 in
theorem ct_mX11_step (l : Launch) (D : va_G) (C : Nat → ClassId) (A adK adV : Nat → Nat) (hA : apA A 33) {x1 : Int32} {x2 : Int32} {σ : St} {res : (Int32 × St)} (hf : F_mX11_step x1 x2 σ = some res) : Met l yX11_step (Cond.code yX11_step cX11_step 10 (some .int) :: wsL_law) rm_X11_step (Pcx D C (wM A C) adK adV (fxA A 33) [.ref (A 0), .int x1, .int x2] σ) (Qcx D (wM A C) (fxA A 33) (some (.int res.1)) res.2) 0 0 (fxA A 33) := by
  refine Met.ofW (cc := cX11_step) (maxL := 10) (ret := (some .int)) (by decide) rfl ?_
  intro p e s m args below meth c s₁ B hml hv
  obtain ⟨rfl, hP, hK, hZ⟩ := hv
  have cx : Cxx D C adK adV (fxA A 33) p s m _ meth c cX11_step 10 RX11 (some .int) := ⟨B.exec, B.bytes, hml, findClass_of_methodNamed B.named, fun w h => atoms_spec (ws := Cond.code yX11_step cX11_step 10 (some .int) :: wsL_law) B.pre w (List.mem_cons_of_mem _ h), hK, B.returns, B.notSynchronized, hZ⟩
  obtain ⟨hx, hb, -, hown, hts, -, hr, hlk, -⟩ := id cx
  have hS : va_S (fxA A 33) s.heap s.heap [] := va_S.rf
  have hl := lv_entry ([.ref (A 0), .int x1, .int x2]) (n := 10) (Nat.le_of_ble_eq_true rfl)
  rw [lg_entry_eq]
  generalize (lg_sl ([.ref (A 0), .int x1, .int x2]) ++ List.replicate (10 - (lg_sl ([.ref (A 0), .int x1, .int x2])).length) Slot.unset).toArray = ls at hl ⊢
  have hl : lv_has ls 10 [(0, .ref (A 0)), (1, .int x1), (2, .int x2)] := hl
  show W p l e rm_X11_step s m _ below meth c s.heap [] 0 0 _ _
  refine lv_iload_n hx hb dX11_step_0 rfl (lv_at hl 1 rfl) ?_
  refine lv_iconst (v := 2) hx hb dX11_step_1 (by decide) ?_
  refine lv_bipush (v := 32) hx hb dX11_step_2 (by decide) ?_
  obtain ⟨⟨r13, σ_r13⟩, h_r13, hf⟩ := bd_some hf
  refine cx_S (As := [.int x1, .int 2, .int 32]) (rest := []) cx (ct_mX11_in l D C A adK adV hA h_r13) (cw_X11_181 hts ⟨Nat.le_of_ble_eq_true rfl, Nat.le_of_ble_eq_true rfl⟩) hP hS rfl hl.1 rfl (Nat.le_of_ble_eq_true rfl) dX11_step_4 ⟨Nat.zero_le _, Nat.zero_le _⟩ (fun H locs hP hS => ?_)
  refine lv_if_eq (tgt := 21) hx hb dX11_step_7 (by decide) (fun c14 => ?_) (fun c14 => ?_)
  · have hf := (if_pos c14).symm.trans hf
    refine lv_bipush (v := (-2)) hx hb dX11_step_21 (by decide) ?_
    exact cx_iret cx hP hS hf dX11_step_23
  · have hf := (if_neg c14).symm.trans hf
    refine lv_iload_n hx hb dX11_step_10 rfl (lv_at hl 2 rfl) ?_
    refine lv_iconst (v := 1) hx hb dX11_step_11 (by decide) ?_
    refine lv_sipush (v := 1000) hx hb dX11_step_12 (by decide) ?_
    obtain ⟨⟨r15, σ_r15⟩, h_r15, hf⟩ := bd_some hf
    refine cx_S (As := [.int x2, .int 1, .int 1000]) (rest := []) cx (ct_mX11_in l D C A adK adV hA h_r15) (cw_X11_181 hts ⟨Nat.le_of_ble_eq_true rfl, Nat.le_of_ble_eq_true rfl⟩) hP hS rfl hl.1 rfl (Nat.le_of_ble_eq_true rfl) dX11_step_15 ⟨Nat.zero_le _, Nat.zero_le _⟩ (fun H locs hP hS => ?_)
    refine lv_if_ne (tgt := 24) hx hb dX11_step_18 (by decide) (fun c16 => ?_) (fun c16 => ?_)
    · have hf := (if_neg c16).symm.trans hf
      refine lv_iconst (v := (-1)) hx hb dX11_step_24 (by decide) ?_
      refine lv_istore_n (lv' := [(3, .int (-1)), (0, .ref (A 0)), (1, .int x1), (2, .int x2)]) hx hb dX11_step_25 rfl hl (by decide) rfl (fun ls hl => ?_)
      refine lv_iconst (v := 0) hx hb dX11_step_26 (by decide) ?_
      refine lv_istore (lv' := [(4, .int 0), (3, .int (-1)), (0, .ref (A 0)), (1, .int x1), (2, .int x2)]) hx hb dX11_step_27 hl (by decide) rfl (fun ls hl => ?_)
      refine lv_iconst (v := 1) hx hb dX11_step_29 (by decide) ?_
      refine lv_istore (lv' := [(5, .int 1), (4, .int 0), (3, .int (-1)), (0, .ref (A 0)), (1, .int x1), (2, .int x2)]) hx hb dX11_step_30 hl (by decide) rfl (fun ls hl => ?_)
      exact w_F_mX11_step_32 hA cx FU _ _ _ _ _ _ _ _ _ hf (lv_sub hl [3, 4, 5, 2, 1, 0] rfl) hP hS
    · have hf := (if_pos c16).symm.trans hf
      refine lv_bipush (v := (-2)) hx hb dX11_step_21 (by decide) ?_
      exact cx_iret cx hP hS hf dX11_step_23
set_option maxHeartbeats 4000000 in
set_option maxRecDepth 100000 in
theorem ct_mX11_reach (l : Launch) (D : va_G) (C : Nat → ClassId) (A adK adV : Nat → Nat) (hA : apA A 33) {x1 : Int32} {x2 : Int32} {σ : St} {res : (Int32 × St)} (hf : F_mX11_reach x1 x2 σ = some res) : Met l yX11_reach (Cond.code yX11_reach cX11_reach 3 (some .int) :: wsL_law) rm_X11_reach (Pcx D C (wM A C) adK adV (fxA A 33) [.ref (A 0), .int x1, .int x2] σ) (Qcx D (wM A C) (fxA A 33) (some (.int res.1)) res.2) 0 0 (fxA A 33) := by
  refine Met.ofW (cc := cX11_reach) (maxL := 3) (ret := (some .int)) (by decide) rfl ?_
  intro p e s m args below meth c s₁ B hml hv
  obtain ⟨rfl, hP, hK, hZ⟩ := hv
  have cx : Cxx D C adK adV (fxA A 33) p s m _ meth c cX11_reach 3 RX11 (some .int) := ⟨B.exec, B.bytes, hml, findClass_of_methodNamed B.named, fun w h => atoms_spec (ws := Cond.code yX11_reach cX11_reach 3 (some .int) :: wsL_law) B.pre w (List.mem_cons_of_mem _ h), hK, B.returns, B.notSynchronized, hZ⟩
  obtain ⟨hx, hb, -, hown, hts, -, hr, hlk, -⟩ := id cx
  have hS : va_S (fxA A 33) s.heap s.heap [] := va_S.rf
  have hl := lv_entry ([.ref (A 0), .int x1, .int x2]) (n := 3) (Nat.le_of_ble_eq_true rfl)
  rw [lg_entry_eq]
  generalize (lg_sl ([.ref (A 0), .int x1, .int x2]) ++ List.replicate (3 - (lg_sl ([.ref (A 0), .int x1, .int x2])).length) Slot.unset).toArray = ls at hl ⊢
  have hl : lv_has ls 3 [(0, .ref (A 0)), (1, .int x1), (2, .int x2)] := hl
  show W p l e rm_X11_reach s m _ below meth c s.heap [] 0 0 _ _
  refine lv_aload_n hx hb dX11_reach_0 rfl (lv_at hl 0 rfl) ?_
  refine gM_0_54 hx hb hts hown hK hP (hts _ kw_182) dX11_reach_1 ?_
  refine lv_iload_n hx hb dX11_reach_4 rfl (lv_at hl 1 rfl) ?_
  obtain ⟨z1, hf⟩ := gd_some hf
  refine gM_a29 hx hb hK hP (ib_in z1) (v := (σ.2.1 29 x1.toNatClampNeg)) rfl dX11_reach_5 ?_
  refine lv_iconst (v := 1) hx hb dX11_reach_6 (by decide) ?_
  refine lv_iand hx hb dX11_reach_7 ?_
  refine lv_iconst (v := 1) hx hb dX11_reach_8 (by decide) ?_
  refine lv_icmp_eq (tgt := 25) hx hb dX11_reach_9 (by decide) (fun c2 => ?_) (fun c2 => ?_)
  · have hf := (if_pos c2).symm.trans hf
    refine lv_iload_n hx hb dX11_reach_25 rfl (lv_at hl 2 rfl) ?_
    exact cx_iret cx hP hS hf dX11_reach_26
  · have hf := (if_neg c2).symm.trans hf
    refine lv_aload_n hx hb dX11_reach_12 rfl (lv_at hl 0 rfl) ?_
    refine lv_aload_n hx hb dX11_reach_13 rfl (lv_at hl 0 rfl) ?_
    refine gM_0_22 hx hb hts hown hK hP (hts _ kw_159) dX11_reach_14 ?_
    refine lv_iload_n hx hb dX11_reach_17 rfl (lv_at hl 1 rfl) ?_
    refine gM_a6 hx hb hK hP (ib_in z1) (v := (σ.2.1 6 x1.toNatClampNeg)) rfl dX11_reach_18 ?_
    obtain ⟨⟨r3, σ_r3⟩, h_r3, hf⟩ := bd_some hf
    refine cx_V (As := [.int (σ.2.1 6 x1.toNatClampNeg)]) (rest := []) cx (ct_mX11_isWrong l D C A adK adV hA h_r3) (cw_X11_274 hts ⟨Nat.le_of_ble_eq_true rfl, Nat.le_of_ble_eq_true rfl⟩) (va_recv hK hP (ci := 11) (q0 := 0) rfl (wM_0 A C _)) hP hS rfl hl.1 rfl (Nat.le_of_ble_eq_true rfl) dX11_reach_19 ⟨Nat.zero_le _, Nat.zero_le _⟩ (fun H locs hP hS => ?_)
    refine lv_if_eq (tgt := 27) hx hb dX11_reach_22 (by decide) (fun c4 => ?_) (fun c4 => ?_)
    · have hf := (if_pos c4).symm.trans hf
      refine lv_aload_n hx hb dX11_reach_27 rfl (lv_at hl 0 rfl) ?_
      refine gM_0_54 hx hb hts hown hK hP (hts _ kw_182) dX11_reach_28 ?_
      refine lv_iload_n hx hb dX11_reach_31 rfl (lv_at hl 1 rfl) ?_
      refine lv_dup2_11 hx hb dX11_reach_32 rfl rfl ?_
      refine gM_a29 hx hb hK hP (ib_in z1) (v := (σ_r3.2.1 29 x1.toNatClampNeg)) rfl dX11_reach_33 ?_
      refine lv_iconst (v := 1) hx hb dX11_reach_34 (by decide) ?_
      refine lv_ior hx hb dX11_reach_35 ?_
      refine pM_a29 hx hb hK hP hA hS (ib_in z1) dX11_reach_36 (fun H locs hP hS => ?_)
      refine lv_aload_n hx hb dX11_reach_37 rfl (lv_at hl 0 rfl) ?_
      refine gM_0_55 hx hb hts hown hK hP (hts _ kw_183) dX11_reach_38 ?_
      refine lv_iload_n hx hb dX11_reach_41 rfl (lv_at hl 2 rfl) ?_
      refine lv_iload_n hx hb dX11_reach_42 rfl (lv_at hl 1 rfl) ?_
      obtain ⟨z5, hf⟩ := gd_some hf
      refine pM_a30 hx hb hK hP hA hS (ib_in z5) dX11_reach_43 (fun H locs hP hS => ?_)
      refine lv_iload_n hx hb dX11_reach_44 rfl (lv_at hl 2 rfl) ?_
      refine lv_iconst (v := 1) hx hb dX11_reach_45 (by decide) ?_
      refine lv_iadd hx hb dX11_reach_46 ?_
      have hP : va_P D vwCl (wM A C (sA (sA σ_r3 29 (upd (σ_r3.2.1 29) x1.toNatClampNeg ((σ_r3.2.1 29 x1.toNatClampNeg) ||| 1))) 30 (upd (σ_r3.2.1 30) x2.toNatClampNeg x1))) H := hP
      exact cx_iret cx hP hS hf dX11_reach_47
    · have hf := (if_neg c4).symm.trans hf
      refine lv_iload_n hx hb dX11_reach_25 rfl (lv_at hl 2 rfl) ?_
      exact cx_iret cx hP hS hf dX11_reach_26
