set_option maxHeartbeats 4000000 in
set_option maxRecDepth 100000 in
theorem w_F_mX11_program_239 {p : Program} {l : Launch} {e : Env} {s : State} {m : MethodId} {args : Array Value} {below : List Frame} {meth : Method} {c : Code} {D : va_G} {C : Nat → ClassId} {A adK adV : Nat → Nat} (hA : apA A 33) (cx : Cxx D C adK adV (fxA A 33) p s m args meth c cX11_program 4 RX11 (some .int)) {res : (Int32 × St)} {b110 : Int32 → St → Option (Int32 × St)} (hb110 : ∀ (x1 : Int32) (σ : St) (H : Heap) (locs : List Loc) (ls : Array Slot), b110 x1 σ = some res → lv_has ls 4 [(0, .ref (A 0)), (1, .int x1)] → va_P D vwCl (wM A C σ) H → va_S (fxA A 33) s.heap H locs → W p l e rm_X11_program s m args below meth c H locs 0 0 (MQ below (Qcx D (wM A C) (fxA A 33) (some (.int res.1)) res.2) args s 0 0 (fxA A 33)) (F0 m 110 ls [])) : ∀ (x1 : Int32) (x2 : Int32) (y0 : Int32) (σ : St) (H : Heap) (locs : List Loc) (ls : Array Slot), F_mX11_program_239 b110 x1 x2 y0 σ = some res → lv_has ls 4 [(0, .ref (A 0)), (1, .int x1), (2, .int x2)] → va_P D vwCl (wM A C σ) H → va_S (fxA A 33) s.heap H locs → W p l e rm_X11_program s m args below meth c H locs 0 0 (MQ below (Qcx D (wM A C) (fxA A 33) (some (.int res.1)) res.2) args s 0 0 (fxA A 33)) (F0 m 239 ls [.int y0]) := by
  obtain ⟨hx, hb, hml, hown, hts, hK, hr, hlk, hZ⟩ := id cx
  intro x1 x2 y0 σ H locs ls hf hl hP hS
  refine lv_istore_n (lv' := [(3, .int y0), (0, .ref (A 0)), (1, .int x1), (2, .int x2)]) hx hb dX11_program_239 rfl hl (by decide) rfl (fun ls hl => ?_)
  refine lv_aload_n hx hb dX11_program_240 rfl (lv_at hl 1 rfl) ?_
  refine gM_0_22 hx hb hts hown hK hP (hts _ kw_159) dX11_program_241 ?_
  refine lv_iload_n hx hb dX11_program_244 rfl (lv_at hl 2 rfl) ?_
  refine lv_sipush (v := 10000) hx hb dX11_program_245 (by decide) ?_
  refine lv_aload_n hx hb dX11_program_248 rfl (lv_at hl 1 rfl) ?_
  refine gM_0_25 hx hb hts hown hK hP (hts _ kw_162) dX11_program_249 ?_
  refine lv_iload_n hx hb dX11_program_252 rfl (lv_at hl 2 rfl) ?_
  obtain ⟨z1, hf⟩ := gd_some hf
  refine gM_a9 hx hb hK hP (ib_in z1) (v := (σ.2.1 9 x1.toNatClampNeg)) rfl dX11_program_253 ?_
  refine lv_imul hx hb dX11_program_254 ?_
  refine lv_bipush (v := 100) hx hb dX11_program_255 (by decide) ?_
  refine lv_iload_n hx hb dX11_program_257 rfl (lv_at hl 3 rfl) ?_
  refine lv_imul hx hb dX11_program_258 ?_
  refine lv_iadd hx hb dX11_program_259 ?_
  refine lv_iload_n hx hb dX11_program_260 rfl (lv_at hl 0 rfl) ?_
  refine lv_iadd hx hb dX11_program_261 ?_
  obtain ⟨z2, hf⟩ := gd_some hf
  refine pM_a6 hx hb hK hP hA hS (ib_in z2) dX11_program_262 (fun H locs hP hS => ?_)
  refine lv_iinc (v := (x1 + 1)) (lv' := [(1, .int (x1 + 1)), (3, .int y0), (0, .ref (A 0)), (2, .int x2)]) hx hb dX11_program_263 hl (k := 2) rfl rfl (by decide) rfl (fun ls hl => ?_)
  refine lv_goto (tgt := 110) hx hb dX11_program_266 (by decide) ?_
  have hP : va_P D vwCl (wM A C (sA σ 6 (upd (σ.2.1 6) x1.toNatClampNeg (((10000 * (σ.2.1 9 x1.toNatClampNeg)) + (100 * x2)) + y0)))) H := hP
  exact hb110 _ _ _ _ _ hf (lv_sub hl [2, 0] rfl) hP hS
set_option maxHeartbeats 4000000 in
set_option maxRecDepth 100000 in
theorem w_F_mX11_program_189 {p : Program} {l : Launch} {e : Env} {s : State} {m : MethodId} {args : Array Value} {below : List Frame} {meth : Method} {c : Code} {D : va_G} {C : Nat → ClassId} {A adK adV : Nat → Nat} (hA : apA A 33) (cx : Cxx D C adK adV (fxA A 33) p s m args meth c cX11_program 4 RX11 (some .int)) {res : (Int32 × St)} {b110 : Int32 → St → Option (Int32 × St)} (hb110 : ∀ (x1 : Int32) (σ : St) (H : Heap) (locs : List Loc) (ls : Array Slot), b110 x1 σ = some res → lv_has ls 4 [(0, .ref (A 0)), (1, .int x1)] → va_P D vwCl (wM A C σ) H → va_S (fxA A 33) s.heap H locs → W p l e rm_X11_program s m args below meth c H locs 0 0 (MQ below (Qcx D (wM A C) (fxA A 33) (some (.int res.1)) res.2) args s 0 0 (fxA A 33)) (F0 m 110 ls [])) : ∀ (x1 : Int32) (y0 : Int32) (σ : St) (H : Heap) (locs : List Loc) (ls : Array Slot), F_mX11_program_189 b110 x1 y0 σ = some res → lv_has ls 4 [(0, .ref (A 0)), (1, .int x1)] → va_P D vwCl (wM A C σ) H → va_S (fxA A 33) s.heap H locs → W p l e rm_X11_program s m args below meth c H locs 0 0 (MQ below (Qcx D (wM A C) (fxA A 33) (some (.int res.1)) res.2) args s 0 0 (fxA A 33)) (F0 m 189 ls [.int y0]) := by
  obtain ⟨hx, hb, hml, hown, hts, hK, hr, hlk, hZ⟩ := id cx
  intro x1 y0 σ H locs ls hf hl hP hS
  refine lv_istore_n (lv' := [(2, .int y0), (0, .ref (A 0)), (1, .int x1)]) hx hb dX11_program_189 rfl hl (by decide) rfl (fun ls hl => ?_)
  refine lv_aload_n hx hb dX11_program_190 rfl (lv_at hl 1 rfl) ?_
  refine gM_0_27 hx hb hts hown hK hP (hts _ kw_164) dX11_program_191 ?_
  refine lv_iload_n hx hb dX11_program_194 rfl (lv_at hl 2 rfl) ?_
  obtain ⟨z3, hf⟩ := gd_some hf
  refine gM_a11 hx hb hK hP (ib_in z3) (v := (σ.2.1 11 x1.toNatClampNeg)) rfl dX11_program_195 ?_
  refine lv_iconst (v := (-1)) hx hb dX11_program_196 (by decide) ?_
  refine lv_icmp_eq (tgt := 222) hx hb dX11_program_197 (by decide) (fun c4 => ?_) (fun c4 => ?_)
  · have hf := (if_pos c4).symm.trans hf
    refine lv_iload_n hx hb dX11_program_222 rfl (lv_at hl 2 rfl) ?_
    refine lv_iconst (v := 1) hx hb dX11_program_223 (by decide) ?_
    refine lv_iadd hx hb dX11_program_224 ?_
    refine lv_aload_n hx hb dX11_program_225 rfl (lv_at hl 1 rfl) ?_
    refine gM_0_17 hx hb hts hown hK hP (v := (σ.1 12)) rfl (hts _ kw_416) dX11_program_226 ?_
    refine lv_icmp_ge (tgt := 238) hx hb dX11_program_229 (by decide) (fun c5 => ?_) (fun c5 => ?_)
    · have hf := (if_pos c5).symm.trans hf
      refine lv_iload_n hx hb dX11_program_238 rfl (lv_at hl 2 rfl) ?_
      exact w_F_mX11_program_239 hA cx hb110 _ _ _ _ _ _ _ hf (lv_sub hl [1, 2, 0] rfl) hP hS
    · have hf := (if_neg c5).symm.trans hf
      refine lv_iload_n hx hb dX11_program_232 rfl (lv_at hl 2 rfl) ?_
      refine lv_iconst (v := 1) hx hb dX11_program_233 (by decide) ?_
      refine lv_iadd hx hb dX11_program_234 ?_
      refine lv_goto (tgt := 239) hx hb dX11_program_235 (by decide) ?_
      exact w_F_mX11_program_239 hA cx hb110 _ _ _ _ _ _ _ hf (lv_sub hl [1, 2, 0] rfl) hP hS
  · have hf := (if_neg c4).symm.trans hf
    refine lv_aload_n hx hb dX11_program_200 rfl (lv_at hl 1 rfl) ?_
    refine lv_aload_n hx hb dX11_program_201 rfl (lv_at hl 1 rfl) ?_
    refine gM_0_28 hx hb hts hown hK hP (hts _ kw_165) dX11_program_202 ?_
    refine lv_aload_n hx hb dX11_program_205 rfl (lv_at hl 1 rfl) ?_
    refine gM_0_27 hx hb hts hown hK hP (hts _ kw_164) dX11_program_206 ?_
    refine lv_iload_n hx hb dX11_program_209 rfl (lv_at hl 2 rfl) ?_
    refine gM_a11 hx hb hK hP (ib_in z3) (v := (σ.2.1 11 x1.toNatClampNeg)) rfl dX11_program_210 ?_
    obtain ⟨z6, hf⟩ := gd_some hf
    refine gM_a12 hx hb hK hP (ib_in z6) (v := (σ.2.2.2 12 (σ.2.1 11 x1.toNatClampNeg).toNatClampNeg)) rfl dX11_program_211 ?_
    refine lv_aload_n hx hb dX11_program_212 rfl (lv_at hl 1 rfl) ?_
    refine gM_0_17 hx hb hts hown hK hP (v := (σ.1 12)) rfl (hts _ kw_416) dX11_program_213 ?_
    obtain ⟨⟨r7, σ_r7⟩, h_r7, hf⟩ := bd_some hf
    refine cx_V (As := [.long (σ.2.2.2 12 (σ.2.1 11 x1.toNatClampNeg).toNatClampNeg), .int (σ.1 12)]) (rest := []) cx (ct_mX11_find l D C A adK adV hA h_r7) (cw_X11_226 hts ⟨Nat.le_of_ble_eq_true rfl, Nat.le_of_ble_eq_true rfl⟩) (va_recv hK hP (ci := 11) (q0 := 0) rfl (wM_0 A C _)) hP hS rfl hl.1 rfl (Nat.le_of_ble_eq_true rfl) dX11_program_216 ⟨Nat.zero_le _, Nat.zero_le _⟩ (fun H locs hP hS => ?_)
    refine lv_goto (tgt := 239) hx hb dX11_program_219 (by decide) ?_
    exact w_F_mX11_program_239 hA cx hb110 _ _ _ _ _ _ _ hf (lv_sub hl [1, 2, 0] rfl) hP hS
set_option maxHeartbeats 4000000 in
set_option maxRecDepth 100000 in
theorem w_F_mX11_program_110 {p : Program} {l : Launch} {e : Env} {s : State} {m : MethodId} {args : Array Value} {below : List Frame} {meth : Method} {c : Code} {D : va_G} {C : Nat → ClassId} {A adK adV : Nat → Nat} (hA : apA A 33) (cx : Cxx D C adK adV (fxA A 33) p s m args meth c cX11_program 4 RX11 (some .int)) {res : (Int32 × St)} : ∀ (n : Nat), ∀ (x1 : Int32) (σ : St) (H : Heap) (locs : List Loc) (ls : Array Slot), F_mX11_program_110 n x1 σ = some res → lv_has ls 4 [(0, .ref (A 0)), (1, .int x1)] → va_P D vwCl (wM A C σ) H → va_S (fxA A 33) s.heap H locs → W p l e rm_X11_program s m args below meth c H locs 0 0 (MQ below (Qcx D (wM A C) (fxA A 33) (some (.int res.1)) res.2) args s 0 0 (fxA A 33)) (F0 m 110 ls []) := by
  obtain ⟨hx, hb, hml, hown, hts, hK, hr, hlk, hZ⟩ := id cx
  intro n
  induction n with
  | zero =>
    intro x1 σ H locs ls hf hl hP hS
    exact absurd (show (none : Option (Int32 × St)) = some res from hf) (by intro h; cases h)
  | succ n ih =>
    intro x1 σ H locs ls hf hl hP hS
    refine lv_iload_n hx hb dX11_program_110 rfl (lv_at hl 1 rfl) ?_
    refine lv_aload_n hx hb dX11_program_111 rfl (lv_at hl 0 rfl) ?_
    refine gM_0_17 hx hb hts hown hK hP (v := (σ.1 12)) rfl (hts _ kw_416) dX11_program_112 ?_
    refine lv_icmp_ge (tgt := 269) hx hb dX11_program_115 (by decide) (fun c8 => ?_) (fun c8 => ?_)
    · have hf := (if_pos c8).symm.trans hf
      refine lv_aload_n hx hb dX11_program_269 rfl (lv_at hl 0 rfl) ?_
      refine lv_iconst (v := 0) hx hb dX11_program_270 (by decide) ?_
      refine pM_0_18 hx hb hts hown hK hP hA hS (hts _ kw_417) dX11_program_271 (fun H locs hP hS => ?_)
      refine lv_aload_n hx hb dX11_program_274 rfl (lv_at hl 0 rfl) ?_
      have hP : va_P D vwCl (wM A C (sI σ 13 0)) H := hP
      obtain ⟨σ_r9, h_r9, hf⟩ := bv_some hf
      refine cx_V (As := []) (rest := []) cx (ct_mX11_layFirst l D C A adK adV hA h_r9) (cw_X11_217 hts ⟨Nat.le_of_ble_eq_true rfl, Nat.le_of_ble_eq_true rfl⟩) (va_recv hK hP (ci := 11) (q0 := 0) rfl (wM_0 A C _)) hP hS rfl hl.1 rfl (Nat.le_of_ble_eq_true rfl) dX11_program_275 ⟨Nat.zero_le _, Nat.zero_le _⟩ (fun H locs hP hS => ?_)
      refine lv_aload_n hx hb dX11_program_278 rfl (lv_at hl 0 rfl) ?_
      refine gM_0_17 hx hb hts hown hK hP (v := (σ_r9.1 12)) rfl (hts _ kw_416) dX11_program_279 ?_
      exact cx_iret cx hP hS hf dX11_program_282
    · have hf := (if_neg c8).symm.trans hf
      refine lv_aload_n hx hb dX11_program_118 rfl (lv_at hl 0 rfl) ?_
      refine gM_0_21 hx hb hts hown hK hP (hts _ kw_158) dX11_program_119 ?_
      refine lv_iload_n hx hb dX11_program_122 rfl (lv_at hl 1 rfl) ?_
      refine lv_aload_n hx hb dX11_program_123 rfl (lv_at hl 0 rfl) ?_
      refine gM_0_24 hx hb hts hown hK hP (hts _ kw_161) dX11_program_124 ?_
      refine lv_iload_n hx hb dX11_program_127 rfl (lv_at hl 1 rfl) ?_
      obtain ⟨z10, hf⟩ := gd_some hf
      refine gM_a8 hx hb hK hP (ib_in z10) (v := (σ.2.2.2 8 x1.toNatClampNeg)) rfl dX11_program_128 ?_
      obtain ⟨z11, hf⟩ := gd_some hf
      refine pM_a5 hx hb hK hP hA hS (ib_in z11) dX11_program_129 (fun H locs hP hS => ?_)
      refine lv_aload_n hx hb dX11_program_130 rfl (lv_at hl 0 rfl) ?_
      refine gM_0_26 hx hb hts hown hK hP (hts _ kw_163) dX11_program_131 ?_
      refine lv_iload_n hx hb dX11_program_134 rfl (lv_at hl 1 rfl) ?_
      refine gM_a10 hx hb hK hP (ib_in z10) (v := (σ.2.1 10 x1.toNatClampNeg)) rfl dX11_program_135 ?_
      refine lv_bipush (v := (-2)) hx hb dX11_program_136 (by decide) ?_
      refine lv_icmp_ne (tgt := 156) hx hb dX11_program_138 (by decide) (fun c12 => ?_) (fun c12 => ?_)
      · have hf := (if_neg c12).symm.trans hf
        refine lv_aload_n hx hb dX11_program_156 rfl (lv_at hl 0 rfl) ?_
        refine gM_0_26 hx hb hts hown hK hP (hts _ kw_163) dX11_program_157 ?_
        refine lv_iload_n hx hb dX11_program_160 rfl (lv_at hl 1 rfl) ?_
        refine gM_a10 hx hb hK hP (ib_in z10) (v := (σ.2.1 10 x1.toNatClampNeg)) rfl dX11_program_161 ?_
        refine lv_iconst (v := (-1)) hx hb dX11_program_162 (by decide) ?_
        refine lv_icmp_ne (tgt := 170) hx hb dX11_program_163 (by decide) (fun c13 => ?_) (fun c13 => ?_)
        · have hf := (if_neg c13).symm.trans hf
          refine lv_aload_n hx hb dX11_program_170 rfl (lv_at hl 0 rfl) ?_
          refine lv_aload_n hx hb dX11_program_171 rfl (lv_at hl 0 rfl) ?_
          refine gM_0_28 hx hb hts hown hK hP (hts _ kw_165) dX11_program_172 ?_
          refine lv_aload_n hx hb dX11_program_175 rfl (lv_at hl 0 rfl) ?_
          refine gM_0_26 hx hb hts hown hK hP (hts _ kw_163) dX11_program_176 ?_
          refine lv_iload_n hx hb dX11_program_179 rfl (lv_at hl 1 rfl) ?_
          refine gM_a10 hx hb hK hP (ib_in z10) (v := (σ.2.1 10 x1.toNatClampNeg)) rfl dX11_program_180 ?_
          obtain ⟨z14, hf⟩ := gd_some hf
          refine gM_a12 hx hb hK hP (ib_in z14) (v := (σ.2.2.2 12 (σ.2.1 10 x1.toNatClampNeg).toNatClampNeg)) rfl dX11_program_181 ?_
          refine lv_aload_n hx hb dX11_program_182 rfl (lv_at hl 0 rfl) ?_
          refine gM_0_17 hx hb hts hown hK hP (v := (σ.1 12)) rfl (hts _ kw_416) dX11_program_183 ?_
          have hP : va_P D vwCl (wM A C (sB σ 5 (vp_updL (σ.2.2.2 5) x1.toNatClampNeg (σ.2.2.2 8 x1.toNatClampNeg)))) H := hP
          obtain ⟨⟨r15, σ_r15⟩, h_r15, hf⟩ := bd_some hf
          refine cx_V (As := [.long (σ.2.2.2 12 (σ.2.1 10 x1.toNatClampNeg).toNatClampNeg), .int (σ.1 12)]) (rest := []) cx (ct_mX11_find l D C A adK adV hA h_r15) (cw_X11_226 hts ⟨Nat.le_of_ble_eq_true rfl, Nat.le_of_ble_eq_true rfl⟩) (va_recv hK hP (ci := 11) (q0 := 0) rfl (wM_0 A C _)) hP hS rfl hl.1 rfl (Nat.le_of_ble_eq_true rfl) dX11_program_186 ⟨Nat.zero_le _, Nat.zero_le _⟩ (fun H locs hP hS => ?_)
          exact w_F_mX11_program_189 hA cx ih _ _ _ _ _ _ hf (lv_sub hl [0, 1] rfl) hP hS
        · have hf := (if_pos c13).symm.trans hf
          refine lv_iconst (v := 0) hx hb dX11_program_166 (by decide) ?_
          refine lv_goto (tgt := 189) hx hb dX11_program_167 (by decide) ?_
          have hP : va_P D vwCl (wM A C (sB σ 5 (vp_updL (σ.2.2.2 5) x1.toNatClampNeg (σ.2.2.2 8 x1.toNatClampNeg)))) H := hP
          exact w_F_mX11_program_189 hA cx ih _ _ _ _ _ _ hf (lv_sub hl [0, 1] rfl) hP hS
      · have hf := (if_pos c12).symm.trans hf
        refine lv_aload_n hx hb dX11_program_141 rfl (lv_at hl 0 rfl) ?_
        refine gM_0_22 hx hb hts hown hK hP (hts _ kw_159) dX11_program_142 ?_
        refine lv_iload_n hx hb dX11_program_145 rfl (lv_at hl 1 rfl) ?_
        refine lv_aload_n hx hb dX11_program_146 rfl (lv_at hl 0 rfl) ?_
        refine gM_0_25 hx hb hts hown hK hP (hts _ kw_162) dX11_program_147 ?_
        refine lv_iload_n hx hb dX11_program_150 rfl (lv_at hl 1 rfl) ?_
        refine gM_a9 hx hb hK hP (ib_in z10) (v := (σ.2.1 9 x1.toNatClampNeg)) rfl dX11_program_151 ?_
        refine pM_a6 hx hb hK hP hA hS (ib_in z11) dX11_program_152 (fun H locs hP hS => ?_)
        refine lv_goto (tgt := 263) hx hb dX11_program_153 (by decide) ?_
        refine lv_iinc (v := (x1 + 1)) (lv' := [(1, .int (x1 + 1)), (0, .ref (A 0))]) hx hb dX11_program_263 hl (k := 1) rfl rfl (by decide) rfl (fun ls hl => ?_)
        refine lv_goto (tgt := 110) hx hb dX11_program_266 (by decide) ?_
        have hP : va_P D vwCl (wM A C (sB (sA σ 6 (upd (σ.2.1 6) x1.toNatClampNeg (σ.2.1 9 x1.toNatClampNeg))) 5 (vp_updL (σ.2.2.2 5) x1.toNatClampNeg (σ.2.2.2 8 x1.toNatClampNeg)))) H := hP
        exact ih _ _ _ _ _ hf (lv_sub hl [1, 0] rfl) hP hS
set_option maxHeartbeats 4000000 in
set_option maxRecDepth 100000 in
theorem w_F_mX11_program_33 {p : Program} {l : Launch} {e : Env} {s : State} {m : MethodId} {args : Array Value} {below : List Frame} {meth : Method} {c : Code} {D : va_G} {C : Nat → ClassId} {A adK adV : Nat → Nat} (hA : apA A 33) (cx : Cxx D C adK adV (fxA A 33) p s m args meth c cX11_program 4 RX11 (some .int)) {res : (Int32 × St)} : ∀ (n : Nat), ∀ (x1 : Int32) (σ : St) (H : Heap) (locs : List Loc) (ls : Array Slot), F_mX11_program_33 n x1 σ = some res → lv_has ls 4 [(0, .ref (A 0)), (1, .int x1)] → va_P D vwCl (wM A C σ) H → va_S (fxA A 33) s.heap H locs → W p l e rm_X11_program s m args below meth c H locs 0 0 (MQ below (Qcx D (wM A C) (fxA A 33) (some (.int res.1)) res.2) args s 0 0 (fxA A 33)) (F0 m 33 ls []) := by
  obtain ⟨hx, hb, hml, hown, hts, hK, hr, hlk, hZ⟩ := id cx
  intro n
  induction n with
  | zero =>
    intro x1 σ H locs ls hf hl hP hS
    exact absurd (show (none : Option (Int32 × St)) = some res from hf) (by intro h; cases h)
  | succ n ih =>
    intro x1 σ H locs ls hf hl hP hS
    refine lv_iload_n hx hb dX11_program_33 rfl (lv_at hl 1 rfl) ?_
    refine lv_aload_n hx hb dX11_program_34 rfl (lv_at hl 0 rfl) ?_
    refine gM_0_20 hx hb hts hown hK hP (v := (σ.1 15)) rfl (hts _ kw_537) dX11_program_35 ?_
    refine lv_icmp_ge (tgt := 86) hx hb dX11_program_38 (by decide) (fun c16 => ?_) (fun c16 => ?_)
    · have hf := (if_pos c16).symm.trans hf
      refine lv_aload_n hx hb dX11_program_86 rfl (lv_at hl 0 rfl) ?_
      refine gM_0_19 hx hb hts hown hK hP (v := (σ.1 14)) rfl (hts _ kw_536) dX11_program_87 ?_
      refine lv_aload_n hx hb dX11_program_90 rfl (lv_at hl 0 rfl) ?_
      obtain ⟨⟨r17, σ_r17⟩, h_r17, hf⟩ := bd_some hf
      refine cx_V (As := []) (rest := [.int (σ.1 14)]) cx (ct_mX11_spots l D C A adK adV hA h_r17) (cw_X11_211 hts ⟨Nat.le_of_ble_eq_true rfl, Nat.le_of_ble_eq_true rfl⟩) (va_recv hK hP (ci := 11) (q0 := 0) rfl (wM_0 A C _)) hP hS rfl hl.1 rfl (Nat.le_of_ble_eq_true rfl) dX11_program_91 ⟨Nat.zero_le _, Nat.zero_le _⟩ (fun H locs hP hS => ?_)
      refine lv_icmp_le (tgt := 100) hx hb dX11_program_94 (by decide) (fun c18 => ?_) (fun c18 => ?_)
      · have hf := (if_pos c18).symm.trans hf
        refine lv_aload_n hx hb dX11_program_100 rfl (lv_at hl 0 rfl) ?_
        refine lv_aload_n hx hb dX11_program_101 rfl (lv_at hl 0 rfl) ?_
        refine gM_0_19 hx hb hts hown hK hP (v := (σ_r17.1 14)) rfl (hts _ kw_536) dX11_program_102 ?_
        refine pM_0_17 hx hb hts hown hK hP hA hS (hts _ kw_416) dX11_program_105 (fun H locs hP hS => ?_)
        refine lv_iconst (v := 0) hx hb dX11_program_108 (by decide) ?_
        refine lv_istore_n (lv' := [(1, .int 0), (0, .ref (A 0))]) hx hb dX11_program_109 rfl hl (by decide) rfl (fun ls hl => ?_)
        have hP : va_P D vwCl (wM A C (sI σ_r17 12 (σ_r17.1 14))) H := hP
        exact w_F_mX11_program_110 hA cx FU _ _ _ _ _ hf (lv_sub hl [1, 0] rfl) hP hS
      · have hf := (if_neg c18).symm.trans hf
        refine lv_bipush (v := (-3)) hx hb dX11_program_97 (by decide) ?_
        exact cx_iret cx hP hS hf dX11_program_99
    · have hf := (if_neg c16).symm.trans hf
      refine lv_aload_n hx hb dX11_program_41 rfl (lv_at hl 0 rfl) ?_
      refine lv_aload_n hx hb dX11_program_42 rfl (lv_at hl 0 rfl) ?_
      refine gM_0_28 hx hb hts hown hK hP (hts _ kw_165) dX11_program_43 ?_
      refine lv_iload_n hx hb dX11_program_46 rfl (lv_at hl 1 rfl) ?_
      obtain ⟨z19, hf⟩ := gd_some hf
      refine gM_a12 hx hb hK hP (ib_in z19) (v := (σ.2.2.2 12 x1.toNatClampNeg)) rfl dX11_program_47 ?_
      refine lv_aload_n hx hb dX11_program_48 rfl (lv_at hl 0 rfl) ?_
      refine gM_0_19 hx hb hts hown hK hP (v := (σ.1 14)) rfl (hts _ kw_536) dX11_program_49 ?_
      obtain ⟨⟨r20, σ_r20⟩, h_r20, hf⟩ := bd_some hf
      refine cx_V (As := [.long (σ.2.2.2 12 x1.toNatClampNeg), .int (σ.1 14)]) (rest := []) cx (ct_mX11_find l D C A adK adV hA h_r20) (cw_X11_226 hts ⟨Nat.le_of_ble_eq_true rfl, Nat.le_of_ble_eq_true rfl⟩) (va_recv hK hP (ci := 11) (q0 := 0) rfl (wM_0 A C _)) hP hS rfl hl.1 rfl (Nat.le_of_ble_eq_true rfl) dX11_program_52 ⟨Nat.zero_le _, Nat.zero_le _⟩ (fun H locs hP hS => ?_)
      refine lv_iconst (v := (-1)) hx hb dX11_program_55 (by decide) ?_
      refine lv_icmp_eq (tgt := 62) hx hb dX11_program_56 (by decide) (fun c21 => ?_) (fun c21 => ?_)
      · have hf := (if_pos c21).symm.trans hf
        refine lv_aload_n hx hb dX11_program_62 rfl (lv_at hl 0 rfl) ?_
        refine lv_aload_n hx hb dX11_program_63 rfl (lv_at hl 0 rfl) ?_
        refine gM_0_29 hx hb hts hown hK hP (hts _ kw_166) dX11_program_64 ?_
        refine lv_iload_n hx hb dX11_program_67 rfl (lv_at hl 1 rfl) ?_
        refine gM_a13 hx hb hK hP (ib_in z19) (v := (σ_r20.2.1 13 x1.toNatClampNeg)) rfl dX11_program_68 ?_
        refine pM_0_4 hx hb hts hown hK hP hA hS (hts _ kw_429) dX11_program_69 (fun H locs hP hS => ?_)
        refine lv_aload_n hx hb dX11_program_72 rfl (lv_at hl 0 rfl) ?_
        refine lv_iconst (v := 5) hx hb dX11_program_73 (by decide) ?_
        have hP : va_P D vwCl (wM A C (sI σ_r20 3 (σ_r20.2.1 13 x1.toNatClampNeg))) H := hP
        obtain ⟨⟨r22, σ_r22⟩, h_r22, hf⟩ := bd_some hf
        refine cx_V (As := [.int 5]) (rest := []) cx (ct_mX11_fails l D C A adK adV hA h_r22) (cw_X11_172 hts ⟨Nat.le_of_ble_eq_true rfl, Nat.le_of_ble_eq_true rfl⟩) (va_recv hK hP (ci := 11) (q0 := 0) rfl (wM_0 A C _)) hP hS rfl hl.1 rfl (Nat.le_of_ble_eq_true rfl) dX11_program_74 ⟨Nat.zero_le _, Nat.zero_le _⟩ (fun H locs hP hS => ?_)
        refine lv_pop hx hb dX11_program_77 rfl ?_
        refine lv_iconst (v := (-1)) hx hb dX11_program_78 (by decide) ?_
        exact cx_iret cx hP hS hf dX11_program_79
      · have hf := (if_neg c21).symm.trans hf
        refine lv_goto (tgt := 80) hx hb dX11_program_59 (by decide) ?_
        refine lv_iinc (v := (x1 + 1)) (lv' := [(1, .int (x1 + 1)), (0, .ref (A 0))]) hx hb dX11_program_80 hl (k := 1) rfl rfl (by decide) rfl (fun ls hl => ?_)
        refine lv_goto (tgt := 33) hx hb dX11_program_83 (by decide) ?_
        exact ih _ _ _ _ _ hf (lv_sub hl [1, 0] rfl) hP hS
set_option maxHeartbeats 4000000 in
set_option maxRecDepth 100000 in
theorem w_F_mX11_program_14 {p : Program} {l : Launch} {e : Env} {s : State} {m : MethodId} {args : Array Value} {below : List Frame} {meth : Method} {c : Code} {D : va_G} {C : Nat → ClassId} {A adK adV : Nat → Nat} (hA : apA A 33) (cx : Cxx D C adK adV (fxA A 33) p s m args meth c cX11_program 4 RX11 (some .int)) {res : (Int32 × St)} : ∀ (n : Nat), ∀ (σ : St) (H : Heap) (locs : List Loc) (ls : Array Slot), F_mX11_program_14 n σ = some res → lv_has ls 4 [(0, .ref (A 0))] → va_P D vwCl (wM A C σ) H → va_S (fxA A 33) s.heap H locs → W p l e rm_X11_program s m args below meth c H locs 0 0 (MQ below (Qcx D (wM A C) (fxA A 33) (some (.int res.1)) res.2) args s 0 0 (fxA A 33)) (F0 m 14 ls []) := by
  obtain ⟨hx, hb, hml, hown, hts, hK, hr, hlk, hZ⟩ := id cx
  intro n
  induction n with
  | zero =>
    intro σ H locs ls hf hl hP hS
    exact absurd (show (none : Option (Int32 × St)) = some res from hf) (by intro h; cases h)
  | succ n ih =>
    intro σ H locs ls hf hl hP hS
    refine lv_aload_n hx hb dX11_program_14 rfl (lv_at hl 0 rfl) ?_
    refine gM_0_3 hx hb hts hown hK hP (v := (σ.1 2)) rfl (hts _ kw_430) dX11_program_15 ?_
    refine lv_iconst (v := 4) hx hb dX11_program_18 (by decide) ?_
    refine lv_icmp_eq (tgt := 31) hx hb dX11_program_19 (by decide) (fun c23 => ?_) (fun c23 => ?_)
    · have hf := (if_pos c23).symm.trans hf
      refine lv_iconst (v := 0) hx hb dX11_program_31 (by decide) ?_
      refine lv_istore_n (lv' := [(1, .int 0), (0, .ref (A 0))]) hx hb dX11_program_32 rfl hl (by decide) rfl (fun ls hl => ?_)
      exact w_F_mX11_program_33 hA cx FU _ _ _ _ _ hf (lv_sub hl [1, 0] rfl) hP hS
    · have hf := (if_neg c23).symm.trans hf
      refine lv_aload_n hx hb dX11_program_22 rfl (lv_at hl 0 rfl) ?_
      obtain ⟨⟨r24, σ_r24⟩, h_r24, hf⟩ := bd_some hf
      refine cx_V (As := []) (rest := []) cx (ct_mX11_readLine l D C A adK adV hA h_r24) (cw_X11_235 hts ⟨Nat.le_of_ble_eq_true rfl, Nat.le_of_ble_eq_true rfl⟩) (va_recv hK hP (ci := 11) (q0 := 0) rfl (wM_0 A C _)) hP hS rfl hl.1 rfl (Nat.le_of_ble_eq_true rfl) dX11_program_23 ⟨Nat.zero_le _, Nat.zero_le _⟩ (fun H locs hP hS => ?_)
      refine lv_if_ne (tgt := 14) hx hb dX11_program_26 (by decide) (fun c25 => ?_) (fun c25 => ?_)
      · have hf := (if_neg c25).symm.trans hf
        exact ih  _ _ _ _ hf (lv_sub hl [0] rfl) hP hS
      · have hf := (if_pos c25).symm.trans hf
        refine lv_iconst (v := (-1)) hx hb dX11_program_29 (by decide) ?_
        exact cx_iret cx hP hS hf dX11_program_30
set_option maxHeartbeats 4000000 in
set_option maxRecDepth 100000 in
theorem ct_mX11_program (l : Launch) (D : va_G) (C : Nat → ClassId) (A adK adV : Nat → Nat) (hA : apA A 33)  {σ : St} {res : (Int32 × St)} (hf : F_mX11_program σ = some res) : Met l yX11_program (Cond.code yX11_program cX11_program 4 (some .int) :: wsL_law) rm_X11_program (Pcx D C (wM A C) adK adV (fxA A 33) [.ref (A 0)] σ) (Qcx D (wM A C) (fxA A 33) (some (.int res.1)) res.2) 0 0 (fxA A 33) := by
  refine Met.ofW (cc := cX11_program) (maxL := 4) (ret := (some .int)) (by decide) rfl ?_
  intro p e s m args below meth c s₁ B hml hv
  obtain ⟨rfl, hP, hK, hZ⟩ := hv
  have cx : Cxx D C adK adV (fxA A 33) p s m _ meth c cX11_program 4 RX11 (some .int) := ⟨B.exec, B.bytes, hml, findClass_of_methodNamed B.named, fun w h => atoms_spec (ws := Cond.code yX11_program cX11_program 4 (some .int) :: wsL_law) B.pre w (List.mem_cons_of_mem _ h), hK, B.returns, B.notSynchronized, hZ⟩
  obtain ⟨hx, hb, -, hown, hts, -, hr, hlk, -⟩ := id cx
  have hS : va_S (fxA A 33) s.heap s.heap [] := va_S.rf
  have hl := lv_entry ([.ref (A 0)]) (n := 4) (Nat.le_of_ble_eq_true rfl)
  rw [lg_entry_eq]
  generalize (lg_sl ([.ref (A 0)]) ++ List.replicate (4 - (lg_sl ([.ref (A 0)])).length) Slot.unset).toArray = ls at hl ⊢
  have hl : lv_has ls 4 [(0, .ref (A 0))] := hl
  show W p l e rm_X11_program s m _ below meth c s.heap [] 0 0 _ _
  refine lv_aload_n hx hb dX11_program_0 rfl (lv_at hl 0 rfl) ?_
  obtain ⟨σ_r26, h_r26, hf⟩ := bv_some hf
  refine cx_V (As := []) (rest := []) cx (ct_mX11_take l D C A adK adV hA h_r26) (cw_X11_204 hts ⟨Nat.le_of_ble_eq_true rfl, Nat.le_of_ble_eq_true rfl⟩) (va_recv hK hP (ci := 11) (q0 := 0) rfl (wM_0 A C _)) hP hS rfl hl.1 rfl (Nat.le_of_ble_eq_true rfl) dX11_program_1 ⟨Nat.zero_le _, Nat.zero_le _⟩ (fun H locs hP hS => ?_)
  refine lv_aload_n hx hb dX11_program_4 rfl (lv_at hl 0 rfl) ?_
  refine lv_iconst (v := 0) hx hb dX11_program_5 (by decide) ?_
  refine pM_0_19 hx hb hts hown hK hP hA hS (hts _ kw_536) dX11_program_6 (fun H locs hP hS => ?_)
  refine lv_aload_n hx hb dX11_program_9 rfl (lv_at hl 0 rfl) ?_
  refine lv_iconst (v := 0) hx hb dX11_program_10 (by decide) ?_
  refine pM_0_20 hx hb hts hown hK hP hA hS (hts _ kw_537) dX11_program_11 (fun H locs hP hS => ?_)
  have hP : va_P D vwCl (wM A C (sI (sI σ_r26 14 0) 15 0)) H := hP
  exact w_F_mX11_program_14 hA cx FU _ _ _ _ hf (lv_sub hl [0] rfl) hP hS
