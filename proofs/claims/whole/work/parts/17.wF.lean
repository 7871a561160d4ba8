set_option maxHeartbeats 4000000 in
set_option maxRecDepth 100000 in
theorem ct_xX10_exchange (l : Launch) (D : va_G) (C : Nat → ClassId) (A adK adV : Nat → Nat) (hA : apA A 60)  {σ : St} {res : (Int32 × St)} (hf : F_xX10_exchange σ = some res) : Met l yX10_exchange (Cond.code yX10_exchange cX10_exchange 1 (some .int) :: wsL_law) rm_X10_exchange (Pcx D C (wX A C) adK adV (fxA A 60) [.ref (A 0)] σ) (Qcx D (wX A C) (fxA A 60) (some (.int res.1)) res.2) 0 0 (fxA A 60) := by
  refine Met.ofW (cc := cX10_exchange) (maxL := 1) (ret := (some .int)) (by decide) rfl ?_
  intro p e s m args below meth c s₁ B hml hv
  obtain ⟨rfl, hP, hK, hZ⟩ := hv
  have cx : Cxx D C adK adV (fxA A 60) p s m _ meth c cX10_exchange 1 RX10 (some .int) := ⟨B.exec, B.bytes, hml, findClass_of_methodNamed B.named, fun w h => atoms_spec (ws := Cond.code yX10_exchange cX10_exchange 1 (some .int) :: wsL_law) B.pre w (List.mem_cons_of_mem _ h), hK, B.returns, B.notSynchronized, hZ⟩
  obtain ⟨hx, hb, -, hown, hts, -, hr, hlk, -⟩ := id cx
  have hS : va_S (fxA A 60) s.heap s.heap [] := va_S.rf
  have hl := lv_entry ([.ref (A 0)]) (n := 1) (Nat.le_of_ble_eq_true rfl)
  rw [lg_entry_eq]
  generalize (lg_sl ([.ref (A 0)]) ++ List.replicate (1 - (lg_sl ([.ref (A 0)])).length) Slot.unset).toArray = ls at hl ⊢
  have hl : lv_has ls 1 [(0, .ref (A 0))] := hl
  show W p l e rm_X10_exchange s m _ below meth c s.heap [] 0 0 _ _
  refine lv_aload_n hx hb dX10_exchange_0 rfl (lv_at hl 0 rfl) ?_
  refine gX_0_3 hx hb hts hown hK hP (hts _ kw_28) dX10_exchange_1 ?_
  refine gX_10_0 hx hb hts hown hK hP (v := (σ.1 11)) rfl (hts _ kw_220) dX10_exchange_4 ?_
  refine lv_if_ne (tgt := 13) hx hb dX10_exchange_7 (by decide) (fun c1 => ?_) (fun c1 => ?_)
  · have hf := (if_neg c1).symm.trans hf
    refine lv_aload_n hx hb dX10_exchange_13 rfl (lv_at hl 0 rfl) ?_
    refine gX_0_6 hx hb hts hown hK hP (hts _ kw_40) dX10_exchange_14 ?_
    refine lv_aload_n hx hb dX10_exchange_17 rfl (lv_at hl 0 rfl) ?_
    refine gX_0_3 hx hb hts hown hK hP (hts _ kw_28) dX10_exchange_18 ?_
    obtain ⟨σ_r2, h_r2, hf⟩ := bv_some hf
    refine cx_V (As := [.ref (A 10)]) (rest := []) cx (ct_xX0_follow l D C A adK adV hA h_r2) (cw_X10_152 hts ⟨Nat.le_of_ble_eq_true rfl, Nat.le_of_ble_eq_true rfl⟩) (va_recv hK hP (ci := 0) (q0 := 37) rfl (wX_37 A C _)) hP hS rfl hl.1 rfl (Nat.le_of_ble_eq_true rfl) dX10_exchange_21 ⟨Nat.zero_le _, Nat.zero_le _⟩ (fun H locs hP hS => ?_)
    refine lv_aload_n hx hb dX10_exchange_24 rfl (lv_at hl 0 rfl) ?_
    refine gX_0_8 hx hb hts hown hK hP (hts _ kw_48) dX10_exchange_25 ?_
    obtain ⟨⟨r3, σ_r3⟩, h_r3, hf⟩ := bd_some hf
    refine cx_V (As := []) (rest := []) cx (ct_xX8_exchangePairs l D C A adK adV hA h_r3) (cw_X10_200 hts ⟨Nat.le_of_ble_eq_true rfl, Nat.le_of_ble_eq_true rfl⟩) (va_recv hK hP (ci := 8) (q0 := 52) rfl (wX_52 A C _)) hP hS rfl hl.1 rfl (Nat.le_of_ble_eq_true rfl) dX10_exchange_28 ⟨Nat.zero_le _, Nat.zero_le _⟩ (fun H locs hP hS => ?_)
    exact cx_iret cx hP hS hf dX10_exchange_31
  · have hf := (if_pos c1).symm.trans hf
    refine lv_bipush (v := (-4)) hx hb dX10_exchange_10 (by decide) ?_
    exact cx_iret cx hP hS hf dX10_exchange_12
set_option maxHeartbeats 4000000 in
set_option maxRecDepth 100000 in
theorem ct_xJ13_bitCount_95d88 (l : Launch) (D : va_G) (C : Nat → ClassId) (A adK adV : Nat → Nat) (hA : apA A 60) {x0 : Int64} {σ : St} {res : (Int32 × St)} (hf : F_xJ13_bitCount_95d88 x0 σ = some res) : Met l yJ13_bitCount_95d88 (Cond.code yJ13_bitCount_95d88 cJ13_bitCount_95d88 2 (some .int) :: wsL_law) rm_J13_bitCount_95d88 (Pcx D C (wX A C) adK adV (fxA A 60) [.long x0] σ) (Qcx D (wX A C) (fxA A 60) (some (.int res.1)) res.2) 0 0 (fxA A 60) := by
  refine Met.ofW (cc := cJ13_bitCount_95d88) (maxL := 2) (ret := (some .int)) (by decide) rfl ?_
  intro p e s m args below meth c s₁ B hml hv
  obtain ⟨rfl, hP, hK, hZ⟩ := hv
  have cx : Cxx D C adK adV (fxA A 60) p s m _ meth c cJ13_bitCount_95d88 2 RJ13 (some .int) := ⟨B.exec, B.bytes, hml, findClass_of_methodNamed B.named, fun w h => atoms_spec (ws := Cond.code yJ13_bitCount_95d88 cJ13_bitCount_95d88 2 (some .int) :: wsL_law) B.pre w (List.mem_cons_of_mem _ h), hK, B.returns, B.notSynchronized, hZ⟩
  obtain ⟨hx, hb, -, hown, hts, -, hr, hlk, -⟩ := id cx
  have hS : va_S (fxA A 60) s.heap s.heap [] := va_S.rf
  have hl := lv_entry ([.long x0]) (n := 2) (Nat.le_of_ble_eq_true rfl)
  rw [lg_entry_eq]
  generalize (lg_sl ([.long x0]) ++ List.replicate (2 - (lg_sl ([.long x0])).length) Slot.unset).toArray = ls at hl ⊢
  have hl : lv_has ls 2 [(0, .long x0)] := hl
  show W p l e rm_J13_bitCount_95d88 s m _ below meth c s.heap [] 0 0 _ _
  refine lv_lload_n hx hb dJ13_bitCount_95d88_0 rfl (lv_at hl 0 rfl) ?_
  refine lv_lload_n hx hb dJ13_bitCount_95d88_1 rfl (lv_at hl 0 rfl) ?_
  refine lv_iconst (v := 1) hx hb dJ13_bitCount_95d88_2 (by decide) ?_
  refine lv_lushr hx hb dJ13_bitCount_95d88_3 rfl ?_
  refine lv_ldc2 (v := 6148914691236517205) hx hb hown (hts _ kw_951) dJ13_bitCount_95d88_4 ?_
  refine lv_land hx hb dJ13_bitCount_95d88_7 ?_
  refine lv_lsub hx hb dJ13_bitCount_95d88_8 ?_
  refine lv_topl (fun v1 e_v1 => ?_)
  have hf := nm_use e_v1 hf
  refine lv_lstore_n (lv' := [(0, .long v1)]) hx hb dJ13_bitCount_95d88_9 rfl hl (by decide) rfl (fun ls hl => ?_)
  refine lv_lload_n hx hb dJ13_bitCount_95d88_10 rfl (lv_at hl 0 rfl) ?_
  refine lv_ldc2 (v := 3689348814741910323) hx hb hown (hts _ kw_952) dJ13_bitCount_95d88_11 ?_
  refine lv_land hx hb dJ13_bitCount_95d88_14 ?_
  refine lv_lload_n hx hb dJ13_bitCount_95d88_15 rfl (lv_at hl 0 rfl) ?_
  refine lv_iconst (v := 2) hx hb dJ13_bitCount_95d88_16 (by decide) ?_
  refine lv_lushr hx hb dJ13_bitCount_95d88_17 rfl ?_
  refine lv_ldc2 (v := 3689348814741910323) hx hb hown (hts _ kw_952) dJ13_bitCount_95d88_18 ?_
  refine lv_land hx hb dJ13_bitCount_95d88_21 ?_
  refine lv_ladd hx hb dJ13_bitCount_95d88_22 ?_
  refine lv_topl (fun v2 e_v2 => ?_)
  have hf := nm_use e_v2 hf
  refine lv_lstore_n (lv' := [(0, .long v2)]) hx hb dJ13_bitCount_95d88_23 rfl hl (by decide) rfl (fun ls hl => ?_)
  refine lv_lload_n hx hb dJ13_bitCount_95d88_24 rfl (lv_at hl 0 rfl) ?_
  refine lv_lload_n hx hb dJ13_bitCount_95d88_25 rfl (lv_at hl 0 rfl) ?_
  refine lv_iconst (v := 4) hx hb dJ13_bitCount_95d88_26 (by decide) ?_
  refine lv_lushr hx hb dJ13_bitCount_95d88_27 rfl ?_
  refine lv_ladd hx hb dJ13_bitCount_95d88_28 ?_
  refine lv_ldc2 (v := 1085102592571150095) hx hb hown (hts _ kw_953) dJ13_bitCount_95d88_29 ?_
  refine lv_land hx hb dJ13_bitCount_95d88_32 ?_
  refine lv_topl (fun v3 e_v3 => ?_)
  have hf := nm_use e_v3 hf
  refine lv_lstore_n (lv' := [(0, .long v3)]) hx hb dJ13_bitCount_95d88_33 rfl hl (by decide) rfl (fun ls hl => ?_)
  refine lv_lload_n hx hb dJ13_bitCount_95d88_34 rfl (lv_at hl 0 rfl) ?_
  refine lv_lload_n hx hb dJ13_bitCount_95d88_35 rfl (lv_at hl 0 rfl) ?_
  refine lv_bipush (v := 8) hx hb dJ13_bitCount_95d88_36 (by decide) ?_
  refine lv_lushr hx hb dJ13_bitCount_95d88_38 rfl ?_
  refine lv_ladd hx hb dJ13_bitCount_95d88_39 ?_
  refine lv_topl (fun v4 e_v4 => ?_)
  have hf := nm_use e_v4 hf
  refine lv_lstore_n (lv' := [(0, .long v4)]) hx hb dJ13_bitCount_95d88_40 rfl hl (by decide) rfl (fun ls hl => ?_)
  refine lv_lload_n hx hb dJ13_bitCount_95d88_41 rfl (lv_at hl 0 rfl) ?_
  refine lv_lload_n hx hb dJ13_bitCount_95d88_42 rfl (lv_at hl 0 rfl) ?_
  refine lv_bipush (v := 16) hx hb dJ13_bitCount_95d88_43 (by decide) ?_
  refine lv_lushr hx hb dJ13_bitCount_95d88_45 rfl ?_
  refine lv_ladd hx hb dJ13_bitCount_95d88_46 ?_
  refine lv_topl (fun v5 e_v5 => ?_)
  have hf := nm_use e_v5 hf
  refine lv_lstore_n (lv' := [(0, .long v5)]) hx hb dJ13_bitCount_95d88_47 rfl hl (by decide) rfl (fun ls hl => ?_)
  refine lv_lload_n hx hb dJ13_bitCount_95d88_48 rfl (lv_at hl 0 rfl) ?_
  refine lv_lload_n hx hb dJ13_bitCount_95d88_49 rfl (lv_at hl 0 rfl) ?_
  refine lv_bipush (v := 32) hx hb dJ13_bitCount_95d88_50 (by decide) ?_
  refine lv_lushr hx hb dJ13_bitCount_95d88_52 rfl ?_
  refine lv_ladd hx hb dJ13_bitCount_95d88_53 ?_
  refine lv_topl (fun v6 e_v6 => ?_)
  have hf := nm_use e_v6 hf
  refine lv_lstore_n (lv' := [(0, .long v6)]) hx hb dJ13_bitCount_95d88_54 rfl hl (by decide) rfl (fun ls hl => ?_)
  refine lv_lload_n hx hb dJ13_bitCount_95d88_55 rfl (lv_at hl 0 rfl) ?_
  refine lv_l2i hx hb dJ13_bitCount_95d88_56 rfl ?_
  refine lv_bipush (v := 127) hx hb dJ13_bitCount_95d88_57 (by decide) ?_
  refine lv_iand hx hb dJ13_bitCount_95d88_59 ?_
  exact cx_iret cx hP hS hf dJ13_bitCount_95d88_60
set_option maxHeartbeats 4000000 in
set_option maxRecDepth 100000 in
theorem ct_xX10_best (l : Launch) (D : va_G) (C : Nat → ClassId) (A adK adV : Nat → Nat) (hA : apA A 60) {x1 : Int64} {σ : St} {res : (Int32 × St)} (hf : F_xX10_best x1 σ = some res) : Met l yX10_best (Cond.code yX10_best cX10_best 4 (some .int) :: wsL_law) rm_X10_best (Pcx D C (wX A C) adK adV (fxA A 60) [.ref (A 0), .long x1] σ) (Qcx D (wX A C) (fxA A 60) (some (.int res.1)) res.2) 0 0 (fxA A 60) := by
  refine Met.ofW (cc := cX10_best) (maxL := 4) (ret := (some .int)) (by decide) rfl ?_
  intro p e s m args below meth c s₁ B hml hv
  obtain ⟨rfl, hP, hK, hZ⟩ := hv
  have cx : Cxx D C adK adV (fxA A 60) p s m _ meth c cX10_best 4 RX10 (some .int) := ⟨B.exec, B.bytes, hml, findClass_of_methodNamed B.named, fun w h => atoms_spec (ws := Cond.code yX10_best cX10_best 4 (some .int) :: wsL_law) B.pre w (List.mem_cons_of_mem _ h), hK, B.returns, B.notSynchronized, hZ⟩
  obtain ⟨hx, hb, -, hown, hts, -, hr, hlk, -⟩ := id cx
  have hS : va_S (fxA A 60) s.heap s.heap [] := va_S.rf
  have hl := lv_entry ([.ref (A 0), .long x1]) (n := 4) (Nat.le_of_ble_eq_true rfl)
  rw [lg_entry_eq]
  generalize (lg_sl ([.ref (A 0), .long x1]) ++ List.replicate (4 - (lg_sl ([.ref (A 0), .long x1])).length) Slot.unset).toArray = ls at hl ⊢
  have hl : lv_has ls 4 [(0, .ref (A 0)), (1, .long x1)] := hl
  show W p l e rm_X10_best s m _ below meth c s.heap [] 0 0 _ _
  refine lv_lload_n hx hb dX10_best_0 rfl (lv_at hl 1 rfl) ?_
  obtain ⟨⟨r1, σ_r1⟩, h_r1, hf⟩ := bd_some hf
  refine cx_S (As := [.long x1]) (rest := []) cx (ct_xJ13_bitCount_95d88 l D C A adK adV hA h_r1) (cw_X10_203 hts ⟨Nat.le_of_ble_eq_true rfl, Nat.le_of_ble_eq_true rfl⟩) hP hS rfl hl.1 rfl (Nat.le_of_ble_eq_true rfl) dX10_best_1 ⟨Nat.zero_le _, Nat.zero_le _⟩ (fun H locs hP hS => ?_)
  refine lv_istore_n (lv' := [(3, .int r1), (0, .ref (A 0)), (1, .long x1)]) hx hb dX10_best_4 rfl hl (by decide) rfl (fun ls hl => ?_)
  refine lv_iload_n hx hb dX10_best_5 rfl (lv_at hl 0 rfl) ?_
  refine lv_iconst (v := 1) hx hb dX10_best_6 (by decide) ?_
  refine lv_icmp_lt (tgt := 30) hx hb dX10_best_7 (by decide) (fun c2 => ?_) (fun c2 => ?_)
  · have hf := (if_pos c2).symm.trans hf
    refine lv_bipush (v := (-2)) hx hb dX10_best_30 (by decide) ?_
    exact cx_iret cx hP hS hf dX10_best_32
  · have hf := (if_neg c2).symm.trans hf
    refine lv_iload_n hx hb dX10_best_10 rfl (lv_at hl 0 rfl) ?_
    refine lv_bipush (v := 6) hx hb dX10_best_11 (by decide) ?_
    refine lv_icmp_gt (tgt := 30) hx hb dX10_best_13 (by decide) (fun c3 => ?_) (fun c3 => ?_)
    · have hf := (if_pos c3).symm.trans hf
      refine lv_bipush (v := (-2)) hx hb dX10_best_30 (by decide) ?_
      exact cx_iret cx hP hS hf dX10_best_32
    · have hf := (if_neg c3).symm.trans hf
      refine lv_lload_n hx hb dX10_best_16 rfl (lv_at hl 2 rfl) ?_
      refine lv_aload_n hx hb dX10_best_17 rfl (lv_at hl 1 rfl) ?_
      refine gX_0_3 hx hb hts hown hK hP (hts _ kw_28) dX10_best_18 ?_
      refine gX_10_0 hx hb hts hown hK hP (v := (σ_r1.1 11)) rfl (hts _ kw_220) dX10_best_21 ?_
      refine lv_lushr hx hb dX10_best_24 rfl ?_
      refine lv_lconst (v := 0) hx hb dX10_best_25 (by decide) ?_
      refine W.lcmp hx hb dX10_best_26 ?_
      refine lv_if_eq (tgt := 33) hx hb dX10_best_27 (by decide) (fun c4 => ?_) (fun c4 => ?_)
      · have hf := (if_pos c4).symm.trans hf
        refine lv_aload_n hx hb dX10_best_33 rfl (lv_at hl 1 rfl) ?_
        refine gX_0_8 hx hb hts hown hK hP (hts _ kw_48) dX10_best_34 ?_
        refine lv_lload_n hx hb dX10_best_37 rfl (lv_at hl 2 rfl) ?_
        obtain ⟨⟨r5, σ_r5⟩, h_r5, hf⟩ := bd_some hf
        refine cx_V (As := [.long x1]) (rest := []) cx (ct_xX8_choose l D C A adK adV hA h_r5) (cw_X10_209 hts ⟨Nat.le_of_ble_eq_true rfl, Nat.le_of_ble_eq_true rfl⟩) (va_recv hK hP (ci := 8) (q0 := 52) rfl (wX_52 A C _)) hP hS rfl hl.1 rfl (Nat.le_of_ble_eq_true rfl) dX10_best_38 ⟨Nat.zero_le _, Nat.zero_le _⟩ (fun H locs hP hS => ?_)
        refine lv_if_ne (tgt := 47) hx hb dX10_best_41 (by decide) (fun c6 => ?_) (fun c6 => ?_)
        · have hf := (if_neg c6).symm.trans hf
          refine lv_aload_n hx hb dX10_best_47 rfl (lv_at hl 1 rfl) ?_
          refine gX_0_6 hx hb hts hown hK hP (hts _ kw_40) dX10_best_48 ?_
          refine lv_aload_n hx hb dX10_best_51 rfl (lv_at hl 1 rfl) ?_
          refine gX_0_3 hx hb hts hown hK hP (hts _ kw_28) dX10_best_52 ?_
          obtain ⟨σ_r7, h_r7, hf⟩ := bv_some hf
          refine cx_V (As := [.ref (A 10)]) (rest := []) cx (ct_xX0_follow l D C A adK adV hA h_r7) (cw_X10_152 hts ⟨Nat.le_of_ble_eq_true rfl, Nat.le_of_ble_eq_true rfl⟩) (va_recv hK hP (ci := 0) (q0 := 37) rfl (wX_37 A C _)) hP hS rfl hl.1 rfl (Nat.le_of_ble_eq_true rfl) dX10_best_55 ⟨Nat.zero_le _, Nat.zero_le _⟩ (fun H locs hP hS => ?_)
          refine lv_aload_n hx hb dX10_best_58 rfl (lv_at hl 1 rfl) ?_
          refine gX_0_8 hx hb hts hown hK hP (hts _ kw_48) dX10_best_59 ?_
          obtain ⟨⟨r8, σ_r8⟩, h_r8, hf⟩ := bd_some hf
          refine cx_V (As := []) (rest := []) cx (ct_xX8_layBestRow l D C A adK adV hA h_r8) (cw_X10_213 hts ⟨Nat.le_of_ble_eq_true rfl, Nat.le_of_ble_eq_true rfl⟩) (va_recv hK hP (ci := 8) (q0 := 52) rfl (wX_52 A C _)) hP hS rfl hl.1 rfl (Nat.le_of_ble_eq_true rfl) dX10_best_62 ⟨Nat.zero_le _, Nat.zero_le _⟩ (fun H locs hP hS => ?_)
          exact cx_iret cx hP hS hf dX10_best_65
        · have hf := (if_pos c6).symm.trans hf
          refine lv_bipush (v := (-4)) hx hb dX10_best_44 (by decide) ?_
          exact cx_iret cx hP hS hf dX10_best_46
      · have hf := (if_neg c4).symm.trans hf
        refine lv_bipush (v := (-2)) hx hb dX10_best_30 (by decide) ?_
        exact cx_iret cx hP hS hf dX10_best_32
set_option maxHeartbeats 4000000 in
set_option maxRecDepth 100000 in
theorem ct_xX3_store (l : Launch) (D : va_G) (C : Nat → ClassId) (A adK adV : Nat → Nat) (hA : apA A 60) {x1 : Int32} {σ : St} {res : St} (hf : F_xX3_store x1 σ = some res) : Met l yX3_store (Cond.code yX3_store cX3_store 2 none :: wsL_law) rm_X3_store (Pcx D C (wX A C) adK adV (fxA A 60) [.ref (A 25), .int x1] σ) (Qcx D (wX A C) (fxA A 60) none res) 0 0 (fxA A 60) := by
  refine Met.ofW (cc := cX3_store) (maxL := 2) (ret := none) (by decide) rfl ?_
  intro p e s m args below meth c s₁ B hml hv
  obtain ⟨rfl, hP, hK, hZ⟩ := hv
  have cx : Cxx D C adK adV (fxA A 60) p s m _ meth c cX3_store 2 RX3 none := ⟨B.exec, B.bytes, hml, findClass_of_methodNamed B.named, fun w h => atoms_spec (ws := Cond.code yX3_store cX3_store 2 none :: wsL_law) B.pre w (List.mem_cons_of_mem _ h), hK, B.returns, B.notSynchronized, hZ⟩
  obtain ⟨hx, hb, -, hown, hts, -, hr, hlk, -⟩ := id cx
  have hS : va_S (fxA A 60) s.heap s.heap [] := va_S.rf
  have hl := lv_entry ([.ref (A 25), .int x1]) (n := 2) (Nat.le_of_ble_eq_true rfl)
  rw [lg_entry_eq]
  generalize (lg_sl ([.ref (A 25), .int x1]) ++ List.replicate (2 - (lg_sl ([.ref (A 25), .int x1])).length) Slot.unset).toArray = ls at hl ⊢
  have hl : lv_has ls 2 [(0, .ref (A 25)), (1, .int x1)] := hl
  show W p l e rm_X3_store s m _ below meth c s.heap [] 0 0 _ _
  refine lv_aload_n hx hb dX3_store_0 rfl (lv_at hl 0 rfl) ?_
  refine gX_25_2 hx hb hts hown hK hP (hts _ kw_99) dX3_store_1 ?_
  refine lv_iconst (v := 0) hx hb dX3_store_4 (by decide) ?_
  refine lv_aload_n hx hb dX3_store_5 rfl (lv_at hl 0 rfl) ?_
  refine gX_25_7 hx hb hts hown hK hP (hts _ kw_106) dX3_store_6 ?_
  refine lv_iload_n hx hb dX3_store_9 rfl (lv_at hl 1 rfl) ?_
  obtain ⟨z1, hf⟩ := gd_some hf
  have q2 := (ib_in z1)
  refine gX_keptr hx hb hK hP q2 dX3_store_10 ?_
  refine lv_iconst (v := 0) hx hb dX3_store_11 (by decide) ?_
  refine lv_bipush (v := 40) hx hb dX3_store_12 (by decide) ?_
  refine va_copyi hx hb (hml.trans hl.1.symm) hown (hts _ kw_998) (hts _ kw_529) (hts _ kw_530) (hts _ kw_531) hK hP (wX_D hA C _) hS 26 (32 + x1.toNatClampNeg) 1 1 (wX_26 A C _) (wX_kq A C _ (vp_lt q2)) rfl rfl rfl (by decide) (by decide) (by decide) (by decide) (by decide) (fun _ _ => rfl) (Nat.le_of_ble_eq_true rfl) (by decide) dX3_store_14 (fun H locs hP _ hS => ?_)
  have hP := wX_kset (vp_lt q2) hP
  have hP : va_P D vwCl (wX A C (sA σ (32 + x1.toNatClampNeg) (va_cpy (σ.2.1 26) (σ.2.1 (32 + x1.toNatClampNeg)) 0 0 40))) H := hP
  refine lv_aload_n hx hb dX3_store_17 rfl (lv_at hl 0 rfl) ?_
  refine gX_25_8 hx hb hts hown hK hP (hts _ kw_107) dX3_store_18 ?_
  refine lv_iload_n hx hb dX3_store_21 rfl (lv_at hl 1 rfl) ?_
  refine lv_iconst (v := 1) hx hb dX3_store_22 (by decide) ?_
  refine pX_a36 hx hb hK hP hA hS (ib_in z1) dX3_store_23 (fun H locs hP hS => ?_)
  have hP : va_P D vwCl (wX A C (sA (sA σ (32 + x1.toNatClampNeg) (va_cpy (σ.2.1 26) (σ.2.1 (32 + x1.toNatClampNeg)) 0 0 40)) 36 (upd ((sA σ (32 + x1.toNatClampNeg) (va_cpy (σ.2.1 26) (σ.2.1 (32 + x1.toNatClampNeg)) 0 0 40)).2.1 36) x1.toNatClampNeg (vp_nar .boolean 1)))) H := hP
  exact cx_vret cx hP hS hf dX3_store_24
set_option maxHeartbeats 4000000 in
set_option maxRecDepth 100000 in
theorem ct_xX10_keep (l : Launch) (D : va_G) (C : Nat → ClassId) (A adK adV : Nat → Nat) (hA : apA A 60) {x1 : Int32} {σ : St} {res : (Int32 × St)} (hf : F_xX10_keep x1 σ = some res) : Met l yX10_keep (Cond.code yX10_keep cX10_keep 2 (some .int) :: wsL_law) rm_X10_keep (Pcx D C (wX A C) adK adV (fxA A 60) [.ref (A 0), .int x1] σ) (Qcx D (wX A C) (fxA A 60) (some (.int res.1)) res.2) 0 0 (fxA A 60) := by
  refine Met.ofW (cc := cX10_keep) (maxL := 2) (ret := (some .int)) (by decide) rfl ?_
  intro p e s m args below meth c s₁ B hml hv
  obtain ⟨rfl, hP, hK, hZ⟩ := hv
  have cx : Cxx D C adK adV (fxA A 60) p s m _ meth c cX10_keep 2 RX10 (some .int) := ⟨B.exec, B.bytes, hml, findClass_of_methodNamed B.named, fun w h => atoms_spec (ws := Cond.code yX10_keep cX10_keep 2 (some .int) :: wsL_law) B.pre w (List.mem_cons_of_mem _ h), hK, B.returns, B.notSynchronized, hZ⟩
  obtain ⟨hx, hb, -, hown, hts, -, hr, hlk, -⟩ := id cx
  have hS : va_S (fxA A 60) s.heap s.heap [] := va_S.rf
  have hl := lv_entry ([.ref (A 0), .int x1]) (n := 2) (Nat.le_of_ble_eq_true rfl)
  rw [lg_entry_eq]
  generalize (lg_sl ([.ref (A 0), .int x1]) ++ List.replicate (2 - (lg_sl ([.ref (A 0), .int x1])).length) Slot.unset).toArray = ls at hl ⊢
  have hl : lv_has ls 2 [(0, .ref (A 0)), (1, .int x1)] := hl
  show W p l e rm_X10_keep s m _ below meth c s.heap [] 0 0 _ _
  refine lv_iload_n hx hb dX10_keep_0 rfl (lv_at hl 1 rfl) ?_
  refine lv_if_lt (tgt := 9) hx hb dX10_keep_1 (by decide) (fun c1 => ?_) (fun c1 => ?_)
  · have hf := (if_pos c1).symm.trans hf
    refine lv_bipush (v := (-2)) hx hb dX10_keep_9 (by decide) ?_
    exact cx_iret cx hP hS hf dX10_keep_11
  · have hf := (if_neg c1).symm.trans hf
    refine lv_iload_n hx hb dX10_keep_4 rfl (lv_at hl 1 rfl) ?_
    refine lv_iconst (v := 4) hx hb dX10_keep_5 (by decide) ?_
    refine lv_icmp_lt (tgt := 12) hx hb dX10_keep_6 (by decide) (fun c2 => ?_) (fun c2 => ?_)
    · have hf := (if_pos c2).symm.trans hf
      refine lv_aload_n hx hb dX10_keep_12 rfl (lv_at hl 0 rfl) ?_
      refine gX_0_3 hx hb hts hown hK hP (hts _ kw_28) dX10_keep_13 ?_
      refine gX_10_0 hx hb hts hown hK hP (v := (σ.1 11)) rfl (hts _ kw_220) dX10_keep_16 ?_
      refine lv_if_ne (tgt := 25) hx hb dX10_keep_19 (by decide) (fun c3 => ?_) (fun c3 => ?_)
      · have hf := (if_neg c3).symm.trans hf
        refine lv_aload_n hx hb dX10_keep_25 rfl (lv_at hl 0 rfl) ?_
        refine gX_0_5 hx hb hts hown hK hP (hts _ kw_36) dX10_keep_26 ?_
        refine lv_iload_n hx hb dX10_keep_29 rfl (lv_at hl 1 rfl) ?_
        obtain ⟨σ_r4, h_r4, hf⟩ := bv_some hf
        refine cx_V (As := [.int x1]) (rest := []) cx (ct_xX3_store l D C A adK adV hA h_r4) (cw_X10_216 hts ⟨Nat.le_of_ble_eq_true rfl, Nat.le_of_ble_eq_true rfl⟩) (va_recv hK hP (ci := 3) (q0 := 25) rfl (wX_25 A C _)) hP hS rfl hl.1 rfl (Nat.le_of_ble_eq_true rfl) dX10_keep_30 ⟨Nat.zero_le _, Nat.zero_le _⟩ (fun H locs hP hS => ?_)
        refine lv_iconst (v := 1) hx hb dX10_keep_33 (by decide) ?_
        exact cx_iret cx hP hS hf dX10_keep_34
      · have hf := (if_pos c3).symm.trans hf
        refine lv_bipush (v := (-4)) hx hb dX10_keep_22 (by decide) ?_
        exact cx_iret cx hP hS hf dX10_keep_24
    · have hf := (if_neg c2).symm.trans hf
      refine lv_bipush (v := (-2)) hx hb dX10_keep_9 (by decide) ?_
      exact cx_iret cx hP hS hf dX10_keep_11
set_option maxHeartbeats 4000000 in
set_option maxRecDepth 100000 in
theorem w_F_xX3_canRecall_13 {p : Program} {l : Launch} {e : Env} {s : State} {m : MethodId} {args : Array Value} {below : List Frame} {meth : Method} {c : Code} {D : va_G} {C : Nat → ClassId} {A adK adV : Nat → Nat} (hA : apA A 60) (cx : Cxx D C adK adV (fxA A 60) p s m args meth c cX3_canRecall 4 RX3 (some .boolean)) {res : (Int32 × St)} : ∀ (n : Nat), ∀ (x1 : Int32) (x2 : Int32) (σ : St) (H : Heap) (locs : List Loc) (ls : Array Slot), F_xX3_canRecall_13 n x1 x2 σ = some res → lv_has ls 4 [(0, .ref (A 25)), (1, .int x1), (2, .int x2)] → va_P D vwCl (wX A C σ) H → va_S (fxA A 60) s.heap H locs → W p l e rm_X3_canRecall s m args below meth c H locs 0 0 (MQ below (Qcx D (wX A C) (fxA A 60) (some (.int res.1)) res.2) args s 0 0 (fxA A 60)) (F0 m 13 ls []) := by
  obtain ⟨hx, hb, hml, hown, hts, hK, hr, hlk, hZ⟩ := id cx
  intro n
  induction n with
  | zero =>
    intro x1 x2 σ H locs ls hf hl hP hS
    exact absurd (show (none : Option (Int32 × St)) = some res from hf) (by intro h; cases h)
  | succ n ih =>
    intro x1 x2 σ H locs ls hf hl hP hS
    refine lv_iload_n hx hb dX3_canRecall_13 rfl (lv_at hl 2 rfl) ?_
    refine lv_aload_n hx hb dX3_canRecall_14 rfl (lv_at hl 0 rfl) ?_
    refine gX_25_1 hx hb hts hown hK hP (v := (σ.1 17)) rfl (hts _ kw_377) dX3_canRecall_15 ?_
    refine lv_icmp_ge (tgt := 64) hx hb dX3_canRecall_18 (by decide) (fun c1 => ?_) (fun c1 => ?_)
    · have hf := (if_pos c1).symm.trans hf
      refine lv_iconst (v := 1) hx hb dX3_canRecall_64 (by decide) ?_
      exact cx_zret cx rfl hP hS hf dX3_canRecall_65
    · have hf := (if_neg c1).symm.trans hf
      refine lv_iload_n hx hb dX3_canRecall_21 rfl (lv_at hl 2 rfl) ?_
      refine lv_bipush (v := 40) hx hb dX3_canRecall_22 (by decide) ?_
      refine lv_icmp_ge (tgt := 64) hx hb dX3_canRecall_24 (by decide) (fun c2 => ?_) (fun c2 => ?_)
      · have hf := (if_pos c2).symm.trans hf
        refine lv_iconst (v := 1) hx hb dX3_canRecall_64 (by decide) ?_
        exact cx_zret cx rfl hP hS hf dX3_canRecall_65
      · have hf := (if_neg c2).symm.trans hf
        refine lv_aload_n hx hb dX3_canRecall_27 rfl (lv_at hl 0 rfl) ?_
        refine gX_25_7 hx hb hts hown hK hP (hts _ kw_106) dX3_canRecall_28 ?_
        refine lv_iload_n hx hb dX3_canRecall_31 rfl (lv_at hl 1 rfl) ?_
        obtain ⟨z3, hf⟩ := gd_some hf
        have q4 := (ib_in z3)
        refine gX_keptr hx hb hK hP q4 dX3_canRecall_32 ?_
        refine lv_iload_n hx hb dX3_canRecall_33 rfl (lv_at hl 2 rfl) ?_
        obtain ⟨z5, hf⟩ := gd_some hf
        refine gX_keptq hx hb hK hP q4 (ib_in z5) (v := ((σ.2.1 (32 + x1.toNatClampNeg)) x2.toNatClampNeg)) rfl dX3_canRecall_34 ?_
        refine lv_istore_n (lv' := [(3, .int ((σ.2.1 (32 + x1.toNatClampNeg)) x2.toNatClampNeg)), (0, .ref (A 25)), (1, .int x1), (2, .int x2)]) hx hb dX3_canRecall_35 rfl hl (by decide) rfl (fun ls hl => ?_)
        refine lv_iload_n hx hb dX3_canRecall_36 rfl (lv_at hl 0 rfl) ?_
        refine lv_if_lt (tgt := 56) hx hb dX3_canRecall_37 (by decide) (fun c6 => ?_) (fun c6 => ?_)
        · have hf := (if_pos c6).symm.trans hf
          refine lv_iconst (v := 0) hx hb dX3_canRecall_56 (by decide) ?_
          exact cx_zret cx rfl hP hS hf dX3_canRecall_57
        · have hf := (if_neg c6).symm.trans hf
          refine lv_iload_n hx hb dX3_canRecall_40 rfl (lv_at hl 0 rfl) ?_
          refine lv_sipush (v := 128) hx hb dX3_canRecall_41 (by decide) ?_
          refine lv_icmp_ge (tgt := 56) hx hb dX3_canRecall_44 (by decide) (fun c7 => ?_) (fun c7 => ?_)
          · have hf := (if_pos c7).symm.trans hf
            refine lv_iconst (v := 0) hx hb dX3_canRecall_56 (by decide) ?_
            exact cx_zret cx rfl hP hS hf dX3_canRecall_57
          · have hf := (if_neg c7).symm.trans hf
            refine lv_aload_n hx hb dX3_canRecall_47 rfl (lv_at hl 1 rfl) ?_
            refine gX_25_6 hx hb hts hown hK hP (hts _ kw_104) dX3_canRecall_48 ?_
            refine lv_iload_n hx hb dX3_canRecall_51 rfl (lv_at hl 0 rfl) ?_
            obtain ⟨z8, hf⟩ := gd_some hf
            refine gX_a30 hx hb hK hP (ib_in z8) (v := (σ.2.1 30 ((σ.2.1 (32 + x1.toNatClampNeg)) x2.toNatClampNeg).toNatClampNeg)) rfl dX3_canRecall_52 ?_
            refine lv_if_eq (tgt := 58) hx hb dX3_canRecall_53 (by decide) (fun c9 => ?_) (fun c9 => ?_)
            · have hf := (if_pos c9).symm.trans hf
              refine lv_iinc (v := (x2 + 1)) (lv' := [(2, .int (x2 + 1)), (3, .int ((σ.2.1 (32 + x1.toNatClampNeg)) x2.toNatClampNeg)), (0, .ref (A 25)), (1, .int x1)]) hx hb dX3_canRecall_58 hl (k := 3) rfl rfl (by decide) rfl (fun ls hl => ?_)
              refine lv_goto (tgt := 13) hx hb dX3_canRecall_61 (by decide) ?_
              exact ih _ _ _ _ _ _ hf (lv_sub hl [2, 3, 0] rfl) hP hS
            · have hf := (if_neg c9).symm.trans hf
              refine lv_iconst (v := 0) hx hb dX3_canRecall_56 (by decide) ?_
              exact cx_zret cx rfl hP hS hf dX3_canRecall_57
set_option maxHeartbeats 4000000 in
set_option maxRecDepth 100000 in
theorem ct_xX3_canRecall (l : Launch) (D : va_G) (C : Nat → ClassId) (A adK adV : Nat → Nat) (hA : apA A 60) {x1 : Int32} {σ : St} {res : (Int32 × St)} (hf : F_xX3_canRecall x1 σ = some res) : Met l yX3_canRecall (Cond.code yX3_canRecall cX3_canRecall 4 (some .boolean) :: wsL_law) rm_X3_canRecall (Pcx D C (wX A C) adK adV (fxA A 60) [.ref (A 25), .int x1] σ) (Qcx D (wX A C) (fxA A 60) (some (.int res.1)) res.2) 0 0 (fxA A 60) := by
  refine Met.ofW (cc := cX3_canRecall) (maxL := 4) (ret := (some .boolean)) (by decide) rfl ?_
  intro p e s m args below meth c s₁ B hml hv
  obtain ⟨rfl, hP, hK, hZ⟩ := hv
  have cx : Cxx D C adK adV (fxA A 60) p s m _ meth c cX3_canRecall 4 RX3 (some .boolean) := ⟨B.exec, B.bytes, hml, findClass_of_methodNamed B.named, fun w h => atoms_spec (ws := Cond.code yX3_canRecall cX3_canRecall 4 (some .boolean) :: wsL_law) B.pre w (List.mem_cons_of_mem _ h), hK, B.returns, B.notSynchronized, hZ⟩
  obtain ⟨hx, hb, -, hown, hts, -, hr, hlk, -⟩ := id cx
  have hS : va_S (fxA A 60) s.heap s.heap [] := va_S.rf
  have hl := lv_entry ([.ref (A 25), .int x1]) (n := 4) (Nat.le_of_ble_eq_true rfl)
  rw [lg_entry_eq]
  generalize (lg_sl ([.ref (A 25), .int x1]) ++ List.replicate (4 - (lg_sl ([.ref (A 25), .int x1])).length) Slot.unset).toArray = ls at hl ⊢
  have hl : lv_has ls 4 [(0, .ref (A 25)), (1, .int x1)] := hl
  show W p l e rm_X3_canRecall s m _ below meth c s.heap [] 0 0 _ _
  refine lv_aload_n hx hb dX3_canRecall_0 rfl (lv_at hl 0 rfl) ?_
  refine gX_25_8 hx hb hts hown hK hP (hts _ kw_107) dX3_canRecall_1 ?_
  refine lv_iload_n hx hb dX3_canRecall_4 rfl (lv_at hl 1 rfl) ?_
  obtain ⟨z10, hf⟩ := gd_some hf
  refine gX_a36 hx hb hK hP (ib_in z10) (v := (σ.2.1 36 x1.toNatClampNeg)) rfl dX3_canRecall_5 ?_
  refine lv_if_ne (tgt := 11) hx hb dX3_canRecall_6 (by decide) (fun c11 => ?_) (fun c11 => ?_)
  · have hf := (if_neg c11).symm.trans hf
    refine lv_iconst (v := 0) hx hb dX3_canRecall_11 (by decide) ?_
    refine lv_istore_n (lv' := [(2, .int 0), (0, .ref (A 25)), (1, .int x1)]) hx hb dX3_canRecall_12 rfl hl (by decide) rfl (fun ls hl => ?_)
    exact w_F_xX3_canRecall_13 hA cx FU _ _ _ _ _ _ hf (lv_sub hl [1, 2, 0] rfl) hP hS
  · have hf := (if_pos c11).symm.trans hf
    refine lv_iconst (v := 0) hx hb dX3_canRecall_9 (by decide) ?_
    exact cx_zret cx rfl hP hS hf dX3_canRecall_10
set_option maxHeartbeats 4000000 in
set_option maxRecDepth 100000 in
theorem w_F_xJ7_fill_53178v9_5 {p : Program} {l : Launch} {e : Env} {s : State} {m : MethodId} {args : Array Value} {below : List Frame} {meth : Method} {c : Code} {D : va_G} {C : Nat → ClassId} {A adK adV : Nat → Nat} (hA : apA A 60) (cx : Cxx D C adK adV (fxA A 60) p s m args meth c cJ7_fill_53178 4 RJ7 none) {res : St} : ∀ (n : Nat), ∀ (x1 : Int32) (x2 : Int32) (x3 : Int32) (σ : St) (H : Heap) (locs : List Loc) (ls : Array Slot), F_xJ7_fill_53178v9_5 n x1 x2 x3 σ = some res → lv_has ls 4 [(0, .ref (A 29)), (1, .int x1), (2, .int x2), (3, .int x3)] → va_P D vwCl (wX A C σ) H → va_S (fxA A 60) s.heap H locs → W p l e rm_J7_fill_53178 s m args below meth c H locs 0 0 (MQ below (Qcx D (wX A C) (fxA A 60) none res) args s 0 0 (fxA A 60)) (F0 m 5 ls []) := by
  obtain ⟨hx, hb, hml, hown, hts, hK, hr, hlk, hZ⟩ := id cx
  intro n
  induction n with
  | zero =>
    intro x1 x2 x3 σ H locs ls hf hl hP hS
    exact absurd (show (none : Option St) = some res from hf) (by intro h; cases h)
  | succ n ih =>
    intro x1 x2 x3 σ H locs ls hf hl hP hS
    refine lv_iload_n hx hb dJ7_fill_53178_5 rfl (lv_at hl 2 rfl) ?_
    refine lv_iload_n hx hb dJ7_fill_53178_6 rfl (lv_at hl 3 rfl) ?_
    refine lv_icmp_ge (tgt := 20) hx hb dJ7_fill_53178_7 (by decide) (fun c1 => ?_) (fun c1 => ?_)
    · have hf := (if_pos c1).symm.trans hf
      exact cx_vret cx hP hS hf dJ7_fill_53178_20
    · have hf := (if_neg c1).symm.trans hf
      refine lv_aload_n hx hb dJ7_fill_53178_10 rfl (lv_at hl 0 rfl) ?_
      refine lv_iload_n hx hb dJ7_fill_53178_11 rfl (lv_at hl 2 rfl) ?_
      refine lv_iload_n hx hb dJ7_fill_53178_12 rfl (lv_at hl 1 rfl) ?_
      obtain ⟨z2, hf⟩ := gd_some hf
      refine pX_a29 hx hb hK hP hA hS (ib_in z2) dJ7_fill_53178_13 (fun H locs hP hS => ?_)
      refine lv_iinc (v := (x2 + 1)) (lv' := [(2, .int (x2 + 1)), (0, .ref (A 29)), (1, .int x1), (3, .int x3)]) hx hb dJ7_fill_53178_14 hl (k := 2) rfl rfl (by decide) rfl (fun ls hl => ?_)
      refine lv_goto (tgt := 5) hx hb dJ7_fill_53178_17 (by decide) ?_
      have hP : va_P D vwCl (wX A C (sA σ 29 (upd (σ.2.1 29) x2.toNatClampNeg x1))) H := hP
      exact ih _ _ _ _ _ _ _ hf (lv_sub hl [1, 2, 0, 3] rfl) hP hS
set_option maxHeartbeats 4000000 in
set_option maxRecDepth 100000 in
theorem ct_xJ7_fill_53178v9 (l : Launch) (D : va_G) (C : Nat → ClassId) (A adK adV : Nat → Nat) (hA : apA A 60) {x1 : Int32} {σ : St} {res : St} (hf : F_xJ7_fill_53178v9 x1 σ = some res) : Met l yJ7_fill_53178 (Cond.code yJ7_fill_53178 cJ7_fill_53178 4 none :: wsL_law) rm_J7_fill_53178 (Pcx D C (wX A C) adK adV (fxA A 60) [.ref (A 29), .int x1] σ) (Qcx D (wX A C) (fxA A 60) none res) 0 0 (fxA A 60) := by
  refine Met.ofW (cc := cJ7_fill_53178) (maxL := 4) (ret := none) (by decide) rfl ?_
  intro p e s m args below meth c s₁ B hml hv
  obtain ⟨rfl, hP, hK, hZ⟩ := hv
  have cx : Cxx D C adK adV (fxA A 60) p s m _ meth c cJ7_fill_53178 4 RJ7 none := ⟨B.exec, B.bytes, hml, findClass_of_methodNamed B.named, fun w h => atoms_spec (ws := Cond.code yJ7_fill_53178 cJ7_fill_53178 4 none :: wsL_law) B.pre w (List.mem_cons_of_mem _ h), hK, B.returns, B.notSynchronized, hZ⟩
  obtain ⟨hx, hb, -, hown, hts, -, hr, hlk, -⟩ := id cx
  have hS : va_S (fxA A 60) s.heap s.heap [] := va_S.rf
  have hl := lv_entry ([.ref (A 29), .int x1]) (n := 4) (Nat.le_of_ble_eq_true rfl)
  rw [lg_entry_eq]
  generalize (lg_sl ([.ref (A 29), .int x1]) ++ List.replicate (4 - (lg_sl ([.ref (A 29), .int x1])).length) Slot.unset).toArray = ls at hl ⊢
  have hl : lv_has ls 4 [(0, .ref (A 29)), (1, .int x1)] := hl
  show W p l e rm_J7_fill_53178 s m _ below meth c s.heap [] 0 0 _ _
  refine lv_iconst (v := 0) hx hb dJ7_fill_53178_0 (by decide) ?_
  refine lv_istore_n (lv' := [(2, .int 0), (0, .ref (A 29)), (1, .int x1)]) hx hb dJ7_fill_53178_1 rfl hl (by decide) rfl (fun ls hl => ?_)
  refine lv_aload_n hx hb dJ7_fill_53178_2 rfl (lv_at hl 1 rfl) ?_
  refine va_alen hx hb hK hP 29 1 (wX_29 A C _) rfl (v := 128) rfl dJ7_fill_53178_3 ?_
  refine lv_istore_n (lv' := [(3, .int 128), (2, .int 0), (0, .ref (A 29)), (1, .int x1)]) hx hb dJ7_fill_53178_4 rfl hl (by decide) rfl (fun ls hl => ?_)
  exact w_F_xJ7_fill_53178v9_5 hA cx FU _ _ _ _ _ _ _ hf (lv_sub hl [2, 3, 1, 0] rfl) hP hS
set_option maxHeartbeats 4000000 in
set_option maxRecDepth 100000 in
theorem w_F_xX3_recall_10 {p : Program} {l : Launch} {e : Env} {s : State} {m : MethodId} {args : Array Value} {below : List Frame} {meth : Method} {c : Code} {D : va_G} {C : Nat → ClassId} {A adK adV : Nat → Nat} (hA : apA A 60) (cx : Cxx D C adK adV (fxA A 60) p s m args meth c cX3_recall 3 RX3 none) {res : St} : ∀ (n : Nat), ∀ (x1 : Int32) (x2 : Int32) (σ : St) (H : Heap) (locs : List Loc) (ls : Array Slot), F_xX3_recall_10 n x1 x2 σ = some res → lv_has ls 3 [(0, .ref (A 25)), (1, .int x1), (2, .int x2)] → va_P D vwCl (wX A C σ) H → va_S (fxA A 60) s.heap H locs → W p l e rm_X3_recall s m args below meth c H locs 0 0 (MQ below (Qcx D (wX A C) (fxA A 60) none res) args s 0 0 (fxA A 60)) (F0 m 10 ls []) := by
  obtain ⟨hx, hb, hml, hown, hts, hK, hr, hlk, hZ⟩ := id cx
  intro n
  induction n with
  | zero =>
    intro x1 x2 σ H locs ls hf hl hP hS
    exact absurd (show (none : Option St) = some res from hf) (by intro h; cases h)
  | succ n ih =>
    intro x1 x2 σ H locs ls hf hl hP hS
    refine lv_iload_n hx hb dX3_recall_10 rfl (lv_at hl 2 rfl) ?_
    refine lv_aload_n hx hb dX3_recall_11 rfl (lv_at hl 0 rfl) ?_
    refine gX_25_1 hx hb hts hown hK hP (v := (σ.1 17)) rfl (hts _ kw_377) dX3_recall_12 ?_
    refine lv_icmp_ge (tgt := 43) hx hb dX3_recall_15 (by decide) (fun c1 => ?_) (fun c1 => ?_)
    · have hf := (if_pos c1).symm.trans hf
      exact cx_vret cx hP hS hf dX3_recall_43
    · have hf := (if_neg c1).symm.trans hf
      refine lv_iload_n hx hb dX3_recall_18 rfl (lv_at hl 2 rfl) ?_
      refine lv_bipush (v := 40) hx hb dX3_recall_19 (by decide) ?_
      refine lv_icmp_ge (tgt := 43) hx hb dX3_recall_21 (by decide) (fun c2 => ?_) (fun c2 => ?_)
      · have hf := (if_pos c2).symm.trans hf
        exact cx_vret cx hP hS hf dX3_recall_43
      · have hf := (if_neg c2).symm.trans hf
        refine lv_aload_n hx hb dX3_recall_24 rfl (lv_at hl 0 rfl) ?_
        refine lv_iload_n hx hb dX3_recall_25 rfl (lv_at hl 2 rfl) ?_
        refine lv_aload_n hx hb dX3_recall_26 rfl (lv_at hl 0 rfl) ?_
        refine gX_25_7 hx hb hts hown hK hP (hts _ kw_106) dX3_recall_27 ?_
        refine lv_iload_n hx hb dX3_recall_30 rfl (lv_at hl 1 rfl) ?_
        obtain ⟨z3, hf⟩ := gd_some hf
        have q4 := (ib_in z3)
        refine gX_keptr hx hb hK hP q4 dX3_recall_31 ?_
        refine lv_iload_n hx hb dX3_recall_32 rfl (lv_at hl 2 rfl) ?_
        obtain ⟨z5, hf⟩ := gd_some hf
        refine gX_keptq hx hb hK hP q4 (ib_in z5) (v := ((σ.2.1 (32 + x1.toNatClampNeg)) x2.toNatClampNeg)) rfl dX3_recall_33 ?_
        obtain ⟨σ_r6, h_r6, hf⟩ := bv_some hf
        refine cx_V (As := [.int x2, .int ((σ.2.1 (32 + x1.toNatClampNeg)) x2.toNatClampNeg)]) (rest := []) cx (ct_xX3_put l D C A adK adV hA h_r6) (cw_X3_56 hts ⟨Nat.le_of_ble_eq_true rfl, Nat.le_of_ble_eq_true rfl⟩) (va_recv hK hP (ci := 3) (q0 := 25) rfl (wX_25 A C _)) hP hS rfl hl.1 rfl (Nat.le_of_ble_eq_true rfl) dX3_recall_34 ⟨Nat.zero_le _, Nat.zero_le _⟩ (fun H locs hP hS => ?_)
        refine lv_iinc (v := (x2 + 1)) (lv' := [(2, .int (x2 + 1)), (0, .ref (A 25)), (1, .int x1)]) hx hb dX3_recall_37 hl (k := 2) rfl rfl (by decide) rfl (fun ls hl => ?_)
        refine lv_goto (tgt := 10) hx hb dX3_recall_40 (by decide) ?_
        exact ih _ _ _ _ _ _ hf (lv_sub hl [1, 2, 0] rfl) hP hS
set_option maxHeartbeats 4000000 in
set_option maxRecDepth 100000 in
theorem ct_xX3_recall (l : Launch) (D : va_G) (C : Nat → ClassId) (A adK adV : Nat → Nat) (hA : apA A 60) {x1 : Int32} {σ : St} {res : St} (hf : F_xX3_recall x1 σ = some res) : Met l yX3_recall (Cond.code yX3_recall cX3_recall 3 none :: wsL_law) rm_X3_recall (Pcx D C (wX A C) adK adV (fxA A 60) [.ref (A 25), .int x1] σ) (Qcx D (wX A C) (fxA A 60) none res) 0 0 (fxA A 60) := by
  refine Met.ofW (cc := cX3_recall) (maxL := 3) (ret := none) (by decide) rfl ?_
  intro p e s m args below meth c s₁ B hml hv
  obtain ⟨rfl, hP, hK, hZ⟩ := hv
  have cx : Cxx D C adK adV (fxA A 60) p s m _ meth c cX3_recall 3 RX3 none := ⟨B.exec, B.bytes, hml, findClass_of_methodNamed B.named, fun w h => atoms_spec (ws := Cond.code yX3_recall cX3_recall 3 none :: wsL_law) B.pre w (List.mem_cons_of_mem _ h), hK, B.returns, B.notSynchronized, hZ⟩
  obtain ⟨hx, hb, -, hown, hts, -, hr, hlk, -⟩ := id cx
  have hS : va_S (fxA A 60) s.heap s.heap [] := va_S.rf
  have hl := lv_entry ([.ref (A 25), .int x1]) (n := 3) (Nat.le_of_ble_eq_true rfl)
  rw [lg_entry_eq]
  generalize (lg_sl ([.ref (A 25), .int x1]) ++ List.replicate (3 - (lg_sl ([.ref (A 25), .int x1])).length) Slot.unset).toArray = ls at hl ⊢
  have hl : lv_has ls 3 [(0, .ref (A 25)), (1, .int x1)] := hl
  show W p l e rm_X3_recall s m _ below meth c s.heap [] 0 0 _ _
  refine lv_aload_n hx hb dX3_recall_0 rfl (lv_at hl 0 rfl) ?_
  refine gX_25_5 hx hb hts hown hK hP (hts _ kw_102) dX3_recall_1 ?_
  refine lv_iconst (v := (-1)) hx hb dX3_recall_4 (by decide) ?_
  obtain ⟨σ_r7, h_r7, hf⟩ := bv_some hf
  refine cx_S (As := [.ref (A 29), .int (-1)]) (rest := []) cx (ct_xJ7_fill_53178v9 l D C A adK adV hA h_r7) (cw_X3_40 hts ⟨Nat.le_of_ble_eq_true rfl, Nat.le_of_ble_eq_true rfl⟩) hP hS rfl hl.1 rfl (Nat.le_of_ble_eq_true rfl) dX3_recall_5 ⟨Nat.zero_le _, Nat.zero_le _⟩ (fun H locs hP hS => ?_)
  refine lv_iconst (v := 0) hx hb dX3_recall_8 (by decide) ?_
  refine lv_istore_n (lv' := [(2, .int 0), (0, .ref (A 25)), (1, .int x1)]) hx hb dX3_recall_9 rfl hl (by decide) rfl (fun ls hl => ?_)
  exact w_F_xX3_recall_10 hA cx FU _ _ _ _ _ _ hf (lv_sub hl [1, 2, 0] rfl) hP hS
set_option maxHeartbeats 4000000 in
set_option maxRecDepth 100000 in
theorem ct_xX10_take (l : Launch) (D : va_G) (C : Nat → ClassId) (A adK adV : Nat → Nat) (hA : apA A 60) {x1 : Int32} {σ : St} {res : (Int32 × St)} (hf : F_xX10_take x1 σ = some res) : Met l yX10_take (Cond.code yX10_take cX10_take 2 (some .int) :: wsL_law) rm_X10_take (Pcx D C (wX A C) adK adV (fxA A 60) [.ref (A 0), .int x1] σ) (Qcx D (wX A C) (fxA A 60) (some (.int res.1)) res.2) 0 0 (fxA A 60) := by
  refine Met.ofW (cc := cX10_take) (maxL := 2) (ret := (some .int)) (by decide) rfl ?_
  intro p e s m args below meth c s₁ B hml hv
  obtain ⟨rfl, hP, hK, hZ⟩ := hv
  have cx : Cxx D C adK adV (fxA A 60) p s m _ meth c cX10_take 2 RX10 (some .int) := ⟨B.exec, B.bytes, hml, findClass_of_methodNamed B.named, fun w h => atoms_spec (ws := Cond.code yX10_take cX10_take 2 (some .int) :: wsL_law) B.pre w (List.mem_cons_of_mem _ h), hK, B.returns, B.notSynchronized, hZ⟩
  obtain ⟨hx, hb, -, hown, hts, -, hr, hlk, -⟩ := id cx
  have hS : va_S (fxA A 60) s.heap s.heap [] := va_S.rf
  have hl := lv_entry ([.ref (A 0), .int x1]) (n := 2) (Nat.le_of_ble_eq_true rfl)
  rw [lg_entry_eq]
  generalize (lg_sl ([.ref (A 0), .int x1]) ++ List.replicate (2 - (lg_sl ([.ref (A 0), .int x1])).length) Slot.unset).toArray = ls at hl ⊢
  have hl : lv_has ls 2 [(0, .ref (A 0)), (1, .int x1)] := hl
  show W p l e rm_X10_take s m _ below meth c s.heap [] 0 0 _ _
  refine lv_iload_n hx hb dX10_take_0 rfl (lv_at hl 1 rfl) ?_
  refine lv_if_lt (tgt := 9) hx hb dX10_take_1 (by decide) (fun c1 => ?_) (fun c1 => ?_)
  · have hf := (if_pos c1).symm.trans hf
    refine lv_bipush (v := (-2)) hx hb dX10_take_9 (by decide) ?_
    exact cx_iret cx hP hS hf dX10_take_11
  · have hf := (if_neg c1).symm.trans hf
    refine lv_iload_n hx hb dX10_take_4 rfl (lv_at hl 1 rfl) ?_
    refine lv_iconst (v := 4) hx hb dX10_take_5 (by decide) ?_
    refine lv_icmp_lt (tgt := 12) hx hb dX10_take_6 (by decide) (fun c2 => ?_) (fun c2 => ?_)
    · have hf := (if_pos c2).symm.trans hf
      refine lv_aload_n hx hb dX10_take_12 rfl (lv_at hl 0 rfl) ?_
      refine gX_0_5 hx hb hts hown hK hP (hts _ kw_36) dX10_take_13 ?_
      refine lv_iload_n hx hb dX10_take_16 rfl (lv_at hl 1 rfl) ?_
      obtain ⟨⟨r3, σ_r3⟩, h_r3, hf⟩ := bd_some hf
      refine cx_V (As := [.int x1]) (rest := []) cx (ct_xX3_canRecall l D C A adK adV hA h_r3) (cw_X10_219 hts ⟨Nat.le_of_ble_eq_true rfl, Nat.le_of_ble_eq_true rfl⟩) (va_recv hK hP (ci := 3) (q0 := 25) rfl (wX_25 A C _)) hP hS rfl hl.1 rfl (Nat.le_of_ble_eq_true rfl) dX10_take_17 ⟨Nat.zero_le _, Nat.zero_le _⟩ (fun H locs hP hS => ?_)
      refine lv_if_ne (tgt := 26) hx hb dX10_take_20 (by decide) (fun c4 => ?_) (fun c4 => ?_)
      · have hf := (if_neg c4).symm.trans hf
        refine lv_aload_n hx hb dX10_take_26 rfl (lv_at hl 0 rfl) ?_
        refine gX_0_5 hx hb hts hown hK hP (hts _ kw_36) dX10_take_27 ?_
        refine lv_iload_n hx hb dX10_take_30 rfl (lv_at hl 1 rfl) ?_
        obtain ⟨σ_r5, h_r5, hf⟩ := bv_some hf
        refine cx_V (As := [.int x1]) (rest := []) cx (ct_xX3_recall l D C A adK adV hA h_r5) (cw_X10_222 hts ⟨Nat.le_of_ble_eq_true rfl, Nat.le_of_ble_eq_true rfl⟩) (va_recv hK hP (ci := 3) (q0 := 25) rfl (wX_25 A C _)) hP hS rfl hl.1 rfl (Nat.le_of_ble_eq_true rfl) dX10_take_31 ⟨Nat.zero_le _, Nat.zero_le _⟩ (fun H locs hP hS => ?_)
        refine lv_aload_n hx hb dX10_take_34 rfl (lv_at hl 0 rfl) ?_
        refine gX_0_6 hx hb hts hown hK hP (hts _ kw_40) dX10_take_35 ?_
        refine lv_aload_n hx hb dX10_take_38 rfl (lv_at hl 0 rfl) ?_
        refine gX_0_3 hx hb hts hown hK hP (hts _ kw_28) dX10_take_39 ?_
        obtain ⟨σ_r6, h_r6, hf⟩ := bv_some hf
        refine cx_V (As := [.ref (A 10)]) (rest := []) cx (ct_xX0_follow l D C A adK adV hA h_r6) (cw_X10_152 hts ⟨Nat.le_of_ble_eq_true rfl, Nat.le_of_ble_eq_true rfl⟩) (va_recv hK hP (ci := 0) (q0 := 37) rfl (wX_37 A C _)) hP hS rfl hl.1 rfl (Nat.le_of_ble_eq_true rfl) dX10_take_42 ⟨Nat.zero_le _, Nat.zero_le _⟩ (fun H locs hP hS => ?_)
        refine lv_aload_n hx hb dX10_take_45 rfl (lv_at hl 0 rfl) ?_
        refine gX_0_5 hx hb hts hown hK hP (hts _ kw_36) dX10_take_46 ?_
        refine lv_aload_n hx hb dX10_take_49 rfl (lv_at hl 0 rfl) ?_
        refine gX_0_6 hx hb hts hown hK hP (hts _ kw_40) dX10_take_50 ?_
        obtain ⟨⟨r7, σ_r7⟩, h_r7, hf⟩ := bd_some hf
        refine cx_V (As := [.ref (A 37)]) (rest := []) cx (ct_xX3_timeOf l D C A adK adV hA h_r7) (cw_X10_190 hts ⟨Nat.le_of_ble_eq_true rfl, Nat.le_of_ble_eq_true rfl⟩) (va_recv hK hP (ci := 3) (q0 := 25) rfl (wX_25 A C _)) hP hS rfl hl.1 rfl (Nat.le_of_ble_eq_true rfl) dX10_take_53 ⟨Nat.zero_le _, Nat.zero_le _⟩ (fun H locs hP hS => ?_)
        exact cx_iret cx hP hS hf dX10_take_56
      · have hf := (if_pos c4).symm.trans hf
        refine lv_bipush (v := (-4)) hx hb dX10_take_23 (by decide) ?_
        exact cx_iret cx hP hS hf dX10_take_25
    · have hf := (if_neg c2).symm.trans hf
      refine lv_bipush (v := (-2)) hx hb dX10_take_9 (by decide) ?_
      exact cx_iret cx hP hS hf dX10_take_11
set_option maxHeartbeats 4000000 in
set_option maxRecDepth 100000 in
theorem w_F_xX10_longest_121 {p : Program} {l : Launch} {e : Env} {s : State} {m : MethodId} {args : Array Value} {below : List Frame} {meth : Method} {c : Code} {D : va_G} {C : Nat → ClassId} {A adK adV : Nat → Nat} (hA : apA A 60) (cx : Cxx D C adK adV (fxA A 60) p s m args meth c cX10_longest 10 RX10 (some .int)) {res : (Int32 × St)} {b64 : Int32 → Int32 → Int32 → Int32 → Int32 → Int32 → Int32 → Int32 → St → Option (Int32 × St)} (hb64 : ∀ (x1 : Int32) (x2 : Int32) (x3 : Int32) (x4 : Int32) (x5 : Int32) (x6 : Int32) (x7 : Int32) (x8 : Int32) (σ : St) (H : Heap) (locs : List Loc) (ls : Array Slot), b64 x1 x2 x3 x4 x5 x6 x7 x8 σ = some res → lv_has ls 10 [(0, .ref (A 0)), (1, .int x1), (2, .int x2), (3, .int x3), (4, .int x4), (5, .int x5), (6, .int x6), (7, .int x7), (8, .int x8)] → va_P D vwCl (wX A C σ) H → va_S (fxA A 60) s.heap H locs → W p l e rm_X10_longest s m args below meth c H locs 0 0 (MQ below (Qcx D (wX A C) (fxA A 60) (some (.int res.1)) res.2) args s 0 0 (fxA A 60)) (F0 m 64 ls [])) : ∀ (x1 : Int32) (x2 : Int32) (x3 : Int32) (x4 : Int32) (x5 : Int32) (x6 : Int32) (x7 : Int32) (x8 : Int32) (y0 : Int32) (σ : St) (H : Heap) (locs : List Loc) (ls : Array Slot), F_xX10_longest_121 b64 x1 x2 x3 x4 x5 x6 x7 x8 y0 σ = some res → lv_has ls 10 [(0, .ref (A 0)), (1, .int x1), (2, .int x2), (3, .int x3), (4, .int x4), (5, .int x5), (6, .int x6), (7, .int x7), (8, .int x8)] → va_P D vwCl (wX A C σ) H → va_S (fxA A 60) s.heap H locs → W p l e rm_X10_longest s m args below meth c H locs 0 0 (MQ below (Qcx D (wX A C) (fxA A 60) (some (.int res.1)) res.2) args s 0 0 (fxA A 60)) (F0 m 121 ls [.int y0]) := by
  obtain ⟨hx, hb, hml, hown, hts, hK, hr, hlk, hZ⟩ := id cx
  intro x1 x2 x3 x4 x5 x6 x7 x8 y0 σ H locs ls hf hl hP hS
  refine lv_istore (lv' := [(9, .int y0), (0, .ref (A 0)), (1, .int x1), (2, .int x2), (3, .int x3), (4, .int x4), (5, .int x5), (6, .int x6), (7, .int x7), (8, .int x8)]) hx hb dX10_longest_121 hl (by decide) rfl (fun ls hl => ?_)
  refine lv_iload hx hb dX10_longest_123 (lv_at hl 0 rfl) ?_
  refine lv_iload hx hb dX10_longest_125 (lv_at hl 7 rfl) ?_
  refine lv_icmp_le (tgt := 140) hx hb dX10_longest_127 (by decide) (fun c1 => ?_) (fun c1 => ?_)
  · have hf := (if_pos c1).symm.trans hf
    refine lv_iinc (v := (x8 + 1)) (lv' := [(8, .int (x8 + 1)), (9, .int y0), (0, .ref (A 0)), (1, .int x1), (2, .int x2), (3, .int x3), (4, .int x4), (5, .int x5), (6, .int x6), (7, .int x7)]) hx hb dX10_longest_140 hl (k := 9) rfl rfl (by decide) rfl (fun ls hl => ?_)
    refine lv_goto (tgt := 64) hx hb dX10_longest_143 (by decide) ?_
    exact hb64 _ _ _ _ _ _ _ _ _ _ _ _ hf (lv_sub hl [2, 3, 4, 5, 6, 7, 8, 9, 0] rfl) hP hS
  · have hf := (if_neg c1).symm.trans hf
    refine lv_iload hx hb dX10_longest_130 (lv_at hl 0 rfl) ?_
    refine lv_istore (lv' := [(6, .int y0), (9, .int y0), (0, .ref (A 0)), (1, .int x1), (2, .int x2), (3, .int x3), (4, .int x4), (5, .int x5), (7, .int x7), (8, .int x8)]) hx hb dX10_longest_132 hl (by decide) rfl (fun ls hl => ?_)
    refine lv_iload_n hx hb dX10_longest_134 rfl (lv_at hl 4 rfl) ?_
    refine lv_iload hx hb dX10_longest_135 (lv_at hl 9 rfl) ?_
    refine lv_iadd hx hb dX10_longest_137 ?_
    refine lv_istore (lv' := [(7, .int (x2 + x8)), (6, .int y0), (9, .int y0), (0, .ref (A 0)), (1, .int x1), (2, .int x2), (3, .int x3), (4, .int x4), (5, .int x5), (8, .int x8)]) hx hb dX10_longest_138 hl (by decide) rfl (fun ls hl => ?_)
    refine lv_iinc (v := (x8 + 1)) (lv' := [(8, .int (x8 + 1)), (7, .int (x2 + x8)), (6, .int y0), (9, .int y0), (0, .ref (A 0)), (1, .int x1), (2, .int x2), (3, .int x3), (4, .int x4), (5, .int x5)]) hx hb dX10_longest_140 hl (k := 9) rfl rfl (by decide) rfl (fun ls hl => ?_)
    refine lv_goto (tgt := 64) hx hb dX10_longest_143 (by decide) ?_
    exact hb64 _ _ _ _ _ _ _ _ _ _ _ _ hf (lv_sub hl [4, 5, 6, 7, 8, 9, 2, 1, 0] rfl) hP hS
set_option maxHeartbeats 4000000 in
set_option maxRecDepth 100000 in
theorem w_F_xX10_longest_64 {p : Program} {l : Launch} {e : Env} {s : State} {m : MethodId} {args : Array Value} {below : List Frame} {meth : Method} {c : Code} {D : va_G} {C : Nat → ClassId} {A adK adV : Nat → Nat} (hA : apA A 60) (cx : Cxx D C adK adV (fxA A 60) p s m args meth c cX10_longest 10 RX10 (some .int)) {res : (Int32 × St)} : ∀ (n : Nat), ∀ (x1 : Int32) (x2 : Int32) (x3 : Int32) (x4 : Int32) (x5 : Int32) (x6 : Int32) (x7 : Int32) (x8 : Int32) (σ : St) (H : Heap) (locs : List Loc) (ls : Array Slot), F_xX10_longest_64 n x1 x2 x3 x4 x5 x6 x7 x8 σ = some res → lv_has ls 10 [(0, .ref (A 0)), (1, .int x1), (2, .int x2), (3, .int x3), (4, .int x4), (5, .int x5), (6, .int x6), (7, .int x7), (8, .int x8)] → va_P D vwCl (wX A C σ) H → va_S (fxA A 60) s.heap H locs → W p l e rm_X10_longest s m args below meth c H locs 0 0 (MQ below (Qcx D (wX A C) (fxA A 60) (some (.int res.1)) res.2) args s 0 0 (fxA A 60)) (F0 m 64 ls []) := by
  obtain ⟨hx, hb, hml, hown, hts, hK, hr, hlk, hZ⟩ := id cx
  intro n
  induction n with
  | zero =>
    intro x1 x2 x3 x4 x5 x6 x7 x8 σ H locs ls hf hl hP hS
    exact absurd (show (none : Option (Int32 × St)) = some res from hf) (by intro h; cases h)
  | succ n ih =>
    intro x1 x2 x3 x4 x5 x6 x7 x8 σ H locs ls hf hl hP hS
    refine lv_iload hx hb dX10_longest_64 (lv_at hl 8 rfl) ?_
    refine lv_iload_n hx hb dX10_longest_66 rfl (lv_at hl 3 rfl) ?_
    refine lv_iload_n hx hb dX10_longest_67 rfl (lv_at hl 2 rfl) ?_
    refine lv_isub hx hb dX10_longest_68 ?_
    refine lv_icmp_gt (tgt := 146) hx hb dX10_longest_69 (by decide) (fun c2 => ?_) (fun c2 => ?_)
    · have hf := (if_pos c2).symm.trans hf
      refine lv_aload_n hx hb dX10_longest_146 rfl (lv_at hl 0 rfl) ?_
      refine gX_0_3 hx hb hts hown hK hP (hts _ kw_28) dX10_longest_147 ?_
      refine gX_10_2 hx hb hts hown hK hP (hts _ kw_578) dX10_longest_150 ?_
      refine lv_iload_n hx hb dX10_longest_153 rfl (lv_at hl 1 rfl) ?_
      refine lv_iload hx hb dX10_longest_154 (lv_at hl 5 rfl) ?_
      obtain ⟨z3, hf⟩ := gd_some hf
      refine pX_a11 hx hb hK hP hA hS (ib_in z3) dX10_longest_156 (fun H locs hP hS => ?_)
      refine lv_iload hx hb dX10_longest_157 (lv_at hl 6 rfl) ?_
      refine lv_iconst (v := (-1)) hx hb dX10_longest_159 (by decide) ?_
      refine lv_icmp_ne (tgt := 166) hx hb dX10_longest_160 (by decide) (fun c4 => ?_) (fun c4 => ?_)
      · have hf := (if_neg c4).symm.trans hf
        refine lv_iload hx hb dX10_longest_166 (lv_at hl 4 rfl) ?_
        refine lv_if_ne (tgt := 176) hx hb dX10_longest_168 (by decide) (fun c5 => ?_) (fun c5 => ?_)
        · have hf := (if_neg c5).symm.trans hf
          refine lv_iload hx hb dX10_longest_176 (lv_at hl 7 rfl) ?_
          have hP : va_P D vwCl (wX A C (sA σ 11 (upd (σ.2.1 11) x1.toNatClampNeg x5))) H := hP
          exact cx_iret cx hP hS hf dX10_longest_178
        · have hf := (if_pos c5).symm.trans hf
          refine lv_iload hx hb dX10_longest_171 (lv_at hl 6 rfl) ?_
          refine lv_goto (tgt := 178) hx hb dX10_longest_173 (by decide) ?_
          have hP : va_P D vwCl (wX A C (sA σ 11 (upd (σ.2.1 11) x1.toNatClampNeg x5))) H := hP
          exact cx_iret cx hP hS hf dX10_longest_178
      · have hf := (if_pos c4).symm.trans hf
        refine lv_bipush (v := (-4)) hx hb dX10_longest_163 (by decide) ?_
        have hP : va_P D vwCl (wX A C (sA σ 11 (upd (σ.2.1 11) x1.toNatClampNeg x5))) H := hP
        exact cx_iret cx hP hS hf dX10_longest_165
    · have hf := (if_neg c2).symm.trans hf
      refine lv_aload_n hx hb dX10_longest_72 rfl (lv_at hl 0 rfl) ?_
      refine gX_0_3 hx hb hts hown hK hP (hts _ kw_28) dX10_longest_73 ?_
      refine gX_10_2 hx hb hts hown hK hP (hts _ kw_578) dX10_longest_76 ?_
      refine lv_iload_n hx hb dX10_longest_79 rfl (lv_at hl 1 rfl) ?_
      refine lv_iload_n hx hb dX10_longest_80 rfl (lv_at hl 2 rfl) ?_
      refine lv_iload hx hb dX10_longest_81 (lv_at hl 8 rfl) ?_
      refine lv_iadd hx hb dX10_longest_83 ?_
      obtain ⟨z6, hf⟩ := gd_some hf
      refine pX_a11 hx hb hK hP hA hS (ib_in z6) dX10_longest_84 (fun H locs hP hS => ?_)
      refine lv_aload_n hx hb dX10_longest_85 rfl (lv_at hl 0 rfl) ?_
      refine gX_0_6 hx hb hts hown hK hP (hts _ kw_40) dX10_longest_86 ?_
      refine lv_aload_n hx hb dX10_longest_89 rfl (lv_at hl 0 rfl) ?_
      refine gX_0_3 hx hb hts hown hK hP (hts _ kw_28) dX10_longest_90 ?_
      have hP : va_P D vwCl (wX A C (sA σ 11 (upd (σ.2.1 11) x1.toNatClampNeg (x2 + x8)))) H := hP
      obtain ⟨σ_r7, h_r7, hf⟩ := bv_some hf
      refine cx_V (As := [.ref (A 10)]) (rest := []) cx (ct_xX0_follow l D C A adK adV hA h_r7) (cw_X10_152 hts ⟨Nat.le_of_ble_eq_true rfl, Nat.le_of_ble_eq_true rfl⟩) (va_recv hK hP (ci := 0) (q0 := 37) rfl (wX_37 A C _)) hP hS rfl hl.1 rfl (Nat.le_of_ble_eq_true rfl) dX10_longest_93 ⟨Nat.zero_le _, Nat.zero_le _⟩ (fun H locs hP hS => ?_)
      refine lv_aload_n hx hb dX10_longest_96 rfl (lv_at hl 0 rfl) ?_
      refine gX_0_6 hx hb hts hown hK hP (hts _ kw_40) dX10_longest_97 ?_
      refine gX_37_4 hx hb hts hown hK hP (v := (σ_r7.1 19)) rfl (hts _ kw_1024) dX10_longest_100 ?_
      refine lv_if_ne (tgt := 120) hx hb dX10_longest_103 (by decide) (fun c8 => ?_) (fun c8 => ?_)
      · have hf := (if_neg c8).symm.trans hf
        refine lv_iconst (v := (-1)) hx hb dX10_longest_120 (by decide) ?_
        exact w_F_xX10_longest_121 hA cx ih _ _ _ _ _ _ _ _ _ _ _ _ _ hf (lv_sub hl [0, 1, 2, 3, 4, 5, 6, 7, 8] rfl) hP hS
      · have hf := (if_pos c8).symm.trans hf
        refine lv_aload_n hx hb dX10_longest_106 rfl (lv_at hl 0 rfl) ?_
        refine gX_0_5 hx hb hts hown hK hP (hts _ kw_36) dX10_longest_107 ?_
        refine lv_aload_n hx hb dX10_longest_110 rfl (lv_at hl 0 rfl) ?_
        refine gX_0_6 hx hb hts hown hK hP (hts _ kw_40) dX10_longest_111 ?_
        obtain ⟨⟨r9, σ_r9⟩, h_r9, hf⟩ := bd_some hf
        refine cx_V (As := [.ref (A 37)]) (rest := []) cx (ct_xX3_timeOf l D C A adK adV hA h_r9) (cw_X10_190 hts ⟨Nat.le_of_ble_eq_true rfl, Nat.le_of_ble_eq_true rfl⟩) (va_recv hK hP (ci := 3) (q0 := 25) rfl (wX_25 A C _)) hP hS rfl hl.1 rfl (Nat.le_of_ble_eq_true rfl) dX10_longest_114 ⟨Nat.zero_le _, Nat.zero_le _⟩ (fun H locs hP hS => ?_)
        refine lv_goto (tgt := 121) hx hb dX10_longest_117 (by decide) ?_
        exact w_F_xX10_longest_121 hA cx ih _ _ _ _ _ _ _ _ _ _ _ _ _ hf (lv_sub hl [0, 1, 2, 3, 4, 5, 6, 7, 8] rfl) hP hS
set_option maxHeartbeats 4000000 in
set_option maxRecDepth 100000 in
theorem w_F_xX10_longest_44 {p : Program} {l : Launch} {e : Env} {s : State} {m : MethodId} {args : Array Value} {below : List Frame} {meth : Method} {c : Code} {D : va_G} {C : Nat → ClassId} {A adK adV : Nat → Nat} (hA : apA A 60) (cx : Cxx D C adK adV (fxA A 60) p s m args meth c cX10_longest 10 RX10 (some .int)) {res : (Int32 × St)} : ∀ (x1 : Int32) (x2 : Int32) (x3 : Int32) (x4 : Int32) (σ : St) (H : Heap) (locs : List Loc) (ls : Array Slot), F_xX10_longest_44 x1 x2 x3 x4 σ = some res → lv_has ls 10 [(0, .ref (A 0)), (1, .int x1), (2, .int x2), (3, .int x3), (4, .int x4)] → va_P D vwCl (wX A C σ) H → va_S (fxA A 60) s.heap H locs → W p l e rm_X10_longest s m args below meth c H locs 0 0 (MQ below (Qcx D (wX A C) (fxA A 60) (some (.int res.1)) res.2) args s 0 0 (fxA A 60)) (F0 m 44 ls []) := by
  obtain ⟨hx, hb, hml, hown, hts, hK, hr, hlk, hZ⟩ := id cx
  intro x1 x2 x3 x4 σ H locs ls hf hl hP hS
  refine lv_aload_n hx hb dX10_longest_44 rfl (lv_at hl 0 rfl) ?_
  refine gX_0_3 hx hb hts hown hK hP (hts _ kw_28) dX10_longest_45 ?_
  refine gX_10_2 hx hb hts hown hK hP (hts _ kw_578) dX10_longest_48 ?_
  refine lv_iload_n hx hb dX10_longest_51 rfl (lv_at hl 1 rfl) ?_
  obtain ⟨z10, hf⟩ := gd_some hf
  refine gX_a11 hx hb hK hP (ib_in z10) (v := (σ.2.1 11 x1.toNatClampNeg)) rfl dX10_longest_52 ?_
  refine lv_istore (lv' := [(5, .int (σ.2.1 11 x1.toNatClampNeg)), (0, .ref (A 0)), (1, .int x1), (2, .int x2), (3, .int x3), (4, .int x4)]) hx hb dX10_longest_53 hl (by decide) rfl (fun ls hl => ?_)
  refine lv_iconst (v := (-1)) hx hb dX10_longest_55 (by decide) ?_
  refine lv_istore (lv' := [(6, .int (-1)), (5, .int (σ.2.1 11 x1.toNatClampNeg)), (0, .ref (A 0)), (1, .int x1), (2, .int x2), (3, .int x3), (4, .int x4)]) hx hb dX10_longest_56 hl (by decide) rfl (fun ls hl => ?_)
  refine lv_iload_n hx hb dX10_longest_58 rfl (lv_at hl 4 rfl) ?_
  refine lv_istore (lv' := [(7, .int x2), (6, .int (-1)), (5, .int (σ.2.1 11 x1.toNatClampNeg)), (0, .ref (A 0)), (1, .int x1), (2, .int x2), (3, .int x3), (4, .int x4)]) hx hb dX10_longest_59 hl (by decide) rfl (fun ls hl => ?_)
  refine lv_iconst (v := 0) hx hb dX10_longest_61 (by decide) ?_
  refine lv_istore (lv' := [(8, .int 0), (7, .int x2), (6, .int (-1)), (5, .int (σ.2.1 11 x1.toNatClampNeg)), (0, .ref (A 0)), (1, .int x1), (2, .int x2), (3, .int x3), (4, .int x4)]) hx hb dX10_longest_62 hl (by decide) rfl (fun ls hl => ?_)
  exact w_F_xX10_longest_64 hA cx FU _ _ _ _ _ _ _ _ _ _ _ _ hf (lv_sub hl [4, 5, 6, 7, 8, 3, 2, 1, 0] rfl) hP hS
set_option maxHeartbeats 4000000 in
set_option maxRecDepth 100000 in
theorem ct_xX10_longest (l : Launch) (D : va_G) (C : Nat → ClassId) (A adK adV : Nat → Nat) (hA : apA A 60) {x1 : Int32} {x2 : Int32} {x3 : Int32} {x4 : Int32} {σ : St} {res : (Int32 × St)} (hf : F_xX10_longest x1 x2 x3 x4 σ = some res) : Met l yX10_longest (Cond.code yX10_longest cX10_longest 10 (some .int) :: wsL_law) rm_X10_longest (Pcx D C (wX A C) adK adV (fxA A 60) [.ref (A 0), .int x1, .int x2, .int x3, .int x4] σ) (Qcx D (wX A C) (fxA A 60) (some (.int res.1)) res.2) 0 0 (fxA A 60) := by
  refine Met.ofW (cc := cX10_longest) (maxL := 10) (ret := (some .int)) (by decide) rfl ?_
  intro p e s m args below meth c s₁ B hml hv
  obtain ⟨rfl, hP, hK, hZ⟩ := hv
  have cx : Cxx D C adK adV (fxA A 60) p s m _ meth c cX10_longest 10 RX10 (some .int) := ⟨B.exec, B.bytes, hml, findClass_of_methodNamed B.named, fun w h => atoms_spec (ws := Cond.code yX10_longest cX10_longest 10 (some .int) :: wsL_law) B.pre w (List.mem_cons_of_mem _ h), hK, B.returns, B.notSynchronized, hZ⟩
  obtain ⟨hx, hb, -, hown, hts, -, hr, hlk, -⟩ := id cx
  have hS : va_S (fxA A 60) s.heap s.heap [] := va_S.rf
  have hl := lv_entry ([.ref (A 0), .int x1, .int x2, .int x3, .int x4]) (n := 10) (Nat.le_of_ble_eq_true rfl)
  rw [lg_entry_eq]
  generalize (lg_sl ([.ref (A 0), .int x1, .int x2, .int x3, .int x4]) ++ List.replicate (10 - (lg_sl ([.ref (A 0), .int x1, .int x2, .int x3, .int x4])).length) Slot.unset).toArray = ls at hl ⊢
  have hl : lv_has ls 10 [(0, .ref (A 0)), (1, .int x1), (2, .int x2), (3, .int x3), (4, .int x4)] := hl
  show W p l e rm_X10_longest s m _ below meth c s.heap [] 0 0 _ _
  refine lv_aload_n hx hb dX10_longest_0 rfl (lv_at hl 0 rfl) ?_
  refine gX_0_3 hx hb hts hown hK hP (hts _ kw_28) dX10_longest_1 ?_
  refine lv_iload_n hx hb dX10_longest_4 rfl (lv_at hl 1 rfl) ?_
  obtain ⟨⟨r11, σ_r11⟩, h_r11, hf⟩ := bd_some hf
  refine cx_V (As := [.int x1]) (rest := []) cx (ct_xX5_has l D C A adK adV hA h_r11) (cw_X10_145 hts ⟨Nat.le_of_ble_eq_true rfl, Nat.le_of_ble_eq_true rfl⟩) (va_recv hK hP (ci := 5) (q0 := 10) rfl (wX_10 A C _)) hP hS rfl hl.1 rfl (Nat.le_of_ble_eq_true rfl) dX10_longest_5 ⟨Nat.zero_le _, Nat.zero_le _⟩ (fun H locs hP hS => ?_)
  refine lv_if_eq (tgt := 28) hx hb dX10_longest_8 (by decide) (fun c12 => ?_) (fun c12 => ?_)
  · have hf := (if_pos c12).symm.trans hf
    refine lv_bipush (v := (-2)) hx hb dX10_longest_28 (by decide) ?_
    exact cx_iret cx hP hS hf dX10_longest_30
  · have hf := (if_neg c12).symm.trans hf
    refine lv_iload_n hx hb dX10_longest_11 rfl (lv_at hl 2 rfl) ?_
    refine lv_iload_n hx hb dX10_longest_12 rfl (lv_at hl 3 rfl) ?_
    refine lv_icmp_gt (tgt := 28) hx hb dX10_longest_13 (by decide) (fun c13 => ?_) (fun c13 => ?_)
    · have hf := (if_pos c13).symm.trans hf
      refine lv_bipush (v := (-2)) hx hb dX10_longest_28 (by decide) ?_
      exact cx_iret cx hP hS hf dX10_longest_30
    · have hf := (if_neg c13).symm.trans hf
      refine lv_iload_n hx hb dX10_longest_16 rfl (lv_at hl 3 rfl) ?_
      refine lv_i2l hx hb dX10_longest_17 rfl ?_
      refine lv_iload_n hx hb dX10_longest_18 rfl (lv_at hl 2 rfl) ?_
      refine lv_i2l hx hb dX10_longest_19 rfl ?_
      refine lv_lsub hx hb dX10_longest_20 ?_
      refine lv_ldc2 (v := 100) hx hb hown (hts _ kw_1023) dX10_longest_21 ?_
      refine W.lcmp hx hb dX10_longest_24 ?_
      refine lv_if_le (tgt := 31) hx hb dX10_longest_25 (by decide) (fun c14 => ?_) (fun c14 => ?_)
      · have hf := (if_pos c14).symm.trans hf
        refine lv_iload hx hb dX10_longest_31 (lv_at hl 4 rfl) ?_
        refine lv_if_eq (tgt := 44) hx hb dX10_longest_33 (by decide) (fun c15 => ?_) (fun c15 => ?_)
        · have hf := (if_pos c15).symm.trans hf
          exact w_F_xX10_longest_44 hA cx _ _ _ _ _ _ _ _ hf (lv_sub hl [0, 1, 2, 3, 4] rfl) hP hS
        · have hf := (if_neg c15).symm.trans hf
          refine lv_iload hx hb dX10_longest_36 (lv_at hl 4 rfl) ?_
          refine lv_iconst (v := 1) hx hb dX10_longest_38 (by decide) ?_
          refine lv_icmp_eq (tgt := 44) hx hb dX10_longest_39 (by decide) (fun c16 => ?_) (fun c16 => ?_)
          · have hf := (if_pos c16).symm.trans hf
            exact w_F_xX10_longest_44 hA cx _ _ _ _ _ _ _ _ hf (lv_sub hl [0, 1, 2, 3, 4] rfl) hP hS
          · have hf := (if_neg c16).symm.trans hf
            refine lv_iconst (v := (-1)) hx hb dX10_longest_42 (by decide) ?_
            exact cx_iret cx hP hS hf dX10_longest_43
      · have hf := (if_neg c14).symm.trans hf
        refine lv_bipush (v := (-2)) hx hb dX10_longest_28 (by decide) ?_
        exact cx_iret cx hP hS hf dX10_longest_30
set_option maxHeartbeats 4000000 in
set_option maxRecDepth 100000 in
theorem ct_xX10_step (l : Launch) (D : va_G) (C : Nat → ClassId) (A adK adV : Nat → Nat) (hA : apA A 60) {x1 : Int32} {x2 : Int32} {σ : St} {res : (Int32 × St)} (hf : F_xX10_step x1 x2 σ = some res) : Met l yX10_step (Cond.code yX10_step cX10_step 3 (some .int) :: wsL_law) rm_X10_step (Pcx D C (wX A C) adK adV (fxA A 60) [.ref (A 0), .int x1, .int x2] σ) (Qcx D (wX A C) (fxA A 60) (some (.int res.1)) res.2) 0 0 (fxA A 60) := by
  refine Met.ofW (cc := cX10_step) (maxL := 3) (ret := (some .int)) (by decide) rfl ?_
  intro p e s m args below meth c s₁ B hml hv
  obtain ⟨rfl, hP, hK, hZ⟩ := hv
  have cx : Cxx D C adK adV (fxA A 60) p s m _ meth c cX10_step 3 RX10 (some .int) := ⟨B.exec, B.bytes, hml, findClass_of_methodNamed B.named, fun w h => atoms_spec (ws := Cond.code yX10_step cX10_step 3 (some .int) :: wsL_law) B.pre w (List.mem_cons_of_mem _ h), hK, B.returns, B.notSynchronized, hZ⟩
  obtain ⟨hx, hb, -, hown, hts, -, hr, hlk, -⟩ := id cx
  have hS : va_S (fxA A 60) s.heap s.heap [] := va_S.rf
  have hl := lv_entry ([.ref (A 0), .int x1, .int x2]) (n := 3) (Nat.le_of_ble_eq_true rfl)
  rw [lg_entry_eq]
  generalize (lg_sl ([.ref (A 0), .int x1, .int x2]) ++ List.replicate (3 - (lg_sl ([.ref (A 0), .int x1, .int x2])).length) Slot.unset).toArray = ls at hl ⊢
  have hl : lv_has ls 3 [(0, .ref (A 0)), (1, .int x1), (2, .int x2)] := hl
  show W p l e rm_X10_step s m _ below meth c s.heap [] 0 0 _ _
  refine lv_iload_n hx hb dX10_step_0 rfl (lv_at hl 1 rfl) ?_
  refine lv_iconst (v := 2) hx hb dX10_step_1 (by decide) ?_
  refine lv_icmp_lt (tgt := 23) hx hb dX10_step_2 (by decide) (fun c1 => ?_) (fun c1 => ?_)
  · have hf := (if_pos c1).symm.trans hf
    refine lv_bipush (v := (-2)) hx hb dX10_step_23 (by decide) ?_
    exact cx_iret cx hP hS hf dX10_step_25
  · have hf := (if_neg c1).symm.trans hf
    refine lv_iload_n hx hb dX10_step_5 rfl (lv_at hl 1 rfl) ?_
    refine lv_bipush (v := 32) hx hb dX10_step_6 (by decide) ?_
    refine lv_icmp_gt (tgt := 23) hx hb dX10_step_8 (by decide) (fun c2 => ?_) (fun c2 => ?_)
    · have hf := (if_pos c2).symm.trans hf
      refine lv_bipush (v := (-2)) hx hb dX10_step_23 (by decide) ?_
      exact cx_iret cx hP hS hf dX10_step_25
    · have hf := (if_neg c2).symm.trans hf
      refine lv_iload_n hx hb dX10_step_11 rfl (lv_at hl 2 rfl) ?_
      refine lv_iconst (v := 1) hx hb dX10_step_12 (by decide) ?_
      refine lv_icmp_lt (tgt := 23) hx hb dX10_step_13 (by decide) (fun c3 => ?_) (fun c3 => ?_)
      · have hf := (if_pos c3).symm.trans hf
        refine lv_bipush (v := (-2)) hx hb dX10_step_23 (by decide) ?_
        exact cx_iret cx hP hS hf dX10_step_25
      · have hf := (if_neg c3).symm.trans hf
        refine lv_iload_n hx hb dX10_step_16 rfl (lv_at hl 2 rfl) ?_
        refine lv_sipush (v := 1000) hx hb dX10_step_17 (by decide) ?_
        refine lv_icmp_le (tgt := 26) hx hb dX10_step_20 (by decide) (fun c4 => ?_) (fun c4 => ?_)
        · have hf := (if_pos c4).symm.trans hf
          refine lv_aload_n hx hb dX10_step_26 rfl (lv_at hl 0 rfl) ?_
          refine gX_0_1 hx hb hts hown hK hP (hts _ kw_20) dX10_step_27 ?_
          refine lv_iload_n hx hb dX10_step_30 rfl (lv_at hl 1 rfl) ?_
          refine lv_iload_n hx hb dX10_step_31 rfl (lv_at hl 2 rfl) ?_
          obtain ⟨⟨r5, σ_r5⟩, h_r5, hf⟩ := bd_some hf
          refine cx_V (As := [.int x1, .int x2]) (rest := []) cx (ct_xX1_tableStep l D C A adK adV hA h_r5) (cw_X10_230 hts ⟨Nat.le_of_ble_eq_true rfl, Nat.le_of_ble_eq_true rfl⟩) (va_recv hK hP (ci := 1) (q0 := 3) rfl (wX_3 A C _)) hP hS rfl hl.1 rfl (Nat.le_of_ble_eq_true rfl) dX10_step_32 ⟨Nat.zero_le _, Nat.zero_le _⟩ (fun H locs hP hS => ?_)
          exact cx_iret cx hP hS hf dX10_step_35
        · have hf := (if_neg c4).symm.trans hf
          refine lv_bipush (v := (-2)) hx hb dX10_step_23 (by decide) ?_
          exact cx_iret cx hP hS hf dX10_step_25
set_option maxHeartbeats 4000000 in
set_option maxRecDepth 100000 in
theorem ct_xX10_known (l : Launch) (D : va_G) (C : Nat → ClassId) (A adK adV : Nat → Nat) (hA : apA A 60) {x1 : Int32} {σ : St} {res : (Int32 × St)} (hf : F_xX10_known x1 σ = some res) : Met l yX10_known (Cond.code yX10_known cX10_known 2 (some .int) :: wsL_law) rm_X10_known (Pcx D C (wX A C) adK adV (fxA A 60) [.ref (A 0), .int x1] σ) (Qcx D (wX A C) (fxA A 60) (some (.int res.1)) res.2) 0 0 (fxA A 60) := by
  refine Met.ofW (cc := cX10_known) (maxL := 2) (ret := (some .int)) (by decide) rfl ?_
  intro p e s m args below meth c s₁ B hml hv
  obtain ⟨rfl, hP, hK, hZ⟩ := hv
  have cx : Cxx D C adK adV (fxA A 60) p s m _ meth c cX10_known 2 RX10 (some .int) := ⟨B.exec, B.bytes, hml, findClass_of_methodNamed B.named, fun w h => atoms_spec (ws := Cond.code yX10_known cX10_known 2 (some .int) :: wsL_law) B.pre w (List.mem_cons_of_mem _ h), hK, B.returns, B.notSynchronized, hZ⟩
  obtain ⟨hx, hb, -, hown, hts, -, hr, hlk, -⟩ := id cx
  have hS : va_S (fxA A 60) s.heap s.heap [] := va_S.rf
  have hl := lv_entry ([.ref (A 0), .int x1]) (n := 2) (Nat.le_of_ble_eq_true rfl)
  rw [lg_entry_eq]
  generalize (lg_sl ([.ref (A 0), .int x1]) ++ List.replicate (2 - (lg_sl ([.ref (A 0), .int x1])).length) Slot.unset).toArray = ls at hl ⊢
  have hl : lv_has ls 2 [(0, .ref (A 0)), (1, .int x1)] := hl
  show W p l e rm_X10_known s m _ below meth c s.heap [] 0 0 _ _
  refine lv_aload_n hx hb dX10_known_0 rfl (lv_at hl 0 rfl) ?_
  refine gX_0_3 hx hb hts hown hK hP (hts _ kw_28) dX10_known_1 ?_
  refine lv_iload_n hx hb dX10_known_4 rfl (lv_at hl 1 rfl) ?_
  obtain ⟨⟨r1, σ_r1⟩, h_r1, hf⟩ := bd_some hf
  refine cx_V (As := [.int x1]) (rest := []) cx (ct_xX5_has l D C A adK adV hA h_r1) (cw_X10_145 hts ⟨Nat.le_of_ble_eq_true rfl, Nat.le_of_ble_eq_true rfl⟩) (va_recv hK hP (ci := 5) (q0 := 10) rfl (wX_10 A C _)) hP hS rfl hl.1 rfl (Nat.le_of_ble_eq_true rfl) dX10_known_5 ⟨Nat.zero_le _, Nat.zero_le _⟩ (fun H locs hP hS => ?_)
  refine lv_if_eq (tgt := 22) hx hb dX10_known_8 (by decide) (fun c2 => ?_) (fun c2 => ?_)
  · have hf := (if_pos c2).symm.trans hf
    refine lv_bipush (v := (-2)) hx hb dX10_known_22 (by decide) ?_
    exact cx_iret cx hP hS hf dX10_known_24
  · have hf := (if_neg c2).symm.trans hf
    refine lv_aload_n hx hb dX10_known_11 rfl (lv_at hl 0 rfl) ?_
    refine gX_0_3 hx hb hts hown hK hP (hts _ kw_28) dX10_known_12 ?_
    refine lv_iload_n hx hb dX10_known_15 rfl (lv_at hl 1 rfl) ?_
    obtain ⟨⟨r3, σ_r3⟩, h_r3, hf⟩ := bd_some hf
    refine cx_V (As := [.int x1]) (rest := []) cx (ct_xX5_kindOf l D C A adK adV hA h_r3) (cw_X10_233 hts ⟨Nat.le_of_ble_eq_true rfl, Nat.le_of_ble_eq_true rfl⟩) (va_recv hK hP (ci := 5) (q0 := 10) rfl (wX_10 A C _)) hP hS rfl hl.1 rfl (Nat.le_of_ble_eq_true rfl) dX10_known_16 ⟨Nat.zero_le _, Nat.zero_le _⟩ (fun H locs hP hS => ?_)
    refine lv_goto (tgt := 24) hx hb dX10_known_19 (by decide) ?_
    exact cx_iret cx hP hS hf dX10_known_24
set_option maxHeartbeats 4000000 in
set_option maxRecDepth 100000 in
theorem ct_xX10_job (l : Launch) (D : va_G) (C : Nat → ClassId) (A adK adV : Nat → Nat) (hA : apA A 60) {x1 : Int32} {x2 : Int32} {σ : St} {res : (Int32 × St)} (hf : F_xX10_job x1 x2 σ = some res) : Met l yX10_job (Cond.code yX10_job cX10_job 3 (some .int) :: wsL_law) rm_X10_job (Pcx D C (wX A C) adK adV (fxA A 60) [.ref (A 0), .int x1, .int x2] σ) (Qcx D (wX A C) (fxA A 60) (some (.int res.1)) res.2) 0 0 (fxA A 60) := by
  refine Met.ofW (cc := cX10_job) (maxL := 3) (ret := (some .int)) (by decide) rfl ?_
  intro p e s m args below meth c s₁ B hml hv
  obtain ⟨rfl, hP, hK, hZ⟩ := hv
  have cx : Cxx D C adK adV (fxA A 60) p s m _ meth c cX10_job 3 RX10 (some .int) := ⟨B.exec, B.bytes, hml, findClass_of_methodNamed B.named, fun w h => atoms_spec (ws := Cond.code yX10_job cX10_job 3 (some .int) :: wsL_law) B.pre w (List.mem_cons_of_mem _ h), hK, B.returns, B.notSynchronized, hZ⟩
  obtain ⟨hx, hb, -, hown, hts, -, hr, hlk, -⟩ := id cx
  have hS : va_S (fxA A 60) s.heap s.heap [] := va_S.rf
  have hl := lv_entry ([.ref (A 0), .int x1, .int x2]) (n := 3) (Nat.le_of_ble_eq_true rfl)
  rw [lg_entry_eq]
  generalize (lg_sl ([.ref (A 0), .int x1, .int x2]) ++ List.replicate (3 - (lg_sl ([.ref (A 0), .int x1, .int x2])).length) Slot.unset).toArray = ls at hl ⊢
  have hl : lv_has ls 3 [(0, .ref (A 0)), (1, .int x1), (2, .int x2)] := hl
  show W p l e rm_X10_job s m _ below meth c s.heap [] 0 0 _ _
  refine lv_iload_n hx hb dX10_job_0 rfl (lv_at hl 1 rfl) ?_
  refine lv_iconst (v := 1) hx hb dX10_job_1 (by decide) ?_
  refine lv_icmp_lt (tgt := 23) hx hb dX10_job_2 (by decide) (fun c1 => ?_) (fun c1 => ?_)
  · have hf := (if_pos c1).symm.trans hf
    refine lv_bipush (v := (-2)) hx hb dX10_job_23 (by decide) ?_
    exact cx_iret cx hP hS hf dX10_job_25
  · have hf := (if_neg c1).symm.trans hf
    refine lv_iload_n hx hb dX10_job_5 rfl (lv_at hl 1 rfl) ?_
    refine lv_sipush (v := 9999) hx hb dX10_job_6 (by decide) ?_
    refine lv_icmp_gt (tgt := 23) hx hb dX10_job_9 (by decide) (fun c2 => ?_) (fun c2 => ?_)
    · have hf := (if_pos c2).symm.trans hf
      refine lv_bipush (v := (-2)) hx hb dX10_job_23 (by decide) ?_
      exact cx_iret cx hP hS hf dX10_job_25
    · have hf := (if_neg c2).symm.trans hf
      refine lv_iload_n hx hb dX10_job_12 rfl (lv_at hl 2 rfl) ?_
      refine lv_iconst (v := 1) hx hb dX10_job_13 (by decide) ?_
      refine lv_icmp_lt (tgt := 23) hx hb dX10_job_14 (by decide) (fun c3 => ?_) (fun c3 => ?_)
      · have hf := (if_pos c3).symm.trans hf
        refine lv_bipush (v := (-2)) hx hb dX10_job_23 (by decide) ?_
        exact cx_iret cx hP hS hf dX10_job_25
      · have hf := (if_neg c3).symm.trans hf
        refine lv_iload_n hx hb dX10_job_17 rfl (lv_at hl 2 rfl) ?_
        refine lv_ldc (v := 99999) hx hb hown (hts _ kw_1079) dX10_job_18 ?_
        refine lv_icmp_le (tgt := 26) hx hb dX10_job_20 (by decide) (fun c4 => ?_) (fun c4 => ?_)
        · have hf := (if_pos c4).symm.trans hf
          refine lv_aload_n hx hb dX10_job_26 rfl (lv_at hl 0 rfl) ?_
          refine gX_0_9 hx hb hts hown hK hP (hts _ kw_52) dX10_job_27 ?_
          refine lv_iload_n hx hb dX10_job_30 rfl (lv_at hl 1 rfl) ?_
          refine lv_iload_n hx hb dX10_job_31 rfl (lv_at hl 2 rfl) ?_
          obtain ⟨⟨r5, σ_r5⟩, h_r5, hf⟩ := bd_some hf
          refine cx_V (As := [.int x1, .int x2]) (rest := []) cx (ct_xX4_append l D C A adK adV hA h_r5) (cw_X10_237 hts ⟨Nat.le_of_ble_eq_true rfl, Nat.le_of_ble_eq_true rfl⟩) (va_recv hK hP (ci := 4) (q0 := 56) rfl (wX_56 A C _)) hP hS rfl hl.1 rfl (Nat.le_of_ble_eq_true rfl) dX10_job_32 ⟨Nat.zero_le _, Nat.zero_le _⟩ (fun H locs hP hS => ?_)
          exact cx_iret cx hP hS hf dX10_job_35
        · have hf := (if_neg c4).symm.trans hf
          refine lv_bipush (v := (-2)) hx hb dX10_job_23 (by decide) ?_
          exact cx_iret cx hP hS hf dX10_job_25
set_option maxHeartbeats 4000000 in
set_option maxRecDepth 100000 in
theorem ct_xX10_night (l : Launch) (D : va_G) (C : Nat → ClassId) (A adK adV : Nat → Nat) (hA : apA A 60)  {σ : St} {res : (Int32 × St)} (hf : F_xX10_night σ = some res) : Met l yX10_night (Cond.code yX10_night cX10_night 1 (some .int) :: wsL_law) rm_X10_night (Pcx D C (wX A C) adK adV (fxA A 60) [.ref (A 0)] σ) (Qcx D (wX A C) (fxA A 60) (some (.int res.1)) res.2) 0 0 (fxA A 60) := by
  refine Met.ofW (cc := cX10_night) (maxL := 1) (ret := (some .int)) (by decide) rfl ?_
  intro p e s m args below meth c s₁ B hml hv
  obtain ⟨rfl, hP, hK, hZ⟩ := hv
  have cx : Cxx D C adK adV (fxA A 60) p s m _ meth c cX10_night 1 RX10 (some .int) := ⟨B.exec, B.bytes, hml, findClass_of_methodNamed B.named, fun w h => atoms_spec (ws := Cond.code yX10_night cX10_night 1 (some .int) :: wsL_law) B.pre w (List.mem_cons_of_mem _ h), hK, B.returns, B.notSynchronized, hZ⟩
  obtain ⟨hx, hb, -, hown, hts, -, hr, hlk, -⟩ := id cx
  have hS : va_S (fxA A 60) s.heap s.heap [] := va_S.rf
  have hl := lv_entry ([.ref (A 0)]) (n := 1) (Nat.le_of_ble_eq_true rfl)
  rw [lg_entry_eq]
  generalize (lg_sl ([.ref (A 0)]) ++ List.replicate (1 - (lg_sl ([.ref (A 0)])).length) Slot.unset).toArray = ls at hl ⊢
  have hl : lv_has ls 1 [(0, .ref (A 0))] := hl
  show W p l e rm_X10_night s m _ below meth c s.heap [] 0 0 _ _
  refine lv_aload_n hx hb dX10_night_0 rfl (lv_at hl 0 rfl) ?_
  refine gX_0_9 hx hb hts hown hK hP (hts _ kw_52) dX10_night_1 ?_
  obtain ⟨⟨r1, σ_r1⟩, h_r1, hf⟩ := bd_some hf
  refine cx_V (As := []) (rest := []) cx (ct_xX4_bestSet l D C A adK adV hA h_r1) (cw_X10_239 hts ⟨Nat.le_of_ble_eq_true rfl, Nat.le_of_ble_eq_true rfl⟩) (va_recv hK hP (ci := 4) (q0 := 56) rfl (wX_56 A C _)) hP hS rfl hl.1 rfl (Nat.le_of_ble_eq_true rfl) dX10_night_4 ⟨Nat.zero_le _, Nat.zero_le _⟩ (fun H locs hP hS => ?_)
  exact cx_iret cx hP hS hf dX10_night_7
set_option maxHeartbeats 4000000 in
set_option maxRecDepth 100000 in
theorem w_F_xX3_begin_27 {p : Program} {l : Launch} {e : Env} {s : State} {m : MethodId} {args : Array Value} {below : List Frame} {meth : Method} {c : Code} {D : va_G} {C : Nat → ClassId} {A adK adV : Nat → Nat} (hA : apA A 60) (cx : Cxx D C adK adV (fxA A 60) p s m args meth c cX3_begin 3 RX3 none) {res : St} : ∀ (n : Nat), ∀ (x1 : Int32) (x2 : Int32) (σ : St) (H : Heap) (locs : List Loc) (ls : Array Slot), F_xX3_begin_27 n x1 x2 σ = some res → lv_has ls 3 [(0, .ref (A 25)), (1, .int x1), (2, .int x2)] → va_P D vwCl (wX A C σ) H → va_S (fxA A 60) s.heap H locs → W p l e rm_X3_begin s m args below meth c H locs 0 0 (MQ below (Qcx D (wX A C) (fxA A 60) none res) args s 0 0 (fxA A 60)) (F0 m 27 ls []) := by
  obtain ⟨hx, hb, hml, hown, hts, hK, hr, hlk, hZ⟩ := id cx
  intro n
  induction n with
  | zero =>
    intro x1 x2 σ H locs ls hf hl hP hS
    exact absurd (show (none : Option St) = some res from hf) (by intro h; cases h)
  | succ n ih =>
    intro x1 x2 σ H locs ls hf hl hP hS
    refine lv_iload_n hx hb dX3_begin_27 rfl (lv_at hl 2 rfl) ?_
    refine lv_sipush (v := 128) hx hb dX3_begin_28 (by decide) ?_
    refine lv_icmp_ge (tgt := 101) hx hb dX3_begin_31 (by decide) (fun c1 => ?_) (fun c1 => ?_)
    · have hf := (if_pos c1).symm.trans hf
      exact cx_vret cx hP hS hf dX3_begin_101
    · have hf := (if_neg c1).symm.trans hf
      refine lv_aload_n hx hb dX3_begin_34 rfl (lv_at hl 0 rfl) ?_
      refine gX_25_6 hx hb hts hown hK hP (hts _ kw_104) dX3_begin_35 ?_
      refine lv_iload_n hx hb dX3_begin_38 rfl (lv_at hl 2 rfl) ?_
      refine lv_iconst (v := 0) hx hb dX3_begin_39 (by decide) ?_
      obtain ⟨z2, hf⟩ := gd_some hf
      refine pX_a30 hx hb hK hP hA hS (ib_in z2) dX3_begin_40 (fun H locs hP hS => ?_)
      refine lv_aload_n hx hb dX3_begin_41 rfl (lv_at hl 0 rfl) ?_
      refine gX_25_5 hx hb hts hown hK hP (hts _ kw_102) dX3_begin_42 ?_
      refine lv_iload_n hx hb dX3_begin_45 rfl (lv_at hl 2 rfl) ?_
      refine lv_iconst (v := (-1)) hx hb dX3_begin_46 (by decide) ?_
      refine pX_a29 hx hb hK hP hA hS (ib_in z2) dX3_begin_47 (fun H locs hP hS => ?_)
      refine lv_aload_n hx hb dX3_begin_48 rfl (lv_at hl 0 rfl) ?_
      refine gX_25_1 hx hb hts hown hK hP (v := (σ.1 17)) rfl (hts _ kw_377) dX3_begin_49 ?_
      refine lv_iload_n hx hb dX3_begin_52 rfl (lv_at hl 1 rfl) ?_
      refine lv_icmp_ge (tgt := 95) hx hb dX3_begin_53 (by decide) (fun c3 => ?_) (fun c3 => ?_)
      · have hf := (if_pos c3).symm.trans hf
        refine lv_iinc (v := (x2 + 1)) (lv' := [(2, .int (x2 + 1)), (0, .ref (A 25)), (1, .int x1)]) hx hb dX3_begin_95 hl (k := 2) rfl rfl (by decide) rfl (fun ls hl => ?_)
        refine lv_goto (tgt := 27) hx hb dX3_begin_98 (by decide) ?_
        have hP : va_P D vwCl (wX A C (sA (sA σ 29 (upd (σ.2.1 29) x2.toNatClampNeg (-1))) 30 (upd (σ.2.1 30) x2.toNatClampNeg (vp_nar .boolean 0)))) H := hP
        exact ih _ _ _ _ _ _ hf (lv_sub hl [1, 2, 0] rfl) hP hS
      · have hf := (if_neg c3).symm.trans hf
        refine lv_aload_n hx hb dX3_begin_56 rfl (lv_at hl 0 rfl) ?_
        refine gX_25_1 hx hb hts hown hK hP (v := (σ.1 17)) rfl (hts _ kw_377) dX3_begin_57 ?_
        refine lv_bipush (v := 40) hx hb dX3_begin_60 (by decide) ?_
        refine lv_icmp_ge (tgt := 95) hx hb dX3_begin_62 (by decide) (fun c4 => ?_) (fun c4 => ?_)
        · have hf := (if_pos c4).symm.trans hf
          refine lv_iinc (v := (x2 + 1)) (lv' := [(2, .int (x2 + 1)), (0, .ref (A 25)), (1, .int x1)]) hx hb dX3_begin_95 hl (k := 2) rfl rfl (by decide) rfl (fun ls hl => ?_)
          refine lv_goto (tgt := 27) hx hb dX3_begin_98 (by decide) ?_
          have hP : va_P D vwCl (wX A C (sA (sA σ 29 (upd (σ.2.1 29) x2.toNatClampNeg (-1))) 30 (upd (σ.2.1 30) x2.toNatClampNeg (vp_nar .boolean 0)))) H := hP
          exact ih _ _ _ _ _ _ hf (lv_sub hl [1, 2, 0] rfl) hP hS
        · have hf := (if_neg c4).symm.trans hf
          refine lv_aload_n hx hb dX3_begin_65 rfl (lv_at hl 0 rfl) ?_
          refine gX_25_0 hx hb hts hown hK hP (hts _ kw_108) dX3_begin_66 ?_
          refine lv_iload_n hx hb dX3_begin_69 rfl (lv_at hl 2 rfl) ?_
          have hP : va_P D vwCl (wX A C (sA (sA σ 29 (upd (σ.2.1 29) x2.toNatClampNeg (-1))) 30 (upd (σ.2.1 30) x2.toNatClampNeg (vp_nar .boolean 0)))) H := hP
          obtain ⟨⟨r5, σ_r5⟩, h_r5, hf⟩ := bd_some hf
          refine cx_V (As := [.int x2]) (rest := []) cx (ct_xX1_hasSpot l D C A adK adV hA h_r5) (cw_X3_50 hts ⟨Nat.le_of_ble_eq_true rfl, Nat.le_of_ble_eq_true rfl⟩) (va_recv hK hP (ci := 1) (q0 := 3) rfl (wX_3 A C _)) hP hS rfl hl.1 rfl (Nat.le_of_ble_eq_true rfl) dX3_begin_70 ⟨Nat.zero_le _, Nat.zero_le _⟩ (fun H locs hP hS => ?_)
          refine lv_if_eq (tgt := 95) hx hb dX3_begin_73 (by decide) (fun c6 => ?_) (fun c6 => ?_)
          · have hf := (if_pos c6).symm.trans hf
            refine lv_iinc (v := (x2 + 1)) (lv' := [(2, .int (x2 + 1)), (0, .ref (A 25)), (1, .int x1)]) hx hb dX3_begin_95 hl (k := 2) rfl rfl (by decide) rfl (fun ls hl => ?_)
            refine lv_goto (tgt := 27) hx hb dX3_begin_98 (by decide) ?_
            exact ih _ _ _ _ _ _ hf (lv_sub hl [1, 2, 0] rfl) hP hS
          · have hf := (if_neg c6).symm.trans hf
            refine lv_aload_n hx hb dX3_begin_76 rfl (lv_at hl 0 rfl) ?_
            refine lv_aload_n hx hb dX3_begin_77 rfl (lv_at hl 0 rfl) ?_
            refine gX_25_1 hx hb hts hown hK hP (v := (σ_r5.1 17)) rfl (hts _ kw_377) dX3_begin_78 ?_
            refine lv_iload_n hx hb dX3_begin_81 rfl (lv_at hl 2 rfl) ?_
            obtain ⟨σ_r7, h_r7, hf⟩ := bv_some hf
            refine cx_V (As := [.int (σ_r5.1 17), .int x2]) (rest := []) cx (ct_xX3_put l D C A adK adV hA h_r7) (cw_X3_56 hts ⟨Nat.le_of_ble_eq_true rfl, Nat.le_of_ble_eq_true rfl⟩) (va_recv hK hP (ci := 3) (q0 := 25) rfl (wX_25 A C _)) hP hS rfl hl.1 rfl (Nat.le_of_ble_eq_true rfl) dX3_begin_82 ⟨Nat.zero_le _, Nat.zero_le _⟩ (fun H locs hP hS => ?_)
            refine lv_aload_n hx hb dX3_begin_85 rfl (lv_at hl 0 rfl) ?_
            refine lv_dup hx hb dX3_begin_86 rfl ?_
            refine gX_25_1 hx hb hts hown hK hP (v := (σ_r7.1 17)) rfl (hts _ kw_377) dX3_begin_87 ?_
            refine lv_iconst (v := 1) hx hb dX3_begin_90 (by decide) ?_
            refine lv_iadd hx hb dX3_begin_91 ?_
            refine pX_25_1 hx hb hts hown hK hP hA hS (hts _ kw_377) dX3_begin_92 (fun H locs hP hS => ?_)
            refine lv_iinc (v := (x2 + 1)) (lv' := [(2, .int (x2 + 1)), (0, .ref (A 25)), (1, .int x1)]) hx hb dX3_begin_95 hl (k := 2) rfl rfl (by decide) rfl (fun ls hl => ?_)
            refine lv_goto (tgt := 27) hx hb dX3_begin_98 (by decide) ?_
            have hP : va_P D vwCl (wX A C (sI σ_r7 17 ((σ_r7.1 17) + 1))) H := hP
            exact ih _ _ _ _ _ _ hf (lv_sub hl [1, 2, 0] rfl) hP hS
set_option maxHeartbeats 4000000 in
set_option maxRecDepth 100000 in
theorem w_F_xX3_begin_7 {p : Program} {l : Launch} {e : Env} {s : State} {m : MethodId} {args : Array Value} {below : List Frame} {meth : Method} {c : Code} {D : va_G} {C : Nat → ClassId} {A adK adV : Nat → Nat} (hA : apA A 60) (cx : Cxx D C adK adV (fxA A 60) p s m args meth c cX3_begin 3 RX3 none) {res : St} : ∀ (n : Nat), ∀ (x1 : Int32) (x2 : Int32) (σ : St) (H : Heap) (locs : List Loc) (ls : Array Slot), F_xX3_begin_7 n x1 x2 σ = some res → lv_has ls 3 [(0, .ref (A 25)), (1, .int x1), (2, .int x2)] → va_P D vwCl (wX A C σ) H → va_S (fxA A 60) s.heap H locs → W p l e rm_X3_begin s m args below meth c H locs 0 0 (MQ below (Qcx D (wX A C) (fxA A 60) none res) args s 0 0 (fxA A 60)) (F0 m 7 ls []) := by
  obtain ⟨hx, hb, hml, hown, hts, hK, hr, hlk, hZ⟩ := id cx
  intro n
  induction n with
  | zero =>
    intro x1 x2 σ H locs ls hf hl hP hS
    exact absurd (show (none : Option St) = some res from hf) (by intro h; cases h)
  | succ n ih =>
    intro x1 x2 σ H locs ls hf hl hP hS
    refine lv_iload_n hx hb dX3_begin_7 rfl (lv_at hl 2 rfl) ?_
    refine lv_iconst (v := 4) hx hb dX3_begin_8 (by decide) ?_
    refine lv_icmp_ge (tgt := 25) hx hb dX3_begin_9 (by decide) (fun c8 => ?_) (fun c8 => ?_)
    · have hf := (if_pos c8).symm.trans hf
      refine lv_iconst (v := 0) hx hb dX3_begin_25 (by decide) ?_
      refine lv_istore_n (lv' := [(2, .int 0), (0, .ref (A 25)), (1, .int x1)]) hx hb dX3_begin_26 rfl hl (by decide) rfl (fun ls hl => ?_)
      exact w_F_xX3_begin_27 hA cx FU _ _ _ _ _ _ hf (lv_sub hl [1, 2, 0] rfl) hP hS
    · have hf := (if_neg c8).symm.trans hf
      refine lv_aload_n hx hb dX3_begin_12 rfl (lv_at hl 0 rfl) ?_
      refine gX_25_8 hx hb hts hown hK hP (hts _ kw_107) dX3_begin_13 ?_
      refine lv_iload_n hx hb dX3_begin_16 rfl (lv_at hl 2 rfl) ?_
      refine lv_iconst (v := 0) hx hb dX3_begin_17 (by decide) ?_
      obtain ⟨z9, hf⟩ := gd_some hf
      refine pX_a36 hx hb hK hP hA hS (ib_in z9) dX3_begin_18 (fun H locs hP hS => ?_)
      refine lv_iinc (v := (x2 + 1)) (lv' := [(2, .int (x2 + 1)), (0, .ref (A 25)), (1, .int x1)]) hx hb dX3_begin_19 hl (k := 2) rfl rfl (by decide) rfl (fun ls hl => ?_)
      refine lv_goto (tgt := 7) hx hb dX3_begin_22 (by decide) ?_
      have hP : va_P D vwCl (wX A C (sA σ 36 (upd (σ.2.1 36) x2.toNatClampNeg (vp_nar .boolean 0)))) H := hP
      exact ih _ _ _ _ _ _ hf (lv_sub hl [1, 2, 0] rfl) hP hS
set_option maxHeartbeats 4000000 in
set_option maxRecDepth 100000 in
theorem ct_xX3_begin (l : Launch) (D : va_G) (C : Nat → ClassId) (A adK adV : Nat → Nat) (hA : apA A 60) {x1 : Int32} {σ : St} {res : St} (hf : F_xX3_begin x1 σ = some res) : Met l yX3_begin (Cond.code yX3_begin cX3_begin 3 none :: wsL_law) rm_X3_begin (Pcx D C (wX A C) adK adV (fxA A 60) [.ref (A 25), .int x1] σ) (Qcx D (wX A C) (fxA A 60) none res) 0 0 (fxA A 60) := by
  refine Met.ofW (cc := cX3_begin) (maxL := 3) (ret := none) (by decide) rfl ?_
  intro p e s m args below meth c s₁ B hml hv
  obtain ⟨rfl, hP, hK, hZ⟩ := hv
  have cx : Cxx D C adK adV (fxA A 60) p s m _ meth c cX3_begin 3 RX3 none := ⟨B.exec, B.bytes, hml, findClass_of_methodNamed B.named, fun w h => atoms_spec (ws := Cond.code yX3_begin cX3_begin 3 none :: wsL_law) B.pre w (List.mem_cons_of_mem _ h), hK, B.returns, B.notSynchronized, hZ⟩
  obtain ⟨hx, hb, -, hown, hts, -, hr, hlk, -⟩ := id cx
  have hS : va_S (fxA A 60) s.heap s.heap [] := va_S.rf
  have hl := lv_entry ([.ref (A 25), .int x1]) (n := 3) (Nat.le_of_ble_eq_true rfl)
  rw [lg_entry_eq]
  generalize (lg_sl ([.ref (A 25), .int x1]) ++ List.replicate (3 - (lg_sl ([.ref (A 25), .int x1])).length) Slot.unset).toArray = ls at hl ⊢
  have hl : lv_has ls 3 [(0, .ref (A 25)), (1, .int x1)] := hl
  show W p l e rm_X3_begin s m _ below meth c s.heap [] 0 0 _ _
  refine lv_aload_n hx hb dX3_begin_0 rfl (lv_at hl 0 rfl) ?_
  refine lv_iconst (v := 0) hx hb dX3_begin_1 (by decide) ?_
  refine pX_25_1 hx hb hts hown hK hP hA hS (hts _ kw_377) dX3_begin_2 (fun H locs hP hS => ?_)
  refine lv_iconst (v := 0) hx hb dX3_begin_5 (by decide) ?_
  refine lv_istore_n (lv' := [(2, .int 0), (0, .ref (A 25)), (1, .int x1)]) hx hb dX3_begin_6 rfl hl (by decide) rfl (fun ls hl => ?_)
  have hP : va_P D vwCl (wX A C (sI σ 17 0)) H := hP
  exact w_F_xX3_begin_7 hA cx FU _ _ _ _ _ _ hf (lv_sub hl [1, 2, 0] rfl) hP hS
set_option maxHeartbeats 4000000 in
set_option maxRecDepth 100000 in
theorem ct_xX7_clear (l : Launch) (D : va_G) (C : Nat → ClassId) (A adK adV : Nat → Nat) (hA : apA A 60)  {σ : St} {res : St} (hf : F_xX7_clear σ = some res) : Met l yX7_clear (Cond.code yX7_clear cX7_clear 1 none :: wsL_law) rm_X7_clear (Pcx D C (wX A C) adK adV (fxA A 60) [.ref (A 41)] σ) (Qcx D (wX A C) (fxA A 60) none res) 0 0 (fxA A 60) := by
  refine Met.ofW (cc := cX7_clear) (maxL := 1) (ret := none) (by decide) rfl ?_
  intro p e s m args below meth c s₁ B hml hv
  obtain ⟨rfl, hP, hK, hZ⟩ := hv
  have cx : Cxx D C adK adV (fxA A 60) p s m _ meth c cX7_clear 1 RX7 none := ⟨B.exec, B.bytes, hml, findClass_of_methodNamed B.named, fun w h => atoms_spec (ws := Cond.code yX7_clear cX7_clear 1 none :: wsL_law) B.pre w (List.mem_cons_of_mem _ h), hK, B.returns, B.notSynchronized, hZ⟩
  obtain ⟨hx, hb, -, hown, hts, -, hr, hlk, -⟩ := id cx
  have hS : va_S (fxA A 60) s.heap s.heap [] := va_S.rf
  have hl := lv_entry ([.ref (A 41)]) (n := 1) (Nat.le_of_ble_eq_true rfl)
  rw [lg_entry_eq]
  generalize (lg_sl ([.ref (A 41)]) ++ List.replicate (1 - (lg_sl ([.ref (A 41)])).length) Slot.unset).toArray = ls at hl ⊢
  have hl : lv_has ls 1 [(0, .ref (A 41))] := hl
  show W p l e rm_X7_clear s m _ below meth c s.heap [] 0 0 _ _
  refine lv_aload_n hx hb dX7_clear_0 rfl (lv_at hl 0 rfl) ?_
  refine lv_iconst (v := 0) hx hb dX7_clear_1 (by decide) ?_
  refine pX_41_0 hx hb hts hown hK hP hA hS rfl rfl (hts _ kw_408) dX7_clear_2 (fun H locs hP hS => ?_)
  refine lv_aload_n hx hb dX7_clear_5 rfl (lv_at hl 0 rfl) ?_
  refine lv_iconst (v := 0) hx hb dX7_clear_6 (by decide) ?_
  refine pX_41_7 hx hb hts hown hK hP hA hS (hts _ kw_409) dX7_clear_7 (fun H locs hP hS => ?_)
  have hP : va_P D vwCl (wX A C (sI (sI σ 23 0) 30 0)) H := hP
  exact cx_vret cx hP hS hf dX7_clear_10
set_option maxHeartbeats 4000000 in
set_option maxRecDepth 100000 in
theorem ct_xX10_startAfresh (l : Launch) (D : va_G) (C : Nat → ClassId) (A adK adV : Nat → Nat) (hA : apA A 60)  {σ : St} {res : St} (hf : F_xX10_startAfresh σ = some res) : Met l yX10_startAfresh (Cond.code yX10_startAfresh cX10_startAfresh 1 none :: wsL_law) rm_X10_startAfresh (Pcx D C (wX A C) adK adV (fxA A 60) [.ref (A 0)] σ) (Qcx D (wX A C) (fxA A 60) none res) 0 0 (fxA A 60) := by
  refine Met.ofW (cc := cX10_startAfresh) (maxL := 1) (ret := none) (by decide) rfl ?_
  intro p e s m args below meth c s₁ B hml hv
  obtain ⟨rfl, hP, hK, hZ⟩ := hv
  have cx : Cxx D C adK adV (fxA A 60) p s m _ meth c cX10_startAfresh 1 RX10 none := ⟨B.exec, B.bytes, hml, findClass_of_methodNamed B.named, fun w h => atoms_spec (ws := Cond.code yX10_startAfresh cX10_startAfresh 1 none :: wsL_law) B.pre w (List.mem_cons_of_mem _ h), hK, B.returns, B.notSynchronized, hZ⟩
  obtain ⟨hx, hb, -, hown, hts, -, hr, hlk, -⟩ := id cx
  have hS : va_S (fxA A 60) s.heap s.heap [] := va_S.rf
  have hl := lv_entry ([.ref (A 0)]) (n := 1) (Nat.le_of_ble_eq_true rfl)
  rw [lg_entry_eq]
  generalize (lg_sl ([.ref (A 0)]) ++ List.replicate (1 - (lg_sl ([.ref (A 0)])).length) Slot.unset).toArray = ls at hl ⊢
  have hl : lv_has ls 1 [(0, .ref (A 0))] := hl
  show W p l e rm_X10_startAfresh s m _ below meth c s.heap [] 0 0 _ _
  refine lv_aload_n hx hb dX10_startAfresh_0 rfl (lv_at hl 0 rfl) ?_
  refine gX_0_5 hx hb hts hown hK hP (hts _ kw_36) dX10_startAfresh_1 ?_
  refine lv_aload_n hx hb dX10_startAfresh_4 rfl (lv_at hl 0 rfl) ?_
  refine gX_0_3 hx hb hts hown hK hP (hts _ kw_28) dX10_startAfresh_5 ?_
  refine gX_10_0 hx hb hts hown hK hP (v := (σ.1 11)) rfl (hts _ kw_220) dX10_startAfresh_8 ?_
  obtain ⟨σ_r1, h_r1, hf⟩ := bv_some hf
  refine cx_V (As := [.int (σ.1 11)]) (rest := []) cx (ct_xX3_begin l D C A adK adV hA h_r1) (cw_X10_242 hts ⟨Nat.le_of_ble_eq_true rfl, Nat.le_of_ble_eq_true rfl⟩) (va_recv hK hP (ci := 3) (q0 := 25) rfl (wX_25 A C _)) hP hS rfl hl.1 rfl (Nat.le_of_ble_eq_true rfl) dX10_startAfresh_11 ⟨Nat.zero_le _, Nat.zero_le _⟩ (fun H locs hP hS => ?_)
  refine lv_aload_n hx hb dX10_startAfresh_14 rfl (lv_at hl 0 rfl) ?_
  refine gX_0_7 hx hb hts hown hK hP (hts _ kw_44) dX10_startAfresh_15 ?_
  obtain ⟨σ_r2, h_r2, hf⟩ := bv_some hf
  refine cx_V (As := []) (rest := []) cx (ct_xX7_clear l D C A adK adV hA h_r2) (cw_X10_245 hts ⟨Nat.le_of_ble_eq_true rfl, Nat.le_of_ble_eq_true rfl⟩) (va_recv hK hP (ci := 7) (q0 := 41) rfl (wX_41 A C _)) hP hS rfl hl.1 rfl (Nat.le_of_ble_eq_true rfl) dX10_startAfresh_18 ⟨Nat.zero_le _, Nat.zero_le _⟩ (fun H locs hP hS => ?_)
  exact cx_vret cx hP hS hf dX10_startAfresh_21
set_option maxHeartbeats 4000000 in
set_option maxRecDepth 100000 in
theorem ct_xX9_isLetter (l : Launch) (D : va_G) (C : Nat → ClassId) (A adK adV : Nat → Nat) (hA : apA A 60) {x0 : Int32} {σ : St} {res : (Int32 × St)} (hf : F_xX9_isLetter x0 σ = some res) : Met l yX9_isLetter (Cond.code yX9_isLetter cX9_isLetter 1 (some .boolean) :: wsL_law) rm_X9_isLetter (Pcx D C (wX A C) adK adV (fxA A 60) [.int x0] σ) (Qcx D (wX A C) (fxA A 60) (some (.int res.1)) res.2) 0 0 (fxA A 60) := by
  refine Met.ofW (cc := cX9_isLetter) (maxL := 1) (ret := (some .boolean)) (by decide) rfl ?_
  intro p e s m args below meth c s₁ B hml hv
  obtain ⟨rfl, hP, hK, hZ⟩ := hv
  have cx : Cxx D C adK adV (fxA A 60) p s m _ meth c cX9_isLetter 1 RX9 (some .boolean) := ⟨B.exec, B.bytes, hml, findClass_of_methodNamed B.named, fun w h => atoms_spec (ws := Cond.code yX9_isLetter cX9_isLetter 1 (some .boolean) :: wsL_law) B.pre w (List.mem_cons_of_mem _ h), hK, B.returns, B.notSynchronized, hZ⟩
  obtain ⟨hx, hb, -, hown, hts, -, hr, hlk, -⟩ := id cx
  have hS : va_S (fxA A 60) s.heap s.heap [] := va_S.rf
  have hl := lv_entry ([.int x0]) (n := 1) (Nat.le_of_ble_eq_true rfl)
  rw [lg_entry_eq]
  generalize (lg_sl ([.int x0]) ++ List.replicate (1 - (lg_sl ([.int x0])).length) Slot.unset).toArray = ls at hl ⊢
  have hl : lv_has ls 1 [(0, .int x0)] := hl
  show W p l e rm_X9_isLetter s m _ below meth c s.heap [] 0 0 _ _
  refine lv_iload_n hx hb dX9_isLetter_0 rfl (lv_at hl 0 rfl) ?_
  refine lv_bipush (v := 97) hx hb dX9_isLetter_1 (by decide) ?_
  refine lv_icmp_lt (tgt := 16) hx hb dX9_isLetter_3 (by decide) (fun c1 => ?_) (fun c1 => ?_)
  · have hf := (if_pos c1).symm.trans hf
    refine lv_iconst (v := 0) hx hb dX9_isLetter_16 (by decide) ?_
    exact cx_zret cx rfl hP hS hf dX9_isLetter_17
  · have hf := (if_neg c1).symm.trans hf
    refine lv_iload_n hx hb dX9_isLetter_6 rfl (lv_at hl 0 rfl) ?_
    refine lv_bipush (v := 122) hx hb dX9_isLetter_7 (by decide) ?_
    refine lv_icmp_gt (tgt := 16) hx hb dX9_isLetter_9 (by decide) (fun c2 => ?_) (fun c2 => ?_)
    · have hf := (if_pos c2).symm.trans hf
      refine lv_iconst (v := 0) hx hb dX9_isLetter_16 (by decide) ?_
      exact cx_zret cx rfl hP hS hf dX9_isLetter_17
    · have hf := (if_neg c2).symm.trans hf
      refine lv_iconst (v := 1) hx hb dX9_isLetter_12 (by decide) ?_
      refine lv_goto (tgt := 17) hx hb dX9_isLetter_13 (by decide) ?_
      exact cx_zret cx rfl hP hS hf dX9_isLetter_17
set_option maxHeartbeats 4000000 in
set_option maxRecDepth 100000 in
theorem ct_xX9_isDigit (l : Launch) (D : va_G) (C : Nat → ClassId) (A adK adV : Nat → Nat) (hA : apA A 60) {x0 : Int32} {σ : St} {res : (Int32 × St)} (hf : F_xX9_isDigit x0 σ = some res) : Met l yX9_isDigit (Cond.code yX9_isDigit cX9_isDigit 1 (some .boolean) :: wsL_law) rm_X9_isDigit (Pcx D C (wX A C) adK adV (fxA A 60) [.int x0] σ) (Qcx D (wX A C) (fxA A 60) (some (.int res.1)) res.2) 0 0 (fxA A 60) := by
  refine Met.ofW (cc := cX9_isDigit) (maxL := 1) (ret := (some .boolean)) (by decide) rfl ?_
  intro p e s m args below meth c s₁ B hml hv
  obtain ⟨rfl, hP, hK, hZ⟩ := hv
  have cx : Cxx D C adK adV (fxA A 60) p s m _ meth c cX9_isDigit 1 RX9 (some .boolean) := ⟨B.exec, B.bytes, hml, findClass_of_methodNamed B.named, fun w h => atoms_spec (ws := Cond.code yX9_isDigit cX9_isDigit 1 (some .boolean) :: wsL_law) B.pre w (List.mem_cons_of_mem _ h), hK, B.returns, B.notSynchronized, hZ⟩
  obtain ⟨hx, hb, -, hown, hts, -, hr, hlk, -⟩ := id cx
  have hS : va_S (fxA A 60) s.heap s.heap [] := va_S.rf
  have hl := lv_entry ([.int x0]) (n := 1) (Nat.le_of_ble_eq_true rfl)
  rw [lg_entry_eq]
  generalize (lg_sl ([.int x0]) ++ List.replicate (1 - (lg_sl ([.int x0])).length) Slot.unset).toArray = ls at hl ⊢
  have hl : lv_has ls 1 [(0, .int x0)] := hl
  show W p l e rm_X9_isDigit s m _ below meth c s.heap [] 0 0 _ _
  refine lv_iload_n hx hb dX9_isDigit_0 rfl (lv_at hl 0 rfl) ?_
  refine lv_bipush (v := 48) hx hb dX9_isDigit_1 (by decide) ?_
  refine lv_icmp_lt (tgt := 16) hx hb dX9_isDigit_3 (by decide) (fun c1 => ?_) (fun c1 => ?_)
  · have hf := (if_pos c1).symm.trans hf
    refine lv_iconst (v := 0) hx hb dX9_isDigit_16 (by decide) ?_
    exact cx_zret cx rfl hP hS hf dX9_isDigit_17
  · have hf := (if_neg c1).symm.trans hf
    refine lv_iload_n hx hb dX9_isDigit_6 rfl (lv_at hl 0 rfl) ?_
    refine lv_bipush (v := 57) hx hb dX9_isDigit_7 (by decide) ?_
    refine lv_icmp_gt (tgt := 16) hx hb dX9_isDigit_9 (by decide) (fun c2 => ?_) (fun c2 => ?_)
    · have hf := (if_pos c2).symm.trans hf
      refine lv_iconst (v := 0) hx hb dX9_isDigit_16 (by decide) ?_
      exact cx_zret cx rfl hP hS hf dX9_isDigit_17
    · have hf := (if_neg c2).symm.trans hf
      refine lv_iconst (v := 1) hx hb dX9_isDigit_12 (by decide) ?_
      refine lv_goto (tgt := 17) hx hb dX9_isDigit_13 (by decide) ?_
      exact cx_zret cx rfl hP hS hf dX9_isDigit_17
set_option maxHeartbeats 4000000 in
set_option maxRecDepth 100000 in
theorem ct_xX9_byteAt (l : Launch) (D : va_G) (C : Nat → ClassId) (A adK adV : Nat → Nat) (hA : apA A 60) {x1 : Int32} {σ : St} {res : (Int32 × St)} (hf : F_xX9_byteAt x1 σ = some res) : Met l yX9_byteAt (Cond.code yX9_byteAt cX9_byteAt 2 (some .int) :: wsL_law) rm_X9_byteAt (Pcx D C (wX A C) adK adV (fxA A 60) [.ref (A 1), .int x1] σ) (Qcx D (wX A C) (fxA A 60) (some (.int res.1)) res.2) 0 0 (fxA A 60) := by
  refine Met.ofW (cc := cX9_byteAt) (maxL := 2) (ret := (some .int)) (by decide) rfl ?_
  intro p e s m args below meth c s₁ B hml hv
  obtain ⟨rfl, hP, hK, hZ⟩ := hv
  have cx : Cxx D C adK adV (fxA A 60) p s m _ meth c cX9_byteAt 2 RX9 (some .int) := ⟨B.exec, B.bytes, hml, findClass_of_methodNamed B.named, fun w h => atoms_spec (ws := Cond.code yX9_byteAt cX9_byteAt 2 (some .int) :: wsL_law) B.pre w (List.mem_cons_of_mem _ h), hK, B.returns, B.notSynchronized, hZ⟩
  obtain ⟨hx, hb, -, hown, hts, -, hr, hlk, -⟩ := id cx
  have hS : va_S (fxA A 60) s.heap s.heap [] := va_S.rf
  have hl := lv_entry ([.ref (A 1), .int x1]) (n := 2) (Nat.le_of_ble_eq_true rfl)
  rw [lg_entry_eq]
  generalize (lg_sl ([.ref (A 1), .int x1]) ++ List.replicate (2 - (lg_sl ([.ref (A 1), .int x1])).length) Slot.unset).toArray = ls at hl ⊢
  have hl : lv_has ls 2 [(0, .ref (A 1)), (1, .int x1)] := hl
  show W p l e rm_X9_byteAt s m _ below meth c s.heap [] 0 0 _ _
  refine lv_iload_n hx hb dX9_byteAt_0 rfl (lv_at hl 1 rfl) ?_
  refine lv_if_lt (tgt := 19) hx hb dX9_byteAt_1 (by decide) (fun c1 => ?_) (fun c1 => ?_)
  · have hf := (if_pos c1).symm.trans hf
    refine lv_iconst (v := (-1)) hx hb dX9_byteAt_19 (by decide) ?_
    refine lv_goto (tgt := 33) hx hb dX9_byteAt_20 (by decide) ?_
    exact cx_iret cx hP hS hf dX9_byteAt_33
  · have hf := (if_neg c1).symm.trans hf
    refine lv_iload_n hx hb dX9_byteAt_4 rfl (lv_at hl 1 rfl) ?_
    refine lv_aload_n hx hb dX9_byteAt_5 rfl (lv_at hl 0 rfl) ?_
    refine gX_1_1 hx hb hts hown hK hP (v := (σ.1 0)) rfl (hts _ kw_197) dX9_byteAt_6 ?_
    refine lv_icmp_ge (tgt := 19) hx hb dX9_byteAt_9 (by decide) (fun c2 => ?_) (fun c2 => ?_)
    · have hf := (if_pos c2).symm.trans hf
      refine lv_iconst (v := (-1)) hx hb dX9_byteAt_19 (by decide) ?_
      refine lv_goto (tgt := 33) hx hb dX9_byteAt_20 (by decide) ?_
      exact cx_iret cx hP hS hf dX9_byteAt_33
    · have hf := (if_neg c2).symm.trans hf
      refine lv_iload_n hx hb dX9_byteAt_12 rfl (lv_at hl 1 rfl) ?_
      refine lv_sipush (v := 1200) hx hb dX9_byteAt_13 (by decide) ?_
      refine lv_icmp_lt (tgt := 23) hx hb dX9_byteAt_16 (by decide) (fun c3 => ?_) (fun c3 => ?_)
      · have hf := (if_pos c3).symm.trans hf
        refine lv_aload_n hx hb dX9_byteAt_23 rfl (lv_at hl 0 rfl) ?_
        refine gX_1_0 hx hb hts hown hK hP (hts _ kw_57) dX9_byteAt_24 ?_
        refine lv_iload_n hx hb dX9_byteAt_27 rfl (lv_at hl 1 rfl) ?_
        obtain ⟨z4, hf⟩ := gd_some hf
        refine gX_a2 hx hb hK hP (ib_in z4) (v := (σ.2.1 2 x1.toNatClampNeg)) rfl dX9_byteAt_28 ?_
        refine lv_sipush (v := 255) hx hb dX9_byteAt_29 (by decide) ?_
        refine lv_iand hx hb dX9_byteAt_32 ?_
        exact cx_iret cx hP hS hf dX9_byteAt_33
      · have hf := (if_neg c3).symm.trans hf
        refine lv_iconst (v := (-1)) hx hb dX9_byteAt_19 (by decide) ?_
        refine lv_goto (tgt := 33) hx hb dX9_byteAt_20 (by decide) ?_
        exact cx_iret cx hP hS hf dX9_byteAt_33
