set_option maxHeartbeats 4000000 in
set_option maxRecDepth 100000 in
theorem w_F_mX11_feed_73 {p : Program} {l : Launch} {e : Env} {s : State} {m : MethodId} {args : Array Value} {below : List Frame} {meth : Method} {c : Code} {D : va_G} {C : Nat → ClassId} {A adK adV : Nat → Nat} (hA : apA A 33) (cx : Cxx D C adK adV (fxA A 33) p s m args meth c cX11_feed 9 RX11 (some .int)) {res : (Int32 × St)} {b19 : Int32 → Int32 → Int32 → Int32 → Int32 → Int32 → St → Option (Int32 × St)} (hb19 : ∀ (x1 : Int32) (x2 : Int32) (x3 : Int32) (x4 : Int32) (x5 : Int32) (x6 : Int32) (σ : St) (H : Heap) (locs : List Loc) (ls : Array Slot), b19 x1 x2 x3 x4 x5 x6 σ = some res → lv_has ls 9 [(0, .ref (A 0)), (1, .int x1), (2, .int x2), (3, .int x3), (4, .int x4), (5, .int x5), (6, .int x6)] → va_P D vwCl (wM A C σ) H → va_S (fxA A 33) s.heap H locs → W p l e rm_X11_feed s m args below meth c H locs 0 0 (MQ below (Qcx D (wM A C) (fxA A 33) (some (.int res.1)) res.2) args s 0 0 (fxA A 33)) (F0 m 19 ls [])) : ∀ (n : Nat), ∀ (x1 : Int32) (x2 : Int32) (x3 : Int32) (x4 : Int32) (x5 : Int32) (x6 : Int32) (x7 : Int32) (x8 : Int32) (σ : St) (H : Heap) (locs : List Loc) (ls : Array Slot), F_mX11_feed_73 b19 n x1 x2 x3 x4 x5 x6 x7 x8 σ = some res → lv_has ls 9 [(0, .ref (A 0)), (1, .int x1), (2, .int x2), (3, .int x3), (4, .int x4), (5, .int x5), (6, .int x6), (7, .int x7), (8, .int x8)] → va_P D vwCl (wM A C σ) H → va_S (fxA A 33) s.heap H locs → W p l e rm_X11_feed s m args below meth c H locs 0 0 (MQ below (Qcx D (wM A C) (fxA A 33) (some (.int res.1)) res.2) args s 0 0 (fxA A 33)) (F0 m 73 ls []) := by
  obtain ⟨hx, hb, hml, hown, hts, hK, hr, hlk, hZ⟩ := id cx
  intro n
  induction n with
  | zero =>
    intro x1 x2 x3 x4 x5 x6 x7 x8 σ H locs ls hf hl hP hS
    exact absurd (show (none : Option (Int32 × St)) = some res from hf) (by intro h; cases h)
  | succ n ih =>
    intro x1 x2 x3 x4 x5 x6 x7 x8 σ H locs ls hf hl hP hS
    refine lv_iload hx hb dX11_feed_73 (lv_at hl 8 rfl) ?_
    refine lv_if_lt (tgt := 109) hx hb dX11_feed_75 (by decide) (fun c1 => ?_) (fun c1 => ?_)
    · have hf := (if_pos c1).symm.trans hf
      refine lv_iinc (v := (x6 + 1)) (lv' := [(6, .int (x6 + 1)), (0, .ref (A 0)), (1, .int x1), (2, .int x2), (3, .int x3), (4, .int x4), (5, .int x5), (7, .int x7), (8, .int x8)]) hx hb dX11_feed_109 hl (k := 6) rfl rfl (by decide) rfl (fun ls hl => ?_)
      refine lv_goto (tgt := 19) hx hb dX11_feed_112 (by decide) ?_
      exact hb19 _ _ _ _ _ _ _ _ _ _ hf (lv_sub hl [1, 2, 3, 4, 5, 6, 0] rfl) hP hS
    · have hf := (if_neg c1).symm.trans hf
      refine lv_aload_n hx hb dX11_feed_78 rfl (lv_at hl 0 rfl) ?_
      refine gM_0_0 hx hb hts hown hK hP (hts _ kw_152) dX11_feed_79 ?_
      refine lv_aload_n hx hb dX11_feed_82 rfl (lv_at hl 0 rfl) ?_
      refine gM_0_1 hx hb hts hown hK hP (v := (σ.1 0)) rfl (hts _ kw_206) dX11_feed_83 ?_
      refine lv_iload hx hb dX11_feed_86 (lv_at hl 7 rfl) ?_
      refine lv_iload hx hb dX11_feed_88 (lv_at hl 8 rfl) ?_
      refine lv_ishr hx hb dX11_feed_90 ?_
      refine lv_i2b hx hb dX11_feed_91 rfl ?_
      obtain ⟨z2, hf⟩ := gd_some hf
      refine pM_a1 hx hb hK hP hA hS (ib_in z2) dX11_feed_92 (fun H locs hP hS => ?_)
      refine lv_aload_n hx hb dX11_feed_93 rfl (lv_at hl 0 rfl) ?_
      refine lv_dup hx hb dX11_feed_94 rfl ?_
      refine gM_0_1 hx hb hts hown hK hP (v := (σ.1 0)) rfl (hts _ kw_206) dX11_feed_95 ?_
      refine lv_iconst (v := 1) hx hb dX11_feed_98 (by decide) ?_
      refine lv_iadd hx hb dX11_feed_99 ?_
      refine pM_0_1 hx hb hts hown hK hP hA hS (hts _ kw_206) dX11_feed_100 (fun H locs hP hS => ?_)
      refine lv_iinc (v := (x8 + (-8))) (lv' := [(8, .int (x8 + (-8))), (0, .ref (A 0)), (1, .int x1), (2, .int x2), (3, .int x3), (4, .int x4), (5, .int x5), (6, .int x6), (7, .int x7)]) hx hb dX11_feed_103 hl (k := 8) rfl rfl (by decide) rfl (fun ls hl => ?_)
      refine lv_goto (tgt := 73) hx hb dX11_feed_106 (by decide) ?_
      have hP : va_P D vwCl (wM A C (sA (sI σ 0 ((σ.1 0) + 1)) 1 (upd (σ.2.1 1) (σ.1 0).toNatClampNeg (vp_nar .byte ((Int32.toInt8 (x7 >>> (x8 &&& 31))).toInt32))))) H := hP
      exact ih _ _ _ _ _ _ _ _ _ _ _ _ hf (lv_sub hl [1, 2, 3, 4, 5, 6, 7, 8, 0] rfl) hP hS
set_option maxHeartbeats 4000000 in
set_option maxRecDepth 100000 in
theorem w_F_mX11_feed_19 {p : Program} {l : Launch} {e : Env} {s : State} {m : MethodId} {args : Array Value} {below : List Frame} {meth : Method} {c : Code} {D : va_G} {C : Nat → ClassId} {A adK adV : Nat → Nat} (hA : apA A 33) (cx : Cxx D C adK adV (fxA A 33) p s m args meth c cX11_feed 9 RX11 (some .int)) {res : (Int32 × St)} : ∀ (n : Nat), ∀ (x1 : Int32) (x2 : Int32) (x3 : Int32) (x4 : Int32) (x5 : Int32) (x6 : Int32) (σ : St) (H : Heap) (locs : List Loc) (ls : Array Slot), F_mX11_feed_19 n x1 x2 x3 x4 x5 x6 σ = some res → lv_has ls 9 [(0, .ref (A 0)), (1, .int x1), (2, .int x2), (3, .int x3), (4, .int x4), (5, .int x5), (6, .int x6)] → va_P D vwCl (wM A C σ) H → va_S (fxA A 33) s.heap H locs → W p l e rm_X11_feed s m args below meth c H locs 0 0 (MQ below (Qcx D (wM A C) (fxA A 33) (some (.int res.1)) res.2) args s 0 0 (fxA A 33)) (F0 m 19 ls []) := by
  obtain ⟨hx, hb, hml, hown, hts, hK, hr, hlk, hZ⟩ := id cx
  intro n
  induction n with
  | zero =>
    intro x1 x2 x3 x4 x5 x6 σ H locs ls hf hl hP hS
    exact absurd (show (none : Option (Int32 × St)) = some res from hf) (by intro h; cases h)
  | succ n ih =>
    intro x1 x2 x3 x4 x5 x6 σ H locs ls hf hl hP hS
    refine lv_iload hx hb dX11_feed_19 (lv_at hl 6 rfl) ?_
    refine lv_iconst (v := 5) hx hb dX11_feed_21 (by decide) ?_
    refine lv_icmp_ge (tgt := 115) hx hb dX11_feed_22 (by decide) (fun c3 => ?_) (fun c3 => ?_)
    · have hf := (if_pos c3).symm.trans hf
      refine lv_aload_n hx hb dX11_feed_115 rfl (lv_at hl 0 rfl) ?_
      refine gM_0_1 hx hb hts hown hK hP (v := (σ.1 0)) rfl (hts _ kw_206) dX11_feed_116 ?_
      exact cx_iret cx hP hS hf dX11_feed_119
    · have hf := (if_neg c3).symm.trans hf
      refine lv_iload hx hb dX11_feed_25 (lv_at hl 6 rfl) ?_
      refine lv_if_ne (tgt := 34) hx hb dX11_feed_27 (by decide) (fun c4 => ?_) (fun c4 => ?_)
      · have hf := (if_neg c4).symm.trans hf
        refine lv_iload hx hb dX11_feed_34 (lv_at hl 6 rfl) ?_
        refine lv_iconst (v := 1) hx hb dX11_feed_36 (by decide) ?_
        refine lv_icmp_ne (tgt := 44) hx hb dX11_feed_37 (by decide) (fun c5 => ?_) (fun c5 => ?_)
        · have hf := (if_neg c5).symm.trans hf
          refine lv_iload hx hb dX11_feed_44 (lv_at hl 6 rfl) ?_
          refine lv_iconst (v := 2) hx hb dX11_feed_46 (by decide) ?_
          refine lv_icmp_ne (tgt := 54) hx hb dX11_feed_47 (by decide) (fun c6 => ?_) (fun c6 => ?_)
          · have hf := (if_neg c6).symm.trans hf
            refine lv_iload hx hb dX11_feed_54 (lv_at hl 6 rfl) ?_
            refine lv_iconst (v := 3) hx hb dX11_feed_56 (by decide) ?_
            refine lv_icmp_ne (tgt := 65) hx hb dX11_feed_57 (by decide) (fun c7 => ?_) (fun c7 => ?_)
            · have hf := (if_neg c7).symm.trans hf
              refine lv_iload hx hb dX11_feed_65 (lv_at hl 5 rfl) ?_
              refine lv_istore (lv' := [(7, .int x5), (0, .ref (A 0)), (1, .int x1), (2, .int x2), (3, .int x3), (4, .int x4), (5, .int x5), (6, .int x6)]) hx hb dX11_feed_67 hl (by decide) rfl (fun ls hl => ?_)
              refine lv_bipush (v := 24) hx hb dX11_feed_69 (by decide) ?_
              refine lv_istore (lv' := [(8, .int 24), (7, .int x5), (0, .ref (A 0)), (1, .int x1), (2, .int x2), (3, .int x3), (4, .int x4), (5, .int x5), (6, .int x6)]) hx hb dX11_feed_71 hl (by decide) rfl (fun ls hl => ?_)
              exact w_F_mX11_feed_73 hA cx ih FU _ _ _ _ _ _ _ _ _ _ _ _ hf (lv_sub hl [2, 3, 4, 5, 6, 7, 8, 1, 0] rfl) hP hS
            · have hf := (if_pos c7).symm.trans hf
              refine lv_iload hx hb dX11_feed_60 (lv_at hl 4 rfl) ?_
              refine lv_goto (tgt := 67) hx hb dX11_feed_62 (by decide) ?_
              refine lv_istore (lv' := [(7, .int x4), (0, .ref (A 0)), (1, .int x1), (2, .int x2), (3, .int x3), (4, .int x4), (5, .int x5), (6, .int x6)]) hx hb dX11_feed_67 hl (by decide) rfl (fun ls hl => ?_)
              refine lv_bipush (v := 24) hx hb dX11_feed_69 (by decide) ?_
              refine lv_istore (lv' := [(8, .int 24), (7, .int x4), (0, .ref (A 0)), (1, .int x1), (2, .int x2), (3, .int x3), (4, .int x4), (5, .int x5), (6, .int x6)]) hx hb dX11_feed_71 hl (by decide) rfl (fun ls hl => ?_)
              exact w_F_mX11_feed_73 hA cx ih FU _ _ _ _ _ _ _ _ _ _ _ _ hf (lv_sub hl [2, 3, 4, 5, 6, 7, 8, 1, 0] rfl) hP hS
          · have hf := (if_pos c6).symm.trans hf
            refine lv_iload_n hx hb dX11_feed_50 rfl (lv_at hl 3 rfl) ?_
            refine lv_goto (tgt := 67) hx hb dX11_feed_51 (by decide) ?_
            refine lv_istore (lv' := [(7, .int x3), (0, .ref (A 0)), (1, .int x1), (2, .int x2), (3, .int x3), (4, .int x4), (5, .int x5), (6, .int x6)]) hx hb dX11_feed_67 hl (by decide) rfl (fun ls hl => ?_)
            refine lv_bipush (v := 24) hx hb dX11_feed_69 (by decide) ?_
            refine lv_istore (lv' := [(8, .int 24), (7, .int x3), (0, .ref (A 0)), (1, .int x1), (2, .int x2), (3, .int x3), (4, .int x4), (5, .int x5), (6, .int x6)]) hx hb dX11_feed_71 hl (by decide) rfl (fun ls hl => ?_)
            exact w_F_mX11_feed_73 hA cx ih FU _ _ _ _ _ _ _ _ _ _ _ _ hf (lv_sub hl [2, 3, 4, 5, 6, 7, 8, 1, 0] rfl) hP hS
        · have hf := (if_pos c5).symm.trans hf
          refine lv_iload_n hx hb dX11_feed_40 rfl (lv_at hl 2 rfl) ?_
          refine lv_goto (tgt := 67) hx hb dX11_feed_41 (by decide) ?_
          refine lv_istore (lv' := [(7, .int x2), (0, .ref (A 0)), (1, .int x1), (2, .int x2), (3, .int x3), (4, .int x4), (5, .int x5), (6, .int x6)]) hx hb dX11_feed_67 hl (by decide) rfl (fun ls hl => ?_)
          refine lv_bipush (v := 24) hx hb dX11_feed_69 (by decide) ?_
          refine lv_istore (lv' := [(8, .int 24), (7, .int x2), (0, .ref (A 0)), (1, .int x1), (2, .int x2), (3, .int x3), (4, .int x4), (5, .int x5), (6, .int x6)]) hx hb dX11_feed_71 hl (by decide) rfl (fun ls hl => ?_)
          exact w_F_mX11_feed_73 hA cx ih FU _ _ _ _ _ _ _ _ _ _ _ _ hf (lv_sub hl [2, 3, 4, 5, 6, 7, 8, 1, 0] rfl) hP hS
      · have hf := (if_pos c4).symm.trans hf
        refine lv_iload_n hx hb dX11_feed_30 rfl (lv_at hl 1 rfl) ?_
        refine lv_goto (tgt := 67) hx hb dX11_feed_31 (by decide) ?_
        refine lv_istore (lv' := [(7, .int x1), (0, .ref (A 0)), (1, .int x1), (2, .int x2), (3, .int x3), (4, .int x4), (5, .int x5), (6, .int x6)]) hx hb dX11_feed_67 hl (by decide) rfl (fun ls hl => ?_)
        refine lv_bipush (v := 24) hx hb dX11_feed_69 (by decide) ?_
        refine lv_istore (lv' := [(8, .int 24), (7, .int x1), (0, .ref (A 0)), (1, .int x1), (2, .int x2), (3, .int x3), (4, .int x4), (5, .int x5), (6, .int x6)]) hx hb dX11_feed_71 hl (by decide) rfl (fun ls hl => ?_)
        exact w_F_mX11_feed_73 hA cx ih FU _ _ _ _ _ _ _ _ _ _ _ _ hf (lv_sub hl [2, 3, 4, 5, 6, 7, 8, 1, 0] rfl) hP hS
set_option maxHeartbeats 4000000 in
set_option maxRecDepth 100000 in
theorem ct_mX11_feed (l : Launch) (D : va_G) (C : Nat → ClassId) (A adK adV : Nat → Nat) (hA : apA A 33) {x1 : Int32} {x2 : Int32} {x3 : Int32} {x4 : Int32} {x5 : Int32} {σ : St} {res : (Int32 × St)} (hf : F_mX11_feed x1 x2 x3 x4 x5 σ = some res) : Met l yX11_feed (Cond.code yX11_feed cX11_feed 9 (some .int) :: wsL_law) rm_X11_feed (Pcx D C (wM A C) adK adV (fxA A 33) [.ref (A 0), .int x1, .int x2, .int x3, .int x4, .int x5] σ) (Qcx D (wM A C) (fxA A 33) (some (.int res.1)) res.2) 0 0 (fxA A 33) := by
  refine Met.ofW (cc := cX11_feed) (maxL := 9) (ret := (some .int)) (by decide) rfl ?_
  intro p e s m args below meth c s₁ B hml hv
  obtain ⟨rfl, hP, hK, hZ⟩ := hv
  have cx : Cxx D C adK adV (fxA A 33) p s m _ meth c cX11_feed 9 RX11 (some .int) := ⟨B.exec, B.bytes, hml, findClass_of_methodNamed B.named, fun w h => atoms_spec (ws := Cond.code yX11_feed cX11_feed 9 (some .int) :: wsL_law) B.pre w (List.mem_cons_of_mem _ h), hK, B.returns, B.notSynchronized, hZ⟩
  obtain ⟨hx, hb, -, hown, hts, -, hr, hlk, -⟩ := id cx
  have hS : va_S (fxA A 33) s.heap s.heap [] := va_S.rf
  have hl := lv_entry ([.ref (A 0), .int x1, .int x2, .int x3, .int x4, .int x5]) (n := 9) (Nat.le_of_ble_eq_true rfl)
  rw [lg_entry_eq]
  generalize (lg_sl ([.ref (A 0), .int x1, .int x2, .int x3, .int x4, .int x5]) ++ List.replicate (9 - (lg_sl ([.ref (A 0), .int x1, .int x2, .int x3, .int x4, .int x5])).length) Slot.unset).toArray = ls at hl ⊢
  have hl : lv_has ls 9 [(0, .ref (A 0)), (1, .int x1), (2, .int x2), (3, .int x3), (4, .int x4), (5, .int x5)] := hl
  show W p l e rm_X11_feed s m _ below meth c s.heap [] 0 0 _ _
  refine lv_aload_n hx hb dX11_feed_0 rfl (lv_at hl 0 rfl) ?_
  refine gM_0_1 hx hb hts hown hK hP (v := (σ.1 0)) rfl (hts _ kw_206) dX11_feed_1 ?_
  refine lv_bipush (v := 20) hx hb dX11_feed_4 (by decide) ?_
  refine lv_iadd hx hb dX11_feed_6 ?_
  refine lv_sipush (v := 1200) hx hb dX11_feed_7 (by decide) ?_
  refine lv_icmp_le (tgt := 16) hx hb dX11_feed_10 (by decide) (fun c8 => ?_) (fun c8 => ?_)
  · have hf := (if_pos c8).symm.trans hf
    refine lv_iconst (v := 0) hx hb dX11_feed_16 (by decide) ?_
    refine lv_istore (lv' := [(6, .int 0), (0, .ref (A 0)), (1, .int x1), (2, .int x2), (3, .int x3), (4, .int x4), (5, .int x5)]) hx hb dX11_feed_17 hl (by decide) rfl (fun ls hl => ?_)
    exact w_F_mX11_feed_19 hA cx FU _ _ _ _ _ _ _ _ _ _ hf (lv_sub hl [1, 2, 3, 4, 5, 6, 0] rfl) hP hS
  · have hf := (if_neg c8).symm.trans hf
    refine lv_bipush (v := (-3)) hx hb dX11_feed_13 (by decide) ?_
    exact cx_iret cx hP hS hf dX11_feed_15
set_option maxHeartbeats 4000000 in
set_option maxRecDepth 100000 in
theorem ct_mX11_end (l : Launch) (D : va_G) (C : Nat → ClassId) (A adK adV : Nat → Nat) (hA : apA A 33) {x1 : Int32} {σ : St} {res : (Int32 × St)} (hf : F_mX11_end x1 σ = some res) : Met l yX11_end (Cond.code yX11_end cX11_end 2 (some .int) :: wsL_law) rm_X11_end (Pcx D C (wM A C) adK adV (fxA A 33) [.ref (A 0), .int x1] σ) (Qcx D (wM A C) (fxA A 33) (some (.int res.1)) res.2) 0 0 (fxA A 33) := by
  refine Met.ofW (cc := cX11_end) (maxL := 2) (ret := (some .int)) (by decide) rfl ?_
  intro p e s m args below meth c s₁ B hml hv
  obtain ⟨rfl, hP, hK, hZ⟩ := hv
  have cx : Cxx D C adK adV (fxA A 33) p s m _ meth c cX11_end 2 RX11 (some .int) := ⟨B.exec, B.bytes, hml, findClass_of_methodNamed B.named, fun w h => atoms_spec (ws := Cond.code yX11_end cX11_end 2 (some .int) :: wsL_law) B.pre w (List.mem_cons_of_mem _ h), hK, B.returns, B.notSynchronized, hZ⟩
  obtain ⟨hx, hb, -, hown, hts, -, hr, hlk, -⟩ := id cx
  have hS : va_S (fxA A 33) s.heap s.heap [] := va_S.rf
  have hl := lv_entry ([.ref (A 0), .int x1]) (n := 2) (Nat.le_of_ble_eq_true rfl)
  rw [lg_entry_eq]
  generalize (lg_sl ([.ref (A 0), .int x1]) ++ List.replicate (2 - (lg_sl ([.ref (A 0), .int x1])).length) Slot.unset).toArray = ls at hl ⊢
  have hl : lv_has ls 2 [(0, .ref (A 0)), (1, .int x1)] := hl
  show W p l e rm_X11_end s m _ below meth c s.heap [] 0 0 _ _
  refine lv_iload_n hx hb dX11_end_0 rfl (lv_at hl 1 rfl) ?_
  refine lv_if_lt (tgt := 12) hx hb dX11_end_1 (by decide) (fun c1 => ?_) (fun c1 => ?_)
  · have hf := (if_pos c1).symm.trans hf
    refine lv_iconst (v := (-1)) hx hb dX11_end_12 (by decide) ?_
    exact cx_iret cx hP hS hf dX11_end_13
  · have hf := (if_neg c1).symm.trans hf
    refine lv_iload_n hx hb dX11_end_4 rfl (lv_at hl 1 rfl) ?_
    refine lv_aload_n hx hb dX11_end_5 rfl (lv_at hl 0 rfl) ?_
    refine gM_0_1 hx hb hts hown hK hP (v := (σ.1 0)) rfl (hts _ kw_206) dX11_end_6 ?_
    refine lv_icmp_le (tgt := 14) hx hb dX11_end_9 (by decide) (fun c2 => ?_) (fun c2 => ?_)
    · have hf := (if_pos c2).symm.trans hf
      refine lv_aload_n hx hb dX11_end_14 rfl (lv_at hl 0 rfl) ?_
      refine lv_iload_n hx hb dX11_end_15 rfl (lv_at hl 1 rfl) ?_
      refine pM_0_1 hx hb hts hown hK hP hA hS (hts _ kw_206) dX11_end_16 (fun H locs hP hS => ?_)
      refine lv_iload_n hx hb dX11_end_19 rfl (lv_at hl 1 rfl) ?_
      have hP : va_P D vwCl (wM A C (sI σ 0 x1)) H := hP
      exact cx_iret cx hP hS hf dX11_end_20
    · have hf := (if_neg c2).symm.trans hf
      refine lv_iconst (v := (-1)) hx hb dX11_end_12 (by decide) ?_
      exact cx_iret cx hP hS hf dX11_end_13
set_option maxHeartbeats 4000000 in
set_option maxRecDepth 100000 in
theorem ct_mX11_fault (l : Launch) (D : va_G) (C : Nat → ClassId) (A adK adV : Nat → Nat) (hA : apA A 33) {x1 : Int32} {σ : St} {res : (Int32 × St)} (hf : F_mX11_fault x1 σ = some res) : Met l yX11_fault (Cond.code yX11_fault cX11_fault 2 (some .int) :: wsL_law) rm_X11_fault (Pcx D C (wM A C) adK adV (fxA A 33) [.ref (A 0), .int x1] σ) (Qcx D (wM A C) (fxA A 33) (some (.int res.1)) res.2) 0 0 (fxA A 33) := by
  refine Met.ofW (cc := cX11_fault) (maxL := 2) (ret := (some .int)) (by decide) rfl ?_
  intro p e s m args below meth c s₁ B hml hv
  obtain ⟨rfl, hP, hK, hZ⟩ := hv
  have cx : Cxx D C adK adV (fxA A 33) p s m _ meth c cX11_fault 2 RX11 (some .int) := ⟨B.exec, B.bytes, hml, findClass_of_methodNamed B.named, fun w h => atoms_spec (ws := Cond.code yX11_fault cX11_fault 2 (some .int) :: wsL_law) B.pre w (List.mem_cons_of_mem _ h), hK, B.returns, B.notSynchronized, hZ⟩
  obtain ⟨hx, hb, -, hown, hts, -, hr, hlk, -⟩ := id cx
  have hS : va_S (fxA A 33) s.heap s.heap [] := va_S.rf
  have hl := lv_entry ([.ref (A 0), .int x1]) (n := 2) (Nat.le_of_ble_eq_true rfl)
  rw [lg_entry_eq]
  generalize (lg_sl ([.ref (A 0), .int x1]) ++ List.replicate (2 - (lg_sl ([.ref (A 0), .int x1])).length) Slot.unset).toArray = ls at hl ⊢
  have hl : lv_has ls 2 [(0, .ref (A 0)), (1, .int x1)] := hl
  show W p l e rm_X11_fault s m _ below meth c s.heap [] 0 0 _ _
  refine lv_iload_n hx hb dX11_fault_0 rfl (lv_at hl 1 rfl) ?_
  refine lv_if_ne (tgt := 11) hx hb dX11_fault_1 (by decide) (fun c1 => ?_) (fun c1 => ?_)
  · have hf := (if_neg c1).symm.trans hf
    refine lv_iload_n hx hb dX11_fault_11 rfl (lv_at hl 1 rfl) ?_
    refine lv_iconst (v := 1) hx hb dX11_fault_12 (by decide) ?_
    refine lv_icmp_ne (tgt := 23) hx hb dX11_fault_13 (by decide) (fun c2 => ?_) (fun c2 => ?_)
    · have hf := (if_neg c2).symm.trans hf
      refine lv_iconst (v := (-1)) hx hb dX11_fault_23 (by decide) ?_
      exact cx_iret cx hP hS hf dX11_fault_24
    · have hf := (if_pos c2).symm.trans hf
      refine lv_aload_n hx hb dX11_fault_16 rfl (lv_at hl 0 rfl) ?_
      refine gM_0_8 hx hb hts hown hK hP (v := (σ.1 7)) rfl (hts _ kw_153) dX11_fault_17 ?_
      refine lv_goto (tgt := 24) hx hb dX11_fault_20 (by decide) ?_
      exact cx_iret cx hP hS hf dX11_fault_24
  · have hf := (if_pos c1).symm.trans hf
    refine lv_aload_n hx hb dX11_fault_4 rfl (lv_at hl 0 rfl) ?_
    refine gM_0_7 hx hb hts hown hK hP (v := (σ.1 6)) rfl (hts _ kw_424) dX11_fault_5 ?_
    refine lv_goto (tgt := 24) hx hb dX11_fault_8 (by decide) ?_
    exact cx_iret cx hP hS hf dX11_fault_24
set_option maxHeartbeats 4000000 in
set_option maxRecDepth 100000 in
theorem w_F_mX11_spots_4 {p : Program} {l : Launch} {e : Env} {s : State} {m : MethodId} {args : Array Value} {below : List Frame} {meth : Method} {c : Code} {D : va_G} {C : Nat → ClassId} {A adK adV : Nat → Nat} (hA : apA A 33) (cx : Cxx D C adK adV (fxA A 33) p s m args meth c cX11_spots 3 RX11 (some .int)) {res : (Int32 × St)} : ∀ (n : Nat), ∀ (x1 : Int32) (x2 : Int32) (σ : St) (H : Heap) (locs : List Loc) (ls : Array Slot), F_mX11_spots_4 n x1 x2 σ = some res → lv_has ls 3 [(0, .ref (A 0)), (1, .int x1), (2, .int x2)] → va_P D vwCl (wM A C σ) H → va_S (fxA A 33) s.heap H locs → W p l e rm_X11_spots s m args below meth c H locs 0 0 (MQ below (Qcx D (wM A C) (fxA A 33) (some (.int res.1)) res.2) args s 0 0 (fxA A 33)) (F0 m 4 ls []) := by
  obtain ⟨hx, hb, hml, hown, hts, hK, hr, hlk, hZ⟩ := id cx
  intro n
  induction n with
  | zero =>
    intro x1 x2 σ H locs ls hf hl hP hS
    exact absurd (show (none : Option (Int32 × St)) = some res from hf) (by intro h; cases h)
  | succ n ih =>
    intro x1 x2 σ H locs ls hf hl hP hS
    refine lv_iload_n hx hb dX11_spots_4 rfl (lv_at hl 2 rfl) ?_
    refine lv_aload_n hx hb dX11_spots_5 rfl (lv_at hl 0 rfl) ?_
    refine gM_0_11 hx hb hts hown hK hP (v := (σ.1 9)) rfl (hts _ kw_187) dX11_spots_6 ?_
    refine lv_icmp_ge (tgt := 27) hx hb dX11_spots_9 (by decide) (fun c1 => ?_) (fun c1 => ?_)
    · have hf := (if_pos c1).symm.trans hf
      refine lv_iload_n hx hb dX11_spots_27 rfl (lv_at hl 1 rfl) ?_
      exact cx_iret cx hP hS hf dX11_spots_28
    · have hf := (if_neg c1).symm.trans hf
      refine lv_iload_n hx hb dX11_spots_12 rfl (lv_at hl 1 rfl) ?_
      refine lv_aload_n hx hb dX11_spots_13 rfl (lv_at hl 0 rfl) ?_
      refine gM_0_15 hx hb hts hown hK hP (hts _ kw_155) dX11_spots_14 ?_
      refine lv_iload_n hx hb dX11_spots_17 rfl (lv_at hl 2 rfl) ?_
      obtain ⟨z2, hf⟩ := gd_some hf
      refine gM_a3 hx hb hK hP (ib_in z2) (v := (σ.2.1 3 x2.toNatClampNeg)) rfl dX11_spots_18 ?_
      refine lv_iadd hx hb dX11_spots_19 ?_
      refine lv_istore_n (lv' := [(1, .int (x1 + (σ.2.1 3 x2.toNatClampNeg))), (0, .ref (A 0)), (2, .int x2)]) hx hb dX11_spots_20 rfl hl (by decide) rfl (fun ls hl => ?_)
      refine lv_iinc (v := (x2 + 1)) (lv' := [(2, .int (x2 + 1)), (1, .int (x1 + (σ.2.1 3 x2.toNatClampNeg))), (0, .ref (A 0))]) hx hb dX11_spots_21 hl (k := 2) rfl rfl (by decide) rfl (fun ls hl => ?_)
      refine lv_goto (tgt := 4) hx hb dX11_spots_24 (by decide) ?_
      exact ih _ _ _ _ _ _ hf (lv_sub hl [2, 1, 0] rfl) hP hS
set_option maxHeartbeats 4000000 in
set_option maxRecDepth 100000 in
theorem ct_mX11_spots (l : Launch) (D : va_G) (C : Nat → ClassId) (A adK adV : Nat → Nat) (hA : apA A 33)  {σ : St} {res : (Int32 × St)} (hf : F_mX11_spots σ = some res) : Met l yX11_spots (Cond.code yX11_spots cX11_spots 3 (some .int) :: wsL_law) rm_X11_spots (Pcx D C (wM A C) adK adV (fxA A 33) [.ref (A 0)] σ) (Qcx D (wM A C) (fxA A 33) (some (.int res.1)) res.2) 0 0 (fxA A 33) := by
  refine Met.ofW (cc := cX11_spots) (maxL := 3) (ret := (some .int)) (by decide) rfl ?_
  intro p e s m args below meth c s₁ B hml hv
  obtain ⟨rfl, hP, hK, hZ⟩ := hv
  have cx : Cxx D C adK adV (fxA A 33) p s m _ meth c cX11_spots 3 RX11 (some .int) := ⟨B.exec, B.bytes, hml, findClass_of_methodNamed B.named, fun w h => atoms_spec (ws := Cond.code yX11_spots cX11_spots 3 (some .int) :: wsL_law) B.pre w (List.mem_cons_of_mem _ h), hK, B.returns, B.notSynchronized, hZ⟩
  obtain ⟨hx, hb, -, hown, hts, -, hr, hlk, -⟩ := id cx
  have hS : va_S (fxA A 33) s.heap s.heap [] := va_S.rf
  have hl := lv_entry ([.ref (A 0)]) (n := 3) (Nat.le_of_ble_eq_true rfl)
  rw [lg_entry_eq]
  generalize (lg_sl ([.ref (A 0)]) ++ List.replicate (3 - (lg_sl ([.ref (A 0)])).length) Slot.unset).toArray = ls at hl ⊢
  have hl : lv_has ls 3 [(0, .ref (A 0))] := hl
  show W p l e rm_X11_spots s m _ below meth c s.heap [] 0 0 _ _
  refine lv_iconst (v := 0) hx hb dX11_spots_0 (by decide) ?_
  refine lv_istore_n (lv' := [(1, .int 0), (0, .ref (A 0))]) hx hb dX11_spots_1 rfl hl (by decide) rfl (fun ls hl => ?_)
  refine lv_iconst (v := 0) hx hb dX11_spots_2 (by decide) ?_
  refine lv_istore_n (lv' := [(2, .int 0), (1, .int 0), (0, .ref (A 0))]) hx hb dX11_spots_3 rfl hl (by decide) rfl (fun ls hl => ?_)
  exact w_F_mX11_spots_4 hA cx FU _ _ _ _ _ _ hf (lv_sub hl [2, 1, 0] rfl) hP hS
set_option maxHeartbeats 4000000 in
set_option maxRecDepth 100000 in
theorem ct_mX11_in (l : Launch) (D : va_G) (C : Nat → ClassId) (A adK adV : Nat → Nat) (hA : apA A 33) {x0 : Int32} {x1 : Int32} {x2 : Int32} {σ : St} {res : (Int32 × St)} (hf : F_mX11_in x0 x1 x2 σ = some res) : Met l yX11_in (Cond.code yX11_in cX11_in 3 (some .boolean) :: wsL_law) rm_X11_in (Pcx D C (wM A C) adK adV (fxA A 33) [.int x0, .int x1, .int x2] σ) (Qcx D (wM A C) (fxA A 33) (some (.int res.1)) res.2) 0 0 (fxA A 33) := by
  refine Met.ofW (cc := cX11_in) (maxL := 3) (ret := (some .boolean)) (by decide) rfl ?_
  intro p e s m args below meth c s₁ B hml hv
  obtain ⟨rfl, hP, hK, hZ⟩ := hv
  have cx : Cxx D C adK adV (fxA A 33) p s m _ meth c cX11_in 3 RX11 (some .boolean) := ⟨B.exec, B.bytes, hml, findClass_of_methodNamed B.named, fun w h => atoms_spec (ws := Cond.code yX11_in cX11_in 3 (some .boolean) :: wsL_law) B.pre w (List.mem_cons_of_mem _ h), hK, B.returns, B.notSynchronized, hZ⟩
  obtain ⟨hx, hb, -, hown, hts, -, hr, hlk, -⟩ := id cx
  have hS : va_S (fxA A 33) s.heap s.heap [] := va_S.rf
  have hl := lv_entry ([.int x0, .int x1, .int x2]) (n := 3) (Nat.le_of_ble_eq_true rfl)
  rw [lg_entry_eq]
  generalize (lg_sl ([.int x0, .int x1, .int x2]) ++ List.replicate (3 - (lg_sl ([.int x0, .int x1, .int x2])).length) Slot.unset).toArray = ls at hl ⊢
  have hl : lv_has ls 3 [(0, .int x0), (1, .int x1), (2, .int x2)] := hl
  show W p l e rm_X11_in s m _ below meth c s.heap [] 0 0 _ _
  refine lv_iload_n hx hb dX11_in_0 rfl (lv_at hl 0 rfl) ?_
  refine lv_iload_n hx hb dX11_in_1 rfl (lv_at hl 1 rfl) ?_
  refine lv_icmp_lt (tgt := 14) hx hb dX11_in_2 (by decide) (fun c1 => ?_) (fun c1 => ?_)
  · have hf := (if_pos c1).symm.trans hf
    refine lv_iconst (v := 0) hx hb dX11_in_14 (by decide) ?_
    exact cx_zret cx rfl hP hS hf dX11_in_15
  · have hf := (if_neg c1).symm.trans hf
    refine lv_iload_n hx hb dX11_in_5 rfl (lv_at hl 0 rfl) ?_
    refine lv_iload_n hx hb dX11_in_6 rfl (lv_at hl 2 rfl) ?_
    refine lv_icmp_gt (tgt := 14) hx hb dX11_in_7 (by decide) (fun c2 => ?_) (fun c2 => ?_)
    · have hf := (if_pos c2).symm.trans hf
      refine lv_iconst (v := 0) hx hb dX11_in_14 (by decide) ?_
      exact cx_zret cx rfl hP hS hf dX11_in_15
    · have hf := (if_neg c2).symm.trans hf
      refine lv_iconst (v := 1) hx hb dX11_in_10 (by decide) ?_
      refine lv_goto (tgt := 15) hx hb dX11_in_11 (by decide) ?_
      exact cx_zret cx rfl hP hS hf dX11_in_15
set_option maxHeartbeats 4000000 in
set_option maxRecDepth 100000 in
theorem ct_mX11_told (l : Launch) (D : va_G) (C : Nat → ClassId) (A adK adV : Nat → Nat) (hA : apA A 33) {x1 : Int32} {σ : St} {res : (Int32 × St)} (hf : F_mX11_told x1 σ = some res) : Met l yX11_told (Cond.code yX11_told cX11_told 2 (some .int) :: wsL_law) rm_X11_told (Pcx D C (wM A C) adK adV (fxA A 33) [.ref (A 0), .int x1] σ) (Qcx D (wM A C) (fxA A 33) (some (.int res.1)) res.2) 0 0 (fxA A 33) := by
  refine Met.ofW (cc := cX11_told) (maxL := 2) (ret := (some .int)) (by decide) rfl ?_
  intro p e s m args below meth c s₁ B hml hv
  obtain ⟨rfl, hP, hK, hZ⟩ := hv
  have cx : Cxx D C adK adV (fxA A 33) p s m _ meth c cX11_told 2 RX11 (some .int) := ⟨B.exec, B.bytes, hml, findClass_of_methodNamed B.named, fun w h => atoms_spec (ws := Cond.code yX11_told cX11_told 2 (some .int) :: wsL_law) B.pre w (List.mem_cons_of_mem _ h), hK, B.returns, B.notSynchronized, hZ⟩
  obtain ⟨hx, hb, -, hown, hts, -, hr, hlk, -⟩ := id cx
  have hS : va_S (fxA A 33) s.heap s.heap [] := va_S.rf
  have hl := lv_entry ([.ref (A 0), .int x1]) (n := 2) (Nat.le_of_ble_eq_true rfl)
  rw [lg_entry_eq]
  generalize (lg_sl ([.ref (A 0), .int x1]) ++ List.replicate (2 - (lg_sl ([.ref (A 0), .int x1])).length) Slot.unset).toArray = ls at hl ⊢
  have hl : lv_has ls 2 [(0, .ref (A 0)), (1, .int x1)] := hl
  show W p l e rm_X11_told s m _ below meth c s.heap [] 0 0 _ _
  refine lv_iload_n hx hb dX11_told_0 rfl (lv_at hl 1 rfl) ?_
  by_cases c1 : x1 = 0
  · have hf := (if_pos c1).symm.trans hf
    refine lv_tableIn (tgt := 44) hx hb dX11_told_1 (by rw [c1]; decide) (by rw [c1]; decide) (by rw [c1]; rfl) (by decide) ?_
    refine lv_aload_n hx hb dX11_told_44 rfl (lv_at hl 0 rfl) ?_
    refine gM_0_10 hx hb hts hown hK hP (v := (σ.1 8)) rfl (hts _ kw_186) dX11_told_45 ?_
    exact cx_iret cx hP hS hf dX11_told_48
  have hf := (if_neg c1).symm.trans hf
  by_cases c2 : x1 = 1
  · have hf := (if_pos c2).symm.trans hf
    refine lv_tableIn (tgt := 49) hx hb dX11_told_1 (by rw [c2]; decide) (by rw [c2]; decide) (by rw [c2]; rfl) (by decide) ?_
    refine lv_aload_n hx hb dX11_told_49 rfl (lv_at hl 0 rfl) ?_
    refine gM_0_11 hx hb hts hown hK hP (v := (σ.1 9)) rfl (hts _ kw_187) dX11_told_50 ?_
    exact cx_iret cx hP hS hf dX11_told_53
  have hf := (if_neg c2).symm.trans hf
  by_cases c3 : x1 = 2
  · have hf := (if_pos c3).symm.trans hf
    refine lv_tableIn (tgt := 54) hx hb dX11_told_1 (by rw [c3]; decide) (by rw [c3]; decide) (by rw [c3]; rfl) (by decide) ?_
    refine lv_aload_n hx hb dX11_told_54 rfl (lv_at hl 0 rfl) ?_
    obtain ⟨⟨r4, σ_r4⟩, h_r4, hf⟩ := bd_some hf
    refine cx_V (As := []) (rest := []) cx (ct_mX11_spots l D C A adK adV hA h_r4) (cw_X11_211 hts ⟨Nat.le_of_ble_eq_true rfl, Nat.le_of_ble_eq_true rfl⟩) (va_recv hK hP (ci := 11) (q0 := 0) rfl (wM_0 A C _)) hP hS rfl hl.1 rfl (Nat.le_of_ble_eq_true rfl) dX11_told_55 ⟨Nat.zero_le _, Nat.zero_le _⟩ (fun H locs hP hS => ?_)
    exact cx_iret cx hP hS hf dX11_told_58
  have hf := (if_neg c3).symm.trans hf
  by_cases c5 : x1 = 3
  · have hf := (if_pos c5).symm.trans hf
    refine lv_tableIn (tgt := 59) hx hb dX11_told_1 (by rw [c5]; decide) (by rw [c5]; decide) (by rw [c5]; rfl) (by decide) ?_
    refine lv_aload_n hx hb dX11_told_59 rfl (lv_at hl 0 rfl) ?_
    refine gM_0_17 hx hb hts hown hK hP (v := (σ.1 12)) rfl (hts _ kw_416) dX11_told_60 ?_
    exact cx_iret cx hP hS hf dX11_told_63
  have hf := (if_neg c5).symm.trans hf
  by_cases c6 : x1 = 4
  · have hf := (if_pos c6).symm.trans hf
    refine lv_tableIn (tgt := 64) hx hb dX11_told_1 (by rw [c6]; decide) (by rw [c6]; decide) (by rw [c6]; rfl) (by decide) ?_
    refine lv_aload_n hx hb dX11_told_64 rfl (lv_at hl 0 rfl) ?_
    refine gM_0_18 hx hb hts hown hK hP (v := (σ.1 13)) rfl (hts _ kw_417) dX11_told_65 ?_
    exact cx_iret cx hP hS hf dX11_told_68
  have hf := (if_neg c6).symm.trans hf
  by_cases c7 : x1 = 5
  · have hf := (if_pos c7).symm.trans hf
    refine lv_tableIn (tgt := 69) hx hb dX11_told_1 (by rw [c7]; decide) (by rw [c7]; decide) (by rw [c7]; rfl) (by decide) ?_
    refine lv_aload_n hx hb dX11_told_69 rfl (lv_at hl 0 rfl) ?_
    refine gM_0_56 hx hb hts hown hK hP (v := (σ.1 25)) rfl (hts _ kw_573) dX11_told_70 ?_
    exact cx_iret cx hP hS hf dX11_told_73
  have hf := (if_neg c7).symm.trans hf
  by_cases c8 : x1 = 6
  · have hf := (if_pos c8).symm.trans hf
    refine lv_tableIn (tgt := 74) hx hb dX11_told_1 (by rw [c8]; decide) (by rw [c8]; decide) (by rw [c8]; rfl) (by decide) ?_
    refine lv_aload_n hx hb dX11_told_74 rfl (lv_at hl 0 rfl) ?_
    refine gM_0_1 hx hb hts hown hK hP (v := (σ.1 0)) rfl (hts _ kw_206) dX11_told_75 ?_
    exact cx_iret cx hP hS hf dX11_told_78
  have hf := (if_neg c8).symm.trans hf
  refine lv_tableOut (tgt := 79) hx hb dX11_told_1 (sw7_0 c1 c2 c3 c5 c6 c7 c8) (by decide) ?_
  refine lv_iload_n hx hb dX11_told_79 rfl (lv_at hl 1 rfl) ?_
  refine lv_bipush (v := 10) hx hb dX11_told_80 (by decide) ?_
  refine lv_bipush (v := 9) hx hb dX11_told_82 (by decide) ?_
  refine lv_aload_n hx hb dX11_told_84 rfl (lv_at hl 0 rfl) ?_
  refine gM_0_11 hx hb hts hown hK hP (v := (σ.1 9)) rfl (hts _ kw_187) dX11_told_85 ?_
  refine lv_iadd hx hb dX11_told_88 ?_
  obtain ⟨⟨r9, σ_r9⟩, h_r9, hf⟩ := bd_some hf
  refine cx_S (As := [.int x1, .int 10, .int (9 + (σ.1 9))]) (rest := []) cx (ct_mX11_in l D C A adK adV hA h_r9) (cw_X11_181 hts ⟨Nat.le_of_ble_eq_true rfl, Nat.le_of_ble_eq_true rfl⟩) hP hS rfl hl.1 rfl (Nat.le_of_ble_eq_true rfl) dX11_told_89 ⟨Nat.zero_le _, Nat.zero_le _⟩ (fun H locs hP hS => ?_)
  refine lv_if_eq (tgt := 107) hx hb dX11_told_92 (by decide) (fun c10 => ?_) (fun c10 => ?_)
  · have hf := (if_pos c10).symm.trans hf
    refine lv_iconst (v := (-1)) hx hb dX11_told_107 (by decide) ?_
    exact cx_iret cx hP hS hf dX11_told_108
  · have hf := (if_neg c10).symm.trans hf
    refine lv_aload_n hx hb dX11_told_95 rfl (lv_at hl 0 rfl) ?_
    refine gM_0_14 hx hb hts hown hK hP (hts _ kw_154) dX11_told_96 ?_
    refine lv_iload_n hx hb dX11_told_99 rfl (lv_at hl 1 rfl) ?_
    refine lv_bipush (v := 10) hx hb dX11_told_100 (by decide) ?_
    refine lv_isub hx hb dX11_told_102 ?_
    obtain ⟨z11, hf⟩ := gd_some hf
    refine gM_a2 hx hb hK hP (ib_in z11) (v := (σ_r9.2.1 2 (x1 - 10).toNatClampNeg)) rfl dX11_told_103 ?_
    refine lv_goto (tgt := 108) hx hb dX11_told_104 (by decide) ?_
    exact cx_iret cx hP hS hf dX11_told_108
set_option maxHeartbeats 4000000 in
set_option maxRecDepth 100000 in
theorem ct_mX11_isName (l : Launch) (D : va_G) (C : Nat → ClassId) (A adK adV : Nat → Nat) (hA : apA A 33) {x1 : Int32} {σ : St} {res : (Int32 × St)} (hf : F_mX11_isName x1 σ = some res) : Met l yX11_isName (Cond.code yX11_isName cX11_isName 2 (some .boolean) :: wsL_law) rm_X11_isName (Pcx D C (wM A C) adK adV (fxA A 33) [.ref (A 0), .int x1] σ) (Qcx D (wM A C) (fxA A 33) (some (.int res.1)) res.2) 0 0 (fxA A 33) := by
  refine Met.ofW (cc := cX11_isName) (maxL := 2) (ret := (some .boolean)) (by decide) rfl ?_
  intro p e s m args below meth c s₁ B hml hv
  obtain ⟨rfl, hP, hK, hZ⟩ := hv
  have cx : Cxx D C adK adV (fxA A 33) p s m _ meth c cX11_isName 2 RX11 (some .boolean) := ⟨B.exec, B.bytes, hml, findClass_of_methodNamed B.named, fun w h => atoms_spec (ws := Cond.code yX11_isName cX11_isName 2 (some .boolean) :: wsL_law) B.pre w (List.mem_cons_of_mem _ h), hK, B.returns, B.notSynchronized, hZ⟩
  obtain ⟨hx, hb, -, hown, hts, -, hr, hlk, -⟩ := id cx
  have hS : va_S (fxA A 33) s.heap s.heap [] := va_S.rf
  have hl := lv_entry ([.ref (A 0), .int x1]) (n := 2) (Nat.le_of_ble_eq_true rfl)
  rw [lg_entry_eq]
  generalize (lg_sl ([.ref (A 0), .int x1]) ++ List.replicate (2 - (lg_sl ([.ref (A 0), .int x1])).length) Slot.unset).toArray = ls at hl ⊢
  have hl : lv_has ls 2 [(0, .ref (A 0)), (1, .int x1)] := hl
  show W p l e rm_X11_isName s m _ below meth c s.heap [] 0 0 _ _
  refine lv_iload_n hx hb dX11_isName_0 rfl (lv_at hl 1 rfl) ?_
  refine lv_iconst (v := 0) hx hb dX11_isName_1 (by decide) ?_
  refine lv_aload_n hx hb dX11_isName_2 rfl (lv_at hl 0 rfl) ?_
  refine gM_0_17 hx hb hts hown hK hP (v := (σ.1 12)) rfl (hts _ kw_416) dX11_isName_3 ?_
  refine lv_iconst (v := 1) hx hb dX11_isName_6 (by decide) ?_
  refine lv_isub hx hb dX11_isName_7 ?_
  obtain ⟨⟨r1, σ_r1⟩, h_r1, hf⟩ := bd_some hf
  refine cx_S (As := [.int x1, .int 0, .int ((σ.1 12) - 1)]) (rest := []) cx (ct_mX11_in l D C A adK adV hA h_r1) (cw_X11_181 hts ⟨Nat.le_of_ble_eq_true rfl, Nat.le_of_ble_eq_true rfl⟩) hP hS rfl hl.1 rfl (Nat.le_of_ble_eq_true rfl) dX11_isName_8 ⟨Nat.zero_le _, Nat.zero_le _⟩ (fun H locs hP hS => ?_)
  obtain ⟨z2, hf⟩ := gd_some hf
  exact cx_zret cx (nb_ok z2) hP hS hf dX11_isName_11
set_option maxHeartbeats 4000000 in
set_option maxRecDepth 100000 in
theorem ct_mX11_value (l : Launch) (D : va_G) (C : Nat → ClassId) (A adK adV : Nat → Nat) (hA : apA A 33) {x1 : Int32} {σ : St} {res : (Int32 × St)} (hf : F_mX11_value x1 σ = some res) : Met l yX11_value (Cond.code yX11_value cX11_value 2 (some .int) :: wsL_law) rm_X11_value (Pcx D C (wM A C) adK adV (fxA A 33) [.ref (A 0), .int x1] σ) (Qcx D (wM A C) (fxA A 33) (some (.int res.1)) res.2) 0 0 (fxA A 33) := by
  refine Met.ofW (cc := cX11_value) (maxL := 2) (ret := (some .int)) (by decide) rfl ?_
  intro p e s m args below meth c s₁ B hml hv
  obtain ⟨rfl, hP, hK, hZ⟩ := hv
  have cx : Cxx D C adK adV (fxA A 33) p s m _ meth c cX11_value 2 RX11 (some .int) := ⟨B.exec, B.bytes, hml, findClass_of_methodNamed B.named, fun w h => atoms_spec (ws := Cond.code yX11_value cX11_value 2 (some .int) :: wsL_law) B.pre w (List.mem_cons_of_mem _ h), hK, B.returns, B.notSynchronized, hZ⟩
  obtain ⟨hx, hb, -, hown, hts, -, hr, hlk, -⟩ := id cx
  have hS : va_S (fxA A 33) s.heap s.heap [] := va_S.rf
  have hl := lv_entry ([.ref (A 0), .int x1]) (n := 2) (Nat.le_of_ble_eq_true rfl)
  rw [lg_entry_eq]
  generalize (lg_sl ([.ref (A 0), .int x1]) ++ List.replicate (2 - (lg_sl ([.ref (A 0), .int x1])).length) Slot.unset).toArray = ls at hl ⊢
  have hl : lv_has ls 2 [(0, .ref (A 0)), (1, .int x1)] := hl
  show W p l e rm_X11_value s m _ below meth c s.heap [] 0 0 _ _
  refine lv_aload_n hx hb dX11_value_0 rfl (lv_at hl 0 rfl) ?_
  refine lv_iload_n hx hb dX11_value_1 rfl (lv_at hl 1 rfl) ?_
  obtain ⟨⟨r1, σ_r1⟩, h_r1, hf⟩ := bd_some hf
  refine cx_V (As := [.int x1]) (rest := []) cx (ct_mX11_isName l D C A adK adV hA h_r1) (cw_X11_241 hts ⟨Nat.le_of_ble_eq_true rfl, Nat.le_of_ble_eq_true rfl⟩) (va_recv hK hP (ci := 11) (q0 := 0) rfl (wM_0 A C _)) hP hS rfl hl.1 rfl (Nat.le_of_ble_eq_true rfl) dX11_value_2 ⟨Nat.zero_le _, Nat.zero_le _⟩ (fun H locs hP hS => ?_)
  refine lv_if_eq (tgt := 17) hx hb dX11_value_5 (by decide) (fun c2 => ?_) (fun c2 => ?_)
  · have hf := (if_pos c2).symm.trans hf
    refine lv_ldc (v := (-2147483647)) hx hb hown (hts _ kw_588) dX11_value_17 ?_
    exact cx_iret cx hP hS hf dX11_value_19
  · have hf := (if_neg c2).symm.trans hf
    refine lv_aload_n hx hb dX11_value_8 rfl (lv_at hl 0 rfl) ?_
    refine gM_0_22 hx hb hts hown hK hP (hts _ kw_159) dX11_value_9 ?_
    refine lv_iload_n hx hb dX11_value_12 rfl (lv_at hl 1 rfl) ?_
    obtain ⟨z3, hf⟩ := gd_some hf
    refine gM_a6 hx hb hK hP (ib_in z3) (v := (σ_r1.2.1 6 x1.toNatClampNeg)) rfl dX11_value_13 ?_
    refine lv_goto (tgt := 19) hx hb dX11_value_14 (by decide) ?_
    exact cx_iret cx hP hS hf dX11_value_19
set_option maxHeartbeats 4000000 in
set_option maxRecDepth 100000 in
theorem ct_mX11_set (l : Launch) (D : va_G) (C : Nat → ClassId) (A adK adV : Nat → Nat) (hA : apA A 33) {x1 : Int32} {x2 : Int32} {σ : St} {res : (Int32 × St)} (hf : F_mX11_set x1 x2 σ = some res) : Met l yX11_set (Cond.code yX11_set cX11_set 3 (some .int) :: wsL_law) rm_X11_set (Pcx D C (wM A C) adK adV (fxA A 33) [.ref (A 0), .int x1, .int x2] σ) (Qcx D (wM A C) (fxA A 33) (some (.int res.1)) res.2) 0 0 (fxA A 33) := by
  refine Met.ofW (cc := cX11_set) (maxL := 3) (ret := (some .int)) (by decide) rfl ?_
  intro p e s m args below meth c s₁ B hml hv
  obtain ⟨rfl, hP, hK, hZ⟩ := hv
  have cx : Cxx D C adK adV (fxA A 33) p s m _ meth c cX11_set 3 RX11 (some .int) := ⟨B.exec, B.bytes, hml, findClass_of_methodNamed B.named, fun w h => atoms_spec (ws := Cond.code yX11_set cX11_set 3 (some .int) :: wsL_law) B.pre w (List.mem_cons_of_mem _ h), hK, B.returns, B.notSynchronized, hZ⟩
  obtain ⟨hx, hb, -, hown, hts, -, hr, hlk, -⟩ := id cx
  have hS : va_S (fxA A 33) s.heap s.heap [] := va_S.rf
  have hl := lv_entry ([.ref (A 0), .int x1, .int x2]) (n := 3) (Nat.le_of_ble_eq_true rfl)
  rw [lg_entry_eq]
  generalize (lg_sl ([.ref (A 0), .int x1, .int x2]) ++ List.replicate (3 - (lg_sl ([.ref (A 0), .int x1, .int x2])).length) Slot.unset).toArray = ls at hl ⊢
  have hl : lv_has ls 3 [(0, .ref (A 0)), (1, .int x1), (2, .int x2)] := hl
  show W p l e rm_X11_set s m _ below meth c s.heap [] 0 0 _ _
  refine lv_aload_n hx hb dX11_set_0 rfl (lv_at hl 0 rfl) ?_
  refine lv_iload_n hx hb dX11_set_1 rfl (lv_at hl 1 rfl) ?_
  obtain ⟨⟨r1, σ_r1⟩, h_r1, hf⟩ := bd_some hf
  refine cx_V (As := [.int x1]) (rest := []) cx (ct_mX11_isName l D C A adK adV hA h_r1) (cw_X11_241 hts ⟨Nat.le_of_ble_eq_true rfl, Nat.le_of_ble_eq_true rfl⟩) (va_recv hK hP (ci := 11) (q0 := 0) rfl (wM_0 A C _)) hP hS rfl hl.1 rfl (Nat.le_of_ble_eq_true rfl) dX11_set_2 ⟨Nat.zero_le _, Nat.zero_le _⟩ (fun H locs hP hS => ?_)
  refine lv_if_ne (tgt := 11) hx hb dX11_set_5 (by decide) (fun c2 => ?_) (fun c2 => ?_)
  · have hf := (if_neg c2).symm.trans hf
    refine lv_aload_n hx hb dX11_set_11 rfl (lv_at hl 0 rfl) ?_
    refine gM_0_22 hx hb hts hown hK hP (hts _ kw_159) dX11_set_12 ?_
    refine lv_iload_n hx hb dX11_set_15 rfl (lv_at hl 1 rfl) ?_
    refine lv_iload_n hx hb dX11_set_16 rfl (lv_at hl 2 rfl) ?_
    obtain ⟨z3, hf⟩ := gd_some hf
    refine pM_a6 hx hb hK hP hA hS (ib_in z3) dX11_set_17 (fun H locs hP hS => ?_)
    refine lv_iconst (v := 1) hx hb dX11_set_18 (by decide) ?_
    have hP : va_P D vwCl (wM A C (sA σ_r1 6 (upd (σ_r1.2.1 6) x1.toNatClampNeg x2))) H := hP
    exact cx_iret cx hP hS hf dX11_set_19
  · have hf := (if_pos c2).symm.trans hf
    refine lv_bipush (v := (-2)) hx hb dX11_set_8 (by decide) ?_
    exact cx_iret cx hP hS hf dX11_set_10
set_option maxHeartbeats 4000000 in
set_option maxRecDepth 100000 in
theorem ct_mX11_entry (l : Launch) (D : va_G) (C : Nat → ClassId) (A adK adV : Nat → Nat) (hA : apA A 33) {x1 : Int32} {σ : St} {res : (Int32 × St)} (hf : F_mX11_entry x1 σ = some res) : Met l yX11_entry (Cond.code yX11_entry cX11_entry 3 (some .int) :: wsL_law) rm_X11_entry (Pcx D C (wM A C) adK adV (fxA A 33) [.ref (A 0), .int x1] σ) (Qcx D (wM A C) (fxA A 33) (some (.int res.1)) res.2) 0 0 (fxA A 33) := by
  refine Met.ofW (cc := cX11_entry) (maxL := 3) (ret := (some .int)) (by decide) rfl ?_
  intro p e s m args below meth c s₁ B hml hv
  obtain ⟨rfl, hP, hK, hZ⟩ := hv
  have cx : Cxx D C adK adV (fxA A 33) p s m _ meth c cX11_entry 3 RX11 (some .int) := ⟨B.exec, B.bytes, hml, findClass_of_methodNamed B.named, fun w h => atoms_spec (ws := Cond.code yX11_entry cX11_entry 3 (some .int) :: wsL_law) B.pre w (List.mem_cons_of_mem _ h), hK, B.returns, B.notSynchronized, hZ⟩
  obtain ⟨hx, hb, -, hown, hts, -, hr, hlk, -⟩ := id cx
  have hS : va_S (fxA A 33) s.heap s.heap [] := va_S.rf
  have hl := lv_entry ([.ref (A 0), .int x1]) (n := 3) (Nat.le_of_ble_eq_true rfl)
  rw [lg_entry_eq]
  generalize (lg_sl ([.ref (A 0), .int x1]) ++ List.replicate (3 - (lg_sl ([.ref (A 0), .int x1])).length) Slot.unset).toArray = ls at hl ⊢
  have hl : lv_has ls 3 [(0, .ref (A 0)), (1, .int x1)] := hl
  show W p l e rm_X11_entry s m _ below meth c s.heap [] 0 0 _ _
  refine lv_aload_n hx hb dX11_entry_0 rfl (lv_at hl 0 rfl) ?_
  refine lv_iload_n hx hb dX11_entry_1 rfl (lv_at hl 1 rfl) ?_
  obtain ⟨⟨r1, σ_r1⟩, h_r1, hf⟩ := bd_some hf
  refine cx_V (As := [.int x1]) (rest := []) cx (ct_mX11_isName l D C A adK adV hA h_r1) (cw_X11_241 hts ⟨Nat.le_of_ble_eq_true rfl, Nat.le_of_ble_eq_true rfl⟩) (va_recv hK hP (ci := 11) (q0 := 0) rfl (wM_0 A C _)) hP hS rfl hl.1 rfl (Nat.le_of_ble_eq_true rfl) dX11_entry_2 ⟨Nat.zero_le _, Nat.zero_le _⟩ (fun H locs hP hS => ?_)
  refine lv_if_ne (tgt := 11) hx hb dX11_entry_5 (by decide) (fun c2 => ?_) (fun c2 => ?_)
  · have hf := (if_neg c2).symm.trans hf
    refine lv_aload_n hx hb dX11_entry_11 rfl (lv_at hl 0 rfl) ?_
    refine gM_0_18 hx hb hts hown hK hP (v := (σ_r1.1 13)) rfl (hts _ kw_417) dX11_entry_12 ?_
    refine lv_istore_n (lv' := [(2, .int (σ_r1.1 13)), (0, .ref (A 0)), (1, .int x1)]) hx hb dX11_entry_15 rfl hl (by decide) rfl (fun ls hl => ?_)
    refine lv_aload_n hx hb dX11_entry_16 rfl (lv_at hl 1 rfl) ?_
    refine lv_iload_n hx hb dX11_entry_17 rfl (lv_at hl 2 rfl) ?_
    refine pM_0_18 hx hb hts hown hK hP hA hS (hts _ kw_417) dX11_entry_18 (fun H locs hP hS => ?_)
    refine lv_iload_n hx hb dX11_entry_21 rfl (lv_at hl 0 rfl) ?_
    have hP : va_P D vwCl (wM A C (sI σ_r1 13 x1)) H := hP
    exact cx_iret cx hP hS hf dX11_entry_22
  · have hf := (if_pos c2).symm.trans hf
    refine lv_bipush (v := (-2)) hx hb dX11_entry_8 (by decide) ?_
    exact cx_iret cx hP hS hf dX11_entry_10
set_option maxHeartbeats 4000000 in
set_option maxRecDepth 100000 in
theorem ct_mX11_meet (l : Launch) (D : va_G) (C : Nat → ClassId) (A adK adV : Nat → Nat) (hA : apA A 33) {x1 : Int32} {x2 : Int32} {σ : St} {res : (Int32 × St)} (hf : F_mX11_meet x1 x2 σ = some res) : Met l yX11_meet (Cond.code yX11_meet cX11_meet 3 (some .boolean) :: wsL_law) rm_X11_meet (Pcx D C (wM A C) adK adV (fxA A 33) [.ref (A 0), .int x1, .int x2] σ) (Qcx D (wM A C) (fxA A 33) (some (.int res.1)) res.2) 0 0 (fxA A 33) := by
  refine Met.ofW (cc := cX11_meet) (maxL := 3) (ret := (some .boolean)) (by decide) rfl ?_
  intro p e s m args below meth c s₁ B hml hv
  obtain ⟨rfl, hP, hK, hZ⟩ := hv
  have cx : Cxx D C adK adV (fxA A 33) p s m _ meth c cX11_meet 3 RX11 (some .boolean) := ⟨B.exec, B.bytes, hml, findClass_of_methodNamed B.named, fun w h => atoms_spec (ws := Cond.code yX11_meet cX11_meet 3 (some .boolean) :: wsL_law) B.pre w (List.mem_cons_of_mem _ h), hK, B.returns, B.notSynchronized, hZ⟩
  obtain ⟨hx, hb, -, hown, hts, -, hr, hlk, -⟩ := id cx
  have hS : va_S (fxA A 33) s.heap s.heap [] := va_S.rf
  have hl := lv_entry ([.ref (A 0), .int x1, .int x2]) (n := 3) (Nat.le_of_ble_eq_true rfl)
  rw [lg_entry_eq]
  generalize (lg_sl ([.ref (A 0), .int x1, .int x2]) ++ List.replicate (3 - (lg_sl ([.ref (A 0), .int x1, .int x2])).length) Slot.unset).toArray = ls at hl ⊢
  have hl : lv_has ls 3 [(0, .ref (A 0)), (1, .int x1), (2, .int x2)] := hl
  show W p l e rm_X11_meet s m _ below meth c s.heap [] 0 0 _ _
  refine lv_aload_n hx hb dX11_meet_0 rfl (lv_at hl 0 rfl) ?_
  refine gM_0_48 hx hb hts hown hK hP (hts _ kw_176) dX11_meet_1 ?_
  refine lv_bipush (v := 8) hx hb dX11_meet_4 (by decide) ?_
  refine lv_iload_n hx hb dX11_meet_6 rfl (lv_at hl 1 rfl) ?_
  refine lv_imul hx hb dX11_meet_7 ?_
  refine lv_iconst (v := 4) hx hb dX11_meet_8 (by decide) ?_
  refine lv_iadd hx hb dX11_meet_9 ?_
  obtain ⟨z1, hf⟩ := gd_some hf
  refine gM_a23 hx hb hK hP (ib_in z1) (v := (σ.2.1 23 ((8 * x1) + 4).toNatClampNeg)) rfl dX11_meet_10 ?_
  refine lv_aload_n hx hb dX11_meet_11 rfl (lv_at hl 0 rfl) ?_
  refine gM_0_48 hx hb hts hown hK hP (hts _ kw_176) dX11_meet_12 ?_
  refine lv_bipush (v := 8) hx hb dX11_meet_15 (by decide) ?_
  refine lv_iload_n hx hb dX11_meet_17 rfl (lv_at hl 2 rfl) ?_
  refine lv_imul hx hb dX11_meet_18 ?_
  refine lv_iconst (v := 5) hx hb dX11_meet_19 (by decide) ?_
  refine lv_iadd hx hb dX11_meet_20 ?_
  obtain ⟨z2, hf⟩ := gd_some hf
  refine gM_a23 hx hb hK hP (ib_in z2) (v := (σ.2.1 23 ((8 * x2) + 5).toNatClampNeg)) rfl dX11_meet_21 ?_
  refine lv_icmp_gt (tgt := 54) hx hb dX11_meet_22 (by decide) (fun c3 => ?_) (fun c3 => ?_)
  · have hf := (if_pos c3).symm.trans hf
    refine lv_iconst (v := 0) hx hb dX11_meet_54 (by decide) ?_
    exact cx_zret cx rfl hP hS hf dX11_meet_55
  · have hf := (if_neg c3).symm.trans hf
    refine lv_aload_n hx hb dX11_meet_25 rfl (lv_at hl 0 rfl) ?_
    refine gM_0_48 hx hb hts hown hK hP (hts _ kw_176) dX11_meet_26 ?_
    refine lv_bipush (v := 8) hx hb dX11_meet_29 (by decide) ?_
    refine lv_iload_n hx hb dX11_meet_31 rfl (lv_at hl 2 rfl) ?_
    refine lv_imul hx hb dX11_meet_32 ?_
    refine lv_iconst (v := 4) hx hb dX11_meet_33 (by decide) ?_
    refine lv_iadd hx hb dX11_meet_34 ?_
    obtain ⟨z4, hf⟩ := gd_some hf
    refine gM_a23 hx hb hK hP (ib_in z4) (v := (σ.2.1 23 ((8 * x2) + 4).toNatClampNeg)) rfl dX11_meet_35 ?_
    refine lv_aload_n hx hb dX11_meet_36 rfl (lv_at hl 0 rfl) ?_
    refine gM_0_48 hx hb hts hown hK hP (hts _ kw_176) dX11_meet_37 ?_
    refine lv_bipush (v := 8) hx hb dX11_meet_40 (by decide) ?_
    refine lv_iload_n hx hb dX11_meet_42 rfl (lv_at hl 1 rfl) ?_
    refine lv_imul hx hb dX11_meet_43 ?_
    refine lv_iconst (v := 5) hx hb dX11_meet_44 (by decide) ?_
    refine lv_iadd hx hb dX11_meet_45 ?_
    obtain ⟨z5, hf⟩ := gd_some hf
    refine gM_a23 hx hb hK hP (ib_in z5) (v := (σ.2.1 23 ((8 * x1) + 5).toNatClampNeg)) rfl dX11_meet_46 ?_
    refine lv_icmp_gt (tgt := 54) hx hb dX11_meet_47 (by decide) (fun c6 => ?_) (fun c6 => ?_)
    · have hf := (if_pos c6).symm.trans hf
      refine lv_iconst (v := 0) hx hb dX11_meet_54 (by decide) ?_
      exact cx_zret cx rfl hP hS hf dX11_meet_55
    · have hf := (if_neg c6).symm.trans hf
      refine lv_iconst (v := 1) hx hb dX11_meet_50 (by decide) ?_
      refine lv_goto (tgt := 55) hx hb dX11_meet_51 (by decide) ?_
      exact cx_zret cx rfl hP hS hf dX11_meet_55
set_option maxHeartbeats 4000000 in
set_option maxRecDepth 100000 in
theorem w_F_mX11_share_165 {p : Program} {l : Launch} {e : Env} {s : State} {m : MethodId} {args : Array Value} {below : List Frame} {meth : Method} {c : Code} {D : va_G} {C : Nat → ClassId} {A adK adV : Nat → Nat} (hA : apA A 33) (cx : Cxx D C adK adV (fxA A 33) p s m args meth c cX11_share 6 RX11 none) {res : St} {b2 : Int32 → St → Option St} (hb2 : ∀ (x1 : Int32) (σ : St) (H : Heap) (locs : List Loc) (ls : Array Slot), b2 x1 σ = some res → lv_has ls 6 [(0, .ref (A 0)), (1, .int x1)] → va_P D vwCl (wM A C σ) H → va_S (fxA A 33) s.heap H locs → W p l e rm_X11_share s m args below meth c H locs 0 0 (MQ below (Qcx D (wM A C) (fxA A 33) none res) args s 0 0 (fxA A 33)) (F0 m 2 ls [])) : ∀ (n : Nat), ∀ (x1 : Int32) (x2 : Int32) (x3 : Int64) (x5 : Int32) (σ : St) (H : Heap) (locs : List Loc) (ls : Array Slot), F_mX11_share_165 b2 n x1 x2 x3 x5 σ = some res → lv_has ls 6 [(0, .ref (A 0)), (1, .int x1), (2, .int x2), (3, .long x3), (5, .int x5)] → va_P D vwCl (wM A C σ) H → va_S (fxA A 33) s.heap H locs → W p l e rm_X11_share s m args below meth c H locs 0 0 (MQ below (Qcx D (wM A C) (fxA A 33) none res) args s 0 0 (fxA A 33)) (F0 m 165 ls []) := by
  obtain ⟨hx, hb, hml, hown, hts, hK, hr, hlk, hZ⟩ := id cx
  intro n
  induction n with
  | zero =>
    intro x1 x2 x3 x5 σ H locs ls hf hl hP hS
    exact absurd (show (none : Option St) = some res from hf) (by intro h; cases h)
  | succ n ih =>
    intro x1 x2 x3 x5 σ H locs ls hf hl hP hS
    refine lv_lload_n hx hb dX11_share_165 rfl (lv_at hl 3 rfl) ?_
    refine lv_iload hx hb dX11_share_166 (lv_at hl 4 rfl) ?_
    refine lv_lshr hx hb dX11_share_168 rfl ?_
    refine lv_lconst (v := 1) hx hb dX11_share_169 (by decide) ?_
    refine lv_land hx hb dX11_share_170 ?_
    refine lv_lconst (v := 1) hx hb dX11_share_171 (by decide) ?_
    refine W.lcmp hx hb dX11_share_172 ?_
    refine lv_if_ne (tgt := 182) hx hb dX11_share_173 (by decide) (fun c1 => ?_) (fun c1 => ?_)
    · have hf := (if_neg c1).symm.trans hf
      refine lv_aload_n hx hb dX11_share_182 rfl (lv_at hl 0 rfl) ?_
      refine gM_0_48 hx hb hts hown hK hP (hts _ kw_176) dX11_share_183 ?_
      refine lv_bipush (v := 8) hx hb dX11_share_186 (by decide) ?_
      refine lv_iload_n hx hb dX11_share_188 rfl (lv_at hl 2 rfl) ?_
      refine lv_imul hx hb dX11_share_189 ?_
      refine lv_bipush (v := 7) hx hb dX11_share_190 (by decide) ?_
      refine lv_iadd hx hb dX11_share_192 ?_
      refine lv_iload hx hb dX11_share_193 (lv_at hl 4 rfl) ?_
      obtain ⟨z2, hf⟩ := gd_some hf
      refine pM_a23 hx hb hK hP hA hS (ib_in z2) dX11_share_195 (fun H locs hP hS => ?_)
      refine lv_iinc (v := (x1 + 1)) (lv' := [(1, .int (x1 + 1)), (0, .ref (A 0)), (2, .int x2), (3, .long x3), (5, .int x5)]) hx hb dX11_share_196 hl (k := 1) rfl rfl (by decide) rfl (fun ls hl => ?_)
      refine lv_goto (tgt := 2) hx hb dX11_share_199 (by decide) ?_
      have hP : va_P D vwCl (wM A C (sA σ 23 (upd (σ.2.1 23) ((8 * x2) + 7).toNatClampNeg x5))) H := hP
      exact hb2 _ _ _ _ _ hf (lv_sub hl [1, 0] rfl) hP hS
    · have hf := (if_pos c1).symm.trans hf
      refine lv_iinc (v := (x5 + 1)) (lv' := [(5, .int (x5 + 1)), (0, .ref (A 0)), (1, .int x1), (2, .int x2), (3, .long x3)]) hx hb dX11_share_176 hl (k := 4) rfl rfl (by decide) rfl (fun ls hl => ?_)
      refine lv_goto (tgt := 165) hx hb dX11_share_179 (by decide) ?_
      exact ih _ _ _ _ _ _ _ _ hf (lv_sub hl [1, 2, 3, 4, 0] rfl) hP hS
set_option maxHeartbeats 4000000 in
set_option maxRecDepth 100000 in
theorem w_F_mX11_share_102 {p : Program} {l : Launch} {e : Env} {s : State} {m : MethodId} {args : Array Value} {below : List Frame} {meth : Method} {c : Code} {D : va_G} {C : Nat → ClassId} {A adK adV : Nat → Nat} (hA : apA A 33) (cx : Cxx D C adK adV (fxA A 33) p s m args meth c cX11_share 6 RX11 none) {res : St} {b2 : Int32 → St → Option St} (hb2 : ∀ (x1 : Int32) (σ : St) (H : Heap) (locs : List Loc) (ls : Array Slot), b2 x1 σ = some res → lv_has ls 6 [(0, .ref (A 0)), (1, .int x1)] → va_P D vwCl (wM A C σ) H → va_S (fxA A 33) s.heap H locs → W p l e rm_X11_share s m args below meth c H locs 0 0 (MQ below (Qcx D (wM A C) (fxA A 33) none res) args s 0 0 (fxA A 33)) (F0 m 2 ls [])) : ∀ (n : Nat), ∀ (x1 : Int32) (x2 : Int32) (x3 : Int64) (x5 : Int32) (σ : St) (H : Heap) (locs : List Loc) (ls : Array Slot), F_mX11_share_102 b2 n x1 x2 x3 x5 σ = some res → lv_has ls 6 [(0, .ref (A 0)), (1, .int x1), (2, .int x2), (3, .long x3), (5, .int x5)] → va_P D vwCl (wM A C σ) H → va_S (fxA A 33) s.heap H locs → W p l e rm_X11_share s m args below meth c H locs 0 0 (MQ below (Qcx D (wM A C) (fxA A 33) none res) args s 0 0 (fxA A 33)) (F0 m 102 ls []) := by
  obtain ⟨hx, hb, hml, hown, hts, hK, hr, hlk, hZ⟩ := id cx
  intro n
  induction n with
  | zero =>
    intro x1 x2 x3 x5 σ H locs ls hf hl hP hS
    exact absurd (show (none : Option St) = some res from hf) (by intro h; cases h)
  | succ n ih =>
    intro x1 x2 x3 x5 σ H locs ls hf hl hP hS
    refine lv_iload hx hb dX11_share_102 (lv_at hl 4 rfl) ?_
    refine lv_aload_n hx hb dX11_share_104 rfl (lv_at hl 0 rfl) ?_
    refine gM_0_47 hx hb hts hown hK hP (v := (σ.1 24)) rfl (hts _ kw_745) dX11_share_105 ?_
    refine lv_icmp_ge (tgt := 162) hx hb dX11_share_108 (by decide) (fun c3 => ?_) (fun c3 => ?_)
    · have hf := (if_pos c3).symm.trans hf
      refine lv_iconst (v := 0) hx hb dX11_share_162 (by decide) ?_
      refine lv_istore (lv' := [(5, .int 0), (0, .ref (A 0)), (1, .int x1), (2, .int x2), (3, .long x3)]) hx hb dX11_share_163 hl (by decide) rfl (fun ls hl => ?_)
      exact w_F_mX11_share_165 hA cx hb2 FU _ _ _ _ _ _ _ _ hf (lv_sub hl [1, 2, 3, 4, 0] rfl) hP hS
    · have hf := (if_neg c3).symm.trans hf
      refine lv_aload_n hx hb dX11_share_111 rfl (lv_at hl 0 rfl) ?_
      refine gM_0_48 hx hb hts hown hK hP (hts _ kw_176) dX11_share_112 ?_
      refine lv_bipush (v := 8) hx hb dX11_share_115 (by decide) ?_
      refine lv_iload hx hb dX11_share_117 (lv_at hl 4 rfl) ?_
      refine lv_imul hx hb dX11_share_119 ?_
      refine lv_bipush (v := 7) hx hb dX11_share_120 (by decide) ?_
      refine lv_iadd hx hb dX11_share_122 ?_
      obtain ⟨z4, hf⟩ := gd_some hf
      refine gM_a23 hx hb hK hP (ib_in z4) (v := (σ.2.1 23 ((8 * x5) + 7).toNatClampNeg)) rfl dX11_share_123 ?_
      refine lv_iconst (v := (-1)) hx hb dX11_share_124 (by decide) ?_
      refine lv_icmp_eq (tgt := 156) hx hb dX11_share_125 (by decide) (fun c5 => ?_) (fun c5 => ?_)
      · have hf := (if_pos c5).symm.trans hf
        refine lv_iinc (v := (x5 + 1)) (lv' := [(5, .int (x5 + 1)), (0, .ref (A 0)), (1, .int x1), (2, .int x2), (3, .long x3)]) hx hb dX11_share_156 hl (k := 4) rfl rfl (by decide) rfl (fun ls hl => ?_)
        refine lv_goto (tgt := 102) hx hb dX11_share_159 (by decide) ?_
        exact ih _ _ _ _ _ _ _ _ hf (lv_sub hl [1, 2, 3, 4, 0] rfl) hP hS
      · have hf := (if_neg c5).symm.trans hf
        refine lv_aload_n hx hb dX11_share_128 rfl (lv_at hl 0 rfl) ?_
        refine lv_iload_n hx hb dX11_share_129 rfl (lv_at hl 2 rfl) ?_
        refine lv_iload hx hb dX11_share_130 (lv_at hl 4 rfl) ?_
        obtain ⟨⟨r6, σ_r6⟩, h_r6, hf⟩ := bd_some hf
        refine cx_V (As := [.int x2, .int x5]) (rest := []) cx (ct_mX11_meet l D C A adK adV hA h_r6) (cw_X11_289 hts ⟨Nat.le_of_ble_eq_true rfl, Nat.le_of_ble_eq_true rfl⟩) (va_recv hK hP (ci := 11) (q0 := 0) rfl (wM_0 A C _)) hP hS rfl hl.1 rfl (Nat.le_of_ble_eq_true rfl) dX11_share_132 ⟨Nat.zero_le _, Nat.zero_le _⟩ (fun H locs hP hS => ?_)
        refine lv_if_eq (tgt := 156) hx hb dX11_share_135 (by decide) (fun c7 => ?_) (fun c7 => ?_)
        · have hf := (if_pos c7).symm.trans hf
          refine lv_iinc (v := (x5 + 1)) (lv' := [(5, .int (x5 + 1)), (0, .ref (A 0)), (1, .int x1), (2, .int x2), (3, .long x3)]) hx hb dX11_share_156 hl (k := 4) rfl rfl (by decide) rfl (fun ls hl => ?_)
          refine lv_goto (tgt := 102) hx hb dX11_share_159 (by decide) ?_
          exact ih _ _ _ _ _ _ _ _ hf (lv_sub hl [1, 2, 3, 4, 0] rfl) hP hS
        · have hf := (if_neg c7).symm.trans hf
          refine lv_lload_n hx hb dX11_share_138 rfl (lv_at hl 3 rfl) ?_
          refine lv_lconst (v := 1) hx hb dX11_share_139 (by decide) ?_
          refine lv_aload_n hx hb dX11_share_140 rfl (lv_at hl 0 rfl) ?_
          refine gM_0_48 hx hb hts hown hK hP (hts _ kw_176) dX11_share_141 ?_
          refine lv_bipush (v := 8) hx hb dX11_share_144 (by decide) ?_
          refine lv_iload hx hb dX11_share_146 (lv_at hl 4 rfl) ?_
          refine lv_imul hx hb dX11_share_148 ?_
          refine lv_bipush (v := 7) hx hb dX11_share_149 (by decide) ?_
          refine lv_iadd hx hb dX11_share_151 ?_
          refine gM_a23 hx hb hK hP (ib_in z4) (v := (σ_r6.2.1 23 ((8 * x5) + 7).toNatClampNeg)) rfl dX11_share_152 ?_
          refine lv_lshl hx hb dX11_share_153 rfl ?_
          refine lv_lor hx hb dX11_share_154 ?_
          refine lv_topl (fun v8 e_v8 => ?_)
          have hf := nm_use e_v8 hf
          refine lv_lstore_n (lv' := [(3, .long v8), (0, .ref (A 0)), (1, .int x1), (2, .int x2), (5, .int x5)]) hx hb dX11_share_155 rfl hl (by decide) rfl (fun ls hl => ?_)
          refine lv_iinc (v := (x5 + 1)) (lv' := [(5, .int (x5 + 1)), (3, .long v8), (0, .ref (A 0)), (1, .int x1), (2, .int x2)]) hx hb dX11_share_156 hl (k := 4) rfl rfl (by decide) rfl (fun ls hl => ?_)
          refine lv_goto (tgt := 102) hx hb dX11_share_159 (by decide) ?_
          exact ih _ _ _ _ _ _ _ _ hf (lv_sub hl [2, 3, 4, 1, 0] rfl) hP hS
set_option maxHeartbeats 4000000 in
set_option maxRecDepth 100000 in
theorem w_F_mX11_share_14 {p : Program} {l : Launch} {e : Env} {s : State} {m : MethodId} {args : Array Value} {below : List Frame} {meth : Method} {c : Code} {D : va_G} {C : Nat → ClassId} {A adK adV : Nat → Nat} (hA : apA A 33) (cx : Cxx D C adK adV (fxA A 33) p s m args meth c cX11_share 6 RX11 none) {res : St} {b2 : Int32 → St → Option St} (hb2 : ∀ (x1 : Int32) (σ : St) (H : Heap) (locs : List Loc) (ls : Array Slot), b2 x1 σ = some res → lv_has ls 6 [(0, .ref (A 0)), (1, .int x1)] → va_P D vwCl (wM A C σ) H → va_S (fxA A 33) s.heap H locs → W p l e rm_X11_share s m args below meth c H locs 0 0 (MQ below (Qcx D (wM A C) (fxA A 33) none res) args s 0 0 (fxA A 33)) (F0 m 2 ls [])) : ∀ (n : Nat), ∀ (x1 : Int32) (x2 : Int32) (x3 : Int32) (σ : St) (H : Heap) (locs : List Loc) (ls : Array Slot), F_mX11_share_14 b2 n x1 x2 x3 σ = some res → lv_has ls 6 [(0, .ref (A 0)), (1, .int x1), (2, .int x2), (3, .int x3)] → va_P D vwCl (wM A C σ) H → va_S (fxA A 33) s.heap H locs → W p l e rm_X11_share s m args below meth c H locs 0 0 (MQ below (Qcx D (wM A C) (fxA A 33) none res) args s 0 0 (fxA A 33)) (F0 m 14 ls []) := by
  obtain ⟨hx, hb, hml, hown, hts, hK, hr, hlk, hZ⟩ := id cx
  intro n
  induction n with
  | zero =>
    intro x1 x2 x3 σ H locs ls hf hl hP hS
    exact absurd (show (none : Option St) = some res from hf) (by intro h; cases h)
  | succ n ih =>
    intro x1 x2 x3 σ H locs ls hf hl hP hS
    refine lv_iload_n hx hb dX11_share_14 rfl (lv_at hl 3 rfl) ?_
    refine lv_aload_n hx hb dX11_share_15 rfl (lv_at hl 0 rfl) ?_
    refine gM_0_47 hx hb hts hown hK hP (v := (σ.1 24)) rfl (hts _ kw_745) dX11_share_16 ?_
    refine lv_icmp_ge (tgt := 91) hx hb dX11_share_19 (by decide) (fun c9 => ?_) (fun c9 => ?_)
    · have hf := (if_pos c9).symm.trans hf
      refine lv_iload_n hx hb dX11_share_91 rfl (lv_at hl 2 rfl) ?_
      refine lv_iconst (v := (-1)) hx hb dX11_share_92 (by decide) ?_
      refine lv_icmp_ne (tgt := 97) hx hb dX11_share_93 (by decide) (fun c10 => ?_) (fun c10 => ?_)
      · have hf := (if_neg c10).symm.trans hf
        refine lv_lconst (v := 0) hx hb dX11_share_97 (by decide) ?_
        refine lv_lstore_n (lv' := [(3, .long (0 : Int64)), (0, .ref (A 0)), (1, .int x1), (2, .int x2)]) hx hb dX11_share_98 rfl hl (by decide) rfl (fun ls hl => ?_)
        refine lv_iconst (v := 0) hx hb dX11_share_99 (by decide) ?_
        refine lv_istore (lv' := [(5, .int 0), (3, .long (0 : Int64)), (0, .ref (A 0)), (1, .int x1), (2, .int x2)]) hx hb dX11_share_100 hl (by decide) rfl (fun ls hl => ?_)
        exact w_F_mX11_share_102 hA cx hb2 FU _ _ _ _ _ _ _ _ hf (lv_sub hl [2, 3, 4, 1, 0] rfl) hP hS
      · have hf := (if_pos c10).symm.trans hf
        exact cx_vret cx hP hS hf dX11_share_96
    · have hf := (if_neg c9).symm.trans hf
      refine lv_aload_n hx hb dX11_share_22 rfl (lv_at hl 0 rfl) ?_
      refine gM_0_48 hx hb hts hown hK hP (hts _ kw_176) dX11_share_23 ?_
      refine lv_bipush (v := 8) hx hb dX11_share_26 (by decide) ?_
      refine lv_iload_n hx hb dX11_share_28 rfl (lv_at hl 3 rfl) ?_
      refine lv_imul hx hb dX11_share_29 ?_
      refine lv_bipush (v := 7) hx hb dX11_share_30 (by decide) ?_
      refine lv_iadd hx hb dX11_share_32 ?_
      obtain ⟨z11, hf⟩ := gd_some hf
      refine gM_a23 hx hb hK hP (ib_in z11) (v := (σ.2.1 23 ((8 * x3) + 7).toNatClampNeg)) rfl dX11_share_33 ?_
      refine lv_iconst (v := (-1)) hx hb dX11_share_34 (by decide) ?_
      refine lv_icmp_ne (tgt := 85) hx hb dX11_share_35 (by decide) (fun c12 => ?_) (fun c12 => ?_)
      · have hf := (if_neg c12).symm.trans hf
        refine lv_iinc (v := (x3 + 1)) (lv' := [(3, .int (x3 + 1)), (0, .ref (A 0)), (1, .int x1), (2, .int x2)]) hx hb dX11_share_85 hl (k := 3) rfl rfl (by decide) rfl (fun ls hl => ?_)
        refine lv_goto (tgt := 14) hx hb dX11_share_88 (by decide) ?_
        exact ih _ _ _ _ _ _ _ hf (lv_sub hl [1, 2, 3, 0] rfl) hP hS
      · have hf := (if_pos c12).symm.trans hf
        refine lv_aload_n hx hb dX11_share_38 rfl (lv_at hl 0 rfl) ?_
        refine gM_0_48 hx hb hts hown hK hP (hts _ kw_176) dX11_share_39 ?_
        refine lv_bipush (v := 8) hx hb dX11_share_42 (by decide) ?_
        refine lv_iload_n hx hb dX11_share_44 rfl (lv_at hl 3 rfl) ?_
        refine lv_imul hx hb dX11_share_45 ?_
        refine lv_iconst (v := 4) hx hb dX11_share_46 (by decide) ?_
        refine lv_iadd hx hb dX11_share_47 ?_
        obtain ⟨z13, hf⟩ := gd_some hf
        refine gM_a23 hx hb hK hP (ib_in z13) (v := (σ.2.1 23 ((8 * x3) + 4).toNatClampNeg)) rfl dX11_share_48 ?_
        refine lv_iconst (v := (-1)) hx hb dX11_share_49 (by decide) ?_
        refine lv_icmp_eq (tgt := 85) hx hb dX11_share_50 (by decide) (fun c14 => ?_) (fun c14 => ?_)
        · have hf := (if_pos c14).symm.trans hf
          refine lv_iinc (v := (x3 + 1)) (lv' := [(3, .int (x3 + 1)), (0, .ref (A 0)), (1, .int x1), (2, .int x2)]) hx hb dX11_share_85 hl (k := 3) rfl rfl (by decide) rfl (fun ls hl => ?_)
          refine lv_goto (tgt := 14) hx hb dX11_share_88 (by decide) ?_
          exact ih _ _ _ _ _ _ _ hf (lv_sub hl [1, 2, 3, 0] rfl) hP hS
        · have hf := (if_neg c14).symm.trans hf
          refine lv_iload_n hx hb dX11_share_53 rfl (lv_at hl 2 rfl) ?_
          refine lv_iconst (v := (-1)) hx hb dX11_share_54 (by decide) ?_
          refine lv_icmp_eq (tgt := 83) hx hb dX11_share_55 (by decide) (fun c15 => ?_) (fun c15 => ?_)
          · have hf := (if_pos c15).symm.trans hf
            refine lv_iload_n hx hb dX11_share_83 rfl (lv_at hl 3 rfl) ?_
            refine lv_istore_n (lv' := [(2, .int x3), (0, .ref (A 0)), (1, .int x1), (3, .int x3)]) hx hb dX11_share_84 rfl hl (by decide) rfl (fun ls hl => ?_)
            refine lv_iinc (v := (x3 + 1)) (lv' := [(3, .int (x3 + 1)), (2, .int x3), (0, .ref (A 0)), (1, .int x1)]) hx hb dX11_share_85 hl (k := 3) rfl rfl (by decide) rfl (fun ls hl => ?_)
            refine lv_goto (tgt := 14) hx hb dX11_share_88 (by decide) ?_
            exact ih _ _ _ _ _ _ _ hf (lv_sub hl [2, 3, 1, 0] rfl) hP hS
          · have hf := (if_neg c15).symm.trans hf
            refine lv_aload_n hx hb dX11_share_58 rfl (lv_at hl 0 rfl) ?_
            refine gM_0_48 hx hb hts hown hK hP (hts _ kw_176) dX11_share_59 ?_
            refine lv_bipush (v := 8) hx hb dX11_share_62 (by decide) ?_
            refine lv_iload_n hx hb dX11_share_64 rfl (lv_at hl 3 rfl) ?_
            refine lv_imul hx hb dX11_share_65 ?_
            refine lv_iconst (v := 4) hx hb dX11_share_66 (by decide) ?_
            refine lv_iadd hx hb dX11_share_67 ?_
            refine gM_a23 hx hb hK hP (ib_in z13) (v := (σ.2.1 23 ((8 * x3) + 4).toNatClampNeg)) rfl dX11_share_68 ?_
            refine lv_aload_n hx hb dX11_share_69 rfl (lv_at hl 0 rfl) ?_
            refine gM_0_48 hx hb hts hown hK hP (hts _ kw_176) dX11_share_70 ?_
            refine lv_bipush (v := 8) hx hb dX11_share_73 (by decide) ?_
            refine lv_iload_n hx hb dX11_share_75 rfl (lv_at hl 2 rfl) ?_
            refine lv_imul hx hb dX11_share_76 ?_
            refine lv_iconst (v := 4) hx hb dX11_share_77 (by decide) ?_
            refine lv_iadd hx hb dX11_share_78 ?_
            obtain ⟨z16, hf⟩ := gd_some hf
            refine gM_a23 hx hb hK hP (ib_in z16) (v := (σ.2.1 23 ((8 * x2) + 4).toNatClampNeg)) rfl dX11_share_79 ?_
            refine lv_icmp_ge (tgt := 85) hx hb dX11_share_80 (by decide) (fun c17 => ?_) (fun c17 => ?_)
            · have hf := (if_pos c17).symm.trans hf
              refine lv_iinc (v := (x3 + 1)) (lv' := [(3, .int (x3 + 1)), (0, .ref (A 0)), (1, .int x1), (2, .int x2)]) hx hb dX11_share_85 hl (k := 3) rfl rfl (by decide) rfl (fun ls hl => ?_)
              refine lv_goto (tgt := 14) hx hb dX11_share_88 (by decide) ?_
              exact ih _ _ _ _ _ _ _ hf (lv_sub hl [1, 2, 3, 0] rfl) hP hS
            · have hf := (if_neg c17).symm.trans hf
              refine lv_iload_n hx hb dX11_share_83 rfl (lv_at hl 3 rfl) ?_
              refine lv_istore_n (lv' := [(2, .int x3), (0, .ref (A 0)), (1, .int x1), (3, .int x3)]) hx hb dX11_share_84 rfl hl (by decide) rfl (fun ls hl => ?_)
              refine lv_iinc (v := (x3 + 1)) (lv' := [(3, .int (x3 + 1)), (2, .int x3), (0, .ref (A 0)), (1, .int x1)]) hx hb dX11_share_85 hl (k := 3) rfl rfl (by decide) rfl (fun ls hl => ?_)
              refine lv_goto (tgt := 14) hx hb dX11_share_88 (by decide) ?_
              exact ih _ _ _ _ _ _ _ hf (lv_sub hl [2, 3, 1, 0] rfl) hP hS
set_option maxHeartbeats 4000000 in
set_option maxRecDepth 100000 in
theorem w_F_mX11_share_2 {p : Program} {l : Launch} {e : Env} {s : State} {m : MethodId} {args : Array Value} {below : List Frame} {meth : Method} {c : Code} {D : va_G} {C : Nat → ClassId} {A adK adV : Nat → Nat} (hA : apA A 33) (cx : Cxx D C adK adV (fxA A 33) p s m args meth c cX11_share 6 RX11 none) {res : St} : ∀ (n : Nat), ∀ (x1 : Int32) (σ : St) (H : Heap) (locs : List Loc) (ls : Array Slot), F_mX11_share_2 n x1 σ = some res → lv_has ls 6 [(0, .ref (A 0)), (1, .int x1)] → va_P D vwCl (wM A C σ) H → va_S (fxA A 33) s.heap H locs → W p l e rm_X11_share s m args below meth c H locs 0 0 (MQ below (Qcx D (wM A C) (fxA A 33) none res) args s 0 0 (fxA A 33)) (F0 m 2 ls []) := by
  obtain ⟨hx, hb, hml, hown, hts, hK, hr, hlk, hZ⟩ := id cx
  intro n
  induction n with
  | zero =>
    intro x1 σ H locs ls hf hl hP hS
    exact absurd (show (none : Option St) = some res from hf) (by intro h; cases h)
  | succ n ih =>
    intro x1 σ H locs ls hf hl hP hS
    refine lv_iload_n hx hb dX11_share_2 rfl (lv_at hl 1 rfl) ?_
    refine lv_aload_n hx hb dX11_share_3 rfl (lv_at hl 0 rfl) ?_
    refine gM_0_47 hx hb hts hown hK hP (v := (σ.1 24)) rfl (hts _ kw_745) dX11_share_4 ?_
    refine lv_icmp_ge (tgt := 202) hx hb dX11_share_7 (by decide) (fun c18 => ?_) (fun c18 => ?_)
    · have hf := (if_pos c18).symm.trans hf
      exact cx_vret cx hP hS hf dX11_share_202
    · have hf := (if_neg c18).symm.trans hf
      refine lv_iconst (v := (-1)) hx hb dX11_share_10 (by decide) ?_
      refine lv_istore_n (lv' := [(2, .int (-1)), (0, .ref (A 0)), (1, .int x1)]) hx hb dX11_share_11 rfl hl (by decide) rfl (fun ls hl => ?_)
      refine lv_iconst (v := 0) hx hb dX11_share_12 (by decide) ?_
      refine lv_istore_n (lv' := [(3, .int 0), (2, .int (-1)), (0, .ref (A 0)), (1, .int x1)]) hx hb dX11_share_13 rfl hl (by decide) rfl (fun ls hl => ?_)
      exact w_F_mX11_share_14 hA cx ih FU _ _ _ _ _ _ _ hf (lv_sub hl [2, 3, 1, 0] rfl) hP hS
set_option maxHeartbeats 4000000 in
set_option maxRecDepth 100000 in
theorem ct_mX11_share (l : Launch) (D : va_G) (C : Nat → ClassId) (A adK adV : Nat → Nat) (hA : apA A 33)  {σ : St} {res : St} (hf : F_mX11_share σ = some res) : Met l yX11_share (Cond.code yX11_share cX11_share 6 none :: wsL_law) rm_X11_share (Pcx D C (wM A C) adK adV (fxA A 33) [.ref (A 0)] σ) (Qcx D (wM A C) (fxA A 33) none res) 0 0 (fxA A 33) := by
  refine Met.ofW (cc := cX11_share) (maxL := 6) (ret := none) (by decide) rfl ?_
  intro p e s m args below meth c s₁ B hml hv
  obtain ⟨rfl, hP, hK, hZ⟩ := hv
  have cx : Cxx D C adK adV (fxA A 33) p s m _ meth c cX11_share 6 RX11 none := ⟨B.exec, B.bytes, hml, findClass_of_methodNamed B.named, fun w h => atoms_spec (ws := Cond.code yX11_share cX11_share 6 none :: wsL_law) B.pre w (List.mem_cons_of_mem _ h), hK, B.returns, B.notSynchronized, hZ⟩
  obtain ⟨hx, hb, -, hown, hts, -, hr, hlk, -⟩ := id cx
  have hS : va_S (fxA A 33) s.heap s.heap [] := va_S.rf
  have hl := lv_entry ([.ref (A 0)]) (n := 6) (Nat.le_of_ble_eq_true rfl)
  rw [lg_entry_eq]
  generalize (lg_sl ([.ref (A 0)]) ++ List.replicate (6 - (lg_sl ([.ref (A 0)])).length) Slot.unset).toArray = ls at hl ⊢
  have hl : lv_has ls 6 [(0, .ref (A 0))] := hl
  show W p l e rm_X11_share s m _ below meth c s.heap [] 0 0 _ _
  refine lv_iconst (v := 0) hx hb dX11_share_0 (by decide) ?_
  refine lv_istore_n (lv' := [(1, .int 0), (0, .ref (A 0))]) hx hb dX11_share_1 rfl hl (by decide) rfl (fun ls hl => ?_)
  exact w_F_mX11_share_2 hA cx FU _ _ _ _ _ hf (lv_sub hl [1, 0] rfl) hP hS
set_option maxHeartbeats 4000000 in
set_option maxRecDepth 100000 in
theorem ct_mX11_waitFor (l : Launch) (D : va_G) (C : Nat → ClassId) (A adK adV : Nat → Nat) (hA : apA A 33) {x1 : Int32} {x2 : Int32} {σ : St} {res : (Int32 × St)} (hf : F_mX11_waitFor x1 x2 σ = some res) : Met l yX11_waitFor (Cond.code yX11_waitFor cX11_waitFor 5 (some .int) :: wsL_law) rm_X11_waitFor (Pcx D C (wM A C) adK adV (fxA A 33) [.ref (A 0), .int x1, .int x2] σ) (Qcx D (wM A C) (fxA A 33) (some (.int res.1)) res.2) 0 0 (fxA A 33) := by
  refine Met.ofW (cc := cX11_waitFor) (maxL := 5) (ret := (some .int)) (by decide) rfl ?_
  intro p e s m args below meth c s₁ B hml hv
  obtain ⟨rfl, hP, hK, hZ⟩ := hv
  have cx : Cxx D C adK adV (fxA A 33) p s m _ meth c cX11_waitFor 5 RX11 (some .int) := ⟨B.exec, B.bytes, hml, findClass_of_methodNamed B.named, fun w h => atoms_spec (ws := Cond.code yX11_waitFor cX11_waitFor 5 (some .int) :: wsL_law) B.pre w (List.mem_cons_of_mem _ h), hK, B.returns, B.notSynchronized, hZ⟩
  obtain ⟨hx, hb, -, hown, hts, -, hr, hlk, -⟩ := id cx
  have hS : va_S (fxA A 33) s.heap s.heap [] := va_S.rf
  have hl := lv_entry ([.ref (A 0), .int x1, .int x2]) (n := 5) (Nat.le_of_ble_eq_true rfl)
  rw [lg_entry_eq]
  generalize (lg_sl ([.ref (A 0), .int x1, .int x2]) ++ List.replicate (5 - (lg_sl ([.ref (A 0), .int x1, .int x2])).length) Slot.unset).toArray = ls at hl ⊢
  have hl : lv_has ls 5 [(0, .ref (A 0)), (1, .int x1), (2, .int x2)] := hl
  show W p l e rm_X11_waitFor s m _ below meth c s.heap [] 0 0 _ _
  refine lv_aload_n hx hb dX11_waitFor_0 rfl (lv_at hl 0 rfl) ?_
  refine gM_0_14 hx hb hts hown hK hP (hts _ kw_154) dX11_waitFor_1 ?_
  refine lv_aload_n hx hb dX11_waitFor_4 rfl (lv_at hl 0 rfl) ?_
  refine gM_0_23 hx hb hts hown hK hP (hts _ kw_160) dX11_waitFor_5 ?_
  refine lv_iload_n hx hb dX11_waitFor_8 rfl (lv_at hl 1 rfl) ?_
  obtain ⟨z1, hf⟩ := gd_some hf
  refine gM_a7 hx hb hK hP (ib_in z1) (v := (σ.2.1 7 x1.toNatClampNeg)) rfl dX11_waitFor_9 ?_
  refine lv_aload_n hx hb dX11_waitFor_10 rfl (lv_at hl 0 rfl) ?_
  refine gM_0_10 hx hb hts hown hK hP (v := (σ.1 8)) rfl (hts _ kw_186) dX11_waitFor_11 ?_
  obtain ⟨z2, hf⟩ := gn_some hf
  refine lv_idiv hx hb dX11_waitFor_14 z2 ?_
  obtain ⟨z3, hf⟩ := gd_some hf
  refine gM_a2 hx hb hK hP (ib_in z3) (v := (σ.2.1 2 ((σ.2.1 7 x1.toNatClampNeg) / (σ.1 8)).toNatClampNeg)) rfl dX11_waitFor_15 ?_
  refine lv_topi (fun v4 e_v4 => ?_)
  have hf := nm_use e_v4 hf
  refine lv_istore_n (lv' := [(3, .int v4), (0, .ref (A 0)), (1, .int x1), (2, .int x2)]) hx hb dX11_waitFor_16 rfl hl (by decide) rfl (fun ls hl => ?_)
  refine lv_aload_n hx hb dX11_waitFor_17 rfl (lv_at hl 1 rfl) ?_
  refine gM_0_23 hx hb hts hown hK hP (hts _ kw_160) dX11_waitFor_18 ?_
  refine lv_iload_n hx hb dX11_waitFor_21 rfl (lv_at hl 2 rfl) ?_
  refine gM_a7 hx hb hK hP (ib_in z1) (v := (σ.2.1 7 x1.toNatClampNeg)) rfl dX11_waitFor_22 ?_
  refine lv_aload_n hx hb dX11_waitFor_23 rfl (lv_at hl 1 rfl) ?_
  refine gM_0_10 hx hb hts hown hK hP (v := (σ.1 8)) rfl (hts _ kw_186) dX11_waitFor_24 ?_
  refine lv_irem hx hb dX11_waitFor_27 z2 ?_
  refine lv_iload_n hx hb dX11_waitFor_28 rfl (lv_at hl 3 rfl) ?_
  refine lv_iload_n hx hb dX11_waitFor_29 rfl (lv_at hl 0 rfl) ?_
  obtain ⟨z5, hf⟩ := gn_some hf
  refine lv_irem hx hb dX11_waitFor_30 z5 ?_
  refine lv_isub hx hb dX11_waitFor_31 ?_
  refine lv_iload_n hx hb dX11_waitFor_32 rfl (lv_at hl 0 rfl) ?_
  refine lv_irem hx hb dX11_waitFor_33 z5 ?_
  refine lv_topi (fun v6 e_v6 => ?_)
  have hf := nm_use e_v6 hf
  refine lv_istore (lv' := [(4, .int v6), (3, .int v4), (0, .ref (A 0)), (1, .int x1), (2, .int x2)]) hx hb dX11_waitFor_34 hl (by decide) rfl (fun ls hl => ?_)
  refine lv_iload hx hb dX11_waitFor_36 (lv_at hl 0 rfl) ?_
  refine lv_if_ge (tgt := 48) hx hb dX11_waitFor_38 (by decide) (fun c7 => ?_) (fun c7 => ?_)
  · have hf := (if_pos c7).symm.trans hf
    refine lv_iload hx hb dX11_waitFor_48 (lv_at hl 0 rfl) ?_
    exact cx_iret cx hP hS hf dX11_waitFor_50
  · have hf := (if_neg c7).symm.trans hf
    refine lv_iload hx hb dX11_waitFor_41 (lv_at hl 0 rfl) ?_
    refine lv_iload_n hx hb dX11_waitFor_43 rfl (lv_at hl 1 rfl) ?_
    refine lv_iadd hx hb dX11_waitFor_44 ?_
    refine lv_goto (tgt := 50) hx hb dX11_waitFor_45 (by decide) ?_
    exact cx_iret cx hP hS hf dX11_waitFor_50
set_option maxHeartbeats 4000000 in
set_option maxRecDepth 100000 in
theorem ct_mX11_live (l : Launch) (D : va_G) (C : Nat → ClassId) (A adK adV : Nat → Nat) (hA : apA A 33) {x1 : Int32} {x2 : Int32} {σ : St} {res : St} (hf : F_mX11_live x1 x2 σ = some res) : Met l yX11_live (Cond.code yX11_live cX11_live 3 none :: wsL_law) rm_X11_live (Pcx D C (wM A C) adK adV (fxA A 33) [.ref (A 0), .int x1, .int x2] σ) (Qcx D (wM A C) (fxA A 33) none res) 0 0 (fxA A 33) := by
  refine Met.ofW (cc := cX11_live) (maxL := 3) (ret := none) (by decide) rfl ?_
  intro p e s m args below meth c s₁ B hml hv
  obtain ⟨rfl, hP, hK, hZ⟩ := hv
  have cx : Cxx D C adK adV (fxA A 33) p s m _ meth c cX11_live 3 RX11 none := ⟨B.exec, B.bytes, hml, findClass_of_methodNamed B.named, fun w h => atoms_spec (ws := Cond.code yX11_live cX11_live 3 none :: wsL_law) B.pre w (List.mem_cons_of_mem _ h), hK, B.returns, B.notSynchronized, hZ⟩
  obtain ⟨hx, hb, -, hown, hts, -, hr, hlk, -⟩ := id cx
  have hS : va_S (fxA A 33) s.heap s.heap [] := va_S.rf
  have hl := lv_entry ([.ref (A 0), .int x1, .int x2]) (n := 3) (Nat.le_of_ble_eq_true rfl)
  rw [lg_entry_eq]
  generalize (lg_sl ([.ref (A 0), .int x1, .int x2]) ++ List.replicate (3 - (lg_sl ([.ref (A 0), .int x1, .int x2])).length) Slot.unset).toArray = ls at hl ⊢
  have hl : lv_has ls 3 [(0, .ref (A 0)), (1, .int x1), (2, .int x2)] := hl
  show W p l e rm_X11_live s m _ below meth c s.heap [] 0 0 _ _
  refine lv_aload_n hx hb dX11_live_0 rfl (lv_at hl 0 rfl) ?_
  refine gM_0_42 hx hb hts hown hK hP (hts _ kw_172) dX11_live_1 ?_
  refine lv_iload_n hx hb dX11_live_4 rfl (lv_at hl 1 rfl) ?_
  obtain ⟨z1, hf⟩ := gd_some hf
  refine gM_a19 hx hb hK hP (ib_in z1) (v := (σ.2.1 19 x1.toNatClampNeg)) rfl dX11_live_5 ?_
  refine lv_iconst (v := (-1)) hx hb dX11_live_6 (by decide) ?_
  refine lv_icmp_ne (tgt := 17) hx hb dX11_live_7 (by decide) (fun c2 => ?_) (fun c2 => ?_)
  · have hf := (if_neg c2).symm.trans hf
    refine lv_aload_n hx hb dX11_live_17 rfl (lv_at hl 0 rfl) ?_
    refine gM_0_43 hx hb hts hown hK hP (hts _ kw_173) dX11_live_18 ?_
    refine lv_iload_n hx hb dX11_live_21 rfl (lv_at hl 1 rfl) ?_
    refine lv_iload_n hx hb dX11_live_22 rfl (lv_at hl 2 rfl) ?_
    refine pM_a20 hx hb hK hP hA hS (ib_in z1) dX11_live_23 (fun H locs hP hS => ?_)
    have hP : va_P D vwCl (wM A C (sA σ 20 (upd (σ.2.1 20) x1.toNatClampNeg x2))) H := hP
    exact cx_vret cx hP hS hf dX11_live_24
  · have hf := (if_pos c2).symm.trans hf
    refine lv_aload_n hx hb dX11_live_10 rfl (lv_at hl 0 rfl) ?_
    refine gM_0_42 hx hb hts hown hK hP (hts _ kw_172) dX11_live_11 ?_
    refine lv_iload_n hx hb dX11_live_14 rfl (lv_at hl 1 rfl) ?_
    refine lv_iload_n hx hb dX11_live_15 rfl (lv_at hl 2 rfl) ?_
    refine pM_a19 hx hb hK hP hA hS (ib_in z1) dX11_live_16 (fun H locs hP hS => ?_)
    refine lv_aload_n hx hb dX11_live_17 rfl (lv_at hl 0 rfl) ?_
    refine gM_0_43 hx hb hts hown hK hP (hts _ kw_173) dX11_live_18 ?_
    refine lv_iload_n hx hb dX11_live_21 rfl (lv_at hl 1 rfl) ?_
    refine lv_iload_n hx hb dX11_live_22 rfl (lv_at hl 2 rfl) ?_
    refine pM_a20 hx hb hK hP hA hS (ib_in z1) dX11_live_23 (fun H locs hP hS => ?_)
    have hP : va_P D vwCl (wM A C (sA (sA σ 19 (upd (σ.2.1 19) x1.toNatClampNeg x2)) 20 (upd (σ.2.1 20) x1.toNatClampNeg x2))) H := hP
    exact cx_vret cx hP hS hf dX11_live_24
set_option maxHeartbeats 4000000 in
set_option maxRecDepth 100000 in
theorem ct_mX11_isWrong (l : Launch) (D : va_G) (C : Nat → ClassId) (A adK adV : Nat → Nat) (hA : apA A 33) {x1 : Int32} {σ : St} {res : (Int32 × St)} (hf : F_mX11_isWrong x1 σ = some res) : Met l yX11_isWrong (Cond.code yX11_isWrong cX11_isWrong 2 (some .boolean) :: wsL_law) rm_X11_isWrong (Pcx D C (wM A C) adK adV (fxA A 33) [.ref (A 0), .int x1] σ) (Qcx D (wM A C) (fxA A 33) (some (.int res.1)) res.2) 0 0 (fxA A 33) := by
  refine Met.ofW (cc := cX11_isWrong) (maxL := 2) (ret := (some .boolean)) (by decide) rfl ?_
  intro p e s m args below meth c s₁ B hml hv
  obtain ⟨rfl, hP, hK, hZ⟩ := hv
  have cx : Cxx D C adK adV (fxA A 33) p s m _ meth c cX11_isWrong 2 RX11 (some .boolean) := ⟨B.exec, B.bytes, hml, findClass_of_methodNamed B.named, fun w h => atoms_spec (ws := Cond.code yX11_isWrong cX11_isWrong 2 (some .boolean) :: wsL_law) B.pre w (List.mem_cons_of_mem _ h), hK, B.returns, B.notSynchronized, hZ⟩
  obtain ⟨hx, hb, -, hown, hts, -, hr, hlk, -⟩ := id cx
  have hS : va_S (fxA A 33) s.heap s.heap [] := va_S.rf
  have hl := lv_entry ([.ref (A 0), .int x1]) (n := 2) (Nat.le_of_ble_eq_true rfl)
  rw [lg_entry_eq]
  generalize (lg_sl ([.ref (A 0), .int x1]) ++ List.replicate (2 - (lg_sl ([.ref (A 0), .int x1])).length) Slot.unset).toArray = ls at hl ⊢
  have hl : lv_has ls 2 [(0, .ref (A 0)), (1, .int x1)] := hl
  show W p l e rm_X11_isWrong s m _ below meth c s.heap [] 0 0 _ _
  refine lv_iload_n hx hb dX11_isWrong_0 rfl (lv_at hl 1 rfl) ?_
  refine lv_if_lt (tgt := 39) hx hb dX11_isWrong_1 (by decide) (fun c1 => ?_) (fun c1 => ?_)
  · have hf := (if_pos c1).symm.trans hf
    refine lv_iconst (v := 1) hx hb dX11_isWrong_39 (by decide) ?_
    refine lv_goto (tgt := 44) hx hb dX11_isWrong_40 (by decide) ?_
    exact cx_zret cx rfl hP hS hf dX11_isWrong_44
  · have hf := (if_neg c1).symm.trans hf
    refine lv_iload_n hx hb dX11_isWrong_4 rfl (lv_at hl 1 rfl) ?_
    refine lv_sipush (v := 10000) hx hb dX11_isWrong_5 (by decide) ?_
    refine lv_idiv hx hb dX11_isWrong_8 (by decide) ?_
    refine lv_bipush (v := 9) hx hb dX11_isWrong_9 (by decide) ?_
    refine lv_icmp_gt (tgt := 39) hx hb dX11_isWrong_11 (by decide) (fun c2 => ?_) (fun c2 => ?_)
    · have hf := (if_pos c2).symm.trans hf
      refine lv_iconst (v := 1) hx hb dX11_isWrong_39 (by decide) ?_
      refine lv_goto (tgt := 44) hx hb dX11_isWrong_40 (by decide) ?_
      exact cx_zret cx rfl hP hS hf dX11_isWrong_44
    · have hf := (if_neg c2).symm.trans hf
      refine lv_iload_n hx hb dX11_isWrong_14 rfl (lv_at hl 1 rfl) ?_
      refine lv_bipush (v := 100) hx hb dX11_isWrong_15 (by decide) ?_
      refine lv_idiv hx hb dX11_isWrong_17 (by decide) ?_
      refine lv_bipush (v := 100) hx hb dX11_isWrong_18 (by decide) ?_
      refine lv_irem hx hb dX11_isWrong_20 (by decide) ?_
      refine lv_aload_n hx hb dX11_isWrong_21 rfl (lv_at hl 0 rfl) ?_
      refine gM_0_17 hx hb hts hown hK hP (v := (σ.1 12)) rfl (hts _ kw_416) dX11_isWrong_22 ?_
      refine lv_icmp_ge (tgt := 39) hx hb dX11_isWrong_25 (by decide) (fun c3 => ?_) (fun c3 => ?_)
      · have hf := (if_pos c3).symm.trans hf
        refine lv_iconst (v := 1) hx hb dX11_isWrong_39 (by decide) ?_
        refine lv_goto (tgt := 44) hx hb dX11_isWrong_40 (by decide) ?_
        exact cx_zret cx rfl hP hS hf dX11_isWrong_44
      · have hf := (if_neg c3).symm.trans hf
        refine lv_iload_n hx hb dX11_isWrong_28 rfl (lv_at hl 1 rfl) ?_
        refine lv_bipush (v := 100) hx hb dX11_isWrong_29 (by decide) ?_
        refine lv_irem hx hb dX11_isWrong_31 (by decide) ?_
        refine lv_aload_n hx hb dX11_isWrong_32 rfl (lv_at hl 0 rfl) ?_
        refine gM_0_17 hx hb hts hown hK hP (v := (σ.1 12)) rfl (hts _ kw_416) dX11_isWrong_33 ?_
        refine lv_icmp_lt (tgt := 43) hx hb dX11_isWrong_36 (by decide) (fun c4 => ?_) (fun c4 => ?_)
        · have hf := (if_pos c4).symm.trans hf
          refine lv_iconst (v := 0) hx hb dX11_isWrong_43 (by decide) ?_
          exact cx_zret cx rfl hP hS hf dX11_isWrong_44
        · have hf := (if_neg c4).symm.trans hf
          refine lv_iconst (v := 1) hx hb dX11_isWrong_39 (by decide) ?_
          refine lv_goto (tgt := 44) hx hb dX11_isWrong_40 (by decide) ?_
          exact cx_zret cx rfl hP hS hf dX11_isWrong_44
set_option maxHeartbeats 4000000 in
set_option maxRecDepth 100000 in
theorem ct_mX11_reads (l : Launch) (D : va_G) (C : Nat → ClassId) (A adK adV : Nat → Nat) (hA : apA A 33) {x0 : Int32} {σ : St} {res : (Int32 × St)} (hf : F_mX11_reads x0 σ = some res) : Met l yX11_reads (Cond.code yX11_reads cX11_reads 1 (some .boolean) :: wsL_law) rm_X11_reads (Pcx D C (wM A C) adK adV (fxA A 33) [.int x0] σ) (Qcx D (wM A C) (fxA A 33) (some (.int res.1)) res.2) 0 0 (fxA A 33) := by
  refine Met.ofW (cc := cX11_reads) (maxL := 1) (ret := (some .boolean)) (by decide) rfl ?_
  intro p e s m args below meth c s₁ B hml hv
  obtain ⟨rfl, hP, hK, hZ⟩ := hv
  have cx : Cxx D C adK adV (fxA A 33) p s m _ meth c cX11_reads 1 RX11 (some .boolean) := ⟨B.exec, B.bytes, hml, findClass_of_methodNamed B.named, fun w h => atoms_spec (ws := Cond.code yX11_reads cX11_reads 1 (some .boolean) :: wsL_law) B.pre w (List.mem_cons_of_mem _ h), hK, B.returns, B.notSynchronized, hZ⟩
  obtain ⟨hx, hb, -, hown, hts, -, hr, hlk, -⟩ := id cx
  have hS : va_S (fxA A 33) s.heap s.heap [] := va_S.rf
  have hl := lv_entry ([.int x0]) (n := 1) (Nat.le_of_ble_eq_true rfl)
  rw [lg_entry_eq]
  generalize (lg_sl ([.int x0]) ++ List.replicate (1 - (lg_sl ([.int x0])).length) Slot.unset).toArray = ls at hl ⊢
  have hl : lv_has ls 1 [(0, .int x0)] := hl
  show W p l e rm_X11_reads s m _ below meth c s.heap [] 0 0 _ _
  refine lv_iload_n hx hb dX11_reads_0 rfl (lv_at hl 0 rfl) ?_
  refine lv_iconst (v := 1) hx hb dX11_reads_1 (by decide) ?_
  refine lv_iconst (v := 5) hx hb dX11_reads_2 (by decide) ?_
  obtain ⟨⟨r1, σ_r1⟩, h_r1, hf⟩ := bd_some hf
  refine cx_S (As := [.int x0, .int 1, .int 5]) (rest := []) cx (ct_mX11_in l D C A adK adV hA h_r1) (cw_X11_181 hts ⟨Nat.le_of_ble_eq_true rfl, Nat.le_of_ble_eq_true rfl⟩) hP hS rfl hl.1 rfl (Nat.le_of_ble_eq_true rfl) dX11_reads_3 ⟨Nat.zero_le _, Nat.zero_le _⟩ (fun H locs hP hS => ?_)
  obtain ⟨z2, hf⟩ := gd_some hf
  exact cx_zret cx (nb_ok z2) hP hS hf dX11_reads_6
