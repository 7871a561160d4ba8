set_option maxHeartbeats 4000000 in
set_option maxRecDepth 100000 in
theorem ct_xX3_alikeInTime (l : Launch) (D : va_G) (C : Nat → ClassId) (A adK adV : Nat → Nat) (hA : apA A 60) {x1 : Int32} {x2 : Int32} {σ : St} {res : (Int32 × St)} (hf : F_xX3_alikeInTime x1 x2 σ = some res) : Met l yX3_alikeInTime (Cond.code yX3_alikeInTime cX3_alikeInTime 3 (some .boolean) :: wsL_law) rm_X3_alikeInTime (Pcx D C (wX A C) adK adV (fxA A 60) [.ref (A 25), .int x1, .int x2] σ) (Qcx D (wX A C) (fxA A 60) (some (.int res.1)) res.2) 0 0 (fxA A 60) := by
  refine Met.ofW (cc := cX3_alikeInTime) (maxL := 3) (ret := (some .boolean)) (by decide) rfl ?_
  intro p e s m args below meth c s₁ B hml hv
  obtain ⟨rfl, hP, hK, hZ⟩ := hv
  have cx : Cxx D C adK adV (fxA A 60) p s m _ meth c cX3_alikeInTime 3 RX3 (some .boolean) := ⟨B.exec, B.bytes, hml, findClass_of_methodNamed B.named, fun w h => atoms_spec (ws := Cond.code yX3_alikeInTime cX3_alikeInTime 3 (some .boolean) :: wsL_law) B.pre w (List.mem_cons_of_mem _ h), hK, B.returns, B.notSynchronized, hZ⟩
  obtain ⟨hx, hb, -, hown, hts, -, hr, hlk, -⟩ := id cx
  have hS : va_S (fxA A 60) s.heap s.heap [] := va_S.rf
  have hl := lv_entry ([.ref (A 25), .int x1, .int x2]) (n := 3) (Nat.le_of_ble_eq_true rfl)
  rw [lg_entry_eq]
  generalize (lg_sl ([.ref (A 25), .int x1, .int x2]) ++ List.replicate (3 - (lg_sl ([.ref (A 25), .int x1, .int x2])).length) Slot.unset).toArray = ls at hl ⊢
  have hl : lv_has ls 3 [(0, .ref (A 25)), (1, .int x1), (2, .int x2)] := hl
  show W p l e rm_X3_alikeInTime s m _ below meth c s.heap [] 0 0 _ _
  refine lv_aload_n hx hb dX3_alikeInTime_0 rfl (lv_at hl 0 rfl) ?_
  refine gX_25_3 hx hb hts hown hK hP (hts _ kw_100) dX3_alikeInTime_1 ?_
  refine lv_iload_n hx hb dX3_alikeInTime_4 rfl (lv_at hl 1 rfl) ?_
  obtain ⟨z1, hf⟩ := gd_some hf
  refine gX_a27 hx hb hK hP (ib_in z1) (v := (σ.2.1 27 x1.toNatClampNeg)) rfl dX3_alikeInTime_5 ?_
  refine lv_aload_n hx hb dX3_alikeInTime_6 rfl (lv_at hl 0 rfl) ?_
  refine gX_25_3 hx hb hts hown hK hP (hts _ kw_100) dX3_alikeInTime_7 ?_
  refine lv_iload_n hx hb dX3_alikeInTime_10 rfl (lv_at hl 2 rfl) ?_
  obtain ⟨z2, hf⟩ := gd_some hf
  refine gX_a27 hx hb hK hP (ib_in z2) (v := (σ.2.1 27 x2.toNatClampNeg)) rfl dX3_alikeInTime_11 ?_
  refine lv_icmp_ne (tgt := 34) hx hb dX3_alikeInTime_12 (by decide) (fun c3 => ?_) (fun c3 => ?_)
  · have hf := (if_neg c3).symm.trans hf
    refine lv_iconst (v := 0) hx hb dX3_alikeInTime_34 (by decide) ?_
    exact cx_zret cx rfl hP hS hf dX3_alikeInTime_35
  · have hf := (if_pos c3).symm.trans hf
    refine lv_aload_n hx hb dX3_alikeInTime_15 rfl (lv_at hl 0 rfl) ?_
    refine gX_25_4 hx hb hts hown hK hP (hts _ kw_101) dX3_alikeInTime_16 ?_
    refine lv_iload_n hx hb dX3_alikeInTime_19 rfl (lv_at hl 1 rfl) ?_
    refine gX_a28 hx hb hK hP (ib_in z1) (v := (σ.2.1 28 x1.toNatClampNeg)) rfl dX3_alikeInTime_20 ?_
    refine lv_aload_n hx hb dX3_alikeInTime_21 rfl (lv_at hl 0 rfl) ?_
    refine gX_25_4 hx hb hts hown hK hP (hts _ kw_101) dX3_alikeInTime_22 ?_
    refine lv_iload_n hx hb dX3_alikeInTime_25 rfl (lv_at hl 2 rfl) ?_
    refine gX_a28 hx hb hK hP (ib_in z2) (v := (σ.2.1 28 x2.toNatClampNeg)) rfl dX3_alikeInTime_26 ?_
    refine lv_icmp_ne (tgt := 34) hx hb dX3_alikeInTime_27 (by decide) (fun c4 => ?_) (fun c4 => ?_)
    · have hf := (if_neg c4).symm.trans hf
      refine lv_iconst (v := 0) hx hb dX3_alikeInTime_34 (by decide) ?_
      exact cx_zret cx rfl hP hS hf dX3_alikeInTime_35
    · have hf := (if_pos c4).symm.trans hf
      refine lv_iconst (v := 1) hx hb dX3_alikeInTime_30 (by decide) ?_
      refine lv_goto (tgt := 35) hx hb dX3_alikeInTime_31 (by decide) ?_
      exact cx_zret cx rfl hP hS hf dX3_alikeInTime_35
set_option maxHeartbeats 4000000 in
set_option maxRecDepth 100000 in
theorem w_F_xX1_trackOf_18 {p : Program} {l : Launch} {e : Env} {s : State} {m : MethodId} {args : Array Value} {below : List Frame} {meth : Method} {c : Code} {D : va_G} {C : Nat → ClassId} {A adK adV : Nat → Nat} (hA : apA A 60) (cx : Cxx D C adK adV (fxA A 60) p s m args meth c cX1_trackOf 3 RX1 (some .int)) {res : (Int32 × St)} : ∀ (y0 : Int32) (σ : St) (H : Heap) (locs : List Loc) (ls : Array Slot), F_xX1_trackOf_18 y0 σ = some res → lv_has ls 3 [] → va_P D vwCl (wX A C σ) H → va_S (fxA A 60) s.heap H locs → W p l e rm_X1_trackOf s m args below meth c H locs 0 0 (MQ below (Qcx D (wX A C) (fxA A 60) (some (.int res.1)) res.2) args s 0 0 (fxA A 60)) (F0 m 18 ls [.int y0]) := by
  obtain ⟨hx, hb, hml, hown, hts, hK, hr, hlk, hZ⟩ := id cx
  intro y0 σ H locs ls hf hl hP hS
  refine lv_istore_n (lv' := [(2, .int y0)]) hx hb dX1_trackOf_18 rfl hl (by decide) rfl (fun ls hl => ?_)
  refine lv_iload_n hx hb dX1_trackOf_19 rfl (lv_at hl 0 rfl) ?_
  refine lv_if_lt (tgt := 28) hx hb dX1_trackOf_20 (by decide) (fun c1 => ?_) (fun c1 => ?_)
  · have hf := (if_pos c1).symm.trans hf
    refine lv_iconst (v := 0) hx hb dX1_trackOf_28 (by decide) ?_
    refine lv_goto (tgt := 33) hx hb dX1_trackOf_29 (by decide) ?_
    exact cx_iret cx hP hS hf dX1_trackOf_33
  · have hf := (if_neg c1).symm.trans hf
    refine lv_iload_n hx hb dX1_trackOf_23 rfl (lv_at hl 0 rfl) ?_
    refine lv_iconst (v := 4) hx hb dX1_trackOf_24 (by decide) ?_
    refine lv_icmp_lt (tgt := 32) hx hb dX1_trackOf_25 (by decide) (fun c2 => ?_) (fun c2 => ?_)
    · have hf := (if_pos c2).symm.trans hf
      refine lv_iload_n hx hb dX1_trackOf_32 rfl (lv_at hl 0 rfl) ?_
      exact cx_iret cx hP hS hf dX1_trackOf_33
    · have hf := (if_neg c2).symm.trans hf
      refine lv_iconst (v := 0) hx hb dX1_trackOf_28 (by decide) ?_
      refine lv_goto (tgt := 33) hx hb dX1_trackOf_29 (by decide) ?_
      exact cx_iret cx hP hS hf dX1_trackOf_33
set_option maxHeartbeats 4000000 in
set_option maxRecDepth 100000 in
theorem ct_xX1_trackOf (l : Launch) (D : va_G) (C : Nat → ClassId) (A adK adV : Nat → Nat) (hA : apA A 60) {x1 : Int32} {σ : St} {res : (Int32 × St)} (hf : F_xX1_trackOf x1 σ = some res) : Met l yX1_trackOf (Cond.code yX1_trackOf cX1_trackOf 3 (some .int) :: wsL_law) rm_X1_trackOf (Pcx D C (wX A C) adK adV (fxA A 60) [.ref (A 3), .int x1] σ) (Qcx D (wX A C) (fxA A 60) (some (.int res.1)) res.2) 0 0 (fxA A 60) := by
  refine Met.ofW (cc := cX1_trackOf) (maxL := 3) (ret := (some .int)) (by decide) rfl ?_
  intro p e s m args below meth c s₁ B hml hv
  obtain ⟨rfl, hP, hK, hZ⟩ := hv
  have cx : Cxx D C adK adV (fxA A 60) p s m _ meth c cX1_trackOf 3 RX1 (some .int) := ⟨B.exec, B.bytes, hml, findClass_of_methodNamed B.named, fun w h => atoms_spec (ws := Cond.code yX1_trackOf cX1_trackOf 3 (some .int) :: wsL_law) B.pre w (List.mem_cons_of_mem _ h), hK, B.returns, B.notSynchronized, hZ⟩
  obtain ⟨hx, hb, -, hown, hts, -, hr, hlk, -⟩ := id cx
  have hS : va_S (fxA A 60) s.heap s.heap [] := va_S.rf
  have hl := lv_entry ([.ref (A 3), .int x1]) (n := 3) (Nat.le_of_ble_eq_true rfl)
  rw [lg_entry_eq]
  generalize (lg_sl ([.ref (A 3), .int x1]) ++ List.replicate (3 - (lg_sl ([.ref (A 3), .int x1])).length) Slot.unset).toArray = ls at hl ⊢
  have hl : lv_has ls 3 [(0, .ref (A 3)), (1, .int x1)] := hl
  show W p l e rm_X1_trackOf s m _ below meth c s.heap [] 0 0 _ _
  refine lv_aload_n hx hb dX1_trackOf_0 rfl (lv_at hl 0 rfl) ?_
  refine gX_3_0 hx hb hts hown hK hP (v := (σ.1 7)) rfl (hts _ kw_66) dX1_trackOf_1 ?_
  refine lv_iconst (v := 1) hx hb dX1_trackOf_4 (by decide) ?_
  refine lv_icmp_ge (tgt := 12) hx hb dX1_trackOf_5 (by decide) (fun c3 => ?_) (fun c3 => ?_)
  · have hf := (if_pos c3).symm.trans hf
    refine lv_iload_n hx hb dX1_trackOf_12 rfl (lv_at hl 1 rfl) ?_
    refine lv_aload_n hx hb dX1_trackOf_13 rfl (lv_at hl 0 rfl) ?_
    refine gX_3_0 hx hb hts hown hK hP (v := (σ.1 7)) rfl (hts _ kw_66) dX1_trackOf_14 ?_
    obtain ⟨z4, hf⟩ := gn_some hf
    refine lv_idiv hx hb dX1_trackOf_17 z4 ?_
    exact w_F_xX1_trackOf_18 hA cx _ _ _ _ _ hf (lv_sub hl [] rfl) hP hS
  · have hf := (if_neg c3).symm.trans hf
    refine lv_iconst (v := 0) hx hb dX1_trackOf_8 (by decide) ?_
    refine lv_goto (tgt := 18) hx hb dX1_trackOf_9 (by decide) ?_
    exact w_F_xX1_trackOf_18 hA cx _ _ _ _ _ hf (lv_sub hl [] rfl) hP hS
set_option maxHeartbeats 4000000 in
set_option maxRecDepth 100000 in
theorem ct_xX1_roundOf (l : Launch) (D : va_G) (C : Nat → ClassId) (A adK adV : Nat → Nat) (hA : apA A 60) {x1 : Int32} {σ : St} {res : (Int32 × St)} (hf : F_xX1_roundOf x1 σ = some res) : Met l yX1_roundOf (Cond.code yX1_roundOf cX1_roundOf 2 (some .int) :: wsL_law) rm_X1_roundOf (Pcx D C (wX A C) adK adV (fxA A 60) [.ref (A 3), .int x1] σ) (Qcx D (wX A C) (fxA A 60) (some (.int res.1)) res.2) 0 0 (fxA A 60) := by
  refine Met.ofW (cc := cX1_roundOf) (maxL := 2) (ret := (some .int)) (by decide) rfl ?_
  intro p e s m args below meth c s₁ B hml hv
  obtain ⟨rfl, hP, hK, hZ⟩ := hv
  have cx : Cxx D C adK adV (fxA A 60) p s m _ meth c cX1_roundOf 2 RX1 (some .int) := ⟨B.exec, B.bytes, hml, findClass_of_methodNamed B.named, fun w h => atoms_spec (ws := Cond.code yX1_roundOf cX1_roundOf 2 (some .int) :: wsL_law) B.pre w (List.mem_cons_of_mem _ h), hK, B.returns, B.notSynchronized, hZ⟩
  obtain ⟨hx, hb, -, hown, hts, -, hr, hlk, -⟩ := id cx
  have hS : va_S (fxA A 60) s.heap s.heap [] := va_S.rf
  have hl := lv_entry ([.ref (A 3), .int x1]) (n := 2) (Nat.le_of_ble_eq_true rfl)
  rw [lg_entry_eq]
  generalize (lg_sl ([.ref (A 3), .int x1]) ++ List.replicate (2 - (lg_sl ([.ref (A 3), .int x1])).length) Slot.unset).toArray = ls at hl ⊢
  have hl : lv_has ls 2 [(0, .ref (A 3)), (1, .int x1)] := hl
  show W p l e rm_X1_roundOf s m _ below meth c s.heap [] 0 0 _ _
  refine lv_aload_n hx hb dX1_roundOf_0 rfl (lv_at hl 0 rfl) ?_
  refine gX_3_2 hx hb hts hown hK hP (hts _ kw_64) dX1_roundOf_1 ?_
  refine lv_aload_n hx hb dX1_roundOf_4 rfl (lv_at hl 0 rfl) ?_
  refine lv_iload_n hx hb dX1_roundOf_5 rfl (lv_at hl 1 rfl) ?_
  obtain ⟨⟨r1, σ_r1⟩, h_r1, hf⟩ := bd_some hf
  refine cx_V (As := [.int x1]) (rest := [.ref (A 4)]) cx (ct_xX1_trackOf l D C A adK adV hA h_r1) (cw_X1_39 hts ⟨Nat.le_of_ble_eq_true rfl, Nat.le_of_ble_eq_true rfl⟩) (va_recv hK hP (ci := 1) (q0 := 3) rfl (wX_3 A C _)) hP hS rfl hl.1 rfl (Nat.le_of_ble_eq_true rfl) dX1_roundOf_6 ⟨Nat.zero_le _, Nat.zero_le _⟩ (fun H locs hP hS => ?_)
  obtain ⟨z2, hf⟩ := gd_some hf
  refine gX_a4 hx hb hK hP (ib_in z2) (v := (σ_r1.2.1 4 r1.toNatClampNeg)) rfl dX1_roundOf_9 ?_
  exact cx_iret cx hP hS hf dX1_roundOf_10
set_option maxHeartbeats 4000000 in
set_option maxRecDepth 100000 in
theorem ct_xX1_placeOf (l : Launch) (D : va_G) (C : Nat → ClassId) (A adK adV : Nat → Nat) (hA : apA A 60) {x1 : Int32} {σ : St} {res : (Int32 × St)} (hf : F_xX1_placeOf x1 σ = some res) : Met l yX1_placeOf (Cond.code yX1_placeOf cX1_placeOf 2 (some .int) :: wsL_law) rm_X1_placeOf (Pcx D C (wX A C) adK adV (fxA A 60) [.ref (A 3), .int x1] σ) (Qcx D (wX A C) (fxA A 60) (some (.int res.1)) res.2) 0 0 (fxA A 60) := by
  refine Met.ofW (cc := cX1_placeOf) (maxL := 2) (ret := (some .int)) (by decide) rfl ?_
  intro p e s m args below meth c s₁ B hml hv
  obtain ⟨rfl, hP, hK, hZ⟩ := hv
  have cx : Cxx D C adK adV (fxA A 60) p s m _ meth c cX1_placeOf 2 RX1 (some .int) := ⟨B.exec, B.bytes, hml, findClass_of_methodNamed B.named, fun w h => atoms_spec (ws := Cond.code yX1_placeOf cX1_placeOf 2 (some .int) :: wsL_law) B.pre w (List.mem_cons_of_mem _ h), hK, B.returns, B.notSynchronized, hZ⟩
  obtain ⟨hx, hb, -, hown, hts, -, hr, hlk, -⟩ := id cx
  have hS : va_S (fxA A 60) s.heap s.heap [] := va_S.rf
  have hl := lv_entry ([.ref (A 3), .int x1]) (n := 2) (Nat.le_of_ble_eq_true rfl)
  rw [lg_entry_eq]
  generalize (lg_sl ([.ref (A 3), .int x1]) ++ List.replicate (2 - (lg_sl ([.ref (A 3), .int x1])).length) Slot.unset).toArray = ls at hl ⊢
  have hl : lv_has ls 2 [(0, .ref (A 3)), (1, .int x1)] := hl
  show W p l e rm_X1_placeOf s m _ below meth c s.heap [] 0 0 _ _
  refine lv_aload_n hx hb dX1_placeOf_0 rfl (lv_at hl 0 rfl) ?_
  refine gX_3_0 hx hb hts hown hK hP (v := (σ.1 7)) rfl (hts _ kw_66) dX1_placeOf_1 ?_
  refine lv_iconst (v := 1) hx hb dX1_placeOf_4 (by decide) ?_
  refine lv_icmp_ge (tgt := 12) hx hb dX1_placeOf_5 (by decide) (fun c1 => ?_) (fun c1 => ?_)
  · have hf := (if_pos c1).symm.trans hf
    refine lv_iload_n hx hb dX1_placeOf_12 rfl (lv_at hl 1 rfl) ?_
    refine lv_aload_n hx hb dX1_placeOf_13 rfl (lv_at hl 0 rfl) ?_
    refine gX_3_0 hx hb hts hown hK hP (v := (σ.1 7)) rfl (hts _ kw_66) dX1_placeOf_14 ?_
    obtain ⟨z2, hf⟩ := gn_some hf
    refine lv_irem hx hb dX1_placeOf_17 z2 ?_
    exact cx_iret cx hP hS hf dX1_placeOf_18
  · have hf := (if_neg c1).symm.trans hf
    refine lv_iconst (v := 0) hx hb dX1_placeOf_8 (by decide) ?_
    refine lv_goto (tgt := 18) hx hb dX1_placeOf_9 (by decide) ?_
    exact cx_iret cx hP hS hf dX1_placeOf_18
set_option maxHeartbeats 4000000 in
set_option maxRecDepth 100000 in
theorem ct_xX3_put (l : Launch) (D : va_G) (C : Nat → ClassId) (A adK adV : Nat → Nat) (hA : apA A 60) {x1 : Int32} {x2 : Int32} {σ : St} {res : St} (hf : F_xX3_put x1 x2 σ = some res) : Met l yX3_put (Cond.code yX3_put cX3_put 4 none :: wsL_law) rm_X3_put (Pcx D C (wX A C) adK adV (fxA A 60) [.ref (A 25), .int x1, .int x2] σ) (Qcx D (wX A C) (fxA A 60) none res) 0 0 (fxA A 60) := by
  refine Met.ofW (cc := cX3_put) (maxL := 4) (ret := none) (by decide) rfl ?_
  intro p e s m args below meth c s₁ B hml hv
  obtain ⟨rfl, hP, hK, hZ⟩ := hv
  have cx : Cxx D C adK adV (fxA A 60) p s m _ meth c cX3_put 4 RX3 none := ⟨B.exec, B.bytes, hml, findClass_of_methodNamed B.named, fun w h => atoms_spec (ws := Cond.code yX3_put cX3_put 4 none :: wsL_law) B.pre w (List.mem_cons_of_mem _ h), hK, B.returns, B.notSynchronized, hZ⟩
  obtain ⟨hx, hb, -, hown, hts, -, hr, hlk, -⟩ := id cx
  have hS : va_S (fxA A 60) s.heap s.heap [] := va_S.rf
  have hl := lv_entry ([.ref (A 25), .int x1, .int x2]) (n := 4) (Nat.le_of_ble_eq_true rfl)
  rw [lg_entry_eq]
  generalize (lg_sl ([.ref (A 25), .int x1, .int x2]) ++ List.replicate (4 - (lg_sl ([.ref (A 25), .int x1, .int x2])).length) Slot.unset).toArray = ls at hl ⊢
  have hl : lv_has ls 4 [(0, .ref (A 25)), (1, .int x1), (2, .int x2)] := hl
  show W p l e rm_X3_put s m _ below meth c s.heap [] 0 0 _ _
  refine lv_iload_n hx hb dX3_put_0 rfl (lv_at hl 1 rfl) ?_
  refine lv_if_lt (tgt := 21) hx hb dX3_put_1 (by decide) (fun c1 => ?_) (fun c1 => ?_)
  · have hf := (if_pos c1).symm.trans hf
    exact cx_vret cx hP hS hf dX3_put_21
  · have hf := (if_neg c1).symm.trans hf
    refine lv_iload_n hx hb dX3_put_4 rfl (lv_at hl 1 rfl) ?_
    refine lv_bipush (v := 40) hx hb dX3_put_5 (by decide) ?_
    refine lv_icmp_ge (tgt := 21) hx hb dX3_put_7 (by decide) (fun c2 => ?_) (fun c2 => ?_)
    · have hf := (if_pos c2).symm.trans hf
      exact cx_vret cx hP hS hf dX3_put_21
    · have hf := (if_neg c2).symm.trans hf
      refine lv_iload_n hx hb dX3_put_10 rfl (lv_at hl 2 rfl) ?_
      refine lv_if_lt (tgt := 21) hx hb dX3_put_11 (by decide) (fun c3 => ?_) (fun c3 => ?_)
      · have hf := (if_pos c3).symm.trans hf
        exact cx_vret cx hP hS hf dX3_put_21
      · have hf := (if_neg c3).symm.trans hf
        refine lv_iload_n hx hb dX3_put_14 rfl (lv_at hl 2 rfl) ?_
        refine lv_sipush (v := 128) hx hb dX3_put_15 (by decide) ?_
        refine lv_icmp_lt (tgt := 22) hx hb dX3_put_18 (by decide) (fun c4 => ?_) (fun c4 => ?_)
        · have hf := (if_pos c4).symm.trans hf
          refine lv_aload_n hx hb dX3_put_22 rfl (lv_at hl 0 rfl) ?_
          refine gX_25_2 hx hb hts hown hK hP (hts _ kw_99) dX3_put_23 ?_
          refine lv_iload_n hx hb dX3_put_26 rfl (lv_at hl 1 rfl) ?_
          refine lv_iload_n hx hb dX3_put_27 rfl (lv_at hl 2 rfl) ?_
          obtain ⟨z5, hf⟩ := gd_some hf
          refine pX_a26 hx hb hK hP hA hS (ib_in z5) dX3_put_28 (fun H locs hP hS => ?_)
          refine lv_aload_n hx hb dX3_put_29 rfl (lv_at hl 0 rfl) ?_
          refine gX_25_5 hx hb hts hown hK hP (hts _ kw_102) dX3_put_30 ?_
          refine lv_iload_n hx hb dX3_put_33 rfl (lv_at hl 2 rfl) ?_
          refine lv_iload_n hx hb dX3_put_34 rfl (lv_at hl 1 rfl) ?_
          obtain ⟨z6, hf⟩ := gd_some hf
          refine pX_a29 hx hb hK hP hA hS (ib_in z6) dX3_put_35 (fun H locs hP hS => ?_)
          refine lv_aload_n hx hb dX3_put_36 rfl (lv_at hl 0 rfl) ?_
          refine gX_25_0 hx hb hts hown hK hP (hts _ kw_108) dX3_put_37 ?_
          refine lv_iload_n hx hb dX3_put_40 rfl (lv_at hl 2 rfl) ?_
          have hP : va_P D vwCl (wX A C (sA (sA σ 26 (upd (σ.2.1 26) x1.toNatClampNeg x2)) 29 (upd (σ.2.1 29) x2.toNatClampNeg x1))) H := hP
          obtain ⟨⟨r7, σ_r7⟩, h_r7, hf⟩ := bd_some hf
          refine cx_V (As := [.int x2]) (rest := []) cx (ct_xX1_roundOf l D C A adK adV hA h_r7) (cw_X3_60 hts ⟨Nat.le_of_ble_eq_true rfl, Nat.le_of_ble_eq_true rfl⟩) (va_recv hK hP (ci := 1) (q0 := 3) rfl (wX_3 A C _)) hP hS rfl hl.1 rfl (Nat.le_of_ble_eq_true rfl) dX3_put_41 ⟨Nat.zero_le _, Nat.zero_le _⟩ (fun H locs hP hS => ?_)
          refine lv_istore_n (lv' := [(3, .int r7), (0, .ref (A 25)), (1, .int x1), (2, .int x2)]) hx hb dX3_put_44 rfl hl (by decide) rfl (fun ls hl => ?_)
          refine lv_iload_n hx hb dX3_put_45 rfl (lv_at hl 0 rfl) ?_
          refine lv_if_le (tgt := 72) hx hb dX3_put_46 (by decide) (fun c8 => ?_) (fun c8 => ?_)
          · have hf := (if_pos c8).symm.trans hf
            exact cx_vret cx hP hS hf dX3_put_72
          · have hf := (if_neg c8).symm.trans hf
            refine lv_aload_n hx hb dX3_put_49 rfl (lv_at hl 1 rfl) ?_
            refine gX_25_4 hx hb hts hown hK hP (hts _ kw_101) dX3_put_50 ?_
            refine lv_iload_n hx hb dX3_put_53 rfl (lv_at hl 2 rfl) ?_
            refine lv_iload_n hx hb dX3_put_54 rfl (lv_at hl 0 rfl) ?_
            refine pX_a28 hx hb hK hP hA hS (ib_in z5) dX3_put_55 (fun H locs hP hS => ?_)
            refine lv_aload_n hx hb dX3_put_56 rfl (lv_at hl 1 rfl) ?_
            refine gX_25_3 hx hb hts hown hK hP (hts _ kw_100) dX3_put_57 ?_
            refine lv_iload_n hx hb dX3_put_60 rfl (lv_at hl 2 rfl) ?_
            refine lv_aload_n hx hb dX3_put_61 rfl (lv_at hl 1 rfl) ?_
            refine gX_25_0 hx hb hts hown hK hP (hts _ kw_108) dX3_put_62 ?_
            refine lv_iload_n hx hb dX3_put_65 rfl (lv_at hl 3 rfl) ?_
            have hP : va_P D vwCl (wX A C (sA σ_r7 28 (upd (σ_r7.2.1 28) x1.toNatClampNeg r7))) H := hP
            obtain ⟨⟨r9, σ_r9⟩, h_r9, hf⟩ := bd_some hf
            refine cx_V (As := [.int x2]) (rest := [.int x1, .ref (A 27)]) cx (ct_xX1_placeOf l D C A adK adV hA h_r9) (cw_X3_64 hts ⟨Nat.le_of_ble_eq_true rfl, Nat.le_of_ble_eq_true rfl⟩) (va_recv hK hP (ci := 1) (q0 := 3) rfl (wX_3 A C _)) hP hS rfl hl.1 rfl (Nat.le_of_ble_eq_true rfl) dX3_put_66 ⟨Nat.zero_le _, Nat.zero_le _⟩ (fun H locs hP hS => ?_)
            refine lv_iload_n hx hb dX3_put_69 rfl (lv_at hl 0 rfl) ?_
            obtain ⟨z10, hf⟩ := gn_some hf
            refine lv_irem hx hb dX3_put_70 z10 ?_
            refine pX_a27 hx hb hK hP hA hS (ib_in z5) dX3_put_71 (fun H locs hP hS => ?_)
            have hP : va_P D vwCl (wX A C (sA σ_r9 27 (upd (σ_r9.2.1 27) x1.toNatClampNeg (r9 - r9 / r7 * r7)))) H := hP
            exact cx_vret cx hP hS hf dX3_put_72
        · have hf := (if_neg c4).symm.trans hf
          exact cx_vret cx hP hS hf dX3_put_21
set_option maxHeartbeats 4000000 in
set_option maxRecDepth 100000 in
theorem ct_xX3_swap (l : Launch) (D : va_G) (C : Nat → ClassId) (A adK adV : Nat → Nat) (hA : apA A 60) {x1 : Int32} {x2 : Int32} {σ : St} {res : St} (hf : F_xX3_swap x1 x2 σ = some res) : Met l yX3_swap (Cond.code yX3_swap cX3_swap 4 none :: wsL_law) rm_X3_swap (Pcx D C (wX A C) adK adV (fxA A 60) [.ref (A 25), .int x1, .int x2] σ) (Qcx D (wX A C) (fxA A 60) none res) 0 0 (fxA A 60) := by
  refine Met.ofW (cc := cX3_swap) (maxL := 4) (ret := none) (by decide) rfl ?_
  intro p e s m args below meth c s₁ B hml hv
  obtain ⟨rfl, hP, hK, hZ⟩ := hv
  have cx : Cxx D C adK adV (fxA A 60) p s m _ meth c cX3_swap 4 RX3 none := ⟨B.exec, B.bytes, hml, findClass_of_methodNamed B.named, fun w h => atoms_spec (ws := Cond.code yX3_swap cX3_swap 4 none :: wsL_law) B.pre w (List.mem_cons_of_mem _ h), hK, B.returns, B.notSynchronized, hZ⟩
  obtain ⟨hx, hb, -, hown, hts, -, hr, hlk, -⟩ := id cx
  have hS : va_S (fxA A 60) s.heap s.heap [] := va_S.rf
  have hl := lv_entry ([.ref (A 25), .int x1, .int x2]) (n := 4) (Nat.le_of_ble_eq_true rfl)
  rw [lg_entry_eq]
  generalize (lg_sl ([.ref (A 25), .int x1, .int x2]) ++ List.replicate (4 - (lg_sl ([.ref (A 25), .int x1, .int x2])).length) Slot.unset).toArray = ls at hl ⊢
  have hl : lv_has ls 4 [(0, .ref (A 25)), (1, .int x1), (2, .int x2)] := hl
  show W p l e rm_X3_swap s m _ below meth c s.heap [] 0 0 _ _
  refine lv_iload_n hx hb dX3_swap_0 rfl (lv_at hl 1 rfl) ?_
  refine lv_if_lt (tgt := 20) hx hb dX3_swap_1 (by decide) (fun c1 => ?_) (fun c1 => ?_)
  · have hf := (if_pos c1).symm.trans hf
    exact cx_vret cx hP hS hf dX3_swap_20
  · have hf := (if_neg c1).symm.trans hf
    refine lv_iload_n hx hb dX3_swap_4 rfl (lv_at hl 1 rfl) ?_
    refine lv_bipush (v := 40) hx hb dX3_swap_5 (by decide) ?_
    refine lv_icmp_ge (tgt := 20) hx hb dX3_swap_7 (by decide) (fun c2 => ?_) (fun c2 => ?_)
    · have hf := (if_pos c2).symm.trans hf
      exact cx_vret cx hP hS hf dX3_swap_20
    · have hf := (if_neg c2).symm.trans hf
      refine lv_iload_n hx hb dX3_swap_10 rfl (lv_at hl 2 rfl) ?_
      refine lv_if_lt (tgt := 20) hx hb dX3_swap_11 (by decide) (fun c3 => ?_) (fun c3 => ?_)
      · have hf := (if_pos c3).symm.trans hf
        exact cx_vret cx hP hS hf dX3_swap_20
      · have hf := (if_neg c3).symm.trans hf
        refine lv_iload_n hx hb dX3_swap_14 rfl (lv_at hl 2 rfl) ?_
        refine lv_bipush (v := 40) hx hb dX3_swap_15 (by decide) ?_
        refine lv_icmp_lt (tgt := 21) hx hb dX3_swap_17 (by decide) (fun c4 => ?_) (fun c4 => ?_)
        · have hf := (if_pos c4).symm.trans hf
          refine lv_aload_n hx hb dX3_swap_21 rfl (lv_at hl 0 rfl) ?_
          refine gX_25_2 hx hb hts hown hK hP (hts _ kw_99) dX3_swap_22 ?_
          refine lv_iload_n hx hb dX3_swap_25 rfl (lv_at hl 1 rfl) ?_
          obtain ⟨z5, hf⟩ := gd_some hf
          refine gX_a26 hx hb hK hP (ib_in z5) (v := (σ.2.1 26 x1.toNatClampNeg)) rfl dX3_swap_26 ?_
          refine lv_istore_n (lv' := [(3, .int (σ.2.1 26 x1.toNatClampNeg)), (0, .ref (A 25)), (1, .int x1), (2, .int x2)]) hx hb dX3_swap_27 rfl hl (by decide) rfl (fun ls hl => ?_)
          refine lv_aload_n hx hb dX3_swap_28 rfl (lv_at hl 1 rfl) ?_
          refine lv_iload_n hx hb dX3_swap_29 rfl (lv_at hl 2 rfl) ?_
          refine lv_aload_n hx hb dX3_swap_30 rfl (lv_at hl 1 rfl) ?_
          refine gX_25_2 hx hb hts hown hK hP (hts _ kw_99) dX3_swap_31 ?_
          refine lv_iload_n hx hb dX3_swap_34 rfl (lv_at hl 3 rfl) ?_
          obtain ⟨z6, hf⟩ := gd_some hf
          refine gX_a26 hx hb hK hP (ib_in z6) (v := (σ.2.1 26 x2.toNatClampNeg)) rfl dX3_swap_35 ?_
          obtain ⟨σ_r7, h_r7, hf⟩ := bv_some hf
          refine cx_V (As := [.int x1, .int (σ.2.1 26 x2.toNatClampNeg)]) (rest := []) cx (ct_xX3_put l D C A adK adV hA h_r7) (cw_X3_56 hts ⟨Nat.le_of_ble_eq_true rfl, Nat.le_of_ble_eq_true rfl⟩) (va_recv hK hP (ci := 3) (q0 := 25) rfl (wX_25 A C _)) hP hS rfl hl.1 rfl (Nat.le_of_ble_eq_true rfl) dX3_swap_36 ⟨Nat.zero_le _, Nat.zero_le _⟩ (fun H locs hP hS => ?_)
          refine lv_aload_n hx hb dX3_swap_39 rfl (lv_at hl 1 rfl) ?_
          refine lv_iload_n hx hb dX3_swap_40 rfl (lv_at hl 3 rfl) ?_
          refine lv_iload_n hx hb dX3_swap_41 rfl (lv_at hl 0 rfl) ?_
          obtain ⟨σ_r8, h_r8, hf⟩ := bv_some hf
          refine cx_V (As := [.int x2, .int (σ.2.1 26 x1.toNatClampNeg)]) (rest := []) cx (ct_xX3_put l D C A adK adV hA h_r8) (cw_X3_56 hts ⟨Nat.le_of_ble_eq_true rfl, Nat.le_of_ble_eq_true rfl⟩) (va_recv hK hP (ci := 3) (q0 := 25) rfl (wX_25 A C _)) hP hS rfl hl.1 rfl (Nat.le_of_ble_eq_true rfl) dX3_swap_42 ⟨Nat.zero_le _, Nat.zero_le _⟩ (fun H locs hP hS => ?_)
          exact cx_vret cx hP hS hf dX3_swap_45
        · have hf := (if_neg c4).symm.trans hf
          exact cx_vret cx hP hS hf dX3_swap_20
set_option maxHeartbeats 4000000 in
set_option maxRecDepth 100000 in
theorem ct_xX0_extraIn (l : Launch) (D : va_G) (C : Nat → ClassId) (A adK adV : Nat → Nat) (hA : apA A 60) {x0 : Int32} {σ : St} {res : (Int32 × St)} (hf : F_xX0_extraIn x0 σ = some res) : Met l yX0_extraIn (Cond.code yX0_extraIn cX0_extraIn 1 (some .int) :: wsL_law) rm_X0_extraIn (Pcx D C (wX A C) adK adV (fxA A 60) [.int x0] σ) (Qcx D (wX A C) (fxA A 60) (some (.int res.1)) res.2) 0 0 (fxA A 60) := by
  refine Met.ofW (cc := cX0_extraIn) (maxL := 1) (ret := (some .int)) (by decide) rfl ?_
  intro p e s m args below meth c s₁ B hml hv
  obtain ⟨rfl, hP, hK, hZ⟩ := hv
  have cx : Cxx D C adK adV (fxA A 60) p s m _ meth c cX0_extraIn 1 RX0 (some .int) := ⟨B.exec, B.bytes, hml, findClass_of_methodNamed B.named, fun w h => atoms_spec (ws := Cond.code yX0_extraIn cX0_extraIn 1 (some .int) :: wsL_law) B.pre w (List.mem_cons_of_mem _ h), hK, B.returns, B.notSynchronized, hZ⟩
  obtain ⟨hx, hb, -, hown, hts, -, hr, hlk, -⟩ := id cx
  have hS : va_S (fxA A 60) s.heap s.heap [] := va_S.rf
  have hl := lv_entry ([.int x0]) (n := 1) (Nat.le_of_ble_eq_true rfl)
  rw [lg_entry_eq]
  generalize (lg_sl ([.int x0]) ++ List.replicate (1 - (lg_sl ([.int x0])).length) Slot.unset).toArray = ls at hl ⊢
  have hl : lv_has ls 1 [(0, .int x0)] := hl
  show W p l e rm_X0_extraIn s m _ below meth c s.heap [] 0 0 _ _
  refine lv_iload_n hx hb dX0_extraIn_0 rfl (lv_at hl 0 rfl) ?_
  refine lv_bipush (v := 12) hx hb dX0_extraIn_1 (by decide) ?_
  refine lv_ishr hx hb dX0_extraIn_3 ?_
  exact cx_iret cx hP hS hf dX0_extraIn_4
set_option maxHeartbeats 4000000 in
set_option maxRecDepth 100000 in
theorem ct_xX0_nameIn (l : Launch) (D : va_G) (C : Nat → ClassId) (A adK adV : Nat → Nat) (hA : apA A 60) {x0 : Int32} {σ : St} {res : (Int32 × St)} (hf : F_xX0_nameIn x0 σ = some res) : Met l yX0_nameIn (Cond.code yX0_nameIn cX0_nameIn 1 (some .int) :: wsL_law) rm_X0_nameIn (Pcx D C (wX A C) adK adV (fxA A 60) [.int x0] σ) (Qcx D (wX A C) (fxA A 60) (some (.int res.1)) res.2) 0 0 (fxA A 60) := by
  refine Met.ofW (cc := cX0_nameIn) (maxL := 1) (ret := (some .int)) (by decide) rfl ?_
  intro p e s m args below meth c s₁ B hml hv
  obtain ⟨rfl, hP, hK, hZ⟩ := hv
  have cx : Cxx D C adK adV (fxA A 60) p s m _ meth c cX0_nameIn 1 RX0 (some .int) := ⟨B.exec, B.bytes, hml, findClass_of_methodNamed B.named, fun w h => atoms_spec (ws := Cond.code yX0_nameIn cX0_nameIn 1 (some .int) :: wsL_law) B.pre w (List.mem_cons_of_mem _ h), hK, B.returns, B.notSynchronized, hZ⟩
  obtain ⟨hx, hb, -, hown, hts, -, hr, hlk, -⟩ := id cx
  have hS : va_S (fxA A 60) s.heap s.heap [] := va_S.rf
  have hl := lv_entry ([.int x0]) (n := 1) (Nat.le_of_ble_eq_true rfl)
  rw [lg_entry_eq]
  generalize (lg_sl ([.int x0]) ++ List.replicate (1 - (lg_sl ([.int x0])).length) Slot.unset).toArray = ls at hl ⊢
  have hl : lv_has ls 1 [(0, .int x0)] := hl
  show W p l e rm_X0_nameIn s m _ below meth c s.heap [] 0 0 _ _
  refine lv_iload_n hx hb dX0_nameIn_0 rfl (lv_at hl 0 rfl) ?_
  refine lv_bipush (v := 63) hx hb dX0_nameIn_1 (by decide) ?_
  refine lv_iand hx hb dX0_nameIn_3 ?_
  exact cx_iret cx hP hS hf dX0_nameIn_4
set_option maxHeartbeats 4000000 in
set_option maxRecDepth 100000 in
theorem ct_xX3_waitFor (l : Launch) (D : va_G) (C : Nat → ClassId) (A adK adV : Nat → Nat) (hA : apA A 60) {x1 : Int32} {x2 : Int32} {σ : St} {res : (Int32 × St)} (hf : F_xX3_waitFor x1 x2 σ = some res) : Met l yX3_waitFor (Cond.code yX3_waitFor cX3_waitFor 4 (some .int) :: wsL_law) rm_X3_waitFor (Pcx D C (wX A C) adK adV (fxA A 60) [.ref (A 25), .int x1, .int x2] σ) (Qcx D (wX A C) (fxA A 60) (some (.int res.1)) res.2) 0 0 (fxA A 60) := by
  refine Met.ofW (cc := cX3_waitFor) (maxL := 4) (ret := (some .int)) (by decide) rfl ?_
  intro p e s m args below meth c s₁ B hml hv
  obtain ⟨rfl, hP, hK, hZ⟩ := hv
  have cx : Cxx D C adK adV (fxA A 60) p s m _ meth c cX3_waitFor 4 RX3 (some .int) := ⟨B.exec, B.bytes, hml, findClass_of_methodNamed B.named, fun w h => atoms_spec (ws := Cond.code yX3_waitFor cX3_waitFor 4 (some .int) :: wsL_law) B.pre w (List.mem_cons_of_mem _ h), hK, B.returns, B.notSynchronized, hZ⟩
  obtain ⟨hx, hb, -, hown, hts, -, hr, hlk, -⟩ := id cx
  have hS : va_S (fxA A 60) s.heap s.heap [] := va_S.rf
  have hl := lv_entry ([.ref (A 25), .int x1, .int x2]) (n := 4) (Nat.le_of_ble_eq_true rfl)
  rw [lg_entry_eq]
  generalize (lg_sl ([.ref (A 25), .int x1, .int x2]) ++ List.replicate (4 - (lg_sl ([.ref (A 25), .int x1, .int x2])).length) Slot.unset).toArray = ls at hl ⊢
  have hl : lv_has ls 4 [(0, .ref (A 25)), (1, .int x1), (2, .int x2)] := hl
  show W p l e rm_X3_waitFor s m _ below meth c s.heap [] 0 0 _ _
  refine lv_aload_n hx hb dX3_waitFor_0 rfl (lv_at hl 0 rfl) ?_
  refine gX_25_4 hx hb hts hown hK hP (hts _ kw_101) dX3_waitFor_1 ?_
  refine lv_iload_n hx hb dX3_waitFor_4 rfl (lv_at hl 1 rfl) ?_
  obtain ⟨z1, hf⟩ := gd_some hf
  refine gX_a28 hx hb hK hP (ib_in z1) (v := (σ.2.1 28 x1.toNatClampNeg)) rfl dX3_waitFor_5 ?_
  refine lv_istore_n (lv' := [(3, .int (σ.2.1 28 x1.toNatClampNeg)), (0, .ref (A 25)), (1, .int x1), (2, .int x2)]) hx hb dX3_waitFor_6 rfl hl (by decide) rfl (fun ls hl => ?_)
  refine lv_iload_n hx hb dX3_waitFor_7 rfl (lv_at hl 0 rfl) ?_
  refine lv_iconst (v := 1) hx hb dX3_waitFor_8 (by decide) ?_
  refine lv_icmp_ge (tgt := 16) hx hb dX3_waitFor_9 (by decide) (fun c2 => ?_) (fun c2 => ?_)
  · have hf := (if_pos c2).symm.trans hf
    refine lv_aload_n hx hb dX3_waitFor_16 rfl (lv_at hl 1 rfl) ?_
    refine gX_25_3 hx hb hts hown hK hP (hts _ kw_100) dX3_waitFor_17 ?_
    refine lv_iload_n hx hb dX3_waitFor_20 rfl (lv_at hl 2 rfl) ?_
    refine gX_a27 hx hb hK hP (ib_in z1) (v := (σ.2.1 27 x1.toNatClampNeg)) rfl dX3_waitFor_21 ?_
    refine lv_iload_n hx hb dX3_waitFor_22 rfl (lv_at hl 3 rfl) ?_
    refine lv_isub hx hb dX3_waitFor_23 ?_
    refine lv_iload_n hx hb dX3_waitFor_24 rfl (lv_at hl 0 rfl) ?_
    obtain ⟨⟨r3, σ_r3⟩, h_r3, hf⟩ := bd_some hf
    refine cx_S (As := [.int ((σ.2.1 27 x1.toNatClampNeg) - x2), .int (σ.2.1 28 x1.toNatClampNeg)]) (rest := []) cx (ct_xJ9_floorMod_7cf53 l D C A adK adV hA h_r3) (cw_X3_67 hts ⟨Nat.le_of_ble_eq_true rfl, Nat.le_of_ble_eq_true rfl⟩) hP hS rfl hl.1 rfl (Nat.le_of_ble_eq_true rfl) dX3_waitFor_25 ⟨Nat.zero_le _, Nat.zero_le _⟩ (fun H locs hP hS => ?_)
    exact cx_iret cx hP hS hf dX3_waitFor_28
  · have hf := (if_neg c2).symm.trans hf
    refine lv_iconst (v := 0) hx hb dX3_waitFor_12 (by decide) ?_
    refine lv_goto (tgt := 28) hx hb dX3_waitFor_13 (by decide) ?_
    exact cx_iret cx hP hS hf dX3_waitFor_28
set_option maxHeartbeats 4000000 in
set_option maxRecDepth 100000 in
theorem ct_xX0_wordIn (l : Launch) (D : va_G) (C : Nat → ClassId) (A adK adV : Nat → Nat) (hA : apA A 60) {x0 : Int32} {σ : St} {res : (Int32 × St)} (hf : F_xX0_wordIn x0 σ = some res) : Met l yX0_wordIn (Cond.code yX0_wordIn cX0_wordIn 1 (some .int) :: wsL_law) rm_X0_wordIn (Pcx D C (wX A C) adK adV (fxA A 60) [.int x0] σ) (Qcx D (wX A C) (fxA A 60) (some (.int res.1)) res.2) 0 0 (fxA A 60) := by
  refine Met.ofW (cc := cX0_wordIn) (maxL := 1) (ret := (some .int)) (by decide) rfl ?_
  intro p e s m args below meth c s₁ B hml hv
  obtain ⟨rfl, hP, hK, hZ⟩ := hv
  have cx : Cxx D C adK adV (fxA A 60) p s m _ meth c cX0_wordIn 1 RX0 (some .int) := ⟨B.exec, B.bytes, hml, findClass_of_methodNamed B.named, fun w h => atoms_spec (ws := Cond.code yX0_wordIn cX0_wordIn 1 (some .int) :: wsL_law) B.pre w (List.mem_cons_of_mem _ h), hK, B.returns, B.notSynchronized, hZ⟩
  obtain ⟨hx, hb, -, hown, hts, -, hr, hlk, -⟩ := id cx
  have hS : va_S (fxA A 60) s.heap s.heap [] := va_S.rf
  have hl := lv_entry ([.int x0]) (n := 1) (Nat.le_of_ble_eq_true rfl)
  rw [lg_entry_eq]
  generalize (lg_sl ([.int x0]) ++ List.replicate (1 - (lg_sl ([.int x0])).length) Slot.unset).toArray = ls at hl ⊢
  have hl : lv_has ls 1 [(0, .int x0)] := hl
  show W p l e rm_X0_wordIn s m _ below meth c s.heap [] 0 0 _ _
  refine lv_iload_n hx hb dX0_wordIn_0 rfl (lv_at hl 0 rfl) ?_
  refine lv_bipush (v := 6) hx hb dX0_wordIn_1 (by decide) ?_
  refine lv_ishr hx hb dX0_wordIn_3 ?_
  refine lv_bipush (v := 63) hx hb dX0_wordIn_4 (by decide) ?_
  refine lv_iand hx hb dX0_wordIn_6 ?_
  exact cx_iret cx hP hS hf dX0_wordIn_7
set_option maxHeartbeats 4000000 in
set_option maxRecDepth 100000 in
theorem w_F_xX3_timeOf_68 {p : Program} {l : Launch} {e : Env} {s : State} {m : MethodId} {args : Array Value} {below : List Frame} {meth : Method} {c : Code} {D : va_G} {C : Nat → ClassId} {A adK adV : Nat → Nat} (hA : apA A 60) (cx : Cxx D C adK adV (fxA A 60) p s m args meth c cX3_timeOf 6 RX3 (some .int)) {res : (Int32 × St)} {b4 : Int32 → Int32 → St → Option (Int32 × St)} (hb4 : ∀ (x2 : Int32) (x3 : Int32) (σ : St) (H : Heap) (locs : List Loc) (ls : Array Slot), b4 x2 x3 σ = some res → lv_has ls 6 [(0, .ref (A 25)), (1, .ref (A 37)), (2, .int x2), (3, .int x3)] → va_P D vwCl (wX A C σ) H → va_S (fxA A 60) s.heap H locs → W p l e rm_X3_timeOf s m args below meth c H locs 0 0 (MQ below (Qcx D (wX A C) (fxA A 60) (some (.int res.1)) res.2) args s 0 0 (fxA A 60)) (F0 m 4 ls [])) : ∀ (x2 : Int32) (x3 : Int32) (x4 : Int32) (σ : St) (H : Heap) (locs : List Loc) (ls : Array Slot), F_xX3_timeOf_68 b4 x2 x3 x4 σ = some res → lv_has ls 6 [(0, .ref (A 25)), (1, .ref (A 37)), (2, .int x2), (3, .int x3), (4, .int x4)] → va_P D vwCl (wX A C σ) H → va_S (fxA A 60) s.heap H locs → W p l e rm_X3_timeOf s m args below meth c H locs 0 0 (MQ below (Qcx D (wX A C) (fxA A 60) (some (.int res.1)) res.2) args s 0 0 (fxA A 60)) (F0 m 68 ls []) := by
  obtain ⟨hx, hb, hml, hown, hts, hK, hr, hlk, hZ⟩ := id cx
  intro x2 x3 x4 σ H locs ls hf hl hP hS
  refine lv_iload_n hx hb dX3_timeOf_68 rfl (lv_at hl 2 rfl) ?_
  refine lv_iload hx hb dX3_timeOf_69 (lv_at hl 4 rfl) ?_
  obtain ⟨⟨r1, σ_r1⟩, h_r1, hf⟩ := bd_some hf
  refine cx_S (As := [.int x4]) (rest := [.int x2]) cx (ct_xX0_extraIn l D C A adK adV hA h_r1) (cw_X3_90 hts ⟨Nat.le_of_ble_eq_true rfl, Nat.le_of_ble_eq_true rfl⟩) hP hS rfl hl.1 rfl (Nat.le_of_ble_eq_true rfl) dX3_timeOf_71 ⟨Nat.zero_le _, Nat.zero_le _⟩ (fun H locs hP hS => ?_)
  refine lv_iadd hx hb dX3_timeOf_74 ?_
  refine lv_istore_n (lv' := [(2, .int (x2 + r1)), (0, .ref (A 25)), (1, .ref (A 37)), (3, .int x3), (4, .int x4)]) hx hb dX3_timeOf_75 rfl hl (by decide) rfl (fun ls hl => ?_)
  refine lv_iinc (v := (x3 + 1)) (lv' := [(3, .int (x3 + 1)), (2, .int (x2 + r1)), (0, .ref (A 25)), (1, .ref (A 37)), (4, .int x4)]) hx hb dX3_timeOf_76 hl (k := 3) rfl rfl (by decide) rfl (fun ls hl => ?_)
  refine lv_goto (tgt := 4) hx hb dX3_timeOf_79 (by decide) ?_
  exact hb4 _ _ _ _ _ _ hf (lv_sub hl [2, 3, 1, 0] rfl) hP hS
set_option maxHeartbeats 4000000 in
set_option maxRecDepth 100000 in
theorem w_F_xX3_timeOf_4 {p : Program} {l : Launch} {e : Env} {s : State} {m : MethodId} {args : Array Value} {below : List Frame} {meth : Method} {c : Code} {D : va_G} {C : Nat → ClassId} {A adK adV : Nat → Nat} (hA : apA A 60) (cx : Cxx D C adK adV (fxA A 60) p s m args meth c cX3_timeOf 6 RX3 (some .int)) {res : (Int32 × St)} : ∀ (n : Nat), ∀ (x2 : Int32) (x3 : Int32) (σ : St) (H : Heap) (locs : List Loc) (ls : Array Slot), F_xX3_timeOf_4 n x2 x3 σ = some res → lv_has ls 6 [(0, .ref (A 25)), (1, .ref (A 37)), (2, .int x2), (3, .int x3)] → va_P D vwCl (wX A C σ) H → va_S (fxA A 60) s.heap H locs → W p l e rm_X3_timeOf s m args below meth c H locs 0 0 (MQ below (Qcx D (wX A C) (fxA A 60) (some (.int res.1)) res.2) args s 0 0 (fxA A 60)) (F0 m 4 ls []) := by
  obtain ⟨hx, hb, hml, hown, hts, hK, hr, hlk, hZ⟩ := id cx
  intro n
  induction n with
  | zero =>
    intro x2 x3 σ H locs ls hf hl hP hS
    exact absurd (show (none : Option (Int32 × St)) = some res from hf) (by intro h; cases h)
  | succ n ih =>
    intro x2 x3 σ H locs ls hf hl hP hS
    refine lv_iload_n hx hb dX3_timeOf_4 rfl (lv_at hl 3 rfl) ?_
    refine lv_aload_n hx hb dX3_timeOf_5 rfl (lv_at hl 1 rfl) ?_
    refine gX_37_3 hx hb hts hown hK hP (v := (σ.1 18)) rfl (hts _ kw_856) dX3_timeOf_6 ?_
    refine lv_icmp_ge (tgt := 82) hx hb dX3_timeOf_9 (by decide) (fun c2 => ?_) (fun c2 => ?_)
    · have hf := (if_pos c2).symm.trans hf
      refine lv_iload_n hx hb dX3_timeOf_82 rfl (lv_at hl 2 rfl) ?_
      exact cx_iret cx hP hS hf dX3_timeOf_83
    · have hf := (if_neg c2).symm.trans hf
      refine lv_iload_n hx hb dX3_timeOf_12 rfl (lv_at hl 3 rfl) ?_
      refine lv_sipush (v := 2000) hx hb dX3_timeOf_13 (by decide) ?_
      refine lv_icmp_ge (tgt := 82) hx hb dX3_timeOf_16 (by decide) (fun c3 => ?_) (fun c3 => ?_)
      · have hf := (if_pos c3).symm.trans hf
        refine lv_iload_n hx hb dX3_timeOf_82 rfl (lv_at hl 2 rfl) ?_
        exact cx_iret cx hP hS hf dX3_timeOf_83
      · have hf := (if_neg c3).symm.trans hf
        refine lv_aload_n hx hb dX3_timeOf_19 rfl (lv_at hl 1 rfl) ?_
        refine gX_37_0 hx hb hts hown hK hP (hts _ kw_857) dX3_timeOf_20 ?_
        refine lv_iload_n hx hb dX3_timeOf_23 rfl (lv_at hl 3 rfl) ?_
        obtain ⟨z4, hf⟩ := gd_some hf
        refine gX_a38 hx hb hK hP (ib_in z4) (v := (σ.2.1 38 x3.toNatClampNeg)) rfl dX3_timeOf_24 ?_
        refine lv_istore (lv' := [(4, .int (σ.2.1 38 x3.toNatClampNeg)), (0, .ref (A 25)), (1, .ref (A 37)), (2, .int x2), (3, .int x3)]) hx hb dX3_timeOf_25 hl (by decide) rfl (fun ls hl => ?_)
        refine lv_iload_n hx hb dX3_timeOf_27 rfl (lv_at hl 3 rfl) ?_
        refine lv_aload_n hx hb dX3_timeOf_28 rfl (lv_at hl 1 rfl) ?_
        refine lv_iload hx hb dX3_timeOf_29 (lv_at hl 0 rfl) ?_
        obtain ⟨⟨r5, σ_r5⟩, h_r5, hf⟩ := bd_some hf
        refine cx_S (As := [.int (σ.2.1 38 x3.toNatClampNeg)]) (rest := [.ref (A 25), .int x2]) cx (ct_xX0_nameIn l D C A adK adV hA h_r5) (cw_X3_81 hts ⟨Nat.le_of_ble_eq_true rfl, Nat.le_of_ble_eq_true rfl⟩) hP hS rfl hl.1 rfl (Nat.le_of_ble_eq_true rfl) dX3_timeOf_31 ⟨Nat.zero_le _, Nat.zero_le _⟩ (fun H locs hP hS => ?_)
        refine lv_iload_n hx hb dX3_timeOf_34 rfl (lv_at hl 3 rfl) ?_
        obtain ⟨⟨r6, σ_r6⟩, h_r6, hf⟩ := bd_some hf
        refine cx_V (As := [.int r5, .int x2]) (rest := [.int x2]) cx (ct_xX3_waitFor l D C A adK adV hA h_r6) (cw_X3_84 hts ⟨Nat.le_of_ble_eq_true rfl, Nat.le_of_ble_eq_true rfl⟩) (va_recv hK hP (ci := 3) (q0 := 25) rfl (wX_25 A C _)) hP hS rfl hl.1 rfl (Nat.le_of_ble_eq_true rfl) dX3_timeOf_35 ⟨Nat.zero_le _, Nat.zero_le _⟩ (fun H locs hP hS => ?_)
        refine lv_iconst (v := 1) hx hb dX3_timeOf_38 (by decide) ?_
        refine lv_iadd hx hb dX3_timeOf_39 ?_
        refine lv_iadd hx hb dX3_timeOf_40 ?_
        refine lv_istore_n (lv' := [(2, .int (x2 + (r6 + 1))), (4, .int (σ.2.1 38 x3.toNatClampNeg)), (0, .ref (A 25)), (1, .ref (A 37)), (3, .int x3)]) hx hb dX3_timeOf_41 rfl hl (by decide) rfl (fun ls hl => ?_)
        refine lv_iload hx hb dX3_timeOf_42 (lv_at hl 1 rfl) ?_
        obtain ⟨⟨r7, σ_r7⟩, h_r7, hf⟩ := bd_some hf
        refine cx_S (As := [.int (σ.2.1 38 x3.toNatClampNeg)]) (rest := []) cx (ct_xX0_wordIn l D C A adK adV hA h_r7) (cw_X3_87 hts ⟨Nat.le_of_ble_eq_true rfl, Nat.le_of_ble_eq_true rfl⟩) hP hS rfl hl.1 rfl (Nat.le_of_ble_eq_true rfl) dX3_timeOf_44 ⟨Nat.zero_le _, Nat.zero_le _⟩ (fun H locs hP hS => ?_)
        refine lv_istore (lv' := [(5, .int r7), (2, .int (x2 + (r6 + 1))), (4, .int (σ.2.1 38 x3.toNatClampNeg)), (0, .ref (A 25)), (1, .ref (A 37)), (3, .int x3)]) hx hb dX3_timeOf_47 hl (by decide) rfl (fun ls hl => ?_)
        refine lv_iload hx hb dX3_timeOf_49 (lv_at hl 0 rfl) ?_
        refine lv_bipush (v := 63) hx hb dX3_timeOf_51 (by decide) ?_
        refine lv_icmp_eq (tgt := 68) hx hb dX3_timeOf_53 (by decide) (fun c8 => ?_) (fun c8 => ?_)
        · have hf := (if_pos c8).symm.trans hf
          exact w_F_xX3_timeOf_68 hA cx ih _ _ _ _ _ _ _ hf (lv_sub hl [3, 4, 1, 5, 2] rfl) hP hS
        · have hf := (if_neg c8).symm.trans hf
          refine lv_iload_n hx hb dX3_timeOf_56 rfl (lv_at hl 1 rfl) ?_
          refine lv_aload_n hx hb dX3_timeOf_57 rfl (lv_at hl 3 rfl) ?_
          refine lv_iload hx hb dX3_timeOf_58 (lv_at hl 0 rfl) ?_
          refine lv_iload_n hx hb dX3_timeOf_60 rfl (lv_at hl 1 rfl) ?_
          obtain ⟨⟨r9, σ_r9⟩, h_r9, hf⟩ := bd_some hf
          refine cx_V (As := [.int r7, .int (x2 + (r6 + 1))]) (rest := [.int (x2 + (r6 + 1))]) cx (ct_xX3_waitFor l D C A adK adV hA h_r9) (cw_X3_84 hts ⟨Nat.le_of_ble_eq_true rfl, Nat.le_of_ble_eq_true rfl⟩) (va_recv hK hP (ci := 3) (q0 := 25) rfl (wX_25 A C _)) hP hS rfl hl.1 rfl (Nat.le_of_ble_eq_true rfl) dX3_timeOf_61 ⟨Nat.zero_le _, Nat.zero_le _⟩ (fun H locs hP hS => ?_)
          refine lv_iconst (v := 1) hx hb dX3_timeOf_64 (by decide) ?_
          refine lv_iadd hx hb dX3_timeOf_65 ?_
          refine lv_iadd hx hb dX3_timeOf_66 ?_
          refine lv_istore_n (lv' := [(2, .int ((x2 + (r6 + 1)) + (r9 + 1))), (5, .int r7), (4, .int (σ.2.1 38 x3.toNatClampNeg)), (0, .ref (A 25)), (1, .ref (A 37)), (3, .int x3)]) hx hb dX3_timeOf_67 rfl hl (by decide) rfl (fun ls hl => ?_)
          exact w_F_xX3_timeOf_68 hA cx ih _ _ _ _ _ _ _ hf (lv_sub hl [3, 4, 0, 5, 2] rfl) hP hS
set_option maxHeartbeats 4000000 in
set_option maxRecDepth 100000 in
theorem ct_xX3_timeOf (l : Launch) (D : va_G) (C : Nat → ClassId) (A adK adV : Nat → Nat) (hA : apA A 60)  {σ : St} {res : (Int32 × St)} (hf : F_xX3_timeOf σ = some res) : Met l yX3_timeOf (Cond.code yX3_timeOf cX3_timeOf 6 (some .int) :: wsL_law) rm_X3_timeOf (Pcx D C (wX A C) adK adV (fxA A 60) [.ref (A 25), .ref (A 37)] σ) (Qcx D (wX A C) (fxA A 60) (some (.int res.1)) res.2) 0 0 (fxA A 60) := by
  refine Met.ofW (cc := cX3_timeOf) (maxL := 6) (ret := (some .int)) (by decide) rfl ?_
  intro p e s m args below meth c s₁ B hml hv
  obtain ⟨rfl, hP, hK, hZ⟩ := hv
  have cx : Cxx D C adK adV (fxA A 60) p s m _ meth c cX3_timeOf 6 RX3 (some .int) := ⟨B.exec, B.bytes, hml, findClass_of_methodNamed B.named, fun w h => atoms_spec (ws := Cond.code yX3_timeOf cX3_timeOf 6 (some .int) :: wsL_law) B.pre w (List.mem_cons_of_mem _ h), hK, B.returns, B.notSynchronized, hZ⟩
  obtain ⟨hx, hb, -, hown, hts, -, hr, hlk, -⟩ := id cx
  have hS : va_S (fxA A 60) s.heap s.heap [] := va_S.rf
  have hl := lv_entry ([.ref (A 25), .ref (A 37)]) (n := 6) (Nat.le_of_ble_eq_true rfl)
  rw [lg_entry_eq]
  generalize (lg_sl ([.ref (A 25), .ref (A 37)]) ++ List.replicate (6 - (lg_sl ([.ref (A 25), .ref (A 37)])).length) Slot.unset).toArray = ls at hl ⊢
  have hl : lv_has ls 6 [(0, .ref (A 25)), (1, .ref (A 37))] := hl
  show W p l e rm_X3_timeOf s m _ below meth c s.heap [] 0 0 _ _
  refine lv_iconst (v := 0) hx hb dX3_timeOf_0 (by decide) ?_
  refine lv_istore_n (lv' := [(2, .int 0), (0, .ref (A 25)), (1, .ref (A 37))]) hx hb dX3_timeOf_1 rfl hl (by decide) rfl (fun ls hl => ?_)
  refine lv_iconst (v := 0) hx hb dX3_timeOf_2 (by decide) ?_
  refine lv_istore_n (lv' := [(3, .int 0), (2, .int 0), (0, .ref (A 25)), (1, .ref (A 37))]) hx hb dX3_timeOf_3 rfl hl (by decide) rfl (fun ls hl => ?_)
  exact w_F_xX3_timeOf_4 hA cx FU _ _ _ _ _ _ hf (lv_sub hl [2, 3, 1, 0] rfl) hP hS
set_option maxHeartbeats 4000000 in
set_option maxRecDepth 100000 in
theorem ct_xX8_exchangeIfLess (l : Launch) (D : va_G) (C : Nat → ClassId) (A adK adV : Nat → Nat) (hA : apA A 60) {x1 : Int32} {x2 : Int32} {x3 : Int32} {σ : St} {res : (Int32 × St)} (hf : F_xX8_exchangeIfLess x1 x2 x3 σ = some res) : Met l yX8_exchangeIfLess (Cond.code yX8_exchangeIfLess cX8_exchangeIfLess 5 (some .int) :: wsL_law) rm_X8_exchangeIfLess (Pcx D C (wX A C) adK adV (fxA A 60) [.ref (A 52), .int x1, .int x2, .int x3] σ) (Qcx D (wX A C) (fxA A 60) (some (.int res.1)) res.2) 0 0 (fxA A 60) := by
  refine Met.ofW (cc := cX8_exchangeIfLess) (maxL := 5) (ret := (some .int)) (by decide) rfl ?_
  intro p e s m args below meth c s₁ B hml hv
  obtain ⟨rfl, hP, hK, hZ⟩ := hv
  have cx : Cxx D C adK adV (fxA A 60) p s m _ meth c cX8_exchangeIfLess 5 RX8 (some .int) := ⟨B.exec, B.bytes, hml, findClass_of_methodNamed B.named, fun w h => atoms_spec (ws := Cond.code yX8_exchangeIfLess cX8_exchangeIfLess 5 (some .int) :: wsL_law) B.pre w (List.mem_cons_of_mem _ h), hK, B.returns, B.notSynchronized, hZ⟩
  obtain ⟨hx, hb, -, hown, hts, -, hr, hlk, -⟩ := id cx
  have hS : va_S (fxA A 60) s.heap s.heap [] := va_S.rf
  have hl := lv_entry ([.ref (A 52), .int x1, .int x2, .int x3]) (n := 5) (Nat.le_of_ble_eq_true rfl)
  rw [lg_entry_eq]
  generalize (lg_sl ([.ref (A 52), .int x1, .int x2, .int x3]) ++ List.replicate (5 - (lg_sl ([.ref (A 52), .int x1, .int x2, .int x3])).length) Slot.unset).toArray = ls at hl ⊢
  have hl : lv_has ls 5 [(0, .ref (A 52)), (1, .int x1), (2, .int x2), (3, .int x3)] := hl
  show W p l e rm_X8_exchangeIfLess s m _ below meth c s.heap [] 0 0 _ _
  refine lv_aload_n hx hb dX8_exchangeIfLess_0 rfl (lv_at hl 0 rfl) ?_
  refine gX_52_1 hx hb hts hown hK hP (hts _ kw_140) dX8_exchangeIfLess_1 ?_
  refine lv_iload_n hx hb dX8_exchangeIfLess_4 rfl (lv_at hl 1 rfl) ?_
  refine lv_iload_n hx hb dX8_exchangeIfLess_5 rfl (lv_at hl 2 rfl) ?_
  obtain ⟨⟨r1, σ_r1⟩, h_r1, hf⟩ := bd_some hf
  refine cx_V (As := [.int x1, .int x2]) (rest := []) cx (ct_xX3_alikeInTime l D C A adK adV hA h_r1) (cw_X8_80 hts ⟨Nat.le_of_ble_eq_true rfl, Nat.le_of_ble_eq_true rfl⟩) (va_recv hK hP (ci := 3) (q0 := 25) rfl (wX_25 A C _)) hP hS rfl hl.1 rfl (Nat.le_of_ble_eq_true rfl) dX8_exchangeIfLess_6 ⟨Nat.zero_le _, Nat.zero_le _⟩ (fun H locs hP hS => ?_)
  refine lv_if_eq (tgt := 14) hx hb dX8_exchangeIfLess_9 (by decide) (fun c2 => ?_) (fun c2 => ?_)
  · have hf := (if_pos c2).symm.trans hf
    refine lv_aload_n hx hb dX8_exchangeIfLess_14 rfl (lv_at hl 0 rfl) ?_
    refine gX_52_1 hx hb hts hown hK hP (hts _ kw_140) dX8_exchangeIfLess_15 ?_
    refine lv_iload_n hx hb dX8_exchangeIfLess_18 rfl (lv_at hl 1 rfl) ?_
    refine lv_iload_n hx hb dX8_exchangeIfLess_19 rfl (lv_at hl 2 rfl) ?_
    obtain ⟨σ_r3, h_r3, hf⟩ := bv_some hf
    refine cx_V (As := [.int x1, .int x2]) (rest := []) cx (ct_xX3_swap l D C A adK adV hA h_r3) (cw_X8_84 hts ⟨Nat.le_of_ble_eq_true rfl, Nat.le_of_ble_eq_true rfl⟩) (va_recv hK hP (ci := 3) (q0 := 25) rfl (wX_25 A C _)) hP hS rfl hl.1 rfl (Nat.le_of_ble_eq_true rfl) dX8_exchangeIfLess_20 ⟨Nat.zero_le _, Nat.zero_le _⟩ (fun H locs hP hS => ?_)
    refine lv_aload_n hx hb dX8_exchangeIfLess_23 rfl (lv_at hl 0 rfl) ?_
    refine gX_52_1 hx hb hts hown hK hP (hts _ kw_140) dX8_exchangeIfLess_24 ?_
    refine lv_aload_n hx hb dX8_exchangeIfLess_27 rfl (lv_at hl 0 rfl) ?_
    refine gX_52_2 hx hb hts hown hK hP (hts _ kw_141) dX8_exchangeIfLess_28 ?_
    obtain ⟨⟨r4, σ_r4⟩, h_r4, hf⟩ := bd_some hf
    refine cx_V (As := [.ref (A 37)]) (rest := []) cx (ct_xX3_timeOf l D C A adK adV hA h_r4) (cw_X8_59 hts ⟨Nat.le_of_ble_eq_true rfl, Nat.le_of_ble_eq_true rfl⟩) (va_recv hK hP (ci := 3) (q0 := 25) rfl (wX_25 A C _)) hP hS rfl hl.1 rfl (Nat.le_of_ble_eq_true rfl) dX8_exchangeIfLess_31 ⟨Nat.zero_le _, Nat.zero_le _⟩ (fun H locs hP hS => ?_)
    refine lv_istore (lv' := [(4, .int r4), (0, .ref (A 52)), (1, .int x1), (2, .int x2), (3, .int x3)]) hx hb dX8_exchangeIfLess_34 hl (by decide) rfl (fun ls hl => ?_)
    refine lv_iload hx hb dX8_exchangeIfLess_36 (lv_at hl 0 rfl) ?_
    refine lv_iload_n hx hb dX8_exchangeIfLess_38 rfl (lv_at hl 4 rfl) ?_
    refine lv_icmp_ge (tgt := 45) hx hb dX8_exchangeIfLess_39 (by decide) (fun c5 => ?_) (fun c5 => ?_)
    · have hf := (if_pos c5).symm.trans hf
      refine lv_aload_n hx hb dX8_exchangeIfLess_45 rfl (lv_at hl 1 rfl) ?_
      refine gX_52_1 hx hb hts hown hK hP (hts _ kw_140) dX8_exchangeIfLess_46 ?_
      refine lv_iload_n hx hb dX8_exchangeIfLess_49 rfl (lv_at hl 2 rfl) ?_
      refine lv_iload_n hx hb dX8_exchangeIfLess_50 rfl (lv_at hl 3 rfl) ?_
      obtain ⟨σ_r6, h_r6, hf⟩ := bv_some hf
      refine cx_V (As := [.int x1, .int x2]) (rest := []) cx (ct_xX3_swap l D C A adK adV hA h_r6) (cw_X8_84 hts ⟨Nat.le_of_ble_eq_true rfl, Nat.le_of_ble_eq_true rfl⟩) (va_recv hK hP (ci := 3) (q0 := 25) rfl (wX_25 A C _)) hP hS rfl hl.1 rfl (Nat.le_of_ble_eq_true rfl) dX8_exchangeIfLess_51 ⟨Nat.zero_le _, Nat.zero_le _⟩ (fun H locs hP hS => ?_)
      refine lv_iload_n hx hb dX8_exchangeIfLess_54 rfl (lv_at hl 4 rfl) ?_
      exact cx_iret cx hP hS hf dX8_exchangeIfLess_55
    · have hf := (if_neg c5).symm.trans hf
      refine lv_iload hx hb dX8_exchangeIfLess_42 (lv_at hl 0 rfl) ?_
      exact cx_iret cx hP hS hf dX8_exchangeIfLess_44
  · have hf := (if_neg c2).symm.trans hf
    refine lv_iload_n hx hb dX8_exchangeIfLess_12 rfl (lv_at hl 3 rfl) ?_
    exact cx_iret cx hP hS hf dX8_exchangeIfLess_13
set_option maxHeartbeats 4000000 in
set_option maxRecDepth 100000 in
theorem ct_xX3_countNames (l : Launch) (D : va_G) (C : Nat → ClassId) (A adK adV : Nat → Nat) (hA : apA A 60)  {σ : St} {res : (Int32 × St)} (hf : F_xX3_countNames σ = some res) : Met l yX3_countNames (Cond.code yX3_countNames cX3_countNames 1 (some .int) :: wsL_law) rm_X3_countNames (Pcx D C (wX A C) adK adV (fxA A 60) [.ref (A 25)] σ) (Qcx D (wX A C) (fxA A 60) (some (.int res.1)) res.2) 0 0 (fxA A 60) := by
  refine Met.ofW (cc := cX3_countNames) (maxL := 1) (ret := (some .int)) (by decide) rfl ?_
  intro p e s m args below meth c s₁ B hml hv
  obtain ⟨rfl, hP, hK, hZ⟩ := hv
  have cx : Cxx D C adK adV (fxA A 60) p s m _ meth c cX3_countNames 1 RX3 (some .int) := ⟨B.exec, B.bytes, hml, findClass_of_methodNamed B.named, fun w h => atoms_spec (ws := Cond.code yX3_countNames cX3_countNames 1 (some .int) :: wsL_law) B.pre w (List.mem_cons_of_mem _ h), hK, B.returns, B.notSynchronized, hZ⟩
  obtain ⟨hx, hb, -, hown, hts, -, hr, hlk, -⟩ := id cx
  have hS : va_S (fxA A 60) s.heap s.heap [] := va_S.rf
  have hl := lv_entry ([.ref (A 25)]) (n := 1) (Nat.le_of_ble_eq_true rfl)
  rw [lg_entry_eq]
  generalize (lg_sl ([.ref (A 25)]) ++ List.replicate (1 - (lg_sl ([.ref (A 25)])).length) Slot.unset).toArray = ls at hl ⊢
  have hl : lv_has ls 1 [(0, .ref (A 25))] := hl
  show W p l e rm_X3_countNames s m _ below meth c s.heap [] 0 0 _ _
  refine lv_aload_n hx hb dX3_countNames_0 rfl (lv_at hl 0 rfl) ?_
  refine gX_25_1 hx hb hts hown hK hP (v := (σ.1 17)) rfl (hts _ kw_377) dX3_countNames_1 ?_
  exact cx_iret cx hP hS hf dX3_countNames_4
set_option maxHeartbeats 4000000 in
set_option maxRecDepth 100000 in
theorem w_F_xX8_exchangeOnce_25 {p : Program} {l : Launch} {e : Env} {s : State} {m : MethodId} {args : Array Value} {below : List Frame} {meth : Method} {c : Code} {D : va_G} {C : Nat → ClassId} {A adK adV : Nat → Nat} (hA : apA A 60) (cx : Cxx D C adK adV (fxA A 60) p s m args meth c cX8_exchangeOnce 6 RX8 (some .int)) {res : (Int32 × St)} {b13 : Int32 → Int32 → Int32 → St → Option (Int32 × St)} (hb13 : ∀ (x2 : Int32) (x3 : Int32) (x4 : Int32) (σ : St) (H : Heap) (locs : List Loc) (ls : Array Slot), b13 x2 x3 x4 σ = some res → lv_has ls 6 [(0, .ref (A 52)), (2, .int x2), (3, .int x3), (4, .int x4)] → va_P D vwCl (wX A C σ) H → va_S (fxA A 60) s.heap H locs → W p l e rm_X8_exchangeOnce s m args below meth c H locs 0 0 (MQ below (Qcx D (wX A C) (fxA A 60) (some (.int res.1)) res.2) args s 0 0 (fxA A 60)) (F0 m 13 ls [])) : ∀ (n : Nat), ∀ (x2 : Int32) (x3 : Int32) (x4 : Int32) (x5 : Int32) (σ : St) (H : Heap) (locs : List Loc) (ls : Array Slot), F_xX8_exchangeOnce_25 b13 n x2 x3 x4 x5 σ = some res → lv_has ls 6 [(0, .ref (A 52)), (2, .int x2), (3, .int x3), (4, .int x4), (5, .int x5)] → va_P D vwCl (wX A C σ) H → va_S (fxA A 60) s.heap H locs → W p l e rm_X8_exchangeOnce s m args below meth c H locs 0 0 (MQ below (Qcx D (wX A C) (fxA A 60) (some (.int res.1)) res.2) args s 0 0 (fxA A 60)) (F0 m 25 ls []) := by
  obtain ⟨hx, hb, hml, hown, hts, hK, hr, hlk, hZ⟩ := id cx
  intro n
  induction n with
  | zero =>
    intro x2 x3 x4 x5 σ H locs ls hf hl hP hS
    exact absurd (show (none : Option (Int32 × St)) = some res from hf) (by intro h; cases h)
  | succ n ih =>
    intro x2 x3 x4 x5 σ H locs ls hf hl hP hS
    refine lv_iload hx hb dX8_exchangeOnce_25 (lv_at hl 4 rfl) ?_
    refine lv_iload_n hx hb dX8_exchangeOnce_27 rfl (lv_at hl 2 rfl) ?_
    refine lv_icmp_ge (tgt := 71) hx hb dX8_exchangeOnce_28 (by decide) (fun c1 => ?_) (fun c1 => ?_)
    · have hf := (if_pos c1).symm.trans hf
      refine lv_iinc (v := (x4 + 1)) (lv' := [(4, .int (x4 + 1)), (0, .ref (A 52)), (2, .int x2), (3, .int x3), (5, .int x5)]) hx hb dX8_exchangeOnce_71 hl (k := 3) rfl rfl (by decide) rfl (fun ls hl => ?_)
      refine lv_goto (tgt := 13) hx hb dX8_exchangeOnce_74 (by decide) ?_
      exact hb13 _ _ _ _ _ _ _ hf (lv_sub hl [1, 2, 3, 0] rfl) hP hS
    · have hf := (if_neg c1).symm.trans hf
      refine lv_aload_n hx hb dX8_exchangeOnce_31 rfl (lv_at hl 0 rfl) ?_
      refine gX_52_1 hx hb hts hown hK hP (hts _ kw_140) dX8_exchangeOnce_32 ?_
      refine lv_iload hx hb dX8_exchangeOnce_35 (lv_at hl 3 rfl) ?_
      obtain ⟨⟨r2, σ_r2⟩, h_r2, hf⟩ := bd_some hf
      refine cx_V (As := [.int x4]) (rest := []) cx (ct_xX3_liesOnBad l D C A adK adV hA h_r2) (cw_X8_66 hts ⟨Nat.le_of_ble_eq_true rfl, Nat.le_of_ble_eq_true rfl⟩) (va_recv hK hP (ci := 3) (q0 := 25) rfl (wX_25 A C _)) hP hS rfl hl.1 rfl (Nat.le_of_ble_eq_true rfl) dX8_exchangeOnce_37 ⟨Nat.zero_le _, Nat.zero_le _⟩ (fun H locs hP hS => ?_)
      refine lv_if_ne (tgt := 71) hx hb dX8_exchangeOnce_40 (by decide) (fun c3 => ?_) (fun c3 => ?_)
      · have hf := (if_neg c3).symm.trans hf
        refine lv_iinc (v := (x4 + 1)) (lv' := [(4, .int (x4 + 1)), (0, .ref (A 52)), (2, .int x2), (3, .int x3), (5, .int x5)]) hx hb dX8_exchangeOnce_71 hl (k := 3) rfl rfl (by decide) rfl (fun ls hl => ?_)
        refine lv_goto (tgt := 13) hx hb dX8_exchangeOnce_74 (by decide) ?_
        exact hb13 _ _ _ _ _ _ _ hf (lv_sub hl [1, 2, 3, 0] rfl) hP hS
      · have hf := (if_pos c3).symm.trans hf
        refine lv_aload_n hx hb dX8_exchangeOnce_43 rfl (lv_at hl 0 rfl) ?_
        refine gX_52_1 hx hb hts hown hK hP (hts _ kw_140) dX8_exchangeOnce_44 ?_
        refine lv_iload hx hb dX8_exchangeOnce_47 (lv_at hl 4 rfl) ?_
        obtain ⟨⟨r4, σ_r4⟩, h_r4, hf⟩ := bd_some hf
        refine cx_V (As := [.int x5]) (rest := []) cx (ct_xX3_liesOnBad l D C A adK adV hA h_r4) (cw_X8_66 hts ⟨Nat.le_of_ble_eq_true rfl, Nat.le_of_ble_eq_true rfl⟩) (va_recv hK hP (ci := 3) (q0 := 25) rfl (wX_25 A C _)) hP hS rfl hl.1 rfl (Nat.le_of_ble_eq_true rfl) dX8_exchangeOnce_49 ⟨Nat.zero_le _, Nat.zero_le _⟩ (fun H locs hP hS => ?_)
        refine lv_if_ne (tgt := 65) hx hb dX8_exchangeOnce_52 (by decide) (fun c5 => ?_) (fun c5 => ?_)
        · have hf := (if_neg c5).symm.trans hf
          refine lv_iinc (v := (x5 + 1)) (lv' := [(5, .int (x5 + 1)), (0, .ref (A 52)), (2, .int x2), (3, .int x3), (4, .int x4)]) hx hb dX8_exchangeOnce_65 hl (k := 4) rfl rfl (by decide) rfl (fun ls hl => ?_)
          refine lv_goto (tgt := 25) hx hb dX8_exchangeOnce_68 (by decide) ?_
          exact ih _ _ _ _ _ _ _ _ hf (lv_sub hl [1, 2, 3, 4, 0] rfl) hP hS
        · have hf := (if_pos c5).symm.trans hf
          refine lv_aload_n hx hb dX8_exchangeOnce_55 rfl (lv_at hl 0 rfl) ?_
          refine lv_iload hx hb dX8_exchangeOnce_56 (lv_at hl 3 rfl) ?_
          refine lv_iload hx hb dX8_exchangeOnce_58 (lv_at hl 4 rfl) ?_
          refine lv_iload_n hx hb dX8_exchangeOnce_60 rfl (lv_at hl 1 rfl) ?_
          obtain ⟨⟨r6, σ_r6⟩, h_r6, hf⟩ := bd_some hf
          refine cx_V (As := [.int x4, .int x5, .int x2]) (rest := []) cx (ct_xX8_exchangeIfLess l D C A adK adV hA h_r6) (cw_X8_76 hts ⟨Nat.le_of_ble_eq_true rfl, Nat.le_of_ble_eq_true rfl⟩) (va_recv hK hP (ci := 8) (q0 := 52) rfl (wX_52 A C _)) hP hS rfl hl.1 rfl (Nat.le_of_ble_eq_true rfl) dX8_exchangeOnce_61 ⟨Nat.zero_le _, Nat.zero_le _⟩ (fun H locs hP hS => ?_)
          refine lv_istore_n (lv' := [(2, .int r6), (0, .ref (A 52)), (3, .int x3), (4, .int x4), (5, .int x5)]) hx hb dX8_exchangeOnce_64 rfl hl (by decide) rfl (fun ls hl => ?_)
          refine lv_iinc (v := (x5 + 1)) (lv' := [(5, .int (x5 + 1)), (2, .int r6), (0, .ref (A 52)), (3, .int x3), (4, .int x4)]) hx hb dX8_exchangeOnce_65 hl (k := 4) rfl rfl (by decide) rfl (fun ls hl => ?_)
          refine lv_goto (tgt := 25) hx hb dX8_exchangeOnce_68 (by decide) ?_
          exact ih _ _ _ _ _ _ _ _ hf (lv_sub hl [2, 1, 3, 4, 0] rfl) hP hS
set_option maxHeartbeats 4000000 in
set_option maxRecDepth 100000 in
theorem w_F_xX8_exchangeOnce_13 {p : Program} {l : Launch} {e : Env} {s : State} {m : MethodId} {args : Array Value} {below : List Frame} {meth : Method} {c : Code} {D : va_G} {C : Nat → ClassId} {A adK adV : Nat → Nat} (hA : apA A 60) (cx : Cxx D C adK adV (fxA A 60) p s m args meth c cX8_exchangeOnce 6 RX8 (some .int)) {res : (Int32 × St)} : ∀ (n : Nat), ∀ (x2 : Int32) (x3 : Int32) (x4 : Int32) (σ : St) (H : Heap) (locs : List Loc) (ls : Array Slot), F_xX8_exchangeOnce_13 n x2 x3 x4 σ = some res → lv_has ls 6 [(0, .ref (A 52)), (2, .int x2), (3, .int x3), (4, .int x4)] → va_P D vwCl (wX A C σ) H → va_S (fxA A 60) s.heap H locs → W p l e rm_X8_exchangeOnce s m args below meth c H locs 0 0 (MQ below (Qcx D (wX A C) (fxA A 60) (some (.int res.1)) res.2) args s 0 0 (fxA A 60)) (F0 m 13 ls []) := by
  obtain ⟨hx, hb, hml, hown, hts, hK, hr, hlk, hZ⟩ := id cx
  intro n
  induction n with
  | zero =>
    intro x2 x3 x4 σ H locs ls hf hl hP hS
    exact absurd (show (none : Option (Int32 × St)) = some res from hf) (by intro h; cases h)
  | succ n ih =>
    intro x2 x3 x4 σ H locs ls hf hl hP hS
    refine lv_iload hx hb dX8_exchangeOnce_13 (lv_at hl 3 rfl) ?_
    refine lv_iload_n hx hb dX8_exchangeOnce_15 rfl (lv_at hl 2 rfl) ?_
    refine lv_icmp_ge (tgt := 77) hx hb dX8_exchangeOnce_16 (by decide) (fun c7 => ?_) (fun c7 => ?_)
    · have hf := (if_pos c7).symm.trans hf
      refine lv_iload_n hx hb dX8_exchangeOnce_77 rfl (lv_at hl 1 rfl) ?_
      exact cx_iret cx hP hS hf dX8_exchangeOnce_78
    · have hf := (if_neg c7).symm.trans hf
      refine lv_iload hx hb dX8_exchangeOnce_19 (lv_at hl 3 rfl) ?_
      refine lv_iconst (v := 1) hx hb dX8_exchangeOnce_21 (by decide) ?_
      refine lv_iadd hx hb dX8_exchangeOnce_22 ?_
      refine lv_istore (lv' := [(5, .int (x4 + 1)), (0, .ref (A 52)), (2, .int x2), (3, .int x3), (4, .int x4)]) hx hb dX8_exchangeOnce_23 hl (by decide) rfl (fun ls hl => ?_)
      exact w_F_xX8_exchangeOnce_25 hA cx ih FU _ _ _ _ _ _ _ _ hf (lv_sub hl [1, 2, 3, 4, 0] rfl) hP hS
set_option maxHeartbeats 4000000 in
set_option maxRecDepth 100000 in
theorem ct_xX8_exchangeOnce (l : Launch) (D : va_G) (C : Nat → ClassId) (A adK adV : Nat → Nat) (hA : apA A 60) {x1 : Int32} {σ : St} {res : (Int32 × St)} (hf : F_xX8_exchangeOnce x1 σ = some res) : Met l yX8_exchangeOnce (Cond.code yX8_exchangeOnce cX8_exchangeOnce 6 (some .int) :: wsL_law) rm_X8_exchangeOnce (Pcx D C (wX A C) adK adV (fxA A 60) [.ref (A 52), .int x1] σ) (Qcx D (wX A C) (fxA A 60) (some (.int res.1)) res.2) 0 0 (fxA A 60) := by
  refine Met.ofW (cc := cX8_exchangeOnce) (maxL := 6) (ret := (some .int)) (by decide) rfl ?_
  intro p e s m args below meth c s₁ B hml hv
  obtain ⟨rfl, hP, hK, hZ⟩ := hv
  have cx : Cxx D C adK adV (fxA A 60) p s m _ meth c cX8_exchangeOnce 6 RX8 (some .int) := ⟨B.exec, B.bytes, hml, findClass_of_methodNamed B.named, fun w h => atoms_spec (ws := Cond.code yX8_exchangeOnce cX8_exchangeOnce 6 (some .int) :: wsL_law) B.pre w (List.mem_cons_of_mem _ h), hK, B.returns, B.notSynchronized, hZ⟩
  obtain ⟨hx, hb, -, hown, hts, -, hr, hlk, -⟩ := id cx
  have hS : va_S (fxA A 60) s.heap s.heap [] := va_S.rf
  have hl := lv_entry ([.ref (A 52), .int x1]) (n := 6) (Nat.le_of_ble_eq_true rfl)
  rw [lg_entry_eq]
  generalize (lg_sl ([.ref (A 52), .int x1]) ++ List.replicate (6 - (lg_sl ([.ref (A 52), .int x1])).length) Slot.unset).toArray = ls at hl ⊢
  have hl : lv_has ls 6 [(0, .ref (A 52)), (1, .int x1)] := hl
  show W p l e rm_X8_exchangeOnce s m _ below meth c s.heap [] 0 0 _ _
  refine lv_iload_n hx hb dX8_exchangeOnce_0 rfl (lv_at hl 1 rfl) ?_
  refine lv_istore_n (lv' := [(2, .int x1), (0, .ref (A 52)), (1, .int x1)]) hx hb dX8_exchangeOnce_1 rfl hl (by decide) rfl (fun ls hl => ?_)
  refine lv_aload_n hx hb dX8_exchangeOnce_2 rfl (lv_at hl 1 rfl) ?_
  refine gX_52_1 hx hb hts hown hK hP (hts _ kw_140) dX8_exchangeOnce_3 ?_
  obtain ⟨⟨r8, σ_r8⟩, h_r8, hf⟩ := bd_some hf
  refine cx_V (As := []) (rest := []) cx (ct_xX3_countNames l D C A adK adV hA h_r8) (cw_X8_63 hts ⟨Nat.le_of_ble_eq_true rfl, Nat.le_of_ble_eq_true rfl⟩) (va_recv hK hP (ci := 3) (q0 := 25) rfl (wX_25 A C _)) hP hS rfl hl.1 rfl (Nat.le_of_ble_eq_true rfl) dX8_exchangeOnce_6 ⟨Nat.zero_le _, Nat.zero_le _⟩ (fun H locs hP hS => ?_)
  refine lv_istore_n (lv' := [(3, .int r8), (2, .int x1), (0, .ref (A 52)), (1, .int x1)]) hx hb dX8_exchangeOnce_9 rfl hl (by decide) rfl (fun ls hl => ?_)
  refine lv_iconst (v := 0) hx hb dX8_exchangeOnce_10 (by decide) ?_
  refine lv_istore (lv' := [(4, .int 0), (3, .int r8), (2, .int x1), (0, .ref (A 52)), (1, .int x1)]) hx hb dX8_exchangeOnce_11 hl (by decide) rfl (fun ls hl => ?_)
  exact w_F_xX8_exchangeOnce_13 hA cx FU _ _ _ _ _ _ _ hf (lv_sub hl [3, 2, 1, 0] rfl) hP hS
set_option maxHeartbeats 4000000 in
set_option maxRecDepth 100000 in
theorem w_F_xX8_exchangePairs_14 {p : Program} {l : Launch} {e : Env} {s : State} {m : MethodId} {args : Array Value} {below : List Frame} {meth : Method} {c : Code} {D : va_G} {C : Nat → ClassId} {A adK adV : Nat → Nat} (hA : apA A 60) (cx : Cxx D C adK adV (fxA A 60) p s m args meth c cX8_exchangePairs 4 RX8 (some .int)) {res : (Int32 × St)} : ∀ (n : Nat), ∀ (x1 : Int32) (x2 : Int32) (σ : St) (H : Heap) (locs : List Loc) (ls : Array Slot), F_xX8_exchangePairs_14 n x1 x2 σ = some res → lv_has ls 4 [(0, .ref (A 52)), (1, .int x1), (2, .int x2)] → va_P D vwCl (wX A C σ) H → va_S (fxA A 60) s.heap H locs → W p l e rm_X8_exchangePairs s m args below meth c H locs 0 0 (MQ below (Qcx D (wX A C) (fxA A 60) (some (.int res.1)) res.2) args s 0 0 (fxA A 60)) (F0 m 14 ls []) := by
  obtain ⟨hx, hb, hml, hown, hts, hK, hr, hlk, hZ⟩ := id cx
  intro n
  induction n with
  | zero =>
    intro x1 x2 σ H locs ls hf hl hP hS
    exact absurd (show (none : Option (Int32 × St)) = some res from hf) (by intro h; cases h)
  | succ n ih =>
    intro x1 x2 σ H locs ls hf hl hP hS
    refine lv_iload_n hx hb dX8_exchangePairs_14 rfl (lv_at hl 2 rfl) ?_
    refine lv_bipush (v := 20) hx hb dX8_exchangePairs_15 (by decide) ?_
    refine lv_icmp_ge (tgt := 42) hx hb dX8_exchangePairs_17 (by decide) (fun c1 => ?_) (fun c1 => ?_)
    · have hf := (if_pos c1).symm.trans hf
      refine lv_iload_n hx hb dX8_exchangePairs_42 rfl (lv_at hl 1 rfl) ?_
      exact cx_iret cx hP hS hf dX8_exchangePairs_43
    · have hf := (if_neg c1).symm.trans hf
      refine lv_aload_n hx hb dX8_exchangePairs_20 rfl (lv_at hl 0 rfl) ?_
      refine lv_iload_n hx hb dX8_exchangePairs_21 rfl (lv_at hl 1 rfl) ?_
      obtain ⟨⟨r2, σ_r2⟩, h_r2, hf⟩ := bd_some hf
      refine cx_V (As := [.int x1]) (rest := []) cx (ct_xX8_exchangeOnce l D C A adK adV hA h_r2) (cw_X8_73 hts ⟨Nat.le_of_ble_eq_true rfl, Nat.le_of_ble_eq_true rfl⟩) (va_recv hK hP (ci := 8) (q0 := 52) rfl (wX_52 A C _)) hP hS rfl hl.1 rfl (Nat.le_of_ble_eq_true rfl) dX8_exchangePairs_22 ⟨Nat.zero_le _, Nat.zero_le _⟩ (fun H locs hP hS => ?_)
      refine lv_istore_n (lv' := [(3, .int r2), (0, .ref (A 52)), (1, .int x1), (2, .int x2)]) hx hb dX8_exchangePairs_25 rfl hl (by decide) rfl (fun ls hl => ?_)
      refine lv_iload_n hx hb dX8_exchangePairs_26 rfl (lv_at hl 0 rfl) ?_
      refine lv_iload_n hx hb dX8_exchangePairs_27 rfl (lv_at hl 2 rfl) ?_
      refine lv_icmp_ne (tgt := 34) hx hb dX8_exchangePairs_28 (by decide) (fun c3 => ?_) (fun c3 => ?_)
      · have hf := (if_neg c3).symm.trans hf
        refine lv_iload_n hx hb dX8_exchangePairs_34 rfl (lv_at hl 0 rfl) ?_
        refine lv_istore_n (lv' := [(1, .int r2), (3, .int r2), (0, .ref (A 52)), (2, .int x2)]) hx hb dX8_exchangePairs_35 rfl hl (by decide) rfl (fun ls hl => ?_)
        refine lv_iinc (v := (x2 + 1)) (lv' := [(2, .int (x2 + 1)), (1, .int r2), (3, .int r2), (0, .ref (A 52))]) hx hb dX8_exchangePairs_36 hl (k := 3) rfl rfl (by decide) rfl (fun ls hl => ?_)
        refine lv_goto (tgt := 14) hx hb dX8_exchangePairs_39 (by decide) ?_
        exact ih _ _ _ _ _ _ hf (lv_sub hl [3, 1, 0] rfl) hP hS
      · have hf := (if_pos c3).symm.trans hf
        refine lv_goto (tgt := 42) hx hb dX8_exchangePairs_31 (by decide) ?_
        refine lv_iload_n hx hb dX8_exchangePairs_42 rfl (lv_at hl 2 rfl) ?_
        exact cx_iret cx hP hS hf dX8_exchangePairs_43
set_option maxHeartbeats 4000000 in
set_option maxRecDepth 100000 in
theorem ct_xX8_exchangePairs (l : Launch) (D : va_G) (C : Nat → ClassId) (A adK adV : Nat → Nat) (hA : apA A 60)  {σ : St} {res : (Int32 × St)} (hf : F_xX8_exchangePairs σ = some res) : Met l yX8_exchangePairs (Cond.code yX8_exchangePairs cX8_exchangePairs 4 (some .int) :: wsL_law) rm_X8_exchangePairs (Pcx D C (wX A C) adK adV (fxA A 60) [.ref (A 52)] σ) (Qcx D (wX A C) (fxA A 60) (some (.int res.1)) res.2) 0 0 (fxA A 60) := by
  refine Met.ofW (cc := cX8_exchangePairs) (maxL := 4) (ret := (some .int)) (by decide) rfl ?_
  intro p e s m args below meth c s₁ B hml hv
  obtain ⟨rfl, hP, hK, hZ⟩ := hv
  have cx : Cxx D C adK adV (fxA A 60) p s m _ meth c cX8_exchangePairs 4 RX8 (some .int) := ⟨B.exec, B.bytes, hml, findClass_of_methodNamed B.named, fun w h => atoms_spec (ws := Cond.code yX8_exchangePairs cX8_exchangePairs 4 (some .int) :: wsL_law) B.pre w (List.mem_cons_of_mem _ h), hK, B.returns, B.notSynchronized, hZ⟩
  obtain ⟨hx, hb, -, hown, hts, -, hr, hlk, -⟩ := id cx
  have hS : va_S (fxA A 60) s.heap s.heap [] := va_S.rf
  have hl := lv_entry ([.ref (A 52)]) (n := 4) (Nat.le_of_ble_eq_true rfl)
  rw [lg_entry_eq]
  generalize (lg_sl ([.ref (A 52)]) ++ List.replicate (4 - (lg_sl ([.ref (A 52)])).length) Slot.unset).toArray = ls at hl ⊢
  have hl : lv_has ls 4 [(0, .ref (A 52))] := hl
  show W p l e rm_X8_exchangePairs s m _ below meth c s.heap [] 0 0 _ _
  refine lv_aload_n hx hb dX8_exchangePairs_0 rfl (lv_at hl 0 rfl) ?_
  refine gX_52_1 hx hb hts hown hK hP (hts _ kw_140) dX8_exchangePairs_1 ?_
  refine lv_aload_n hx hb dX8_exchangePairs_4 rfl (lv_at hl 0 rfl) ?_
  refine gX_52_2 hx hb hts hown hK hP (hts _ kw_141) dX8_exchangePairs_5 ?_
  obtain ⟨⟨r4, σ_r4⟩, h_r4, hf⟩ := bd_some hf
  refine cx_V (As := [.ref (A 37)]) (rest := []) cx (ct_xX3_timeOf l D C A adK adV hA h_r4) (cw_X8_59 hts ⟨Nat.le_of_ble_eq_true rfl, Nat.le_of_ble_eq_true rfl⟩) (va_recv hK hP (ci := 3) (q0 := 25) rfl (wX_25 A C _)) hP hS rfl hl.1 rfl (Nat.le_of_ble_eq_true rfl) dX8_exchangePairs_8 ⟨Nat.zero_le _, Nat.zero_le _⟩ (fun H locs hP hS => ?_)
  refine lv_istore_n (lv' := [(1, .int r4), (0, .ref (A 52))]) hx hb dX8_exchangePairs_11 rfl hl (by decide) rfl (fun ls hl => ?_)
  refine lv_iconst (v := 0) hx hb dX8_exchangePairs_12 (by decide) ?_
  refine lv_istore_n (lv' := [(2, .int 0), (1, .int r4), (0, .ref (A 52))]) hx hb dX8_exchangePairs_13 rfl hl (by decide) rfl (fun ls hl => ?_)
  exact w_F_xX8_exchangePairs_14 hA cx FU _ _ _ _ _ _ hf (lv_sub hl [2, 1, 0] rfl) hP hS
set_option maxHeartbeats 4000000 in
set_option maxRecDepth 100000 in
theorem ct_xX3_move (l : Launch) (D : va_G) (C : Nat → ClassId) (A adK adV : Nat → Nat) (hA : apA A 60) {x1 : Int32} {x2 : Int32} {σ : St} {res : St} (hf : F_xX3_move x1 x2 σ = some res) : Met l yX3_move (Cond.code yX3_move cX3_move 3 none :: wsL_law) rm_X3_move (Pcx D C (wX A C) adK adV (fxA A 60) [.ref (A 25), .int x1, .int x2] σ) (Qcx D (wX A C) (fxA A 60) none res) 0 0 (fxA A 60) := by
  refine Met.ofW (cc := cX3_move) (maxL := 3) (ret := none) (by decide) rfl ?_
  intro p e s m args below meth c s₁ B hml hv
  obtain ⟨rfl, hP, hK, hZ⟩ := hv
  have cx : Cxx D C adK adV (fxA A 60) p s m _ meth c cX3_move 3 RX3 none := ⟨B.exec, B.bytes, hml, findClass_of_methodNamed B.named, fun w h => atoms_spec (ws := Cond.code yX3_move cX3_move 3 none :: wsL_law) B.pre w (List.mem_cons_of_mem _ h), hK, B.returns, B.notSynchronized, hZ⟩
  obtain ⟨hx, hb, -, hown, hts, -, hr, hlk, -⟩ := id cx
  have hS : va_S (fxA A 60) s.heap s.heap [] := va_S.rf
  have hl := lv_entry ([.ref (A 25), .int x1, .int x2]) (n := 3) (Nat.le_of_ble_eq_true rfl)
  rw [lg_entry_eq]
  generalize (lg_sl ([.ref (A 25), .int x1, .int x2]) ++ List.replicate (3 - (lg_sl ([.ref (A 25), .int x1, .int x2])).length) Slot.unset).toArray = ls at hl ⊢
  have hl : lv_has ls 3 [(0, .ref (A 25)), (1, .int x1), (2, .int x2)] := hl
  show W p l e rm_X3_move s m _ below meth c s.heap [] 0 0 _ _
  refine lv_iload_n hx hb dX3_move_0 rfl (lv_at hl 1 rfl) ?_
  refine lv_if_lt (tgt := 31) hx hb dX3_move_1 (by decide) (fun c1 => ?_) (fun c1 => ?_)
  · have hf := (if_pos c1).symm.trans hf
    exact cx_vret cx hP hS hf dX3_move_31
  · have hf := (if_neg c1).symm.trans hf
    refine lv_iload_n hx hb dX3_move_4 rfl (lv_at hl 1 rfl) ?_
    refine lv_bipush (v := 40) hx hb dX3_move_5 (by decide) ?_
    refine lv_icmp_ge (tgt := 31) hx hb dX3_move_7 (by decide) (fun c2 => ?_) (fun c2 => ?_)
    · have hf := (if_pos c2).symm.trans hf
      exact cx_vret cx hP hS hf dX3_move_31
    · have hf := (if_neg c2).symm.trans hf
      refine lv_aload_n hx hb dX3_move_10 rfl (lv_at hl 0 rfl) ?_
      refine gX_25_2 hx hb hts hown hK hP (hts _ kw_99) dX3_move_11 ?_
      refine lv_iload_n hx hb dX3_move_14 rfl (lv_at hl 1 rfl) ?_
      obtain ⟨z3, hf⟩ := gd_some hf
      refine gX_a26 hx hb hK hP (ib_in z3) (v := (σ.2.1 26 x1.toNatClampNeg)) rfl dX3_move_15 ?_
      refine lv_if_lt (tgt := 31) hx hb dX3_move_16 (by decide) (fun c4 => ?_) (fun c4 => ?_)
      · have hf := (if_pos c4).symm.trans hf
        exact cx_vret cx hP hS hf dX3_move_31
      · have hf := (if_neg c4).symm.trans hf
        refine lv_aload_n hx hb dX3_move_19 rfl (lv_at hl 0 rfl) ?_
        refine gX_25_2 hx hb hts hown hK hP (hts _ kw_99) dX3_move_20 ?_
        refine lv_iload_n hx hb dX3_move_23 rfl (lv_at hl 1 rfl) ?_
        refine gX_a26 hx hb hK hP (ib_in z3) (v := (σ.2.1 26 x1.toNatClampNeg)) rfl dX3_move_24 ?_
        refine lv_sipush (v := 128) hx hb dX3_move_25 (by decide) ?_
        refine lv_icmp_lt (tgt := 32) hx hb dX3_move_28 (by decide) (fun c5 => ?_) (fun c5 => ?_)
        · have hf := (if_pos c5).symm.trans hf
          refine lv_aload_n hx hb dX3_move_32 rfl (lv_at hl 0 rfl) ?_
          refine gX_25_5 hx hb hts hown hK hP (hts _ kw_102) dX3_move_33 ?_
          refine lv_aload_n hx hb dX3_move_36 rfl (lv_at hl 0 rfl) ?_
          refine gX_25_2 hx hb hts hown hK hP (hts _ kw_99) dX3_move_37 ?_
          refine lv_iload_n hx hb dX3_move_40 rfl (lv_at hl 1 rfl) ?_
          refine gX_a26 hx hb hK hP (ib_in z3) (v := (σ.2.1 26 x1.toNatClampNeg)) rfl dX3_move_41 ?_
          refine lv_iconst (v := (-1)) hx hb dX3_move_42 (by decide) ?_
          obtain ⟨z6, hf⟩ := gd_some hf
          refine pX_a29 hx hb hK hP hA hS (ib_in z6) dX3_move_43 (fun H locs hP hS => ?_)
          refine lv_aload_n hx hb dX3_move_44 rfl (lv_at hl 0 rfl) ?_
          refine lv_iload_n hx hb dX3_move_45 rfl (lv_at hl 1 rfl) ?_
          refine lv_iload_n hx hb dX3_move_46 rfl (lv_at hl 2 rfl) ?_
          have hP : va_P D vwCl (wX A C (sA σ 29 (upd (σ.2.1 29) (σ.2.1 26 x1.toNatClampNeg).toNatClampNeg (-1)))) H := hP
          obtain ⟨σ_r7, h_r7, hf⟩ := bv_some hf
          refine cx_V (As := [.int x1, .int x2]) (rest := []) cx (ct_xX3_put l D C A adK adV hA h_r7) (cw_X3_56 hts ⟨Nat.le_of_ble_eq_true rfl, Nat.le_of_ble_eq_true rfl⟩) (va_recv hK hP (ci := 3) (q0 := 25) rfl (wX_25 A C _)) hP hS rfl hl.1 rfl (Nat.le_of_ble_eq_true rfl) dX3_move_47 ⟨Nat.zero_le _, Nat.zero_le _⟩ (fun H locs hP hS => ?_)
          exact cx_vret cx hP hS hf dX3_move_50
        · have hf := (if_neg c5).symm.trans hf
          exact cx_vret cx hP hS hf dX3_move_31
set_option maxHeartbeats 4000000 in
set_option maxRecDepth 100000 in
theorem ct_xX1_spotsEnd (l : Launch) (D : va_G) (C : Nat → ClassId) (A adK adV : Nat → Nat) (hA : apA A 60)  {σ : St} {res : (Int32 × St)} (hf : F_xX1_spotsEnd σ = some res) : Met l yX1_spotsEnd (Cond.code yX1_spotsEnd cX1_spotsEnd 1 (some .int) :: wsL_law) rm_X1_spotsEnd (Pcx D C (wX A C) adK adV (fxA A 60) [.ref (A 3)] σ) (Qcx D (wX A C) (fxA A 60) (some (.int res.1)) res.2) 0 0 (fxA A 60) := by
  refine Met.ofW (cc := cX1_spotsEnd) (maxL := 1) (ret := (some .int)) (by decide) rfl ?_
  intro p e s m args below meth c s₁ B hml hv
  obtain ⟨rfl, hP, hK, hZ⟩ := hv
  have cx : Cxx D C adK adV (fxA A 60) p s m _ meth c cX1_spotsEnd 1 RX1 (some .int) := ⟨B.exec, B.bytes, hml, findClass_of_methodNamed B.named, fun w h => atoms_spec (ws := Cond.code yX1_spotsEnd cX1_spotsEnd 1 (some .int) :: wsL_law) B.pre w (List.mem_cons_of_mem _ h), hK, B.returns, B.notSynchronized, hZ⟩
  obtain ⟨hx, hb, -, hown, hts, -, hr, hlk, -⟩ := id cx
  have hS : va_S (fxA A 60) s.heap s.heap [] := va_S.rf
  have hl := lv_entry ([.ref (A 3)]) (n := 1) (Nat.le_of_ble_eq_true rfl)
  rw [lg_entry_eq]
  generalize (lg_sl ([.ref (A 3)]) ++ List.replicate (1 - (lg_sl ([.ref (A 3)])).length) Slot.unset).toArray = ls at hl ⊢
  have hl : lv_has ls 1 [(0, .ref (A 3))] := hl
  show W p l e rm_X1_spotsEnd s m _ below meth c s.heap [] 0 0 _ _
  refine lv_sipush (v := 128) hx hb dX1_spotsEnd_0 (by decide) ?_
  refine lv_aload_n hx hb dX1_spotsEnd_3 rfl (lv_at hl 0 rfl) ?_
  refine gX_3_0 hx hb hts hown hK hP (v := (σ.1 7)) rfl (hts _ kw_66) dX1_spotsEnd_4 ?_
  refine lv_aload_n hx hb dX1_spotsEnd_7 rfl (lv_at hl 0 rfl) ?_
  refine gX_3_1 hx hb hts hown hK hP (v := (σ.1 8)) rfl (hts _ kw_67) dX1_spotsEnd_8 ?_
  refine lv_imul hx hb dX1_spotsEnd_11 ?_
  refine va_mmin hx hb (hml.trans hl.1.symm) hown (hts _ kw_386) (hts _ kw_352) (hts _ kw_353) (hts _ kw_354) (Nat.le_of_ble_eq_true rfl) (Nat.le_of_ble_eq_true rfl) (Nat.zero_le _) (Nat.zero_le _) dX1_spotsEnd_12 ?_
  exact cx_iret cx hP hS hf dX1_spotsEnd_15
set_option maxHeartbeats 4000000 in
set_option maxRecDepth 100000 in
theorem ct_xX1_hasSpot (l : Launch) (D : va_G) (C : Nat → ClassId) (A adK adV : Nat → Nat) (hA : apA A 60) {x1 : Int32} {σ : St} {res : (Int32 × St)} (hf : F_xX1_hasSpot x1 σ = some res) : Met l yX1_hasSpot (Cond.code yX1_hasSpot cX1_hasSpot 2 (some .boolean) :: wsL_law) rm_X1_hasSpot (Pcx D C (wX A C) adK adV (fxA A 60) [.ref (A 3), .int x1] σ) (Qcx D (wX A C) (fxA A 60) (some (.int res.1)) res.2) 0 0 (fxA A 60) := by
  refine Met.ofW (cc := cX1_hasSpot) (maxL := 2) (ret := (some .boolean)) (by decide) rfl ?_
  intro p e s m args below meth c s₁ B hml hv
  obtain ⟨rfl, hP, hK, hZ⟩ := hv
  have cx : Cxx D C adK adV (fxA A 60) p s m _ meth c cX1_hasSpot 2 RX1 (some .boolean) := ⟨B.exec, B.bytes, hml, findClass_of_methodNamed B.named, fun w h => atoms_spec (ws := Cond.code yX1_hasSpot cX1_hasSpot 2 (some .boolean) :: wsL_law) B.pre w (List.mem_cons_of_mem _ h), hK, B.returns, B.notSynchronized, hZ⟩
  obtain ⟨hx, hb, -, hown, hts, -, hr, hlk, -⟩ := id cx
  have hS : va_S (fxA A 60) s.heap s.heap [] := va_S.rf
  have hl := lv_entry ([.ref (A 3), .int x1]) (n := 2) (Nat.le_of_ble_eq_true rfl)
  rw [lg_entry_eq]
  generalize (lg_sl ([.ref (A 3), .int x1]) ++ List.replicate (2 - (lg_sl ([.ref (A 3), .int x1])).length) Slot.unset).toArray = ls at hl ⊢
  have hl : lv_has ls 2 [(0, .ref (A 3)), (1, .int x1)] := hl
  show W p l e rm_X1_hasSpot s m _ below meth c s.heap [] 0 0 _ _
  refine lv_iload_n hx hb dX1_hasSpot_0 rfl (lv_at hl 1 rfl) ?_
  refine lv_if_lt (tgt := 34) hx hb dX1_hasSpot_1 (by decide) (fun c1 => ?_) (fun c1 => ?_)
  · have hf := (if_pos c1).symm.trans hf
    refine lv_iconst (v := 0) hx hb dX1_hasSpot_34 (by decide) ?_
    exact cx_zret cx rfl hP hS hf dX1_hasSpot_35
  · have hf := (if_neg c1).symm.trans hf
    refine lv_iload_n hx hb dX1_hasSpot_4 rfl (lv_at hl 1 rfl) ?_
    refine lv_aload_n hx hb dX1_hasSpot_5 rfl (lv_at hl 0 rfl) ?_
    obtain ⟨⟨r2, σ_r2⟩, h_r2, hf⟩ := bd_some hf
    refine cx_V (As := []) (rest := [.int x1]) cx (ct_xX1_spotsEnd l D C A adK adV hA h_r2) (cw_X1_31 hts ⟨Nat.le_of_ble_eq_true rfl, Nat.le_of_ble_eq_true rfl⟩) (va_recv hK hP (ci := 1) (q0 := 3) rfl (wX_3 A C _)) hP hS rfl hl.1 rfl (Nat.le_of_ble_eq_true rfl) dX1_hasSpot_6 ⟨Nat.zero_le _, Nat.zero_le _⟩ (fun H locs hP hS => ?_)
    refine lv_icmp_ge (tgt := 34) hx hb dX1_hasSpot_9 (by decide) (fun c3 => ?_) (fun c3 => ?_)
    · have hf := (if_pos c3).symm.trans hf
      refine lv_iconst (v := 0) hx hb dX1_hasSpot_34 (by decide) ?_
      exact cx_zret cx rfl hP hS hf dX1_hasSpot_35
    · have hf := (if_neg c3).symm.trans hf
      refine lv_aload_n hx hb dX1_hasSpot_12 rfl (lv_at hl 0 rfl) ?_
      refine lv_iload_n hx hb dX1_hasSpot_13 rfl (lv_at hl 1 rfl) ?_
      obtain ⟨⟨r4, σ_r4⟩, h_r4, hf⟩ := bd_some hf
      refine cx_V (As := [.int x1]) (rest := []) cx (ct_xX1_placeOf l D C A adK adV hA h_r4) (cw_X1_35 hts ⟨Nat.le_of_ble_eq_true rfl, Nat.le_of_ble_eq_true rfl⟩) (va_recv hK hP (ci := 1) (q0 := 3) rfl (wX_3 A C _)) hP hS rfl hl.1 rfl (Nat.le_of_ble_eq_true rfl) dX1_hasSpot_14 ⟨Nat.zero_le _, Nat.zero_le _⟩ (fun H locs hP hS => ?_)
      refine lv_aload_n hx hb dX1_hasSpot_17 rfl (lv_at hl 0 rfl) ?_
      refine gX_3_3 hx hb hts hown hK hP (hts _ kw_65) dX1_hasSpot_18 ?_
      refine lv_aload_n hx hb dX1_hasSpot_21 rfl (lv_at hl 0 rfl) ?_
      refine lv_iload_n hx hb dX1_hasSpot_22 rfl (lv_at hl 1 rfl) ?_
      obtain ⟨⟨r5, σ_r5⟩, h_r5, hf⟩ := bd_some hf
      refine cx_V (As := [.int x1]) (rest := [.ref (A 5), .int r4]) cx (ct_xX1_trackOf l D C A adK adV hA h_r5) (cw_X1_39 hts ⟨Nat.le_of_ble_eq_true rfl, Nat.le_of_ble_eq_true rfl⟩) (va_recv hK hP (ci := 1) (q0 := 3) rfl (wX_3 A C _)) hP hS rfl hl.1 rfl (Nat.le_of_ble_eq_true rfl) dX1_hasSpot_23 ⟨Nat.zero_le _, Nat.zero_le _⟩ (fun H locs hP hS => ?_)
      obtain ⟨z6, hf⟩ := gd_some hf
      refine gX_a5 hx hb hK hP (ib_in z6) (v := (σ_r5.2.1 5 r5.toNatClampNeg)) rfl dX1_hasSpot_26 ?_
      refine lv_icmp_ge (tgt := 34) hx hb dX1_hasSpot_27 (by decide) (fun c7 => ?_) (fun c7 => ?_)
      · have hf := (if_pos c7).symm.trans hf
        refine lv_iconst (v := 0) hx hb dX1_hasSpot_34 (by decide) ?_
        exact cx_zret cx rfl hP hS hf dX1_hasSpot_35
      · have hf := (if_neg c7).symm.trans hf
        refine lv_iconst (v := 1) hx hb dX1_hasSpot_30 (by decide) ?_
        refine lv_goto (tgt := 35) hx hb dX1_hasSpot_31 (by decide) ?_
        exact cx_zret cx rfl hP hS hf dX1_hasSpot_35
set_option maxHeartbeats 4000000 in
set_option maxRecDepth 100000 in
theorem w_F_xX8_findPlace_67 {p : Program} {l : Launch} {e : Env} {s : State} {m : MethodId} {args : Array Value} {below : List Frame} {meth : Method} {c : Code} {D : va_G} {C : Nat → ClassId} {A adK adV : Nat → Nat} (hA : apA A 60) (cx : Cxx D C adK adV (fxA A 60) p s m args meth c cX8_findPlace 9 RX8 (some .int)) {res : (Int32 × St)} {b27 : Int32 → Int32 → Int32 → Int32 → Int32 → Int32 → St → Option (Int32 × St)} (hb27 : ∀ (x1 : Int32) (x2 : Int32) (x3 : Int32) (x4 : Int32) (x5 : Int32) (x6 : Int32) (σ : St) (H : Heap) (locs : List Loc) (ls : Array Slot), b27 x1 x2 x3 x4 x5 x6 σ = some res → lv_has ls 9 [(0, .ref (A 52)), (1, .int x1), (2, .int x2), (3, .int x3), (4, .int x4), (5, .int x5), (6, .int x6)] → va_P D vwCl (wX A C σ) H → va_S (fxA A 60) s.heap H locs → W p l e rm_X8_findPlace s m args below meth c H locs 0 0 (MQ below (Qcx D (wX A C) (fxA A 60) (some (.int res.1)) res.2) args s 0 0 (fxA A 60)) (F0 m 27 ls [])) : ∀ (x1 : Int32) (x2 : Int32) (x3 : Int32) (x4 : Int32) (x5 : Int32) (x6 : Int32) (y0 : Int32) (σ : St) (H : Heap) (locs : List Loc) (ls : Array Slot), F_xX8_findPlace_67 b27 x1 x2 x3 x4 x5 x6 y0 σ = some res → lv_has ls 9 [(0, .ref (A 52)), (1, .int x1), (2, .int x2), (3, .int x3), (4, .int x4), (5, .int x5), (6, .int x6)] → va_P D vwCl (wX A C σ) H → va_S (fxA A 60) s.heap H locs → W p l e rm_X8_findPlace s m args below meth c H locs 0 0 (MQ below (Qcx D (wX A C) (fxA A 60) (some (.int res.1)) res.2) args s 0 0 (fxA A 60)) (F0 m 67 ls [.int y0]) := by
  obtain ⟨hx, hb, hml, hown, hts, hK, hr, hlk, hZ⟩ := id cx
  intro x1 x2 x3 x4 x5 x6 y0 σ H locs ls hf hl hP hS
  refine lv_istore (lv' := [(7, .int y0), (0, .ref (A 52)), (1, .int x1), (2, .int x2), (3, .int x3), (4, .int x4), (5, .int x5), (6, .int x6)]) hx hb dX8_findPlace_67 hl (by decide) rfl (fun ls hl => ?_)
  refine lv_iload hx hb dX8_findPlace_69 (lv_at hl 0 rfl) ?_
  refine lv_if_eq (tgt := 153) hx hb dX8_findPlace_71 (by decide) (fun c1 => ?_) (fun c1 => ?_)
  · have hf := (if_pos c1).symm.trans hf
    refine lv_iinc (v := (x6 + 1)) (lv' := [(6, .int (x6 + 1)), (7, .int y0), (0, .ref (A 52)), (1, .int x1), (2, .int x2), (3, .int x3), (4, .int x4), (5, .int x5)]) hx hb dX8_findPlace_153 hl (k := 7) rfl rfl (by decide) rfl (fun ls hl => ?_)
    refine lv_goto (tgt := 27) hx hb dX8_findPlace_156 (by decide) ?_
    exact hb27 _ _ _ _ _ _ _ _ _ _ hf (lv_sub hl [2, 3, 4, 5, 6, 7, 0] rfl) hP hS
  · have hf := (if_neg c1).symm.trans hf
    refine lv_aload_n hx hb dX8_findPlace_74 rfl (lv_at hl 1 rfl) ?_
    refine gX_52_1 hx hb hts hown hK hP (hts _ kw_140) dX8_findPlace_75 ?_
    refine gX_25_6 hx hb hts hown hK hP (hts _ kw_880) dX8_findPlace_78 ?_
    refine lv_iload hx hb dX8_findPlace_81 (lv_at hl 7 rfl) ?_
    obtain ⟨z2, hf⟩ := gd_some hf
    refine gX_a30 hx hb hK hP (ib_in z2) (v := (σ.2.1 30 x6.toNatClampNeg)) rfl dX8_findPlace_83 ?_
    refine lv_if_ne (tgt := 153) hx hb dX8_findPlace_84 (by decide) (fun c3 => ?_) (fun c3 => ?_)
    · have hf := (if_neg c3).symm.trans hf
      refine lv_iinc (v := (x6 + 1)) (lv' := [(6, .int (x6 + 1)), (7, .int y0), (0, .ref (A 52)), (1, .int x1), (2, .int x2), (3, .int x3), (4, .int x4), (5, .int x5)]) hx hb dX8_findPlace_153 hl (k := 7) rfl rfl (by decide) rfl (fun ls hl => ?_)
      refine lv_goto (tgt := 27) hx hb dX8_findPlace_156 (by decide) ?_
      exact hb27 _ _ _ _ _ _ _ _ _ _ hf (lv_sub hl [2, 3, 4, 5, 6, 7, 0] rfl) hP hS
    · have hf := (if_pos c3).symm.trans hf
      refine lv_aload_n hx hb dX8_findPlace_87 rfl (lv_at hl 1 rfl) ?_
      refine gX_52_0 hx hb hts hown hK hP (hts _ kw_139) dX8_findPlace_88 ?_
      refine lv_iload hx hb dX8_findPlace_91 (lv_at hl 7 rfl) ?_
      obtain ⟨⟨r4, σ_r4⟩, h_r4, hf⟩ := bd_some hf
      refine cx_V (As := [.int x6]) (rest := []) cx (ct_xX1_hasSpot l D C A adK adV hA h_r4) (cw_X8_51 hts ⟨Nat.le_of_ble_eq_true rfl, Nat.le_of_ble_eq_true rfl⟩) (va_recv hK hP (ci := 1) (q0 := 3) rfl (wX_3 A C _)) hP hS rfl hl.1 rfl (Nat.le_of_ble_eq_true rfl) dX8_findPlace_93 ⟨Nat.zero_le _, Nat.zero_le _⟩ (fun H locs hP hS => ?_)
      refine lv_if_ne (tgt := 102) hx hb dX8_findPlace_96 (by decide) (fun c5 => ?_) (fun c5 => ?_)
      · have hf := (if_neg c5).symm.trans hf
        refine lv_aload_n hx hb dX8_findPlace_102 rfl (lv_at hl 1 rfl) ?_
        refine gX_52_1 hx hb hts hown hK hP (hts _ kw_140) dX8_findPlace_103 ?_
        refine lv_iload_n hx hb dX8_findPlace_106 rfl (lv_at hl 2 rfl) ?_
        refine lv_iload hx hb dX8_findPlace_107 (lv_at hl 7 rfl) ?_
        obtain ⟨σ_r6, h_r6, hf⟩ := bv_some hf
        refine cx_V (As := [.int x1, .int x6]) (rest := []) cx (ct_xX3_move l D C A adK adV hA h_r6) (cw_X8_55 hts ⟨Nat.le_of_ble_eq_true rfl, Nat.le_of_ble_eq_true rfl⟩) (va_recv hK hP (ci := 3) (q0 := 25) rfl (wX_25 A C _)) hP hS rfl hl.1 rfl (Nat.le_of_ble_eq_true rfl) dX8_findPlace_109 ⟨Nat.zero_le _, Nat.zero_le _⟩ (fun H locs hP hS => ?_)
        refine lv_aload_n hx hb dX8_findPlace_112 rfl (lv_at hl 1 rfl) ?_
        refine gX_52_1 hx hb hts hown hK hP (hts _ kw_140) dX8_findPlace_113 ?_
        refine lv_aload_n hx hb dX8_findPlace_116 rfl (lv_at hl 1 rfl) ?_
        refine gX_52_2 hx hb hts hown hK hP (hts _ kw_141) dX8_findPlace_117 ?_
        obtain ⟨⟨r7, σ_r7⟩, h_r7, hf⟩ := bd_some hf
        refine cx_V (As := [.ref (A 37)]) (rest := []) cx (ct_xX3_timeOf l D C A adK adV hA h_r7) (cw_X8_59 hts ⟨Nat.le_of_ble_eq_true rfl, Nat.le_of_ble_eq_true rfl⟩) (va_recv hK hP (ci := 3) (q0 := 25) rfl (wX_25 A C _)) hP hS rfl hl.1 rfl (Nat.le_of_ble_eq_true rfl) dX8_findPlace_120 ⟨Nat.zero_le _, Nat.zero_le _⟩ (fun H locs hP hS => ?_)
        refine lv_istore (lv' := [(8, .int r7), (7, .int y0), (0, .ref (A 52)), (1, .int x1), (2, .int x2), (3, .int x3), (4, .int x4), (5, .int x5), (6, .int x6)]) hx hb dX8_findPlace_123 hl (by decide) rfl (fun ls hl => ?_)
        refine lv_aload_n hx hb dX8_findPlace_125 rfl (lv_at hl 2 rfl) ?_
        refine gX_52_1 hx hb hts hown hK hP (hts _ kw_140) dX8_findPlace_126 ?_
        refine lv_iload_n hx hb dX8_findPlace_129 rfl (lv_at hl 3 rfl) ?_
        refine lv_iload_n hx hb dX8_findPlace_130 rfl (lv_at hl 4 rfl) ?_
        obtain ⟨σ_r8, h_r8, hf⟩ := bv_some hf
        refine cx_V (As := [.int x1, .int x2]) (rest := []) cx (ct_xX3_move l D C A adK adV hA h_r8) (cw_X8_55 hts ⟨Nat.le_of_ble_eq_true rfl, Nat.le_of_ble_eq_true rfl⟩) (va_recv hK hP (ci := 3) (q0 := 25) rfl (wX_25 A C _)) hP hS rfl hl.1 rfl (Nat.le_of_ble_eq_true rfl) dX8_findPlace_131 ⟨Nat.zero_le _, Nat.zero_le _⟩ (fun H locs hP hS => ?_)
        refine lv_iload_n hx hb dX8_findPlace_134 rfl (lv_at hl 5 rfl) ?_
        refine lv_iconst (v := (-1)) hx hb dX8_findPlace_135 (by decide) ?_
        refine lv_icmp_eq (tgt := 146) hx hb dX8_findPlace_136 (by decide) (fun c9 => ?_) (fun c9 => ?_)
        · have hf := (if_pos c9).symm.trans hf
          refine lv_iload hx hb dX8_findPlace_146 (lv_at hl 8 rfl) ?_
          refine lv_istore_n (lv' := [(3, .int x6), (8, .int r7), (7, .int y0), (0, .ref (A 52)), (1, .int x1), (2, .int x2), (4, .int x4), (5, .int x5), (6, .int x6)]) hx hb dX8_findPlace_148 rfl hl (by decide) rfl (fun ls hl => ?_)
          refine lv_iload hx hb dX8_findPlace_149 (lv_at hl 1 rfl) ?_
          refine lv_istore (lv' := [(4, .int r7), (3, .int x6), (8, .int r7), (7, .int y0), (0, .ref (A 52)), (1, .int x1), (2, .int x2), (5, .int x5), (6, .int x6)]) hx hb dX8_findPlace_151 hl (by decide) rfl (fun ls hl => ?_)
          refine lv_iinc (v := (x6 + 1)) (lv' := [(6, .int (x6 + 1)), (4, .int r7), (3, .int x6), (8, .int r7), (7, .int y0), (0, .ref (A 52)), (1, .int x1), (2, .int x2), (5, .int x5)]) hx hb dX8_findPlace_153 hl (k := 8) rfl rfl (by decide) rfl (fun ls hl => ?_)
          refine lv_goto (tgt := 27) hx hb dX8_findPlace_156 (by decide) ?_
          exact hb27 _ _ _ _ _ _ _ _ _ _ hf (lv_sub hl [5, 6, 7, 2, 1, 8, 0] rfl) hP hS
        · have hf := (if_neg c9).symm.trans hf
          refine lv_iload hx hb dX8_findPlace_139 (lv_at hl 0 rfl) ?_
          refine lv_iload hx hb dX8_findPlace_141 (lv_at hl 6 rfl) ?_
          refine lv_icmp_ge (tgt := 153) hx hb dX8_findPlace_143 (by decide) (fun c10 => ?_) (fun c10 => ?_)
          · have hf := (if_pos c10).symm.trans hf
            refine lv_iinc (v := (x6 + 1)) (lv' := [(6, .int (x6 + 1)), (8, .int r7), (7, .int y0), (0, .ref (A 52)), (1, .int x1), (2, .int x2), (3, .int x3), (4, .int x4), (5, .int x5)]) hx hb dX8_findPlace_153 hl (k := 8) rfl rfl (by decide) rfl (fun ls hl => ?_)
            refine lv_goto (tgt := 27) hx hb dX8_findPlace_156 (by decide) ?_
            exact hb27 _ _ _ _ _ _ _ _ _ _ hf (lv_sub hl [3, 4, 5, 6, 7, 8, 0] rfl) hP hS
          · have hf := (if_neg c10).symm.trans hf
            refine lv_iload hx hb dX8_findPlace_146 (lv_at hl 8 rfl) ?_
            refine lv_istore_n (lv' := [(3, .int x6), (8, .int r7), (7, .int y0), (0, .ref (A 52)), (1, .int x1), (2, .int x2), (4, .int x4), (5, .int x5), (6, .int x6)]) hx hb dX8_findPlace_148 rfl hl (by decide) rfl (fun ls hl => ?_)
            refine lv_iload hx hb dX8_findPlace_149 (lv_at hl 1 rfl) ?_
            refine lv_istore (lv' := [(4, .int r7), (3, .int x6), (8, .int r7), (7, .int y0), (0, .ref (A 52)), (1, .int x1), (2, .int x2), (5, .int x5), (6, .int x6)]) hx hb dX8_findPlace_151 hl (by decide) rfl (fun ls hl => ?_)
            refine lv_iinc (v := (x6 + 1)) (lv' := [(6, .int (x6 + 1)), (4, .int r7), (3, .int x6), (8, .int r7), (7, .int y0), (0, .ref (A 52)), (1, .int x1), (2, .int x2), (5, .int x5)]) hx hb dX8_findPlace_153 hl (k := 8) rfl rfl (by decide) rfl (fun ls hl => ?_)
            refine lv_goto (tgt := 27) hx hb dX8_findPlace_156 (by decide) ?_
            exact hb27 _ _ _ _ _ _ _ _ _ _ hf (lv_sub hl [5, 6, 7, 2, 1, 8, 0] rfl) hP hS
      · have hf := (if_pos c5).symm.trans hf
        refine lv_goto (tgt := 153) hx hb dX8_findPlace_99 (by decide) ?_
        refine lv_iinc (v := (x6 + 1)) (lv' := [(6, .int (x6 + 1)), (7, .int y0), (0, .ref (A 52)), (1, .int x1), (2, .int x2), (3, .int x3), (4, .int x4), (5, .int x5)]) hx hb dX8_findPlace_153 hl (k := 7) rfl rfl (by decide) rfl (fun ls hl => ?_)
        refine lv_goto (tgt := 27) hx hb dX8_findPlace_156 (by decide) ?_
        exact hb27 _ _ _ _ _ _ _ _ _ _ hf (lv_sub hl [2, 3, 4, 5, 6, 7, 0] rfl) hP hS
set_option maxHeartbeats 4000000 in
set_option maxRecDepth 100000 in
theorem w_F_xX8_findPlace_27 {p : Program} {l : Launch} {e : Env} {s : State} {m : MethodId} {args : Array Value} {below : List Frame} {meth : Method} {c : Code} {D : va_G} {C : Nat → ClassId} {A adK adV : Nat → Nat} (hA : apA A 60) (cx : Cxx D C adK adV (fxA A 60) p s m args meth c cX8_findPlace 9 RX8 (some .int)) {res : (Int32 × St)} : ∀ (n : Nat), ∀ (x1 : Int32) (x2 : Int32) (x3 : Int32) (x4 : Int32) (x5 : Int32) (x6 : Int32) (σ : St) (H : Heap) (locs : List Loc) (ls : Array Slot), F_xX8_findPlace_27 n x1 x2 x3 x4 x5 x6 σ = some res → lv_has ls 9 [(0, .ref (A 52)), (1, .int x1), (2, .int x2), (3, .int x3), (4, .int x4), (5, .int x5), (6, .int x6)] → va_P D vwCl (wX A C σ) H → va_S (fxA A 60) s.heap H locs → W p l e rm_X8_findPlace s m args below meth c H locs 0 0 (MQ below (Qcx D (wX A C) (fxA A 60) (some (.int res.1)) res.2) args s 0 0 (fxA A 60)) (F0 m 27 ls []) := by
  obtain ⟨hx, hb, hml, hown, hts, hK, hr, hlk, hZ⟩ := id cx
  intro n
  induction n with
  | zero =>
    intro x1 x2 x3 x4 x5 x6 σ H locs ls hf hl hP hS
    exact absurd (show (none : Option (Int32 × St)) = some res from hf) (by intro h; cases h)
  | succ n ih =>
    intro x1 x2 x3 x4 x5 x6 σ H locs ls hf hl hP hS
    refine lv_iload hx hb dX8_findPlace_27 (lv_at hl 6 rfl) ?_
    refine lv_iload hx hb dX8_findPlace_29 (lv_at hl 5 rfl) ?_
    refine lv_icmp_ge (tgt := 159) hx hb dX8_findPlace_31 (by decide) (fun c11 => ?_) (fun c11 => ?_)
    · have hf := (if_pos c11).symm.trans hf
      refine lv_iload_n hx hb dX8_findPlace_159 rfl (lv_at hl 3 rfl) ?_
      exact cx_iret cx hP hS hf dX8_findPlace_160
    · have hf := (if_neg c11).symm.trans hf
      refine lv_iload hx hb dX8_findPlace_34 (lv_at hl 6 rfl) ?_
      refine lv_sipush (v := 128) hx hb dX8_findPlace_36 (by decide) ?_
      refine lv_icmp_ge (tgt := 159) hx hb dX8_findPlace_39 (by decide) (fun c12 => ?_) (fun c12 => ?_)
      · have hf := (if_pos c12).symm.trans hf
        refine lv_iload_n hx hb dX8_findPlace_159 rfl (lv_at hl 3 rfl) ?_
        exact cx_iret cx hP hS hf dX8_findPlace_160
      · have hf := (if_neg c12).symm.trans hf
        refine lv_iload hx hb dX8_findPlace_42 (lv_at hl 6 rfl) ?_
        refine lv_iload_n hx hb dX8_findPlace_44 rfl (lv_at hl 2 rfl) ?_
        refine lv_icmp_eq (tgt := 62) hx hb dX8_findPlace_45 (by decide) (fun c13 => ?_) (fun c13 => ?_)
        · have hf := (if_pos c13).symm.trans hf
          refine lv_iconst (v := 1) hx hb dX8_findPlace_62 (by decide) ?_
          refine lv_goto (tgt := 67) hx hb dX8_findPlace_63 (by decide) ?_
          exact w_F_xX8_findPlace_67 hA cx ih _ _ _ _ _ _ _ _ _ _ _ hf (lv_sub hl [0, 1, 2, 3, 4, 5, 6] rfl) hP hS
        · have hf := (if_neg c13).symm.trans hf
          refine lv_aload_n hx hb dX8_findPlace_48 rfl (lv_at hl 0 rfl) ?_
          refine gX_52_1 hx hb hts hown hK hP (hts _ kw_140) dX8_findPlace_49 ?_
          refine gX_25_5 hx hb hts hown hK hP (hts _ kw_879) dX8_findPlace_52 ?_
          refine lv_iload hx hb dX8_findPlace_55 (lv_at hl 6 rfl) ?_
          obtain ⟨z14, hf⟩ := gd_some hf
          refine gX_a29 hx hb hK hP (ib_in z14) (v := (σ.2.1 29 x6.toNatClampNeg)) rfl dX8_findPlace_57 ?_
          refine lv_iconst (v := (-1)) hx hb dX8_findPlace_58 (by decide) ?_
          refine lv_icmp_ne (tgt := 66) hx hb dX8_findPlace_59 (by decide) (fun c15 => ?_) (fun c15 => ?_)
          · have hf := (if_neg c15).symm.trans hf
            refine lv_iconst (v := 0) hx hb dX8_findPlace_66 (by decide) ?_
            exact w_F_xX8_findPlace_67 hA cx ih _ _ _ _ _ _ _ _ _ _ _ hf (lv_sub hl [0, 1, 2, 3, 4, 5, 6] rfl) hP hS
          · have hf := (if_pos c15).symm.trans hf
            refine lv_iconst (v := 1) hx hb dX8_findPlace_62 (by decide) ?_
            refine lv_goto (tgt := 67) hx hb dX8_findPlace_63 (by decide) ?_
            exact w_F_xX8_findPlace_67 hA cx ih _ _ _ _ _ _ _ _ _ _ _ hf (lv_sub hl [0, 1, 2, 3, 4, 5, 6] rfl) hP hS
set_option maxHeartbeats 4000000 in
set_option maxRecDepth 100000 in
theorem ct_xX8_findPlace (l : Launch) (D : va_G) (C : Nat → ClassId) (A adK adV : Nat → Nat) (hA : apA A 60) {x1 : Int32} {σ : St} {res : (Int32 × St)} (hf : F_xX8_findPlace x1 σ = some res) : Met l yX8_findPlace (Cond.code yX8_findPlace cX8_findPlace 9 (some .int) :: wsL_law) rm_X8_findPlace (Pcx D C (wX A C) adK adV (fxA A 60) [.ref (A 52), .int x1] σ) (Qcx D (wX A C) (fxA A 60) (some (.int res.1)) res.2) 0 0 (fxA A 60) := by
  refine Met.ofW (cc := cX8_findPlace) (maxL := 9) (ret := (some .int)) (by decide) rfl ?_
  intro p e s m args below meth c s₁ B hml hv
  obtain ⟨rfl, hP, hK, hZ⟩ := hv
  have cx : Cxx D C adK adV (fxA A 60) p s m _ meth c cX8_findPlace 9 RX8 (some .int) := ⟨B.exec, B.bytes, hml, findClass_of_methodNamed B.named, fun w h => atoms_spec (ws := Cond.code yX8_findPlace cX8_findPlace 9 (some .int) :: wsL_law) B.pre w (List.mem_cons_of_mem _ h), hK, B.returns, B.notSynchronized, hZ⟩
  obtain ⟨hx, hb, -, hown, hts, -, hr, hlk, -⟩ := id cx
  have hS : va_S (fxA A 60) s.heap s.heap [] := va_S.rf
  have hl := lv_entry ([.ref (A 52), .int x1]) (n := 9) (Nat.le_of_ble_eq_true rfl)
  rw [lg_entry_eq]
  generalize (lg_sl ([.ref (A 52), .int x1]) ++ List.replicate (9 - (lg_sl ([.ref (A 52), .int x1])).length) Slot.unset).toArray = ls at hl ⊢
  have hl : lv_has ls 9 [(0, .ref (A 52)), (1, .int x1)] := hl
  show W p l e rm_X8_findPlace s m _ below meth c s.heap [] 0 0 _ _
  refine lv_aload_n hx hb dX8_findPlace_0 rfl (lv_at hl 0 rfl) ?_
  refine gX_52_1 hx hb hts hown hK hP (hts _ kw_140) dX8_findPlace_1 ?_
  refine gX_25_2 hx hb hts hown hK hP (hts _ kw_878) dX8_findPlace_4 ?_
  refine lv_iload_n hx hb dX8_findPlace_7 rfl (lv_at hl 1 rfl) ?_
  obtain ⟨z16, hf⟩ := gd_some hf
  refine gX_a26 hx hb hK hP (ib_in z16) (v := (σ.2.1 26 x1.toNatClampNeg)) rfl dX8_findPlace_8 ?_
  refine lv_istore_n (lv' := [(2, .int (σ.2.1 26 x1.toNatClampNeg)), (0, .ref (A 52)), (1, .int x1)]) hx hb dX8_findPlace_9 rfl hl (by decide) rfl (fun ls hl => ?_)
  refine lv_iconst (v := (-1)) hx hb dX8_findPlace_10 (by decide) ?_
  refine lv_istore_n (lv' := [(3, .int (-1)), (2, .int (σ.2.1 26 x1.toNatClampNeg)), (0, .ref (A 52)), (1, .int x1)]) hx hb dX8_findPlace_11 rfl hl (by decide) rfl (fun ls hl => ?_)
  refine lv_iconst (v := 0) hx hb dX8_findPlace_12 (by decide) ?_
  refine lv_istore (lv' := [(4, .int 0), (3, .int (-1)), (2, .int (σ.2.1 26 x1.toNatClampNeg)), (0, .ref (A 52)), (1, .int x1)]) hx hb dX8_findPlace_13 hl (by decide) rfl (fun ls hl => ?_)
  refine lv_aload_n hx hb dX8_findPlace_15 rfl (lv_at hl 3 rfl) ?_
  refine gX_52_0 hx hb hts hown hK hP (hts _ kw_139) dX8_findPlace_16 ?_
  obtain ⟨⟨r17, σ_r17⟩, h_r17, hf⟩ := bd_some hf
  refine cx_V (As := []) (rest := []) cx (ct_xX1_spotsEnd l D C A adK adV hA h_r17) (cw_X8_38 hts ⟨Nat.le_of_ble_eq_true rfl, Nat.le_of_ble_eq_true rfl⟩) (va_recv hK hP (ci := 1) (q0 := 3) rfl (wX_3 A C _)) hP hS rfl hl.1 rfl (Nat.le_of_ble_eq_true rfl) dX8_findPlace_19 ⟨Nat.zero_le _, Nat.zero_le _⟩ (fun H locs hP hS => ?_)
  refine lv_istore (lv' := [(5, .int r17), (4, .int 0), (3, .int (-1)), (2, .int (σ.2.1 26 x1.toNatClampNeg)), (0, .ref (A 52)), (1, .int x1)]) hx hb dX8_findPlace_22 hl (by decide) rfl (fun ls hl => ?_)
  refine lv_iconst (v := 0) hx hb dX8_findPlace_24 (by decide) ?_
  refine lv_istore (lv' := [(6, .int 0), (5, .int r17), (4, .int 0), (3, .int (-1)), (2, .int (σ.2.1 26 x1.toNatClampNeg)), (0, .ref (A 52)), (1, .int x1)]) hx hb dX8_findPlace_25 hl (by decide) rfl (fun ls hl => ?_)
  exact w_F_xX8_findPlace_27 hA cx FU _ _ _ _ _ _ _ _ _ _ hf (lv_sub hl [5, 6, 4, 3, 2, 1, 0] rfl) hP hS
set_option maxHeartbeats 4000000 in
set_option maxRecDepth 100000 in
theorem w_F_xX8_leaveBadSpots_35 {p : Program} {l : Launch} {e : Env} {s : State} {m : MethodId} {args : Array Value} {below : List Frame} {meth : Method} {c : Code} {D : va_G} {C : Nat → ClassId} {A adK adV : Nat → Nat} (hA : apA A 60) (cx : Cxx D C adK adV (fxA A 60) p s m args meth c cX8_leaveBadSpots 4 RX8 (some .int)) {res : (Int32 × St)} {b4 : Int32 → Int32 → St → Option (Int32 × St)} (hb4 : ∀ (x1 : Int32) (x2 : Int32) (σ : St) (H : Heap) (locs : List Loc) (ls : Array Slot), b4 x1 x2 σ = some res → lv_has ls 4 [(0, .ref (A 52)), (1, .int x1), (2, .int x2)] → va_P D vwCl (wX A C σ) H → va_S (fxA A 60) s.heap H locs → W p l e rm_X8_leaveBadSpots s m args below meth c H locs 0 0 (MQ below (Qcx D (wX A C) (fxA A 60) (some (.int res.1)) res.2) args s 0 0 (fxA A 60)) (F0 m 4 ls [])) : ∀ (x1 : Int32) (x2 : Int32) (y0 : Int32) (σ : St) (H : Heap) (locs : List Loc) (ls : Array Slot), F_xX8_leaveBadSpots_35 b4 x1 x2 y0 σ = some res → lv_has ls 4 [(0, .ref (A 52)), (1, .int x1), (2, .int x2)] → va_P D vwCl (wX A C σ) H → va_S (fxA A 60) s.heap H locs → W p l e rm_X8_leaveBadSpots s m args below meth c H locs 0 0 (MQ below (Qcx D (wX A C) (fxA A 60) (some (.int res.1)) res.2) args s 0 0 (fxA A 60)) (F0 m 35 ls [.int y0]) := by
  obtain ⟨hx, hb, hml, hown, hts, hK, hr, hlk, hZ⟩ := id cx
  intro x1 x2 y0 σ H locs ls hf hl hP hS
  refine lv_istore_n (lv' := [(3, .int y0), (0, .ref (A 52)), (1, .int x1), (2, .int x2)]) hx hb dX8_leaveBadSpots_35 rfl hl (by decide) rfl (fun ls hl => ?_)
  refine lv_iload_n hx hb dX8_leaveBadSpots_36 rfl (lv_at hl 0 rfl) ?_
  refine lv_iconst (v := (-1)) hx hb dX8_leaveBadSpots_37 (by decide) ?_
  refine lv_icmp_eq (tgt := 53) hx hb dX8_leaveBadSpots_38 (by decide) (fun c1 => ?_) (fun c1 => ?_)
  · have hf := (if_pos c1).symm.trans hf
    refine lv_iinc (v := (x2 + 1)) (lv' := [(2, .int (x2 + 1)), (3, .int y0), (0, .ref (A 52)), (1, .int x1)]) hx hb dX8_leaveBadSpots_53 hl (k := 3) rfl rfl (by decide) rfl (fun ls hl => ?_)
    refine lv_goto (tgt := 4) hx hb dX8_leaveBadSpots_56 (by decide) ?_
    exact hb4 _ _ _ _ _ _ hf (lv_sub hl [2, 3, 0] rfl) hP hS
  · have hf := (if_neg c1).symm.trans hf
    refine lv_aload_n hx hb dX8_leaveBadSpots_41 rfl (lv_at hl 1 rfl) ?_
    refine gX_52_1 hx hb hts hown hK hP (hts _ kw_140) dX8_leaveBadSpots_42 ?_
    refine lv_iload_n hx hb dX8_leaveBadSpots_45 rfl (lv_at hl 3 rfl) ?_
    refine lv_iload_n hx hb dX8_leaveBadSpots_46 rfl (lv_at hl 0 rfl) ?_
    obtain ⟨σ_r2, h_r2, hf⟩ := bv_some hf
    refine cx_V (As := [.int x2, .int y0]) (rest := []) cx (ct_xX3_move l D C A adK adV hA h_r2) (cw_X8_55 hts ⟨Nat.le_of_ble_eq_true rfl, Nat.le_of_ble_eq_true rfl⟩) (va_recv hK hP (ci := 3) (q0 := 25) rfl (wX_25 A C _)) hP hS rfl hl.1 rfl (Nat.le_of_ble_eq_true rfl) dX8_leaveBadSpots_47 ⟨Nat.zero_le _, Nat.zero_le _⟩ (fun H locs hP hS => ?_)
    refine lv_iinc (v := (x1 + 1)) (lv' := [(1, .int (x1 + 1)), (3, .int y0), (0, .ref (A 52)), (2, .int x2)]) hx hb dX8_leaveBadSpots_50 hl (k := 2) rfl rfl (by decide) rfl (fun ls hl => ?_)
    refine lv_iinc (v := (x2 + 1)) (lv' := [(2, .int (x2 + 1)), (1, .int (x1 + 1)), (3, .int y0), (0, .ref (A 52))]) hx hb dX8_leaveBadSpots_53 hl (k := 3) rfl rfl (by decide) rfl (fun ls hl => ?_)
    refine lv_goto (tgt := 4) hx hb dX8_leaveBadSpots_56 (by decide) ?_
    exact hb4 _ _ _ _ _ _ hf (lv_sub hl [3, 1, 0] rfl) hP hS
set_option maxHeartbeats 4000000 in
set_option maxRecDepth 100000 in
theorem w_F_xX8_leaveBadSpots_4 {p : Program} {l : Launch} {e : Env} {s : State} {m : MethodId} {args : Array Value} {below : List Frame} {meth : Method} {c : Code} {D : va_G} {C : Nat → ClassId} {A adK adV : Nat → Nat} (hA : apA A 60) (cx : Cxx D C adK adV (fxA A 60) p s m args meth c cX8_leaveBadSpots 4 RX8 (some .int)) {res : (Int32 × St)} : ∀ (n : Nat), ∀ (x1 : Int32) (x2 : Int32) (σ : St) (H : Heap) (locs : List Loc) (ls : Array Slot), F_xX8_leaveBadSpots_4 n x1 x2 σ = some res → lv_has ls 4 [(0, .ref (A 52)), (1, .int x1), (2, .int x2)] → va_P D vwCl (wX A C σ) H → va_S (fxA A 60) s.heap H locs → W p l e rm_X8_leaveBadSpots s m args below meth c H locs 0 0 (MQ below (Qcx D (wX A C) (fxA A 60) (some (.int res.1)) res.2) args s 0 0 (fxA A 60)) (F0 m 4 ls []) := by
  obtain ⟨hx, hb, hml, hown, hts, hK, hr, hlk, hZ⟩ := id cx
  intro n
  induction n with
  | zero =>
    intro x1 x2 σ H locs ls hf hl hP hS
    exact absurd (show (none : Option (Int32 × St)) = some res from hf) (by intro h; cases h)
  | succ n ih =>
    intro x1 x2 σ H locs ls hf hl hP hS
    refine lv_iload_n hx hb dX8_leaveBadSpots_4 rfl (lv_at hl 2 rfl) ?_
    refine lv_aload_n hx hb dX8_leaveBadSpots_5 rfl (lv_at hl 0 rfl) ?_
    refine gX_52_1 hx hb hts hown hK hP (hts _ kw_140) dX8_leaveBadSpots_6 ?_
    obtain ⟨⟨r3, σ_r3⟩, h_r3, hf⟩ := bd_some hf
    refine cx_V (As := []) (rest := [.int x2]) cx (ct_xX3_countNames l D C A adK adV hA h_r3) (cw_X8_63 hts ⟨Nat.le_of_ble_eq_true rfl, Nat.le_of_ble_eq_true rfl⟩) (va_recv hK hP (ci := 3) (q0 := 25) rfl (wX_25 A C _)) hP hS rfl hl.1 rfl (Nat.le_of_ble_eq_true rfl) dX8_leaveBadSpots_9 ⟨Nat.zero_le _, Nat.zero_le _⟩ (fun H locs hP hS => ?_)
    refine lv_icmp_ge (tgt := 59) hx hb dX8_leaveBadSpots_12 (by decide) (fun c4 => ?_) (fun c4 => ?_)
    · have hf := (if_pos c4).symm.trans hf
      refine lv_iload_n hx hb dX8_leaveBadSpots_59 rfl (lv_at hl 1 rfl) ?_
      exact cx_iret cx hP hS hf dX8_leaveBadSpots_60
    · have hf := (if_neg c4).symm.trans hf
      refine lv_aload_n hx hb dX8_leaveBadSpots_15 rfl (lv_at hl 0 rfl) ?_
      refine gX_52_1 hx hb hts hown hK hP (hts _ kw_140) dX8_leaveBadSpots_16 ?_
      refine lv_iload_n hx hb dX8_leaveBadSpots_19 rfl (lv_at hl 2 rfl) ?_
      obtain ⟨⟨r5, σ_r5⟩, h_r5, hf⟩ := bd_some hf
      refine cx_V (As := [.int x2]) (rest := []) cx (ct_xX3_liesOnBad l D C A adK adV hA h_r5) (cw_X8_66 hts ⟨Nat.le_of_ble_eq_true rfl, Nat.le_of_ble_eq_true rfl⟩) (va_recv hK hP (ci := 3) (q0 := 25) rfl (wX_25 A C _)) hP hS rfl hl.1 rfl (Nat.le_of_ble_eq_true rfl) dX8_leaveBadSpots_20 ⟨Nat.zero_le _, Nat.zero_le _⟩ (fun H locs hP hS => ?_)
      refine lv_if_eq (tgt := 34) hx hb dX8_leaveBadSpots_23 (by decide) (fun c6 => ?_) (fun c6 => ?_)
      · have hf := (if_pos c6).symm.trans hf
        refine lv_iconst (v := (-1)) hx hb dX8_leaveBadSpots_34 (by decide) ?_
        exact w_F_xX8_leaveBadSpots_35 hA cx ih _ _ _ _ _ _ _ hf (lv_sub hl [0, 1, 2] rfl) hP hS
      · have hf := (if_neg c6).symm.trans hf
        refine lv_aload_n hx hb dX8_leaveBadSpots_26 rfl (lv_at hl 0 rfl) ?_
        refine lv_iload_n hx hb dX8_leaveBadSpots_27 rfl (lv_at hl 2 rfl) ?_
        obtain ⟨⟨r7, σ_r7⟩, h_r7, hf⟩ := bd_some hf
        refine cx_V (As := [.int x2]) (rest := []) cx (ct_xX8_findPlace l D C A adK adV hA h_r7) (cw_X8_69 hts ⟨Nat.le_of_ble_eq_true rfl, Nat.le_of_ble_eq_true rfl⟩) (va_recv hK hP (ci := 8) (q0 := 52) rfl (wX_52 A C _)) hP hS rfl hl.1 rfl (Nat.le_of_ble_eq_true rfl) dX8_leaveBadSpots_28 ⟨Nat.zero_le _, Nat.zero_le _⟩ (fun H locs hP hS => ?_)
        refine lv_goto (tgt := 35) hx hb dX8_leaveBadSpots_31 (by decide) ?_
        exact w_F_xX8_leaveBadSpots_35 hA cx ih _ _ _ _ _ _ _ hf (lv_sub hl [0, 1, 2] rfl) hP hS
set_option maxHeartbeats 4000000 in
set_option maxRecDepth 100000 in
theorem ct_xX8_leaveBadSpots (l : Launch) (D : va_G) (C : Nat → ClassId) (A adK adV : Nat → Nat) (hA : apA A 60)  {σ : St} {res : (Int32 × St)} (hf : F_xX8_leaveBadSpots σ = some res) : Met l yX8_leaveBadSpots (Cond.code yX8_leaveBadSpots cX8_leaveBadSpots 4 (some .int) :: wsL_law) rm_X8_leaveBadSpots (Pcx D C (wX A C) adK adV (fxA A 60) [.ref (A 52)] σ) (Qcx D (wX A C) (fxA A 60) (some (.int res.1)) res.2) 0 0 (fxA A 60) := by
  refine Met.ofW (cc := cX8_leaveBadSpots) (maxL := 4) (ret := (some .int)) (by decide) rfl ?_
  intro p e s m args below meth c s₁ B hml hv
  obtain ⟨rfl, hP, hK, hZ⟩ := hv
  have cx : Cxx D C adK adV (fxA A 60) p s m _ meth c cX8_leaveBadSpots 4 RX8 (some .int) := ⟨B.exec, B.bytes, hml, findClass_of_methodNamed B.named, fun w h => atoms_spec (ws := Cond.code yX8_leaveBadSpots cX8_leaveBadSpots 4 (some .int) :: wsL_law) B.pre w (List.mem_cons_of_mem _ h), hK, B.returns, B.notSynchronized, hZ⟩
  obtain ⟨hx, hb, -, hown, hts, -, hr, hlk, -⟩ := id cx
  have hS : va_S (fxA A 60) s.heap s.heap [] := va_S.rf
  have hl := lv_entry ([.ref (A 52)]) (n := 4) (Nat.le_of_ble_eq_true rfl)
  rw [lg_entry_eq]
  generalize (lg_sl ([.ref (A 52)]) ++ List.replicate (4 - (lg_sl ([.ref (A 52)])).length) Slot.unset).toArray = ls at hl ⊢
  have hl : lv_has ls 4 [(0, .ref (A 52))] := hl
  show W p l e rm_X8_leaveBadSpots s m _ below meth c s.heap [] 0 0 _ _
  refine lv_iconst (v := 0) hx hb dX8_leaveBadSpots_0 (by decide) ?_
  refine lv_istore_n (lv' := [(1, .int 0), (0, .ref (A 52))]) hx hb dX8_leaveBadSpots_1 rfl hl (by decide) rfl (fun ls hl => ?_)
  refine lv_iconst (v := 0) hx hb dX8_leaveBadSpots_2 (by decide) ?_
  refine lv_istore_n (lv' := [(2, .int 0), (1, .int 0), (0, .ref (A 52))]) hx hb dX8_leaveBadSpots_3 rfl hl (by decide) rfl (fun ls hl => ?_)
  exact w_F_xX8_leaveBadSpots_4 hA cx FU _ _ _ _ _ _ hf (lv_sub hl [2, 1, 0] rfl) hP hS
