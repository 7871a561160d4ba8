set_option maxHeartbeats 4000000 in
set_option maxRecDepth 100000 in
theorem ct_xJ9_floorMod_7cf53 (l : Launch) (D : va_G) (C : Nat → ClassId) (A adK adV : Nat → Nat) (hA : apA A 60) {x0 : Int32} {x1 : Int32} {σ : St} {res : (Int32 × St)} (hf : F_xJ9_floorMod_7cf53 x0 x1 σ = some res) : Met l yJ9_floorMod_7cf53 (Cond.code yJ9_floorMod_7cf53 cJ9_floorMod_7cf53 3 (some .int) :: wsL_law) rm_J9_floorMod_7cf53 (Pcx D C (wX A C) adK adV (fxA A 60) [.int x0, .int x1] σ) (Qcx D (wX A C) (fxA A 60) (some (.int res.1)) res.2) 0 0 (fxA A 60) := by
  refine met_ofWF (cc := cJ9_floorMod_7cf53) (maxL := 3) (ret := (some .int)) (by decide +kernel) rfl ?_
  intro p e s m args below meth c s₁ B hml hv
  obtain ⟨rfl, hP, hK, hZ⟩ := hv
  have cx : Cxx D C adK adV (fxA A 60) p s m _ meth c cJ9_floorMod_7cf53 3 RJ9 (some .int) := ⟨B.exec, B.bytes, hml, findClass_of_methodNamed B.named, fun w h => atoms_spec (ws := Cond.code yJ9_floorMod_7cf53 cJ9_floorMod_7cf53 3 (some .int) :: wsL_law) B.pre w (List.mem_cons_of_mem _ h), hK, B.returns, B.notSynchronized, hZ⟩
  obtain ⟨hx, hb, -, hown, hts, -, hr, hlk, -⟩ := id cx
  have hS : va_S (fxA A 60) s.heap s.heap [] := va_S.rf
  have hl := lv_entry ([.int x0, .int x1]) (n := 3) (Nat.le_of_ble_eq_true rfl)
  rw [lg_entry_eq]
  generalize (lg_sl ([.int x0, .int x1]) ++ List.replicate (3 - (lg_sl ([.int x0, .int x1])).length) Slot.unset).toArray = ls at hl ⊢
  have hl : lv_has ls 3 [(0, .int x0), (1, .int x1)] := hl
  show W p l e rm_J9_floorMod_7cf53 s m _ below meth c s.heap [] 0 0 _ _
  refine lv_iload_n hx hb dJ9_floorMod_7cf53_0 rfl (lv_at hl 0 rfl) ?_
  refine lv_iload_n hx hb dJ9_floorMod_7cf53_1 rfl (lv_at hl 1 rfl) ?_
  obtain ⟨z1, hf⟩ := gn_some hf
  refine lv_irem hx hb dJ9_floorMod_7cf53_2 z1 ?_
  refine lv_istore_n (lv' := [(2, .int (x0 - x0 / x1 * x1)), (0, .int x0), (1, .int x1)]) hx hb dJ9_floorMod_7cf53_3 rfl hl (by decide) rfl (fun ls hl => ?_)
  refine lv_iload_n hx hb dJ9_floorMod_7cf53_4 rfl (lv_at hl 1 rfl) ?_
  refine lv_iload_n hx hb dJ9_floorMod_7cf53_5 rfl (lv_at hl 2 rfl) ?_
  refine lv_ixor hx hb dJ9_floorMod_7cf53_6 ?_
  refine lv_if_ge (tgt := 18) hx hb dJ9_floorMod_7cf53_7 (by decide) (fun c2 => ?_) (fun c2 => ?_)
  · have hf := (if_pos c2).symm.trans hf
    refine lv_iload_n hx hb dJ9_floorMod_7cf53_18 rfl (lv_at hl 0 rfl) ?_
    exact cx_iret cx hP hS hf dJ9_floorMod_7cf53_19
  · have hf := (if_neg c2).symm.trans hf
    refine lv_iload_n hx hb dJ9_floorMod_7cf53_10 rfl (lv_at hl 0 rfl) ?_
    refine lv_if_eq (tgt := 18) hx hb dJ9_floorMod_7cf53_11 (by decide) (fun c3 => ?_) (fun c3 => ?_)
    · have hf := (if_pos c3).symm.trans hf
      refine lv_iload_n hx hb dJ9_floorMod_7cf53_18 rfl (lv_at hl 0 rfl) ?_
      exact cx_iret cx hP hS hf dJ9_floorMod_7cf53_19
    · have hf := (if_neg c3).symm.trans hf
      refine lv_iload_n hx hb dJ9_floorMod_7cf53_14 rfl (lv_at hl 0 rfl) ?_
      refine lv_iload_n hx hb dJ9_floorMod_7cf53_15 rfl (lv_at hl 2 rfl) ?_
      refine lv_iadd hx hb dJ9_floorMod_7cf53_16 ?_
      exact cx_iret cx hP hS hf dJ9_floorMod_7cf53_17
set_option maxHeartbeats 4000000 in
set_option maxRecDepth 100000 in
theorem w_F_xX1_unlikePlaces_4 {p : Program} {l : Launch} {e : Env} {s : State} {m : MethodId} {args : Array Value} {below : List Frame} {meth : Method} {c : Code} {D : va_G} {C : Nat → ClassId} {A adK adV : Nat → Nat} (hA : apA A 60) (cx : Cxx D C adK adV (fxA A 60) p s m args meth c cX1_unlikePlaces 4 RX1 (some .int)) {res : (Int32 × St)} : ∀ (n : Nat), ∀ (x1 : Int32) (x2 : Int32) (x3 : Int32) (σ : St) (H : Heap) (locs : List Loc) (ls : Array Slot), F_xX1_unlikePlaces_4 n x1 x2 x3 σ = some res → lv_has ls 4 [(0, .ref (A 3)), (1, .int x1), (2, .int x2), (3, .int x3)] → va_P D vwCl (wX A C σ) H → va_S (fxA A 60) s.heap H locs → W p l e rm_X1_unlikePlaces s m args below meth c H locs 0 0 (MQ below (Qcx D (wX A C) (fxA A 60) (some (.int res.1)) res.2) args s 0 0 (fxA A 60)) (F0 m 4 ls []) := by
  obtain ⟨hx, hb, hml, hown, hts, hK, hr, hlk, hZ⟩ := id cx
  intro n
  induction n with
  | zero =>
    intro x1 x2 x3 σ H locs ls hf hl hP hS
    exact absurd (show (none : Option (Int32 × St)) = some res from hf) (by intro h; cases h)
  | succ n ih =>
    intro x1 x2 x3 σ H locs ls hf hl hP hS
    refine lv_iload_n hx hb dX1_unlikePlaces_4 rfl (lv_at hl 2 rfl) ?_
    refine lv_aload_n hx hb dX1_unlikePlaces_5 rfl (lv_at hl 0 rfl) ?_
    refine gX_3_0 hx hb hts hown hK hP (v := (σ.1 7)) rfl (hts _ kw_66) dX1_unlikePlaces_6 ?_
    refine lv_icmp_ge (tgt := 31) hx hb dX1_unlikePlaces_9 (by decide) (fun c1 => ?_) (fun c1 => ?_)
    · have hf := (if_pos c1).symm.trans hf
      refine lv_iload_n hx hb dX1_unlikePlaces_31 rfl (lv_at hl 2 rfl) ?_
      exact cx_iret cx hP hS hf dX1_unlikePlaces_32
    · have hf := (if_neg c1).symm.trans hf
      refine lv_iload_n hx hb dX1_unlikePlaces_12 rfl (lv_at hl 3 rfl) ?_
      refine lv_if_eq (tgt := 31) hx hb dX1_unlikePlaces_13 (by decide) (fun c2 => ?_) (fun c2 => ?_)
      · have hf := (if_pos c2).symm.trans hf
        refine lv_iload_n hx hb dX1_unlikePlaces_31 rfl (lv_at hl 2 rfl) ?_
        exact cx_iret cx hP hS hf dX1_unlikePlaces_32
      · have hf := (if_neg c2).symm.trans hf
        refine lv_iload_n hx hb dX1_unlikePlaces_16 rfl (lv_at hl 3 rfl) ?_
        refine lv_iload_n hx hb dX1_unlikePlaces_17 rfl (lv_at hl 1 rfl) ?_
        refine lv_iadd hx hb dX1_unlikePlaces_18 ?_
        refine lv_aload_n hx hb dX1_unlikePlaces_19 rfl (lv_at hl 0 rfl) ?_
        refine gX_3_0 hx hb hts hown hK hP (v := (σ.1 7)) rfl (hts _ kw_66) dX1_unlikePlaces_20 ?_
        obtain ⟨z3, hf⟩ := gn_some hf
        refine lv_irem hx hb dX1_unlikePlaces_23 z3 ?_
        refine lv_istore_n (lv' := [(3, .int ((x3 + x1) - (x3 + x1) / (σ.1 7) * (σ.1 7))), (0, .ref (A 3)), (1, .int x1), (2, .int x2)]) hx hb dX1_unlikePlaces_24 rfl hl (by decide) rfl (fun ls hl => ?_)
        refine lv_iinc (v := (x2 + 1)) (lv' := [(2, .int (x2 + 1)), (3, .int ((x3 + x1) - (x3 + x1) / (σ.1 7) * (σ.1 7))), (0, .ref (A 3)), (1, .int x1)]) hx hb dX1_unlikePlaces_25 hl (k := 3) rfl rfl (by decide) rfl (fun ls hl => ?_)
        refine lv_goto (tgt := 4) hx hb dX1_unlikePlaces_28 (by decide) ?_
        exact ih _ _ _ _ _ _ _ hf (lv_sub hl [2, 3, 0, 1] rfl) hP hS
set_option maxHeartbeats 4000000 in
set_option maxRecDepth 100000 in
theorem ct_xX1_unlikePlaces (l : Launch) (D : va_G) (C : Nat → ClassId) (A adK adV : Nat → Nat) (hA : apA A 60) {x1 : Int32} {σ : St} {res : (Int32 × St)} (hf : F_xX1_unlikePlaces x1 σ = some res) : Met l yX1_unlikePlaces (Cond.code yX1_unlikePlaces cX1_unlikePlaces 4 (some .int) :: wsL_law) rm_X1_unlikePlaces (Pcx D C (wX A C) adK adV (fxA A 60) [.ref (A 3), .int x1] σ) (Qcx D (wX A C) (fxA A 60) (some (.int res.1)) res.2) 0 0 (fxA A 60) := by
  refine Met.ofW (cc := cX1_unlikePlaces) (maxL := 4) (ret := (some .int)) (by decide) rfl ?_
  intro p e s m args below meth c s₁ B hml hv
  obtain ⟨rfl, hP, hK, hZ⟩ := hv
  have cx : Cxx D C adK adV (fxA A 60) p s m _ meth c cX1_unlikePlaces 4 RX1 (some .int) := ⟨B.exec, B.bytes, hml, findClass_of_methodNamed B.named, fun w h => atoms_spec (ws := Cond.code yX1_unlikePlaces cX1_unlikePlaces 4 (some .int) :: wsL_law) B.pre w (List.mem_cons_of_mem _ h), hK, B.returns, B.notSynchronized, hZ⟩
  obtain ⟨hx, hb, -, hown, hts, -, hr, hlk, -⟩ := id cx
  have hS : va_S (fxA A 60) s.heap s.heap [] := va_S.rf
  have hl := lv_entry ([.ref (A 3), .int x1]) (n := 4) (Nat.le_of_ble_eq_true rfl)
  rw [lg_entry_eq]
  generalize (lg_sl ([.ref (A 3), .int x1]) ++ List.replicate (4 - (lg_sl ([.ref (A 3), .int x1])).length) Slot.unset).toArray = ls at hl ⊢
  have hl : lv_has ls 4 [(0, .ref (A 3)), (1, .int x1)] := hl
  show W p l e rm_X1_unlikePlaces s m _ below meth c s.heap [] 0 0 _ _
  refine lv_iconst (v := 1) hx hb dX1_unlikePlaces_0 (by decide) ?_
  refine lv_istore_n (lv' := [(2, .int 1), (0, .ref (A 3)), (1, .int x1)]) hx hb dX1_unlikePlaces_1 rfl hl (by decide) rfl (fun ls hl => ?_)
  refine lv_iload_n hx hb dX1_unlikePlaces_2 rfl (lv_at hl 2 rfl) ?_
  refine lv_istore_n (lv' := [(3, .int x1), (2, .int 1), (0, .ref (A 3)), (1, .int x1)]) hx hb dX1_unlikePlaces_3 rfl hl (by decide) rfl (fun ls hl => ?_)
  exact w_F_xX1_unlikePlaces_4 hA cx FU _ _ _ _ _ _ _ hf (lv_sub hl [2, 3, 1, 0] rfl) hP hS
set_option maxHeartbeats 4000000 in
set_option maxRecDepth 100000 in
theorem w_F_xX1_tableStep_9 {p : Program} {l : Launch} {e : Env} {s : State} {m : MethodId} {args : Array Value} {below : List Frame} {meth : Method} {c : Code} {D : va_G} {C : Nat → ClassId} {A adK adV : Nat → Nat} (hA : apA A 60) (cx : Cxx D C adK adV (fxA A 60) p s m args meth c cX1_tableStep 7 RX1 (some .int)) {res : (Int32 × St)} : ∀ (n : Nat), ∀ (x1 : Int32) (x2 : Int32) (x3 : Int32) (x4 : Int32) (x5 : Int32) (σ : St) (H : Heap) (locs : List Loc) (ls : Array Slot), F_xX1_tableStep_9 n x1 x2 x3 x4 x5 σ = some res → lv_has ls 7 [(0, .ref (A 3)), (1, .int x1), (2, .int x2), (3, .int x3), (4, .int x4), (5, .int x5)] → va_P D vwCl (wX A C σ) H → va_S (fxA A 60) s.heap H locs → W p l e rm_X1_tableStep s m args below meth c H locs 0 0 (MQ below (Qcx D (wX A C) (fxA A 60) (some (.int res.1)) res.2) args s 0 0 (fxA A 60)) (F0 m 9 ls []) := by
  obtain ⟨hx, hb, hml, hown, hts, hK, hr, hlk, hZ⟩ := id cx
  intro n
  induction n with
  | zero =>
    intro x1 x2 x3 x4 x5 σ H locs ls hf hl hP hS
    exact absurd (show (none : Option (Int32 × St)) = some res from hf) (by intro h; cases h)
  | succ n ih =>
    intro x1 x2 x3 x4 x5 σ H locs ls hf hl hP hS
    refine lv_iload hx hb dX1_tableStep_9 (lv_at hl 5 rfl) ?_
    refine lv_aload_n hx hb dX1_tableStep_11 rfl (lv_at hl 0 rfl) ?_
    refine gX_3_0 hx hb hts hown hK hP (v := (σ.1 7)) rfl (hts _ kw_66) dX1_tableStep_12 ?_
    refine lv_icmp_ge (tgt := 61) hx hb dX1_tableStep_15 (by decide) (fun c1 => ?_) (fun c1 => ?_)
    · have hf := (if_pos c1).symm.trans hf
      refine lv_iload_n hx hb dX1_tableStep_61 rfl (lv_at hl 3 rfl) ?_
      exact cx_iret cx hP hS hf dX1_tableStep_62
    · have hf := (if_neg c1).symm.trans hf
      refine lv_iload hx hb dX1_tableStep_18 (lv_at hl 5 rfl) ?_
      refine lv_iload_n hx hb dX1_tableStep_20 rfl (lv_at hl 2 rfl) ?_
      refine lv_isub hx hb dX1_tableStep_21 ?_
      refine lv_aload_n hx hb dX1_tableStep_22 rfl (lv_at hl 0 rfl) ?_
      refine gX_3_0 hx hb hts hown hK hP (v := (σ.1 7)) rfl (hts _ kw_66) dX1_tableStep_23 ?_
      obtain ⟨⟨r2, σ_r2⟩, h_r2, hf⟩ := bd_some hf
      refine cx_S (As := [.int (x5 - x2), .int (σ.1 7)]) (rest := []) cx (ct_xJ9_floorMod_7cf53 l D C A adK adV hA h_r2) (cw_X1_42 hts ⟨Nat.le_of_ble_eq_true rfl, Nat.le_of_ble_eq_true rfl⟩) hP hS rfl hl.1 rfl (Nat.le_of_ble_eq_true rfl) dX1_tableStep_26 ⟨Nat.zero_le _, Nat.zero_le _⟩ (fun H locs hP hS => ?_)
      refine lv_istore (lv' := [(6, .int r2), (0, .ref (A 3)), (1, .int x1), (2, .int x2), (3, .int x3), (4, .int x4), (5, .int x5)]) hx hb dX1_tableStep_29 hl (by decide) rfl (fun ls hl => ?_)
      refine lv_iload hx hb dX1_tableStep_31 (lv_at hl 0 rfl) ?_
      refine lv_iload hx hb dX1_tableStep_33 (lv_at hl 5 rfl) ?_
      refine lv_icmp_ge (tgt := 55) hx hb dX1_tableStep_35 (by decide) (fun c3 => ?_) (fun c3 => ?_)
      · have hf := (if_pos c3).symm.trans hf
        refine lv_iinc (v := (x5 + 1)) (lv' := [(5, .int (x5 + 1)), (6, .int r2), (0, .ref (A 3)), (1, .int x1), (2, .int x2), (3, .int x3), (4, .int x4)]) hx hb dX1_tableStep_55 hl (k := 6) rfl rfl (by decide) rfl (fun ls hl => ?_)
        refine lv_goto (tgt := 9) hx hb dX1_tableStep_58 (by decide) ?_
        exact ih _ _ _ _ _ _ _ _ _ hf (lv_sub hl [2, 3, 4, 5, 6, 0] rfl) hP hS
      · have hf := (if_neg c3).symm.trans hf
        refine lv_aload_n hx hb dX1_tableStep_38 rfl (lv_at hl 1 rfl) ?_
        refine lv_iload hx hb dX1_tableStep_39 (lv_at hl 6 rfl) ?_
        obtain ⟨⟨r4, σ_r4⟩, h_r4, hf⟩ := bd_some hf
        refine cx_V (As := [.int x5]) (rest := []) cx (ct_xX1_unlikePlaces l D C A adK adV hA h_r4) (cw_X1_45 hts ⟨Nat.le_of_ble_eq_true rfl, Nat.le_of_ble_eq_true rfl⟩) (va_recv hK hP (ci := 1) (q0 := 3) rfl (wX_3 A C _)) hP hS rfl hl.1 rfl (Nat.le_of_ble_eq_true rfl) dX1_tableStep_41 ⟨Nat.zero_le _, Nat.zero_le _⟩ (fun H locs hP hS => ?_)
        refine lv_iload_n hx hb dX1_tableStep_44 rfl (lv_at hl 2 rfl) ?_
        refine lv_icmp_lt (tgt := 55) hx hb dX1_tableStep_45 (by decide) (fun c5 => ?_) (fun c5 => ?_)
        · have hf := (if_pos c5).symm.trans hf
          refine lv_iinc (v := (x5 + 1)) (lv' := [(5, .int (x5 + 1)), (6, .int r2), (0, .ref (A 3)), (1, .int x1), (2, .int x2), (3, .int x3), (4, .int x4)]) hx hb dX1_tableStep_55 hl (k := 6) rfl rfl (by decide) rfl (fun ls hl => ?_)
          refine lv_goto (tgt := 9) hx hb dX1_tableStep_58 (by decide) ?_
          exact ih _ _ _ _ _ _ _ _ _ hf (lv_sub hl [2, 3, 4, 5, 6, 0] rfl) hP hS
        · have hf := (if_neg c5).symm.trans hf
          refine lv_iload hx hb dX1_tableStep_48 (lv_at hl 6 rfl) ?_
          refine lv_istore_n (lv' := [(3, .int x5), (6, .int r2), (0, .ref (A 3)), (1, .int x1), (2, .int x2), (4, .int x4), (5, .int x5)]) hx hb dX1_tableStep_50 rfl hl (by decide) rfl (fun ls hl => ?_)
          refine lv_iload hx hb dX1_tableStep_51 (lv_at hl 1 rfl) ?_
          refine lv_istore (lv' := [(4, .int r2), (3, .int x5), (6, .int r2), (0, .ref (A 3)), (1, .int x1), (2, .int x2), (5, .int x5)]) hx hb dX1_tableStep_53 hl (by decide) rfl (fun ls hl => ?_)
          refine lv_iinc (v := (x5 + 1)) (lv' := [(5, .int (x5 + 1)), (4, .int r2), (3, .int x5), (6, .int r2), (0, .ref (A 3)), (1, .int x1), (2, .int x2)]) hx hb dX1_tableStep_55 hl (k := 6) rfl rfl (by decide) rfl (fun ls hl => ?_)
          refine lv_goto (tgt := 9) hx hb dX1_tableStep_58 (by decide) ?_
          exact ih _ _ _ _ _ _ _ _ _ hf (lv_sub hl [4, 5, 6, 2, 1, 0] rfl) hP hS
set_option maxHeartbeats 4000000 in
set_option maxRecDepth 100000 in
theorem ct_xX1_tableStep (l : Launch) (D : va_G) (C : Nat → ClassId) (A adK adV : Nat → Nat) (hA : apA A 60) {x1 : Int32} {x2 : Int32} {σ : St} {res : (Int32 × St)} (hf : F_xX1_tableStep x1 x2 σ = some res) : Met l yX1_tableStep (Cond.code yX1_tableStep cX1_tableStep 7 (some .int) :: wsL_law) rm_X1_tableStep (Pcx D C (wX A C) adK adV (fxA A 60) [.ref (A 3), .int x1, .int x2] σ) (Qcx D (wX A C) (fxA A 60) (some (.int res.1)) res.2) 0 0 (fxA A 60) := by
  refine Met.ofW (cc := cX1_tableStep) (maxL := 7) (ret := (some .int)) (by decide) rfl ?_
  intro p e s m args below meth c s₁ B hml hv
  obtain ⟨rfl, hP, hK, hZ⟩ := hv
  have cx : Cxx D C adK adV (fxA A 60) p s m _ meth c cX1_tableStep 7 RX1 (some .int) := ⟨B.exec, B.bytes, hml, findClass_of_methodNamed B.named, fun w h => atoms_spec (ws := Cond.code yX1_tableStep cX1_tableStep 7 (some .int) :: wsL_law) B.pre w (List.mem_cons_of_mem _ h), hK, B.returns, B.notSynchronized, hZ⟩
  obtain ⟨hx, hb, -, hown, hts, -, hr, hlk, -⟩ := id cx
  have hS : va_S (fxA A 60) s.heap s.heap [] := va_S.rf
  have hl := lv_entry ([.ref (A 3), .int x1, .int x2]) (n := 7) (Nat.le_of_ble_eq_true rfl)
  rw [lg_entry_eq]
  generalize (lg_sl ([.ref (A 3), .int x1, .int x2]) ++ List.replicate (7 - (lg_sl ([.ref (A 3), .int x1, .int x2])).length) Slot.unset).toArray = ls at hl ⊢
  have hl : lv_has ls 7 [(0, .ref (A 3)), (1, .int x1), (2, .int x2)] := hl
  show W p l e rm_X1_tableStep s m _ below meth c s.heap [] 0 0 _ _
  refine lv_iconst (v := (-1)) hx hb dX1_tableStep_0 (by decide) ?_
  refine lv_istore_n (lv' := [(3, .int (-1)), (0, .ref (A 3)), (1, .int x1), (2, .int x2)]) hx hb dX1_tableStep_1 rfl hl (by decide) rfl (fun ls hl => ?_)
  refine lv_bipush (v := 32) hx hb dX1_tableStep_2 (by decide) ?_
  refine lv_istore (lv' := [(4, .int 32), (3, .int (-1)), (0, .ref (A 3)), (1, .int x1), (2, .int x2)]) hx hb dX1_tableStep_4 hl (by decide) rfl (fun ls hl => ?_)
  refine lv_iconst (v := 1) hx hb dX1_tableStep_6 (by decide) ?_
  refine lv_istore (lv' := [(5, .int 1), (4, .int 32), (3, .int (-1)), (0, .ref (A 3)), (1, .int x1), (2, .int x2)]) hx hb dX1_tableStep_7 hl (by decide) rfl (fun ls hl => ?_)
  exact w_F_xX1_tableStep_9 hA cx FU _ _ _ _ _ _ _ _ _ hf (lv_sub hl [3, 4, 5, 2, 1, 0] rfl) hP hS
set_option maxHeartbeats 4000000 in
set_option maxRecDepth 100000 in
theorem w_F_xX4_append_85 {p : Program} {l : Launch} {e : Env} {s : State} {m : MethodId} {args : Array Value} {below : List Frame} {meth : Method} {c : Code} {D : va_G} {C : Nat → ClassId} {A adK adV : Nat → Nat} (hA : apA A 60) (cx : Cxx D C adK adV (fxA A 60) p s m args meth c cX4_append 4 RX4 (some .int)) {res : (Int32 × St)} : ∀ (x3 : Int32) (σ : St) (H : Heap) (locs : List Loc) (ls : Array Slot), F_xX4_append_85 x3 σ = some res → lv_has ls 4 [(0, .ref (A 56)), (3, .int x3)] → va_P D vwCl (wX A C σ) H → va_S (fxA A 60) s.heap H locs → W p l e rm_X4_append s m args below meth c H locs 0 0 (MQ below (Qcx D (wX A C) (fxA A 60) (some (.int res.1)) res.2) args s 0 0 (fxA A 60)) (F0 m 85 ls []) := by
  obtain ⟨hx, hb, hml, hown, hts, hK, hr, hlk, hZ⟩ := id cx
  intro x3 σ H locs ls hf hl hP hS
  refine lv_aload_n hx hb dX4_append_85 rfl (lv_at hl 0 rfl) ?_
  refine gX_56_3 hx hb hts hown hK hP (hts _ kw_147) dX4_append_86 ?_
  refine lv_iload_n hx hb dX4_append_89 rfl (lv_at hl 1 rfl) ?_
  refine lv_aload_n hx hb dX4_append_90 rfl (lv_at hl 0 rfl) ?_
  refine gX_56_0 hx hb hts hown hK hP (v := (σ.1 32)) rfl (hts _ kw_1084) dX4_append_91 ?_
  obtain ⟨z1, hf⟩ := gd_some hf
  refine pX_a59 hx hb hK hP hA hS (ib_in z1) dX4_append_94 (fun H locs hP hS => ?_)
  refine lv_aload_n hx hb dX4_append_95 rfl (lv_at hl 0 rfl) ?_
  refine lv_dup hx hb dX4_append_96 rfl ?_
  refine gX_56_0 hx hb hts hown hK hP (v := (σ.1 32)) rfl (hts _ kw_1084) dX4_append_97 ?_
  refine lv_iconst (v := 1) hx hb dX4_append_100 (by decide) ?_
  refine lv_iadd hx hb dX4_append_101 ?_
  refine pX_56_0 hx hb hts hown hK hP hA hS (hts _ kw_1084) dX4_append_102 (fun H locs hP hS => ?_)
  refine lv_aload_n hx hb dX4_append_105 rfl (lv_at hl 0 rfl) ?_
  refine gX_56_0 hx hb hts hown hK hP (v := ((σ.1 32) + 1)) rfl (hts _ kw_1084) dX4_append_106 ?_
  refine lv_iconst (v := 1) hx hb dX4_append_109 (by decide) ?_
  refine lv_isub hx hb dX4_append_110 ?_
  have hP : va_P D vwCl (wX A C (sA (sI σ 32 ((σ.1 32) + 1)) 59 (upd (σ.2.1 59) x3.toNatClampNeg (σ.1 32)))) H := hP
  exact cx_iret cx hP hS hf dX4_append_111
set_option maxHeartbeats 4000000 in
set_option maxRecDepth 100000 in
theorem w_F_xX4_append_44 {p : Program} {l : Launch} {e : Env} {s : State} {m : MethodId} {args : Array Value} {below : List Frame} {meth : Method} {c : Code} {D : va_G} {C : Nat → ClassId} {A adK adV : Nat → Nat} (hA : apA A 60) (cx : Cxx D C adK adV (fxA A 60) p s m args meth c cX4_append 4 RX4 (some .int)) {res : (Int32 × St)} : ∀ (n : Nat), ∀ (x2 : Int32) (x3 : Int32) (σ : St) (H : Heap) (locs : List Loc) (ls : Array Slot), F_xX4_append_44 n x2 x3 σ = some res → lv_has ls 4 [(0, .ref (A 56)), (2, .int x2), (3, .int x3)] → va_P D vwCl (wX A C σ) H → va_S (fxA A 60) s.heap H locs → W p l e rm_X4_append s m args below meth c H locs 0 0 (MQ below (Qcx D (wX A C) (fxA A 60) (some (.int res.1)) res.2) args s 0 0 (fxA A 60)) (F0 m 44 ls []) := by
  obtain ⟨hx, hb, hml, hown, hts, hK, hr, hlk, hZ⟩ := id cx
  intro n
  induction n with
  | zero =>
    intro x2 x3 σ H locs ls hf hl hP hS
    exact absurd (show (none : Option (Int32 × St)) = some res from hf) (by intro h; cases h)
  | succ n ih =>
    intro x2 x3 σ H locs ls hf hl hP hS
    refine lv_iload_n hx hb dX4_append_44 rfl (lv_at hl 2 rfl) ?_
    refine lv_if_le (tgt := 85) hx hb dX4_append_45 (by decide) (fun c2 => ?_) (fun c2 => ?_)
    · have hf := (if_pos c2).symm.trans hf
      exact w_F_xX4_append_85 hA cx _ _ _ _ _ hf (lv_sub hl [0, 2] rfl) hP hS
    · have hf := (if_neg c2).symm.trans hf
      refine lv_aload_n hx hb dX4_append_48 rfl (lv_at hl 0 rfl) ?_
      refine gX_56_2 hx hb hts hown hK hP (hts _ kw_146) dX4_append_49 ?_
      refine lv_aload_n hx hb dX4_append_52 rfl (lv_at hl 0 rfl) ?_
      refine gX_56_3 hx hb hts hown hK hP (hts _ kw_147) dX4_append_53 ?_
      refine lv_iload_n hx hb dX4_append_56 rfl (lv_at hl 2 rfl) ?_
      refine lv_iconst (v := 1) hx hb dX4_append_57 (by decide) ?_
      refine lv_isub hx hb dX4_append_58 ?_
      obtain ⟨z3, hf⟩ := gd_some hf
      refine gX_a59 hx hb hK hP (ib_in z3) (v := (σ.2.1 59 (x3 - 1).toNatClampNeg)) rfl dX4_append_59 ?_
      obtain ⟨z4, hf⟩ := gd_some hf
      refine gX_a58 hx hb hK hP (ib_in z4) (v := (σ.2.1 58 (σ.2.1 59 (x3 - 1).toNatClampNeg).toNatClampNeg)) rfl dX4_append_60 ?_
      refine lv_iload_n hx hb dX4_append_61 rfl (lv_at hl 1 rfl) ?_
      refine lv_icmp_le (tgt := 85) hx hb dX4_append_62 (by decide) (fun c5 => ?_) (fun c5 => ?_)
      · have hf := (if_pos c5).symm.trans hf
        exact w_F_xX4_append_85 hA cx _ _ _ _ _ hf (lv_sub hl [0, 2] rfl) hP hS
      · have hf := (if_neg c5).symm.trans hf
        refine lv_aload_n hx hb dX4_append_65 rfl (lv_at hl 0 rfl) ?_
        refine gX_56_3 hx hb hts hown hK hP (hts _ kw_147) dX4_append_66 ?_
        refine lv_iload_n hx hb dX4_append_69 rfl (lv_at hl 2 rfl) ?_
        refine lv_aload_n hx hb dX4_append_70 rfl (lv_at hl 0 rfl) ?_
        refine gX_56_3 hx hb hts hown hK hP (hts _ kw_147) dX4_append_71 ?_
        refine lv_iload_n hx hb dX4_append_74 rfl (lv_at hl 2 rfl) ?_
        refine lv_iconst (v := 1) hx hb dX4_append_75 (by decide) ?_
        refine lv_isub hx hb dX4_append_76 ?_
        refine gX_a59 hx hb hK hP (ib_in z3) (v := (σ.2.1 59 (x3 - 1).toNatClampNeg)) rfl dX4_append_77 ?_
        obtain ⟨z6, hf⟩ := gd_some hf
        refine pX_a59 hx hb hK hP hA hS (ib_in z6) dX4_append_78 (fun H locs hP hS => ?_)
        refine lv_iinc (v := (x3 + (-1))) (lv' := [(3, .int (x3 + (-1))), (0, .ref (A 56)), (2, .int x2)]) hx hb dX4_append_79 hl (k := 2) rfl rfl (by decide) rfl (fun ls hl => ?_)
        refine lv_goto (tgt := 44) hx hb dX4_append_82 (by decide) ?_
        have hP : va_P D vwCl (wX A C (sA σ 59 (upd (σ.2.1 59) x3.toNatClampNeg (σ.2.1 59 (x3 - 1).toNatClampNeg)))) H := hP
        exact ih _ _ _ _ _ _ hf (lv_sub hl [1, 2, 0] rfl) hP hS
set_option maxHeartbeats 4000000 in
set_option maxRecDepth 100000 in
theorem ct_xX4_append (l : Launch) (D : va_G) (C : Nat → ClassId) (A adK adV : Nat → Nat) (hA : apA A 60) {x1 : Int32} {x2 : Int32} {σ : St} {res : (Int32 × St)} (hf : F_xX4_append x1 x2 σ = some res) : Met l yX4_append (Cond.code yX4_append cX4_append 4 (some .int) :: wsL_law) rm_X4_append (Pcx D C (wX A C) adK adV (fxA A 60) [.ref (A 56), .int x1, .int x2] σ) (Qcx D (wX A C) (fxA A 60) (some (.int res.1)) res.2) 0 0 (fxA A 60) := by
  refine Met.ofW (cc := cX4_append) (maxL := 4) (ret := (some .int)) (by decide) rfl ?_
  intro p e s m args below meth c s₁ B hml hv
  obtain ⟨rfl, hP, hK, hZ⟩ := hv
  have cx : Cxx D C adK adV (fxA A 60) p s m _ meth c cX4_append 4 RX4 (some .int) := ⟨B.exec, B.bytes, hml, findClass_of_methodNamed B.named, fun w h => atoms_spec (ws := Cond.code yX4_append cX4_append 4 (some .int) :: wsL_law) B.pre w (List.mem_cons_of_mem _ h), hK, B.returns, B.notSynchronized, hZ⟩
  obtain ⟨hx, hb, -, hown, hts, -, hr, hlk, -⟩ := id cx
  have hS : va_S (fxA A 60) s.heap s.heap [] := va_S.rf
  have hl := lv_entry ([.ref (A 56), .int x1, .int x2]) (n := 4) (Nat.le_of_ble_eq_true rfl)
  rw [lg_entry_eq]
  generalize (lg_sl ([.ref (A 56), .int x1, .int x2]) ++ List.replicate (4 - (lg_sl ([.ref (A 56), .int x1, .int x2])).length) Slot.unset).toArray = ls at hl ⊢
  have hl : lv_has ls 4 [(0, .ref (A 56)), (1, .int x1), (2, .int x2)] := hl
  show W p l e rm_X4_append s m _ below meth c s.heap [] 0 0 _ _
  refine lv_aload_n hx hb dX4_append_0 rfl (lv_at hl 0 rfl) ?_
  refine gX_56_0 hx hb hts hown hK hP (v := (σ.1 32)) rfl (hts _ kw_1084) dX4_append_1 ?_
  refine lv_if_lt (tgt := 16) hx hb dX4_append_4 (by decide) (fun c7 => ?_) (fun c7 => ?_)
  · have hf := (if_pos c7).symm.trans hf
    refine lv_bipush (v := (-3)) hx hb dX4_append_16 (by decide) ?_
    exact cx_iret cx hP hS hf dX4_append_18
  · have hf := (if_neg c7).symm.trans hf
    refine lv_aload_n hx hb dX4_append_7 rfl (lv_at hl 0 rfl) ?_
    refine gX_56_0 hx hb hts hown hK hP (v := (σ.1 32)) rfl (hts _ kw_1084) dX4_append_8 ?_
    refine lv_bipush (v := 8) hx hb dX4_append_11 (by decide) ?_
    refine lv_icmp_lt (tgt := 19) hx hb dX4_append_13 (by decide) (fun c8 => ?_) (fun c8 => ?_)
    · have hf := (if_pos c8).symm.trans hf
      refine lv_aload_n hx hb dX4_append_19 rfl (lv_at hl 0 rfl) ?_
      refine gX_56_1 hx hb hts hown hK hP (hts _ kw_145) dX4_append_20 ?_
      refine lv_aload_n hx hb dX4_append_23 rfl (lv_at hl 0 rfl) ?_
      refine gX_56_0 hx hb hts hown hK hP (v := (σ.1 32)) rfl (hts _ kw_1084) dX4_append_24 ?_
      refine lv_iload_n hx hb dX4_append_27 rfl (lv_at hl 1 rfl) ?_
      obtain ⟨z9, hf⟩ := gd_some hf
      refine pX_a57 hx hb hK hP hA hS (ib_in z9) dX4_append_28 (fun H locs hP hS => ?_)
      refine lv_aload_n hx hb dX4_append_29 rfl (lv_at hl 0 rfl) ?_
      refine gX_56_2 hx hb hts hown hK hP (hts _ kw_146) dX4_append_30 ?_
      refine lv_aload_n hx hb dX4_append_33 rfl (lv_at hl 0 rfl) ?_
      refine gX_56_0 hx hb hts hown hK hP (v := (σ.1 32)) rfl (hts _ kw_1084) dX4_append_34 ?_
      refine lv_iload_n hx hb dX4_append_37 rfl (lv_at hl 2 rfl) ?_
      refine pX_a58 hx hb hK hP hA hS (ib_in z9) dX4_append_38 (fun H locs hP hS => ?_)
      refine lv_aload_n hx hb dX4_append_39 rfl (lv_at hl 0 rfl) ?_
      refine gX_56_0 hx hb hts hown hK hP (v := (σ.1 32)) rfl (hts _ kw_1084) dX4_append_40 ?_
      refine lv_istore_n (lv' := [(3, .int (σ.1 32)), (0, .ref (A 56)), (1, .int x1), (2, .int x2)]) hx hb dX4_append_43 rfl hl (by decide) rfl (fun ls hl => ?_)
      have hP : va_P D vwCl (wX A C (sA (sA σ 57 (upd (σ.2.1 57) (σ.1 32).toNatClampNeg x1)) 58 (upd (σ.2.1 58) (σ.1 32).toNatClampNeg x2))) H := hP
      exact w_F_xX4_append_44 hA cx FU _ _ _ _ _ _ hf (lv_sub hl [1, 3, 0] rfl) hP hS
    · have hf := (if_neg c8).symm.trans hf
      refine lv_bipush (v := (-3)) hx hb dX4_append_16 (by decide) ?_
      exact cx_iret cx hP hS hf dX4_append_18
set_option maxHeartbeats 4000000 in
set_option maxRecDepth 100000 in
theorem ct_xJ6_bitCount_0f7a4 (l : Launch) (D : va_G) (C : Nat → ClassId) (A adK adV : Nat → Nat) (hA : apA A 60) {x0 : Int32} {σ : St} {res : (Int32 × St)} (hf : F_xJ6_bitCount_0f7a4 x0 σ = some res) : Met l yJ6_bitCount_0f7a4 (Cond.code yJ6_bitCount_0f7a4 cJ6_bitCount_0f7a4 1 (some .int) :: wsL_law) rm_J6_bitCount_0f7a4 (Pcx D C (wX A C) adK adV (fxA A 60) [.int x0] σ) (Qcx D (wX A C) (fxA A 60) (some (.int res.1)) res.2) 0 0 (fxA A 60) := by
  refine Met.ofW (cc := cJ6_bitCount_0f7a4) (maxL := 1) (ret := (some .int)) (by decide) rfl ?_
  intro p e s m args below meth c s₁ B hml hv
  obtain ⟨rfl, hP, hK, hZ⟩ := hv
  have cx : Cxx D C adK adV (fxA A 60) p s m _ meth c cJ6_bitCount_0f7a4 1 RJ6 (some .int) := ⟨B.exec, B.bytes, hml, findClass_of_methodNamed B.named, fun w h => atoms_spec (ws := Cond.code yJ6_bitCount_0f7a4 cJ6_bitCount_0f7a4 1 (some .int) :: wsL_law) B.pre w (List.mem_cons_of_mem _ h), hK, B.returns, B.notSynchronized, hZ⟩
  obtain ⟨hx, hb, -, hown, hts, -, hr, hlk, -⟩ := id cx
  have hS : va_S (fxA A 60) s.heap s.heap [] := va_S.rf
  have hl := lv_entry ([.int x0]) (n := 1) (Nat.le_of_ble_eq_true rfl)
  rw [lg_entry_eq]
  generalize (lg_sl ([.int x0]) ++ List.replicate (1 - (lg_sl ([.int x0])).length) Slot.unset).toArray = ls at hl ⊢
  have hl : lv_has ls 1 [(0, .int x0)] := hl
  show W p l e rm_J6_bitCount_0f7a4 s m _ below meth c s.heap [] 0 0 _ _
  refine lv_iload_n hx hb dJ6_bitCount_0f7a4_0 rfl (lv_at hl 0 rfl) ?_
  refine lv_iload_n hx hb dJ6_bitCount_0f7a4_1 rfl (lv_at hl 0 rfl) ?_
  refine lv_iconst (v := 1) hx hb dJ6_bitCount_0f7a4_2 (by decide) ?_
  refine lv_iushr hx hb dJ6_bitCount_0f7a4_3 rfl ?_
  refine lv_ldcw (v := 1431655765) hx hb hown (hts _ kw_663) dJ6_bitCount_0f7a4_4 ?_
  refine lv_iand hx hb dJ6_bitCount_0f7a4_7 ?_
  refine lv_isub hx hb dJ6_bitCount_0f7a4_8 ?_
  refine lv_topi (fun v1 e_v1 => ?_)
  have hf := nm_use e_v1 hf
  refine lv_istore_n (lv' := [(0, .int v1)]) hx hb dJ6_bitCount_0f7a4_9 rfl hl (by decide) rfl (fun ls hl => ?_)
  refine lv_iload_n hx hb dJ6_bitCount_0f7a4_10 rfl (lv_at hl 0 rfl) ?_
  refine lv_ldcw (v := 858993459) hx hb hown (hts _ kw_664) dJ6_bitCount_0f7a4_11 ?_
  refine lv_iand hx hb dJ6_bitCount_0f7a4_14 ?_
  refine lv_iload_n hx hb dJ6_bitCount_0f7a4_15 rfl (lv_at hl 0 rfl) ?_
  refine lv_iconst (v := 2) hx hb dJ6_bitCount_0f7a4_16 (by decide) ?_
  refine lv_iushr hx hb dJ6_bitCount_0f7a4_17 rfl ?_
  refine lv_ldcw (v := 858993459) hx hb hown (hts _ kw_664) dJ6_bitCount_0f7a4_18 ?_
  refine lv_iand hx hb dJ6_bitCount_0f7a4_21 ?_
  refine lv_iadd hx hb dJ6_bitCount_0f7a4_22 ?_
  refine lv_topi (fun v2 e_v2 => ?_)
  have hf := nm_use e_v2 hf
  refine lv_istore_n (lv' := [(0, .int v2)]) hx hb dJ6_bitCount_0f7a4_23 rfl hl (by decide) rfl (fun ls hl => ?_)
  refine lv_iload_n hx hb dJ6_bitCount_0f7a4_24 rfl (lv_at hl 0 rfl) ?_
  refine lv_iload_n hx hb dJ6_bitCount_0f7a4_25 rfl (lv_at hl 0 rfl) ?_
  refine lv_iconst (v := 4) hx hb dJ6_bitCount_0f7a4_26 (by decide) ?_
  refine lv_iushr hx hb dJ6_bitCount_0f7a4_27 rfl ?_
  refine lv_iadd hx hb dJ6_bitCount_0f7a4_28 ?_
  refine lv_ldcw (v := 252645135) hx hb hown (hts _ kw_665) dJ6_bitCount_0f7a4_29 ?_
  refine lv_iand hx hb dJ6_bitCount_0f7a4_32 ?_
  refine lv_topi (fun v3 e_v3 => ?_)
  have hf := nm_use e_v3 hf
  refine lv_istore_n (lv' := [(0, .int v3)]) hx hb dJ6_bitCount_0f7a4_33 rfl hl (by decide) rfl (fun ls hl => ?_)
  refine lv_iload_n hx hb dJ6_bitCount_0f7a4_34 rfl (lv_at hl 0 rfl) ?_
  refine lv_iload_n hx hb dJ6_bitCount_0f7a4_35 rfl (lv_at hl 0 rfl) ?_
  refine lv_bipush (v := 8) hx hb dJ6_bitCount_0f7a4_36 (by decide) ?_
  refine lv_iushr hx hb dJ6_bitCount_0f7a4_38 rfl ?_
  refine lv_iadd hx hb dJ6_bitCount_0f7a4_39 ?_
  refine lv_topi (fun v4 e_v4 => ?_)
  have hf := nm_use e_v4 hf
  refine lv_istore_n (lv' := [(0, .int v4)]) hx hb dJ6_bitCount_0f7a4_40 rfl hl (by decide) rfl (fun ls hl => ?_)
  refine lv_iload_n hx hb dJ6_bitCount_0f7a4_41 rfl (lv_at hl 0 rfl) ?_
  refine lv_iload_n hx hb dJ6_bitCount_0f7a4_42 rfl (lv_at hl 0 rfl) ?_
  refine lv_bipush (v := 16) hx hb dJ6_bitCount_0f7a4_43 (by decide) ?_
  refine lv_iushr hx hb dJ6_bitCount_0f7a4_45 rfl ?_
  refine lv_iadd hx hb dJ6_bitCount_0f7a4_46 ?_
  refine lv_topi (fun v5 e_v5 => ?_)
  have hf := nm_use e_v5 hf
  refine lv_istore_n (lv' := [(0, .int v5)]) hx hb dJ6_bitCount_0f7a4_47 rfl hl (by decide) rfl (fun ls hl => ?_)
  refine lv_iload_n hx hb dJ6_bitCount_0f7a4_48 rfl (lv_at hl 0 rfl) ?_
  refine lv_bipush (v := 63) hx hb dJ6_bitCount_0f7a4_49 (by decide) ?_
  refine lv_iand hx hb dJ6_bitCount_0f7a4_51 ?_
  exact cx_iret cx hP hS hf dJ6_bitCount_0f7a4_52
set_option maxHeartbeats 4000000 in
set_option maxRecDepth 100000 in
theorem w_F_xX4_timeIfDone_4 {p : Program} {l : Launch} {e : Env} {s : State} {m : MethodId} {args : Array Value} {below : List Frame} {meth : Method} {c : Code} {D : va_G} {C : Nat → ClassId} {A adK adV : Nat → Nat} (hA : apA A 60) (cx : Cxx D C adK adV (fxA A 60) p s m args meth c cX4_timeIfDone 5 RX4 (some .int)) {res : (Int32 × St)} : ∀ (n : Nat), ∀ (x1 : Int32) (x2 : Int32) (x3 : Int32) (σ : St) (H : Heap) (locs : List Loc) (ls : Array Slot), F_xX4_timeIfDone_4 n x1 x2 x3 σ = some res → lv_has ls 5 [(0, .ref (A 56)), (1, .int x1), (2, .int x2), (3, .int x3)] → va_P D vwCl (wX A C σ) H → va_S (fxA A 60) s.heap H locs → W p l e rm_X4_timeIfDone s m args below meth c H locs 0 0 (MQ below (Qcx D (wX A C) (fxA A 60) (some (.int res.1)) res.2) args s 0 0 (fxA A 60)) (F0 m 4 ls []) := by
  obtain ⟨hx, hb, hml, hown, hts, hK, hr, hlk, hZ⟩ := id cx
  intro n
  induction n with
  | zero =>
    intro x1 x2 x3 σ H locs ls hf hl hP hS
    exact absurd (show (none : Option (Int32 × St)) = some res from hf) (by intro h; cases h)
  | succ n ih =>
    intro x1 x2 x3 σ H locs ls hf hl hP hS
    refine lv_iload_n hx hb dX4_timeIfDone_4 rfl (lv_at hl 3 rfl) ?_
    refine lv_aload_n hx hb dX4_timeIfDone_5 rfl (lv_at hl 0 rfl) ?_
    refine gX_56_0 hx hb hts hown hK hP (v := (σ.1 32)) rfl (hts _ kw_1084) dX4_timeIfDone_6 ?_
    refine lv_icmp_ge (tgt := 67) hx hb dX4_timeIfDone_9 (by decide) (fun c1 => ?_) (fun c1 => ?_)
    · have hf := (if_pos c1).symm.trans hf
      refine lv_iload_n hx hb dX4_timeIfDone_67 rfl (lv_at hl 2 rfl) ?_
      exact cx_iret cx hP hS hf dX4_timeIfDone_68
    · have hf := (if_neg c1).symm.trans hf
      refine lv_iload_n hx hb dX4_timeIfDone_12 rfl (lv_at hl 3 rfl) ?_
      refine lv_bipush (v := 8) hx hb dX4_timeIfDone_13 (by decide) ?_
      refine lv_icmp_ge (tgt := 67) hx hb dX4_timeIfDone_15 (by decide) (fun c2 => ?_) (fun c2 => ?_)
      · have hf := (if_pos c2).symm.trans hf
        refine lv_iload_n hx hb dX4_timeIfDone_67 rfl (lv_at hl 2 rfl) ?_
        exact cx_iret cx hP hS hf dX4_timeIfDone_68
      · have hf := (if_neg c2).symm.trans hf
        refine lv_aload_n hx hb dX4_timeIfDone_18 rfl (lv_at hl 0 rfl) ?_
        refine gX_56_3 hx hb hts hown hK hP (hts _ kw_147) dX4_timeIfDone_19 ?_
        refine lv_iload_n hx hb dX4_timeIfDone_22 rfl (lv_at hl 3 rfl) ?_
        obtain ⟨z3, hf⟩ := gd_some hf
        refine gX_a59 hx hb hK hP (ib_in z3) (v := (σ.2.1 59 x3.toNatClampNeg)) rfl dX4_timeIfDone_23 ?_
        refine lv_istore (lv' := [(4, .int (σ.2.1 59 x3.toNatClampNeg)), (0, .ref (A 56)), (1, .int x1), (2, .int x2), (3, .int x3)]) hx hb dX4_timeIfDone_24 hl (by decide) rfl (fun ls hl => ?_)
        refine lv_iload_n hx hb dX4_timeIfDone_26 rfl (lv_at hl 2 rfl) ?_
        refine lv_iload hx hb dX4_timeIfDone_27 (lv_at hl 0 rfl) ?_
        refine lv_ishr hx hb dX4_timeIfDone_29 ?_
        refine lv_iconst (v := 1) hx hb dX4_timeIfDone_30 (by decide) ?_
        refine lv_iand hx hb dX4_timeIfDone_31 ?_
        refine lv_if_ne (tgt := 38) hx hb dX4_timeIfDone_32 (by decide) (fun c4 => ?_) (fun c4 => ?_)
        · have hf := (if_neg c4).symm.trans hf
          refine lv_iload_n hx hb dX4_timeIfDone_38 rfl (lv_at hl 3 rfl) ?_
          refine lv_aload_n hx hb dX4_timeIfDone_39 rfl (lv_at hl 1 rfl) ?_
          refine gX_56_1 hx hb hts hown hK hP (hts _ kw_145) dX4_timeIfDone_40 ?_
          refine lv_iload hx hb dX4_timeIfDone_43 (lv_at hl 0 rfl) ?_
          obtain ⟨z5, hf⟩ := gd_some hf
          refine gX_a57 hx hb hK hP (ib_in z5) (v := (σ.2.1 57 (σ.2.1 59 x3.toNatClampNeg).toNatClampNeg)) rfl dX4_timeIfDone_45 ?_
          refine lv_iadd hx hb dX4_timeIfDone_46 ?_
          refine lv_istore_n (lv' := [(2, .int (x2 + (σ.2.1 57 (σ.2.1 59 x3.toNatClampNeg).toNatClampNeg))), (4, .int (σ.2.1 59 x3.toNatClampNeg)), (0, .ref (A 56)), (1, .int x1), (3, .int x3)]) hx hb dX4_timeIfDone_47 rfl hl (by decide) rfl (fun ls hl => ?_)
          refine lv_iload_n hx hb dX4_timeIfDone_48 rfl (lv_at hl 0 rfl) ?_
          refine lv_aload_n hx hb dX4_timeIfDone_49 rfl (lv_at hl 2 rfl) ?_
          refine gX_56_2 hx hb hts hown hK hP (hts _ kw_146) dX4_timeIfDone_50 ?_
          refine lv_iload hx hb dX4_timeIfDone_53 (lv_at hl 1 rfl) ?_
          refine gX_a58 hx hb hK hP (ib_in z5) (v := (σ.2.1 58 (σ.2.1 59 x3.toNatClampNeg).toNatClampNeg)) rfl dX4_timeIfDone_55 ?_
          refine lv_icmp_le (tgt := 61) hx hb dX4_timeIfDone_56 (by decide) (fun c6 => ?_) (fun c6 => ?_)
          · have hf := (if_pos c6).symm.trans hf
            refine lv_iinc (v := (x3 + 1)) (lv' := [(3, .int (x3 + 1)), (2, .int (x2 + (σ.2.1 57 (σ.2.1 59 x3.toNatClampNeg).toNatClampNeg))), (4, .int (σ.2.1 59 x3.toNatClampNeg)), (0, .ref (A 56)), (1, .int x1)]) hx hb dX4_timeIfDone_61 hl (k := 4) rfl rfl (by decide) rfl (fun ls hl => ?_)
            refine lv_goto (tgt := 4) hx hb dX4_timeIfDone_64 (by decide) ?_
            exact ih _ _ _ _ _ _ _ hf (lv_sub hl [3, 4, 1, 0] rfl) hP hS
          · have hf := (if_neg c6).symm.trans hf
            refine lv_iconst (v := (-1)) hx hb dX4_timeIfDone_59 (by decide) ?_
            exact cx_iret cx hP hS hf dX4_timeIfDone_60
        · have hf := (if_pos c4).symm.trans hf
          refine lv_goto (tgt := 61) hx hb dX4_timeIfDone_35 (by decide) ?_
          refine lv_iinc (v := (x3 + 1)) (lv' := [(3, .int (x3 + 1)), (4, .int (σ.2.1 59 x3.toNatClampNeg)), (0, .ref (A 56)), (1, .int x1), (2, .int x2)]) hx hb dX4_timeIfDone_61 hl (k := 4) rfl rfl (by decide) rfl (fun ls hl => ?_)
          refine lv_goto (tgt := 4) hx hb dX4_timeIfDone_64 (by decide) ?_
          exact ih _ _ _ _ _ _ _ hf (lv_sub hl [2, 3, 4, 0] rfl) hP hS
set_option maxHeartbeats 4000000 in
set_option maxRecDepth 100000 in
theorem ct_xX4_timeIfDone (l : Launch) (D : va_G) (C : Nat → ClassId) (A adK adV : Nat → Nat) (hA : apA A 60) {x1 : Int32} {σ : St} {res : (Int32 × St)} (hf : F_xX4_timeIfDone x1 σ = some res) : Met l yX4_timeIfDone (Cond.code yX4_timeIfDone cX4_timeIfDone 5 (some .int) :: wsL_law) rm_X4_timeIfDone (Pcx D C (wX A C) adK adV (fxA A 60) [.ref (A 56), .int x1] σ) (Qcx D (wX A C) (fxA A 60) (some (.int res.1)) res.2) 0 0 (fxA A 60) := by
  refine Met.ofW (cc := cX4_timeIfDone) (maxL := 5) (ret := (some .int)) (by decide) rfl ?_
  intro p e s m args below meth c s₁ B hml hv
  obtain ⟨rfl, hP, hK, hZ⟩ := hv
  have cx : Cxx D C adK adV (fxA A 60) p s m _ meth c cX4_timeIfDone 5 RX4 (some .int) := ⟨B.exec, B.bytes, hml, findClass_of_methodNamed B.named, fun w h => atoms_spec (ws := Cond.code yX4_timeIfDone cX4_timeIfDone 5 (some .int) :: wsL_law) B.pre w (List.mem_cons_of_mem _ h), hK, B.returns, B.notSynchronized, hZ⟩
  obtain ⟨hx, hb, -, hown, hts, -, hr, hlk, -⟩ := id cx
  have hS : va_S (fxA A 60) s.heap s.heap [] := va_S.rf
  have hl := lv_entry ([.ref (A 56), .int x1]) (n := 5) (Nat.le_of_ble_eq_true rfl)
  rw [lg_entry_eq]
  generalize (lg_sl ([.ref (A 56), .int x1]) ++ List.replicate (5 - (lg_sl ([.ref (A 56), .int x1])).length) Slot.unset).toArray = ls at hl ⊢
  have hl : lv_has ls 5 [(0, .ref (A 56)), (1, .int x1)] := hl
  show W p l e rm_X4_timeIfDone s m _ below meth c s.heap [] 0 0 _ _
  refine lv_iconst (v := 0) hx hb dX4_timeIfDone_0 (by decide) ?_
  refine lv_istore_n (lv' := [(2, .int 0), (0, .ref (A 56)), (1, .int x1)]) hx hb dX4_timeIfDone_1 rfl hl (by decide) rfl (fun ls hl => ?_)
  refine lv_iconst (v := 0) hx hb dX4_timeIfDone_2 (by decide) ?_
  refine lv_istore_n (lv' := [(3, .int 0), (2, .int 0), (0, .ref (A 56)), (1, .int x1)]) hx hb dX4_timeIfDone_3 rfl hl (by decide) rfl (fun ls hl => ?_)
  exact w_F_xX4_timeIfDone_4 hA cx FU _ _ _ _ _ _ _ hf (lv_sub hl [2, 3, 1, 0] rfl) hP hS
set_option maxHeartbeats 4000000 in
set_option maxRecDepth 100000 in
theorem w_F_xX4_bestSet_52 {p : Program} {l : Launch} {e : Env} {s : State} {m : MethodId} {args : Array Value} {below : List Frame} {meth : Method} {c : Code} {D : va_G} {C : Nat → ClassId} {A adK adV : Nat → Nat} (hA : apA A 60) (cx : Cxx D C adK adV (fxA A 60) p s m args meth c cX4_bestSet 8 RX4 (some .int)) {res : (Int32 × St)} {b22 : Int32 → Int32 → Int32 → Int32 → Int32 → St → Option (Int32 × St)} (hb22 : ∀ (x1 : Int32) (x2 : Int32) (x3 : Int32) (x4 : Int32) (x5 : Int32) (σ : St) (H : Heap) (locs : List Loc) (ls : Array Slot), b22 x1 x2 x3 x4 x5 σ = some res → lv_has ls 8 [(0, .ref (A 56)), (1, .int x1), (2, .int x2), (3, .int x3), (4, .int x4), (5, .int x5)] → va_P D vwCl (wX A C σ) H → va_S (fxA A 60) s.heap H locs → W p l e rm_X4_bestSet s m args below meth c H locs 0 0 (MQ below (Qcx D (wX A C) (fxA A 60) (some (.int res.1)) res.2) args s 0 0 (fxA A 60)) (F0 m 22 ls [])) : ∀ (x1 : Int32) (x2 : Int32) (x3 : Int32) (x4 : Int32) (x5 : Int32) (x6 : Int32) (y0 : Int32) (σ : St) (H : Heap) (locs : List Loc) (ls : Array Slot), F_xX4_bestSet_52 b22 x1 x2 x3 x4 x5 x6 y0 σ = some res → lv_has ls 8 [(0, .ref (A 56)), (1, .int x1), (2, .int x2), (3, .int x3), (4, .int x4), (5, .int x5), (6, .int x6)] → va_P D vwCl (wX A C σ) H → va_S (fxA A 60) s.heap H locs → W p l e rm_X4_bestSet s m args below meth c H locs 0 0 (MQ below (Qcx D (wX A C) (fxA A 60) (some (.int res.1)) res.2) args s 0 0 (fxA A 60)) (F0 m 52 ls [.int y0]) := by
  obtain ⟨hx, hb, hml, hown, hts, hK, hr, hlk, hZ⟩ := id cx
  intro x1 x2 x3 x4 x5 x6 y0 σ H locs ls hf hl hP hS
  refine lv_istore (lv' := [(7, .int y0), (0, .ref (A 56)), (1, .int x1), (2, .int x2), (3, .int x3), (4, .int x4), (5, .int x5), (6, .int x6)]) hx hb dX4_bestSet_52 hl (by decide) rfl (fun ls hl => ?_)
  refine lv_iload hx hb dX4_bestSet_54 (lv_at hl 0 rfl) ?_
  refine lv_iconst (v := (-1)) hx hb dX4_bestSet_56 (by decide) ?_
  refine lv_icmp_eq (tgt := 81) hx hb dX4_bestSet_57 (by decide) (fun c1 => ?_) (fun c1 => ?_)
  · have hf := (if_pos c1).symm.trans hf
    refine lv_iinc (v := (x5 + 1)) (lv' := [(5, .int (x5 + 1)), (7, .int y0), (0, .ref (A 56)), (1, .int x1), (2, .int x2), (3, .int x3), (4, .int x4), (6, .int x6)]) hx hb dX4_bestSet_81 hl (k := 6) rfl rfl (by decide) rfl (fun ls hl => ?_)
    refine lv_goto (tgt := 22) hx hb dX4_bestSet_84 (by decide) ?_
    exact hb22 _ _ _ _ _ _ _ _ _ hf (lv_sub hl [2, 3, 4, 5, 6, 0] rfl) hP hS
  · have hf := (if_neg c1).symm.trans hf
    refine lv_iload hx hb dX4_bestSet_60 (lv_at hl 7 rfl) ?_
    refine lv_iload_n hx hb dX4_bestSet_62 rfl (lv_at hl 3 rfl) ?_
    refine lv_icmp_gt (tgt := 72) hx hb dX4_bestSet_63 (by decide) (fun c2 => ?_) (fun c2 => ?_)
    · have hf := (if_pos c2).symm.trans hf
      refine lv_iload hx hb dX4_bestSet_72 (lv_at hl 6 rfl) ?_
      refine lv_istore_n (lv' := [(1, .int x5), (7, .int y0), (0, .ref (A 56)), (2, .int x2), (3, .int x3), (4, .int x4), (5, .int x5), (6, .int x6)]) hx hb dX4_bestSet_74 rfl hl (by decide) rfl (fun ls hl => ?_)
      refine lv_iload hx hb dX4_bestSet_75 (lv_at hl 7 rfl) ?_
      refine lv_istore_n (lv' := [(2, .int x6), (1, .int x5), (7, .int y0), (0, .ref (A 56)), (3, .int x3), (4, .int x4), (5, .int x5), (6, .int x6)]) hx hb dX4_bestSet_77 rfl hl (by decide) rfl (fun ls hl => ?_)
      refine lv_iload hx hb dX4_bestSet_78 (lv_at hl 2 rfl) ?_
      refine lv_istore_n (lv' := [(3, .int y0), (2, .int x6), (1, .int x5), (7, .int y0), (0, .ref (A 56)), (4, .int x4), (5, .int x5), (6, .int x6)]) hx hb dX4_bestSet_80 rfl hl (by decide) rfl (fun ls hl => ?_)
      refine lv_iinc (v := (x5 + 1)) (lv' := [(5, .int (x5 + 1)), (3, .int y0), (2, .int x6), (1, .int x5), (7, .int y0), (0, .ref (A 56)), (4, .int x4), (6, .int x6)]) hx hb dX4_bestSet_81 hl (k := 6) rfl rfl (by decide) rfl (fun ls hl => ?_)
      refine lv_goto (tgt := 22) hx hb dX4_bestSet_84 (by decide) ?_
      exact hb22 _ _ _ _ _ _ _ _ _ hf (lv_sub hl [5, 3, 2, 1, 6, 0] rfl) hP hS
    · have hf := (if_neg c2).symm.trans hf
      refine lv_iload hx hb dX4_bestSet_66 (lv_at hl 0 rfl) ?_
      refine lv_iload_n hx hb dX4_bestSet_68 rfl (lv_at hl 4 rfl) ?_
      refine lv_icmp_ge (tgt := 81) hx hb dX4_bestSet_69 (by decide) (fun c3 => ?_) (fun c3 => ?_)
      · have hf := (if_pos c3).symm.trans hf
        refine lv_iinc (v := (x5 + 1)) (lv' := [(5, .int (x5 + 1)), (7, .int y0), (0, .ref (A 56)), (1, .int x1), (2, .int x2), (3, .int x3), (4, .int x4), (6, .int x6)]) hx hb dX4_bestSet_81 hl (k := 6) rfl rfl (by decide) rfl (fun ls hl => ?_)
        refine lv_goto (tgt := 22) hx hb dX4_bestSet_84 (by decide) ?_
        exact hb22 _ _ _ _ _ _ _ _ _ hf (lv_sub hl [2, 3, 4, 5, 6, 0] rfl) hP hS
      · have hf := (if_neg c3).symm.trans hf
        refine lv_iload hx hb dX4_bestSet_72 (lv_at hl 6 rfl) ?_
        refine lv_istore_n (lv' := [(1, .int x5), (7, .int y0), (0, .ref (A 56)), (2, .int x2), (3, .int x3), (4, .int x4), (5, .int x5), (6, .int x6)]) hx hb dX4_bestSet_74 rfl hl (by decide) rfl (fun ls hl => ?_)
        refine lv_iload hx hb dX4_bestSet_75 (lv_at hl 7 rfl) ?_
        refine lv_istore_n (lv' := [(2, .int x6), (1, .int x5), (7, .int y0), (0, .ref (A 56)), (3, .int x3), (4, .int x4), (5, .int x5), (6, .int x6)]) hx hb dX4_bestSet_77 rfl hl (by decide) rfl (fun ls hl => ?_)
        refine lv_iload hx hb dX4_bestSet_78 (lv_at hl 2 rfl) ?_
        refine lv_istore_n (lv' := [(3, .int y0), (2, .int x6), (1, .int x5), (7, .int y0), (0, .ref (A 56)), (4, .int x4), (5, .int x5), (6, .int x6)]) hx hb dX4_bestSet_80 rfl hl (by decide) rfl (fun ls hl => ?_)
        refine lv_iinc (v := (x5 + 1)) (lv' := [(5, .int (x5 + 1)), (3, .int y0), (2, .int x6), (1, .int x5), (7, .int y0), (0, .ref (A 56)), (4, .int x4), (6, .int x6)]) hx hb dX4_bestSet_81 hl (k := 6) rfl rfl (by decide) rfl (fun ls hl => ?_)
        refine lv_goto (tgt := 22) hx hb dX4_bestSet_84 (by decide) ?_
        exact hb22 _ _ _ _ _ _ _ _ _ hf (lv_sub hl [5, 3, 2, 1, 6, 0] rfl) hP hS
set_option maxHeartbeats 4000000 in
set_option maxRecDepth 100000 in
theorem w_F_xX4_bestSet_22 {p : Program} {l : Launch} {e : Env} {s : State} {m : MethodId} {args : Array Value} {below : List Frame} {meth : Method} {c : Code} {D : va_G} {C : Nat → ClassId} {A adK adV : Nat → Nat} (hA : apA A 60) (cx : Cxx D C adK adV (fxA A 60) p s m args meth c cX4_bestSet 8 RX4 (some .int)) {res : (Int32 × St)} : ∀ (n : Nat), ∀ (x1 : Int32) (x2 : Int32) (x3 : Int32) (x4 : Int32) (x5 : Int32) (σ : St) (H : Heap) (locs : List Loc) (ls : Array Slot), F_xX4_bestSet_22 n x1 x2 x3 x4 x5 σ = some res → lv_has ls 8 [(0, .ref (A 56)), (1, .int x1), (2, .int x2), (3, .int x3), (4, .int x4), (5, .int x5)] → va_P D vwCl (wX A C σ) H → va_S (fxA A 60) s.heap H locs → W p l e rm_X4_bestSet s m args below meth c H locs 0 0 (MQ below (Qcx D (wX A C) (fxA A 60) (some (.int res.1)) res.2) args s 0 0 (fxA A 60)) (F0 m 22 ls []) := by
  obtain ⟨hx, hb, hml, hown, hts, hK, hr, hlk, hZ⟩ := id cx
  intro n
  induction n with
  | zero =>
    intro x1 x2 x3 x4 x5 σ H locs ls hf hl hP hS
    exact absurd (show (none : Option (Int32 × St)) = some res from hf) (by intro h; cases h)
  | succ n ih =>
    intro x1 x2 x3 x4 x5 σ H locs ls hf hl hP hS
    refine lv_iload hx hb dX4_bestSet_22 (lv_at hl 5 rfl) ?_
    refine lv_iload hx hb dX4_bestSet_24 (lv_at hl 4 rfl) ?_
    refine lv_icmp_ge (tgt := 87) hx hb dX4_bestSet_26 (by decide) (fun c4 => ?_) (fun c4 => ?_)
    · have hf := (if_pos c4).symm.trans hf
      refine lv_iload_n hx hb dX4_bestSet_87 rfl (lv_at hl 1 rfl) ?_
      exact cx_iret cx hP hS hf dX4_bestSet_88
    · have hf := (if_neg c4).symm.trans hf
      refine lv_iload hx hb dX4_bestSet_29 (lv_at hl 5 rfl) ?_
      obtain ⟨⟨r5, σ_r5⟩, h_r5, hf⟩ := bd_some hf
      refine cx_S (As := [.int x5]) (rest := []) cx (ct_xJ6_bitCount_0f7a4 l D C A adK adV hA h_r5) (cw_X4_31 hts ⟨Nat.le_of_ble_eq_true rfl, Nat.le_of_ble_eq_true rfl⟩) hP hS rfl hl.1 rfl (Nat.le_of_ble_eq_true rfl) dX4_bestSet_31 ⟨Nat.zero_le _, Nat.zero_le _⟩ (fun H locs hP hS => ?_)
      refine lv_istore (lv' := [(6, .int r5), (0, .ref (A 56)), (1, .int x1), (2, .int x2), (3, .int x3), (4, .int x4), (5, .int x5)]) hx hb dX4_bestSet_34 hl (by decide) rfl (fun ls hl => ?_)
      refine lv_iload hx hb dX4_bestSet_36 (lv_at hl 0 rfl) ?_
      refine lv_iload_n hx hb dX4_bestSet_38 rfl (lv_at hl 3 rfl) ?_
      refine lv_icmp_ge (tgt := 46) hx hb dX4_bestSet_39 (by decide) (fun c6 => ?_) (fun c6 => ?_)
      · have hf := (if_pos c6).symm.trans hf
        refine lv_aload_n hx hb dX4_bestSet_46 rfl (lv_at hl 1 rfl) ?_
        refine lv_iload hx hb dX4_bestSet_47 (lv_at hl 6 rfl) ?_
        obtain ⟨⟨r7, σ_r7⟩, h_r7, hf⟩ := bd_some hf
        refine cx_V (As := [.int x5]) (rest := []) cx (ct_xX4_timeIfDone l D C A adK adV hA h_r7) (cw_X4_37 hts ⟨Nat.le_of_ble_eq_true rfl, Nat.le_of_ble_eq_true rfl⟩) (va_recv hK hP (ci := 4) (q0 := 56) rfl (wX_56 A C _)) hP hS rfl hl.1 rfl (Nat.le_of_ble_eq_true rfl) dX4_bestSet_49 ⟨Nat.zero_le _, Nat.zero_le _⟩ (fun H locs hP hS => ?_)
        exact w_F_xX4_bestSet_52 hA cx ih _ _ _ _ _ _ _ _ _ _ _ hf (lv_sub hl [1, 2, 3, 4, 5, 6, 0] rfl) hP hS
      · have hf := (if_neg c6).symm.trans hf
        refine lv_iconst (v := (-1)) hx hb dX4_bestSet_42 (by decide) ?_
        refine lv_goto (tgt := 52) hx hb dX4_bestSet_43 (by decide) ?_
        exact w_F_xX4_bestSet_52 hA cx ih _ _ _ _ _ _ _ _ _ _ _ hf (lv_sub hl [1, 2, 3, 4, 5, 6, 0] rfl) hP hS
set_option maxHeartbeats 4000000 in
set_option maxRecDepth 100000 in
theorem ct_xX4_bestSet (l : Launch) (D : va_G) (C : Nat → ClassId) (A adK adV : Nat → Nat) (hA : apA A 60)  {σ : St} {res : (Int32 × St)} (hf : F_xX4_bestSet σ = some res) : Met l yX4_bestSet (Cond.code yX4_bestSet cX4_bestSet 8 (some .int) :: wsL_law) rm_X4_bestSet (Pcx D C (wX A C) adK adV (fxA A 60) [.ref (A 56)] σ) (Qcx D (wX A C) (fxA A 60) (some (.int res.1)) res.2) 0 0 (fxA A 60) := by
  refine Met.ofW (cc := cX4_bestSet) (maxL := 8) (ret := (some .int)) (by decide) rfl ?_
  intro p e s m args below meth c s₁ B hml hv
  obtain ⟨rfl, hP, hK, hZ⟩ := hv
  have cx : Cxx D C adK adV (fxA A 60) p s m _ meth c cX4_bestSet 8 RX4 (some .int) := ⟨B.exec, B.bytes, hml, findClass_of_methodNamed B.named, fun w h => atoms_spec (ws := Cond.code yX4_bestSet cX4_bestSet 8 (some .int) :: wsL_law) B.pre w (List.mem_cons_of_mem _ h), hK, B.returns, B.notSynchronized, hZ⟩
  obtain ⟨hx, hb, -, hown, hts, -, hr, hlk, -⟩ := id cx
  have hS : va_S (fxA A 60) s.heap s.heap [] := va_S.rf
  have hl := lv_entry ([.ref (A 56)]) (n := 8) (Nat.le_of_ble_eq_true rfl)
  rw [lg_entry_eq]
  generalize (lg_sl ([.ref (A 56)]) ++ List.replicate (8 - (lg_sl ([.ref (A 56)])).length) Slot.unset).toArray = ls at hl ⊢
  have hl : lv_has ls 8 [(0, .ref (A 56))] := hl
  show W p l e rm_X4_bestSet s m _ below meth c s.heap [] 0 0 _ _
  refine lv_iconst (v := 0) hx hb dX4_bestSet_0 (by decide) ?_
  refine lv_istore_n (lv' := [(1, .int 0), (0, .ref (A 56))]) hx hb dX4_bestSet_1 rfl hl (by decide) rfl (fun ls hl => ?_)
  refine lv_iconst (v := 0) hx hb dX4_bestSet_2 (by decide) ?_
  refine lv_istore_n (lv' := [(2, .int 0), (1, .int 0), (0, .ref (A 56))]) hx hb dX4_bestSet_3 rfl hl (by decide) rfl (fun ls hl => ?_)
  refine lv_iconst (v := 0) hx hb dX4_bestSet_4 (by decide) ?_
  refine lv_istore_n (lv' := [(3, .int 0), (2, .int 0), (1, .int 0), (0, .ref (A 56))]) hx hb dX4_bestSet_5 rfl hl (by decide) rfl (fun ls hl => ?_)
  refine lv_iconst (v := 1) hx hb dX4_bestSet_6 (by decide) ?_
  refine lv_aload_n hx hb dX4_bestSet_7 rfl (lv_at hl 3 rfl) ?_
  refine gX_56_0 hx hb hts hown hK hP (v := (σ.1 32)) rfl (hts _ kw_1084) dX4_bestSet_8 ?_
  refine lv_bipush (v := 8) hx hb dX4_bestSet_11 (by decide) ?_
  refine va_mmin hx hb (hml.trans hl.1.symm) hown (hts _ kw_1098) (hts _ kw_352) (hts _ kw_353) (hts _ kw_354) (Nat.le_of_ble_eq_true rfl) (Nat.le_of_ble_eq_true rfl) (Nat.zero_le _) (Nat.zero_le _) dX4_bestSet_13 ?_
  refine lv_ishl hx hb dX4_bestSet_16 ?_
  refine lv_istore (lv' := [(4, .int (1 <<< ((if 8 < (σ.1 32) then 8 else (σ.1 32)) &&& 31))), (3, .int 0), (2, .int 0), (1, .int 0), (0, .ref (A 56))]) hx hb dX4_bestSet_17 hl (by decide) rfl (fun ls hl => ?_)
  refine lv_iconst (v := 1) hx hb dX4_bestSet_19 (by decide) ?_
  refine lv_istore (lv' := [(5, .int 1), (4, .int (1 <<< ((if 8 < (σ.1 32) then 8 else (σ.1 32)) &&& 31))), (3, .int 0), (2, .int 0), (1, .int 0), (0, .ref (A 56))]) hx hb dX4_bestSet_20 hl (by decide) rfl (fun ls hl => ?_)
  exact w_F_xX4_bestSet_22 hA cx FU _ _ _ _ _ _ _ _ _ hf (lv_sub hl [5, 4, 3, 2, 1, 0] rfl) hP hS
set_option maxHeartbeats 4000000 in
set_option maxRecDepth 100000 in
theorem ct_xX5_readsWord (l : Launch) (D : va_G) (C : Nat → ClassId) (A adK adV : Nat → Nat) (hA : apA A 60) {x0 : Int32} {σ : St} {res : (Int32 × St)} (hf : F_xX5_readsWord x0 σ = some res) : Met l yX5_readsWord (Cond.code yX5_readsWord cX5_readsWord 1 (some .boolean) :: wsL_law) rm_X5_readsWord (Pcx D C (wX A C) adK adV (fxA A 60) [.int x0] σ) (Qcx D (wX A C) (fxA A 60) (some (.int res.1)) res.2) 0 0 (fxA A 60) := by
  refine Met.ofW (cc := cX5_readsWord) (maxL := 1) (ret := (some .boolean)) (by decide) rfl ?_
  intro p e s m args below meth c s₁ B hml hv
  obtain ⟨rfl, hP, hK, hZ⟩ := hv
  have cx : Cxx D C adK adV (fxA A 60) p s m _ meth c cX5_readsWord 1 RX5 (some .boolean) := ⟨B.exec, B.bytes, hml, findClass_of_methodNamed B.named, fun w h => atoms_spec (ws := Cond.code yX5_readsWord cX5_readsWord 1 (some .boolean) :: wsL_law) B.pre w (List.mem_cons_of_mem _ h), hK, B.returns, B.notSynchronized, hZ⟩
  obtain ⟨hx, hb, -, hown, hts, -, hr, hlk, -⟩ := id cx
  have hS : va_S (fxA A 60) s.heap s.heap [] := va_S.rf
  have hl := lv_entry ([.int x0]) (n := 1) (Nat.le_of_ble_eq_true rfl)
  rw [lg_entry_eq]
  generalize (lg_sl ([.int x0]) ++ List.replicate (1 - (lg_sl ([.int x0])).length) Slot.unset).toArray = ls at hl ⊢
  have hl : lv_has ls 1 [(0, .int x0)] := hl
  show W p l e rm_X5_readsWord s m _ below meth c s.heap [] 0 0 _ _
  refine lv_iload_n hx hb dX5_readsWord_0 rfl (lv_at hl 0 rfl) ?_
  refine lv_iconst (v := 1) hx hb dX5_readsWord_1 (by decide) ?_
  refine lv_icmp_lt (tgt := 14) hx hb dX5_readsWord_2 (by decide) (fun c1 => ?_) (fun c1 => ?_)
  · have hf := (if_pos c1).symm.trans hf
    refine lv_iconst (v := 0) hx hb dX5_readsWord_14 (by decide) ?_
    exact cx_zret cx rfl hP hS hf dX5_readsWord_15
  · have hf := (if_neg c1).symm.trans hf
    refine lv_iload_n hx hb dX5_readsWord_5 rfl (lv_at hl 0 rfl) ?_
    refine lv_iconst (v := 5) hx hb dX5_readsWord_6 (by decide) ?_
    refine lv_icmp_gt (tgt := 14) hx hb dX5_readsWord_7 (by decide) (fun c2 => ?_) (fun c2 => ?_)
    · have hf := (if_pos c2).symm.trans hf
      refine lv_iconst (v := 0) hx hb dX5_readsWord_14 (by decide) ?_
      exact cx_zret cx rfl hP hS hf dX5_readsWord_15
    · have hf := (if_neg c2).symm.trans hf
      refine lv_iconst (v := 1) hx hb dX5_readsWord_10 (by decide) ?_
      refine lv_goto (tgt := 15) hx hb dX5_readsWord_11 (by decide) ?_
      exact cx_zret cx rfl hP hS hf dX5_readsWord_15
set_option maxHeartbeats 4000000 in
set_option maxRecDepth 100000 in
theorem ct_xX5_has (l : Launch) (D : va_G) (C : Nat → ClassId) (A adK adV : Nat → Nat) (hA : apA A 60) {x1 : Int32} {σ : St} {res : (Int32 × St)} (hf : F_xX5_has x1 σ = some res) : Met l yX5_has (Cond.code yX5_has cX5_has 2 (some .boolean) :: wsL_law) rm_X5_has (Pcx D C (wX A C) adK adV (fxA A 60) [.ref (A 10), .int x1] σ) (Qcx D (wX A C) (fxA A 60) (some (.int res.1)) res.2) 0 0 (fxA A 60) := by
  refine Met.ofW (cc := cX5_has) (maxL := 2) (ret := (some .boolean)) (by decide) rfl ?_
  intro p e s m args below meth c s₁ B hml hv
  obtain ⟨rfl, hP, hK, hZ⟩ := hv
  have cx : Cxx D C adK adV (fxA A 60) p s m _ meth c cX5_has 2 RX5 (some .boolean) := ⟨B.exec, B.bytes, hml, findClass_of_methodNamed B.named, fun w h => atoms_spec (ws := Cond.code yX5_has cX5_has 2 (some .boolean) :: wsL_law) B.pre w (List.mem_cons_of_mem _ h), hK, B.returns, B.notSynchronized, hZ⟩
  obtain ⟨hx, hb, -, hown, hts, -, hr, hlk, -⟩ := id cx
  have hS : va_S (fxA A 60) s.heap s.heap [] := va_S.rf
  have hl := lv_entry ([.ref (A 10), .int x1]) (n := 2) (Nat.le_of_ble_eq_true rfl)
  rw [lg_entry_eq]
  generalize (lg_sl ([.ref (A 10), .int x1]) ++ List.replicate (2 - (lg_sl ([.ref (A 10), .int x1])).length) Slot.unset).toArray = ls at hl ⊢
  have hl : lv_has ls 2 [(0, .ref (A 10)), (1, .int x1)] := hl
  show W p l e rm_X5_has s m _ below meth c s.heap [] 0 0 _ _
  refine lv_iload_n hx hb dX5_has_0 rfl (lv_at hl 1 rfl) ?_
  refine lv_if_lt (tgt := 22) hx hb dX5_has_1 (by decide) (fun c1 => ?_) (fun c1 => ?_)
  · have hf := (if_pos c1).symm.trans hf
    refine lv_iconst (v := 0) hx hb dX5_has_22 (by decide) ?_
    exact cx_zret cx rfl hP hS hf dX5_has_23
  · have hf := (if_neg c1).symm.trans hf
    refine lv_iload_n hx hb dX5_has_4 rfl (lv_at hl 1 rfl) ?_
    refine lv_aload_n hx hb dX5_has_5 rfl (lv_at hl 0 rfl) ?_
    refine gX_10_0 hx hb hts hown hK hP (v := (σ.1 11)) rfl (hts _ kw_367) dX5_has_6 ?_
    refine lv_icmp_ge (tgt := 22) hx hb dX5_has_9 (by decide) (fun c2 => ?_) (fun c2 => ?_)
    · have hf := (if_pos c2).symm.trans hf
      refine lv_iconst (v := 0) hx hb dX5_has_22 (by decide) ?_
      exact cx_zret cx rfl hP hS hf dX5_has_23
    · have hf := (if_neg c2).symm.trans hf
      refine lv_iload_n hx hb dX5_has_12 rfl (lv_at hl 1 rfl) ?_
      refine lv_bipush (v := 40) hx hb dX5_has_13 (by decide) ?_
      refine lv_icmp_ge (tgt := 22) hx hb dX5_has_15 (by decide) (fun c3 => ?_) (fun c3 => ?_)
      · have hf := (if_pos c3).symm.trans hf
        refine lv_iconst (v := 0) hx hb dX5_has_22 (by decide) ?_
        exact cx_zret cx rfl hP hS hf dX5_has_23
      · have hf := (if_neg c3).symm.trans hf
        refine lv_iconst (v := 1) hx hb dX5_has_18 (by decide) ?_
        refine lv_goto (tgt := 23) hx hb dX5_has_19 (by decide) ?_
        exact cx_zret cx rfl hP hS hf dX5_has_23
set_option maxHeartbeats 4000000 in
set_option maxRecDepth 100000 in
theorem ct_xX5_opOf (l : Launch) (D : va_G) (C : Nat → ClassId) (A adK adV : Nat → Nat) (hA : apA A 60) {x0 : Int32} {σ : St} {res : (Int32 × St)} (hf : F_xX5_opOf x0 σ = some res) : Met l yX5_opOf (Cond.code yX5_opOf cX5_opOf 1 (some .int) :: wsL_law) rm_X5_opOf (Pcx D C (wX A C) adK adV (fxA A 60) [.int x0] σ) (Qcx D (wX A C) (fxA A 60) (some (.int res.1)) res.2) 0 0 (fxA A 60) := by
  refine Met.ofW (cc := cX5_opOf) (maxL := 1) (ret := (some .int)) (by decide) rfl ?_
  intro p e s m args below meth c s₁ B hml hv
  obtain ⟨rfl, hP, hK, hZ⟩ := hv
  have cx : Cxx D C adK adV (fxA A 60) p s m _ meth c cX5_opOf 1 RX5 (some .int) := ⟨B.exec, B.bytes, hml, findClass_of_methodNamed B.named, fun w h => atoms_spec (ws := Cond.code yX5_opOf cX5_opOf 1 (some .int) :: wsL_law) B.pre w (List.mem_cons_of_mem _ h), hK, B.returns, B.notSynchronized, hZ⟩
  obtain ⟨hx, hb, -, hown, hts, -, hr, hlk, -⟩ := id cx
  have hS : va_S (fxA A 60) s.heap s.heap [] := va_S.rf
  have hl := lv_entry ([.int x0]) (n := 1) (Nat.le_of_ble_eq_true rfl)
  rw [lg_entry_eq]
  generalize (lg_sl ([.int x0]) ++ List.replicate (1 - (lg_sl ([.int x0])).length) Slot.unset).toArray = ls at hl ⊢
  have hl : lv_has ls 1 [(0, .int x0)] := hl
  show W p l e rm_X5_opOf s m _ below meth c s.heap [] 0 0 _ _
  refine lv_iload_n hx hb dX5_opOf_0 rfl (lv_at hl 0 rfl) ?_
  refine lv_sipush (v := 10000) hx hb dX5_opOf_1 (by decide) ?_
  refine lv_idiv hx hb dX5_opOf_4 (by decide) ?_
  exact cx_iret cx hP hS hf dX5_opOf_5
set_option maxHeartbeats 4000000 in
set_option maxRecDepth 100000 in
theorem ct_xX5_wordOf (l : Launch) (D : va_G) (C : Nat → ClassId) (A adK adV : Nat → Nat) (hA : apA A 60) {x0 : Int32} {σ : St} {res : (Int32 × St)} (hf : F_xX5_wordOf x0 σ = some res) : Met l yX5_wordOf (Cond.code yX5_wordOf cX5_wordOf 1 (some .int) :: wsL_law) rm_X5_wordOf (Pcx D C (wX A C) adK adV (fxA A 60) [.int x0] σ) (Qcx D (wX A C) (fxA A 60) (some (.int res.1)) res.2) 0 0 (fxA A 60) := by
  refine Met.ofW (cc := cX5_wordOf) (maxL := 1) (ret := (some .int)) (by decide) rfl ?_
  intro p e s m args below meth c s₁ B hml hv
  obtain ⟨rfl, hP, hK, hZ⟩ := hv
  have cx : Cxx D C adK adV (fxA A 60) p s m _ meth c cX5_wordOf 1 RX5 (some .int) := ⟨B.exec, B.bytes, hml, findClass_of_methodNamed B.named, fun w h => atoms_spec (ws := Cond.code yX5_wordOf cX5_wordOf 1 (some .int) :: wsL_law) B.pre w (List.mem_cons_of_mem _ h), hK, B.returns, B.notSynchronized, hZ⟩
  obtain ⟨hx, hb, -, hown, hts, -, hr, hlk, -⟩ := id cx
  have hS : va_S (fxA A 60) s.heap s.heap [] := va_S.rf
  have hl := lv_entry ([.int x0]) (n := 1) (Nat.le_of_ble_eq_true rfl)
  rw [lg_entry_eq]
  generalize (lg_sl ([.int x0]) ++ List.replicate (1 - (lg_sl ([.int x0])).length) Slot.unset).toArray = ls at hl ⊢
  have hl : lv_has ls 1 [(0, .int x0)] := hl
  show W p l e rm_X5_wordOf s m _ below meth c s.heap [] 0 0 _ _
  refine lv_iload_n hx hb dX5_wordOf_0 rfl (lv_at hl 0 rfl) ?_
  refine lv_bipush (v := 100) hx hb dX5_wordOf_1 (by decide) ?_
  refine lv_idiv hx hb dX5_wordOf_3 (by decide) ?_
  refine lv_bipush (v := 100) hx hb dX5_wordOf_4 (by decide) ?_
  refine lv_irem hx hb dX5_wordOf_6 (by decide) ?_
  exact cx_iret cx hP hS hf dX5_wordOf_7
set_option maxHeartbeats 4000000 in
set_option maxRecDepth 100000 in
theorem ct_xX5_nextOf (l : Launch) (D : va_G) (C : Nat → ClassId) (A adK adV : Nat → Nat) (hA : apA A 60) {x0 : Int32} {σ : St} {res : (Int32 × St)} (hf : F_xX5_nextOf x0 σ = some res) : Met l yX5_nextOf (Cond.code yX5_nextOf cX5_nextOf 1 (some .int) :: wsL_law) rm_X5_nextOf (Pcx D C (wX A C) adK adV (fxA A 60) [.int x0] σ) (Qcx D (wX A C) (fxA A 60) (some (.int res.1)) res.2) 0 0 (fxA A 60) := by
  refine Met.ofW (cc := cX5_nextOf) (maxL := 1) (ret := (some .int)) (by decide) rfl ?_
  intro p e s m args below meth c s₁ B hml hv
  obtain ⟨rfl, hP, hK, hZ⟩ := hv
  have cx : Cxx D C adK adV (fxA A 60) p s m _ meth c cX5_nextOf 1 RX5 (some .int) := ⟨B.exec, B.bytes, hml, findClass_of_methodNamed B.named, fun w h => atoms_spec (ws := Cond.code yX5_nextOf cX5_nextOf 1 (some .int) :: wsL_law) B.pre w (List.mem_cons_of_mem _ h), hK, B.returns, B.notSynchronized, hZ⟩
  obtain ⟨hx, hb, -, hown, hts, -, hr, hlk, -⟩ := id cx
  have hS : va_S (fxA A 60) s.heap s.heap [] := va_S.rf
  have hl := lv_entry ([.int x0]) (n := 1) (Nat.le_of_ble_eq_true rfl)
  rw [lg_entry_eq]
  generalize (lg_sl ([.int x0]) ++ List.replicate (1 - (lg_sl ([.int x0])).length) Slot.unset).toArray = ls at hl ⊢
  have hl : lv_has ls 1 [(0, .int x0)] := hl
  show W p l e rm_X5_nextOf s m _ below meth c s.heap [] 0 0 _ _
  refine lv_iload_n hx hb dX5_nextOf_0 rfl (lv_at hl 0 rfl) ?_
  refine lv_bipush (v := 100) hx hb dX5_nextOf_1 (by decide) ?_
  refine lv_irem hx hb dX5_nextOf_3 (by decide) ?_
  exact cx_iret cx hP hS hf dX5_nextOf_4
set_option maxHeartbeats 4000000 in
set_option maxRecDepth 100000 in
theorem ct_xX5_isOrder (l : Launch) (D : va_G) (C : Nat → ClassId) (A adK adV : Nat → Nat) (hA : apA A 60) {x1 : Int32} {σ : St} {res : (Int32 × St)} (hf : F_xX5_isOrder x1 σ = some res) : Met l yX5_isOrder (Cond.code yX5_isOrder cX5_isOrder 2 (some .boolean) :: wsL_law) rm_X5_isOrder (Pcx D C (wX A C) adK adV (fxA A 60) [.ref (A 10), .int x1] σ) (Qcx D (wX A C) (fxA A 60) (some (.int res.1)) res.2) 0 0 (fxA A 60) := by
  refine Met.ofW (cc := cX5_isOrder) (maxL := 2) (ret := (some .boolean)) (by decide) rfl ?_
  intro p e s m args below meth c s₁ B hml hv
  obtain ⟨rfl, hP, hK, hZ⟩ := hv
  have cx : Cxx D C adK adV (fxA A 60) p s m _ meth c cX5_isOrder 2 RX5 (some .boolean) := ⟨B.exec, B.bytes, hml, findClass_of_methodNamed B.named, fun w h => atoms_spec (ws := Cond.code yX5_isOrder cX5_isOrder 2 (some .boolean) :: wsL_law) B.pre w (List.mem_cons_of_mem _ h), hK, B.returns, B.notSynchronized, hZ⟩
  obtain ⟨hx, hb, -, hown, hts, -, hr, hlk, -⟩ := id cx
  have hS : va_S (fxA A 60) s.heap s.heap [] := va_S.rf
  have hl := lv_entry ([.ref (A 10), .int x1]) (n := 2) (Nat.le_of_ble_eq_true rfl)
  rw [lg_entry_eq]
  generalize (lg_sl ([.ref (A 10), .int x1]) ++ List.replicate (2 - (lg_sl ([.ref (A 10), .int x1])).length) Slot.unset).toArray = ls at hl ⊢
  have hl : lv_has ls 2 [(0, .ref (A 10)), (1, .int x1)] := hl
  show W p l e rm_X5_isOrder s m _ below meth c s.heap [] 0 0 _ _
  refine lv_iload_n hx hb dX5_isOrder_0 rfl (lv_at hl 1 rfl) ?_
  refine lv_if_lt (tgt := 39) hx hb dX5_isOrder_1 (by decide) (fun c1 => ?_) (fun c1 => ?_)
  · have hf := (if_pos c1).symm.trans hf
    refine lv_iconst (v := 0) hx hb dX5_isOrder_39 (by decide) ?_
    exact cx_zret cx rfl hP hS hf dX5_isOrder_40
  · have hf := (if_neg c1).symm.trans hf
    refine lv_iload_n hx hb dX5_isOrder_4 rfl (lv_at hl 1 rfl) ?_
    obtain ⟨⟨r2, σ_r2⟩, h_r2, hf⟩ := bd_some hf
    refine cx_S (As := [.int x1]) (rest := []) cx (ct_xX5_opOf l D C A adK adV hA h_r2) (cw_X5_34 hts ⟨Nat.le_of_ble_eq_true rfl, Nat.le_of_ble_eq_true rfl⟩) hP hS rfl hl.1 rfl (Nat.le_of_ble_eq_true rfl) dX5_isOrder_5 ⟨Nat.zero_le _, Nat.zero_le _⟩ (fun H locs hP hS => ?_)
    refine lv_bipush (v := 9) hx hb dX5_isOrder_8 (by decide) ?_
    refine lv_icmp_gt (tgt := 39) hx hb dX5_isOrder_10 (by decide) (fun c3 => ?_) (fun c3 => ?_)
    · have hf := (if_pos c3).symm.trans hf
      refine lv_iconst (v := 0) hx hb dX5_isOrder_39 (by decide) ?_
      exact cx_zret cx rfl hP hS hf dX5_isOrder_40
    · have hf := (if_neg c3).symm.trans hf
      refine lv_aload_n hx hb dX5_isOrder_13 rfl (lv_at hl 0 rfl) ?_
      refine lv_iload_n hx hb dX5_isOrder_14 rfl (lv_at hl 1 rfl) ?_
      obtain ⟨⟨r4, σ_r4⟩, h_r4, hf⟩ := bd_some hf
      refine cx_S (As := [.int x1]) (rest := [.ref (A 10)]) cx (ct_xX5_wordOf l D C A adK adV hA h_r4) (cw_X5_38 hts ⟨Nat.le_of_ble_eq_true rfl, Nat.le_of_ble_eq_true rfl⟩) hP hS rfl hl.1 rfl (Nat.le_of_ble_eq_true rfl) dX5_isOrder_15 ⟨Nat.zero_le _, Nat.zero_le _⟩ (fun H locs hP hS => ?_)
      obtain ⟨⟨r5, σ_r5⟩, h_r5, hf⟩ := bd_some hf
      refine cx_V (As := [.int r4]) (rest := []) cx (ct_xX5_has l D C A adK adV hA h_r5) (cw_X5_41 hts ⟨Nat.le_of_ble_eq_true rfl, Nat.le_of_ble_eq_true rfl⟩) (va_recv hK hP (ci := 5) (q0 := 10) rfl (wX_10 A C _)) hP hS rfl hl.1 rfl (Nat.le_of_ble_eq_true rfl) dX5_isOrder_18 ⟨Nat.zero_le _, Nat.zero_le _⟩ (fun H locs hP hS => ?_)
      refine lv_if_eq (tgt := 39) hx hb dX5_isOrder_21 (by decide) (fun c6 => ?_) (fun c6 => ?_)
      · have hf := (if_pos c6).symm.trans hf
        refine lv_iconst (v := 0) hx hb dX5_isOrder_39 (by decide) ?_
        exact cx_zret cx rfl hP hS hf dX5_isOrder_40
      · have hf := (if_neg c6).symm.trans hf
        refine lv_aload_n hx hb dX5_isOrder_24 rfl (lv_at hl 0 rfl) ?_
        refine lv_iload_n hx hb dX5_isOrder_25 rfl (lv_at hl 1 rfl) ?_
        obtain ⟨⟨r7, σ_r7⟩, h_r7, hf⟩ := bd_some hf
        refine cx_S (As := [.int x1]) (rest := [.ref (A 10)]) cx (ct_xX5_nextOf l D C A adK adV hA h_r7) (cw_X5_45 hts ⟨Nat.le_of_ble_eq_true rfl, Nat.le_of_ble_eq_true rfl⟩) hP hS rfl hl.1 rfl (Nat.le_of_ble_eq_true rfl) dX5_isOrder_26 ⟨Nat.zero_le _, Nat.zero_le _⟩ (fun H locs hP hS => ?_)
        obtain ⟨⟨r8, σ_r8⟩, h_r8, hf⟩ := bd_some hf
        refine cx_V (As := [.int r7]) (rest := []) cx (ct_xX5_has l D C A adK adV hA h_r8) (cw_X5_41 hts ⟨Nat.le_of_ble_eq_true rfl, Nat.le_of_ble_eq_true rfl⟩) (va_recv hK hP (ci := 5) (q0 := 10) rfl (wX_10 A C _)) hP hS rfl hl.1 rfl (Nat.le_of_ble_eq_true rfl) dX5_isOrder_29 ⟨Nat.zero_le _, Nat.zero_le _⟩ (fun H locs hP hS => ?_)
        refine lv_if_eq (tgt := 39) hx hb dX5_isOrder_32 (by decide) (fun c9 => ?_) (fun c9 => ?_)
        · have hf := (if_pos c9).symm.trans hf
          refine lv_iconst (v := 0) hx hb dX5_isOrder_39 (by decide) ?_
          exact cx_zret cx rfl hP hS hf dX5_isOrder_40
        · have hf := (if_neg c9).symm.trans hf
          refine lv_iconst (v := 1) hx hb dX5_isOrder_35 (by decide) ?_
          refine lv_goto (tgt := 40) hx hb dX5_isOrder_36 (by decide) ?_
          exact cx_zret cx rfl hP hS hf dX5_isOrder_40
set_option maxHeartbeats 4000000 in
set_option maxRecDepth 100000 in
theorem ct_xX5_reach (l : Launch) (D : va_G) (C : Nat → ClassId) (A adK adV : Nat → Nat) (hA : apA A 60) {x1 : Int32} {σ : St} {res : St} (hf : F_xX5_reach x1 σ = some res) : Met l yX5_reach (Cond.code yX5_reach cX5_reach 2 none :: wsL_law) rm_X5_reach (Pcx D C (wX A C) adK adV (fxA A 60) [.ref (A 10), .int x1] σ) (Qcx D (wX A C) (fxA A 60) none res) 0 0 (fxA A 60) := by
  refine Met.ofW (cc := cX5_reach) (maxL := 2) (ret := none) (by decide) rfl ?_
  intro p e s m args below meth c s₁ B hml hv
  obtain ⟨rfl, hP, hK, hZ⟩ := hv
  have cx : Cxx D C adK adV (fxA A 60) p s m _ meth c cX5_reach 2 RX5 none := ⟨B.exec, B.bytes, hml, findClass_of_methodNamed B.named, fun w h => atoms_spec (ws := Cond.code yX5_reach cX5_reach 2 none :: wsL_law) B.pre w (List.mem_cons_of_mem _ h), hK, B.returns, B.notSynchronized, hZ⟩
  obtain ⟨hx, hb, -, hown, hts, -, hr, hlk, -⟩ := id cx
  have hS : va_S (fxA A 60) s.heap s.heap [] := va_S.rf
  have hl := lv_entry ([.ref (A 10), .int x1]) (n := 2) (Nat.le_of_ble_eq_true rfl)
  rw [lg_entry_eq]
  generalize (lg_sl ([.ref (A 10), .int x1]) ++ List.replicate (2 - (lg_sl ([.ref (A 10), .int x1])).length) Slot.unset).toArray = ls at hl ⊢
  have hl : lv_has ls 2 [(0, .ref (A 10)), (1, .int x1)] := hl
  show W p l e rm_X5_reach s m _ below meth c s.heap [] 0 0 _ _
  refine lv_aload_n hx hb dX5_reach_0 rfl (lv_at hl 0 rfl) ?_
  refine lv_iload_n hx hb dX5_reach_1 rfl (lv_at hl 1 rfl) ?_
  obtain ⟨⟨r1, σ_r1⟩, h_r1, hf⟩ := bd_some hf
  refine cx_V (As := [.int x1]) (rest := []) cx (ct_xX5_has l D C A adK adV hA h_r1) (cw_X5_41 hts ⟨Nat.le_of_ble_eq_true rfl, Nat.le_of_ble_eq_true rfl⟩) (va_recv hK hP (ci := 5) (q0 := 10) rfl (wX_10 A C _)) hP hS rfl hl.1 rfl (Nat.le_of_ble_eq_true rfl) dX5_reach_2 ⟨Nat.zero_le _, Nat.zero_le _⟩ (fun H locs hP hS => ?_)
  refine lv_if_eq (tgt := 32) hx hb dX5_reach_5 (by decide) (fun c2 => ?_) (fun c2 => ?_)
  · have hf := (if_pos c2).symm.trans hf
    exact cx_vret cx hP hS hf dX5_reach_32
  · have hf := (if_neg c2).symm.trans hf
    refine lv_aload_n hx hb dX5_reach_8 rfl (lv_at hl 0 rfl) ?_
    refine gX_10_3 hx hb hts hown hK hP (hts _ kw_80) dX5_reach_9 ?_
    refine lv_iload_n hx hb dX5_reach_12 rfl (lv_at hl 1 rfl) ?_
    obtain ⟨z3, hf⟩ := gd_some hf
    refine gX_a12 hx hb hK hP (ib_in z3) (v := (σ_r1.2.1 12 x1.toNatClampNeg)) rfl dX5_reach_13 ?_
    refine lv_iconst (v := 1) hx hb dX5_reach_14 (by decide) ?_
    refine lv_iand hx hb dX5_reach_15 ?_
    refine lv_if_ne (tgt := 32) hx hb dX5_reach_16 (by decide) (fun c4 => ?_) (fun c4 => ?_)
    · have hf := (if_neg c4).symm.trans hf
      exact cx_vret cx hP hS hf dX5_reach_32
    · have hf := (if_pos c4).symm.trans hf
      refine lv_aload_n hx hb dX5_reach_19 rfl (lv_at hl 0 rfl) ?_
      refine lv_aload_n hx hb dX5_reach_20 rfl (lv_at hl 0 rfl) ?_
      refine gX_10_2 hx hb hts hown hK hP (hts _ kw_79) dX5_reach_21 ?_
      refine lv_iload_n hx hb dX5_reach_24 rfl (lv_at hl 1 rfl) ?_
      refine gX_a11 hx hb hK hP (ib_in z3) (v := (σ_r1.2.1 11 x1.toNatClampNeg)) rfl dX5_reach_25 ?_
      obtain ⟨⟨r5, σ_r5⟩, h_r5, hf⟩ := bd_some hf
      refine cx_V (As := [.int (σ_r1.2.1 11 x1.toNatClampNeg)]) (rest := []) cx (ct_xX5_isOrder l D C A adK adV hA h_r5) (cw_X5_67 hts ⟨Nat.le_of_ble_eq_true rfl, Nat.le_of_ble_eq_true rfl⟩) (va_recv hK hP (ci := 5) (q0 := 10) rfl (wX_10 A C _)) hP hS rfl hl.1 rfl (Nat.le_of_ble_eq_true rfl) dX5_reach_26 ⟨Nat.zero_le _, Nat.zero_le _⟩ (fun H locs hP hS => ?_)
      refine lv_if_ne (tgt := 33) hx hb dX5_reach_29 (by decide) (fun c6 => ?_) (fun c6 => ?_)
      · have hf := (if_neg c6).symm.trans hf
        refine lv_aload_n hx hb dX5_reach_33 rfl (lv_at hl 0 rfl) ?_
        refine gX_10_3 hx hb hts hown hK hP (hts _ kw_80) dX5_reach_34 ?_
        refine lv_iload_n hx hb dX5_reach_37 rfl (lv_at hl 1 rfl) ?_
        refine lv_dup2_11 hx hb dX5_reach_38 rfl rfl ?_
        refine gX_a12 hx hb hK hP (ib_in z3) (v := (σ_r5.2.1 12 x1.toNatClampNeg)) rfl dX5_reach_39 ?_
        refine lv_iconst (v := 1) hx hb dX5_reach_40 (by decide) ?_
        refine lv_ior hx hb dX5_reach_41 ?_
        refine pX_a12 hx hb hK hP hA hS (ib_in z3) dX5_reach_42 (fun H locs hP hS => ?_)
        refine lv_aload_n hx hb dX5_reach_43 rfl (lv_at hl 0 rfl) ?_
        refine gX_10_5 hx hb hts hown hK hP (v := (σ_r5.1 13)) rfl (hts _ kw_1055) dX5_reach_44 ?_
        refine lv_if_lt (tgt := 79) hx hb dX5_reach_47 (by decide) (fun c7 => ?_) (fun c7 => ?_)
        · have hf := (if_pos c7).symm.trans hf
          have hP : va_P D vwCl (wX A C (sA σ_r5 12 (upd (σ_r5.2.1 12) x1.toNatClampNeg ((σ_r5.2.1 12 x1.toNatClampNeg) ||| 1)))) H := hP
          exact cx_vret cx hP hS hf dX5_reach_79
        · have hf := (if_neg c7).symm.trans hf
          refine lv_aload_n hx hb dX5_reach_50 rfl (lv_at hl 0 rfl) ?_
          refine gX_10_5 hx hb hts hown hK hP (v := (σ_r5.1 13)) rfl (hts _ kw_1055) dX5_reach_51 ?_
          refine lv_bipush (v := 40) hx hb dX5_reach_54 (by decide) ?_
          refine lv_icmp_ge (tgt := 79) hx hb dX5_reach_56 (by decide) (fun c8 => ?_) (fun c8 => ?_)
          · have hf := (if_pos c8).symm.trans hf
            have hP : va_P D vwCl (wX A C (sA σ_r5 12 (upd (σ_r5.2.1 12) x1.toNatClampNeg ((σ_r5.2.1 12 x1.toNatClampNeg) ||| 1)))) H := hP
            exact cx_vret cx hP hS hf dX5_reach_79
          · have hf := (if_neg c8).symm.trans hf
            refine lv_aload_n hx hb dX5_reach_59 rfl (lv_at hl 0 rfl) ?_
            refine gX_10_4 hx hb hts hown hK hP (hts _ kw_81) dX5_reach_60 ?_
            refine lv_aload_n hx hb dX5_reach_63 rfl (lv_at hl 0 rfl) ?_
            refine gX_10_5 hx hb hts hown hK hP (v := (σ_r5.1 13)) rfl (hts _ kw_1055) dX5_reach_64 ?_
            refine lv_iload_n hx hb dX5_reach_67 rfl (lv_at hl 1 rfl) ?_
            obtain ⟨z9, hf⟩ := gd_some hf
            refine pX_a13 hx hb hK hP hA hS (ib_in z9) dX5_reach_68 (fun H locs hP hS => ?_)
            refine lv_aload_n hx hb dX5_reach_69 rfl (lv_at hl 0 rfl) ?_
            refine lv_dup hx hb dX5_reach_70 rfl ?_
            refine gX_10_5 hx hb hts hown hK hP (v := (σ_r5.1 13)) rfl (hts _ kw_1055) dX5_reach_71 ?_
            refine lv_iconst (v := 1) hx hb dX5_reach_74 (by decide) ?_
            refine lv_iadd hx hb dX5_reach_75 ?_
            refine pX_10_5 hx hb hts hown hK hP hA hS (hts _ kw_1055) dX5_reach_76 (fun H locs hP hS => ?_)
            have hP : va_P D vwCl (wX A C (sA (sA (sI σ_r5 13 ((σ_r5.1 13) + 1)) 12 (upd (σ_r5.2.1 12) x1.toNatClampNeg ((σ_r5.2.1 12 x1.toNatClampNeg) ||| 1))) 13 (upd (σ_r5.2.1 13) (σ_r5.1 13).toNatClampNeg x1))) H := hP
            exact cx_vret cx hP hS hf dX5_reach_79
      · have hf := (if_pos c6).symm.trans hf
        exact cx_vret cx hP hS hf dX5_reach_32
set_option maxHeartbeats 4000000 in
set_option maxRecDepth 100000 in
theorem w_F_xX5_followOrder_39 {p : Program} {l : Launch} {e : Env} {s : State} {m : MethodId} {args : Array Value} {below : List Frame} {meth : Method} {c : Code} {D : va_G} {C : Nat → ClassId} {A adK adV : Nat → Nat} (hA : apA A 60) (cx : Cxx D C adK adV (fxA A 60) p s m args meth c cX5_followOrder 4 RX5 none) {res : St} : ∀ (x2 : Int32) (x3 : Int32) (σ : St) (H : Heap) (locs : List Loc) (ls : Array Slot), F_xX5_followOrder_39 x2 x3 σ = some res → lv_has ls 4 [(0, .ref (A 10)), (2, .int x2), (3, .int x3)] → va_P D vwCl (wX A C σ) H → va_S (fxA A 60) s.heap H locs → W p l e rm_X5_followOrder s m args below meth c H locs 0 0 (MQ below (Qcx D (wX A C) (fxA A 60) none res) args s 0 0 (fxA A 60)) (F0 m 39 ls []) := by
  obtain ⟨hx, hb, hml, hown, hts, hK, hr, hlk, hZ⟩ := id cx
  intro x2 x3 σ H locs ls hf hl hP hS
  refine lv_iload_n hx hb dX5_followOrder_39 rfl (lv_at hl 1 rfl) ?_
  obtain ⟨⟨r1, σ_r1⟩, h_r1, hf⟩ := bd_some hf
  refine cx_S (As := [.int x2]) (rest := []) cx (ct_xX5_readsWord l D C A adK adV hA h_r1) (cw_X5_64 hts ⟨Nat.le_of_ble_eq_true rfl, Nat.le_of_ble_eq_true rfl⟩) hP hS rfl hl.1 rfl (Nat.le_of_ble_eq_true rfl) dX5_followOrder_40 ⟨Nat.zero_le _, Nat.zero_le _⟩ (fun H locs hP hS => ?_)
  refine lv_if_eq (tgt := 64) hx hb dX5_followOrder_43 (by decide) (fun c2 => ?_) (fun c2 => ?_)
  · have hf := (if_pos c2).symm.trans hf
    exact cx_vret cx hP hS hf dX5_followOrder_64
  · have hf := (if_neg c2).symm.trans hf
    refine lv_aload_n hx hb dX5_followOrder_46 rfl (lv_at hl 0 rfl) ?_
    refine lv_iload_n hx hb dX5_followOrder_47 rfl (lv_at hl 2 rfl) ?_
    obtain ⟨⟨r3, σ_r3⟩, h_r3, hf⟩ := bd_some hf
    refine cx_V (As := [.int x3]) (rest := []) cx (ct_xX5_has l D C A adK adV hA h_r3) (cw_X5_41 hts ⟨Nat.le_of_ble_eq_true rfl, Nat.le_of_ble_eq_true rfl⟩) (va_recv hK hP (ci := 5) (q0 := 10) rfl (wX_10 A C _)) hP hS rfl hl.1 rfl (Nat.le_of_ble_eq_true rfl) dX5_followOrder_48 ⟨Nat.zero_le _, Nat.zero_le _⟩ (fun H locs hP hS => ?_)
    refine lv_if_eq (tgt := 64) hx hb dX5_followOrder_51 (by decide) (fun c4 => ?_) (fun c4 => ?_)
    · have hf := (if_pos c4).symm.trans hf
      exact cx_vret cx hP hS hf dX5_followOrder_64
    · have hf := (if_neg c4).symm.trans hf
      refine lv_aload_n hx hb dX5_followOrder_54 rfl (lv_at hl 0 rfl) ?_
      refine gX_10_3 hx hb hts hown hK hP (hts _ kw_80) dX5_followOrder_55 ?_
      refine lv_iload_n hx hb dX5_followOrder_58 rfl (lv_at hl 2 rfl) ?_
      refine lv_dup2_11 hx hb dX5_followOrder_59 rfl rfl ?_
      obtain ⟨z5, hf⟩ := gd_some hf
      refine gX_a12 hx hb hK hP (ib_in z5) (v := (σ_r3.2.1 12 x3.toNatClampNeg)) rfl dX5_followOrder_60 ?_
      refine lv_iconst (v := 2) hx hb dX5_followOrder_61 (by decide) ?_
      refine lv_ior hx hb dX5_followOrder_62 ?_
      refine pX_a12 hx hb hK hP hA hS (ib_in z5) dX5_followOrder_63 (fun H locs hP hS => ?_)
      have hP : va_P D vwCl (wX A C (sA σ_r3 12 (upd (σ_r3.2.1 12) x3.toNatClampNeg ((σ_r3.2.1 12 x3.toNatClampNeg) ||| 2)))) H := hP
      exact cx_vret cx hP hS hf dX5_followOrder_64
set_option maxHeartbeats 4000000 in
set_option maxRecDepth 100000 in
theorem w_F_xX5_followOrder_34 {p : Program} {l : Launch} {e : Env} {s : State} {m : MethodId} {args : Array Value} {below : List Frame} {meth : Method} {c : Code} {D : va_G} {C : Nat → ClassId} {A adK adV : Nat → Nat} (hA : apA A 60) (cx : Cxx D C adK adV (fxA A 60) p s m args meth c cX5_followOrder 4 RX5 none) {res : St} : ∀ (x2 : Int32) (x3 : Int32) (σ : St) (H : Heap) (locs : List Loc) (ls : Array Slot), F_xX5_followOrder_34 x2 x3 σ = some res → lv_has ls 4 [(0, .ref (A 10)), (2, .int x2), (3, .int x3)] → va_P D vwCl (wX A C σ) H → va_S (fxA A 60) s.heap H locs → W p l e rm_X5_followOrder s m args below meth c H locs 0 0 (MQ below (Qcx D (wX A C) (fxA A 60) none res) args s 0 0 (fxA A 60)) (F0 m 34 ls []) := by
  obtain ⟨hx, hb, hml, hown, hts, hK, hr, hlk, hZ⟩ := id cx
  intro x2 x3 σ H locs ls hf hl hP hS
  refine lv_aload_n hx hb dX5_followOrder_34 rfl (lv_at hl 0 rfl) ?_
  refine lv_iload_n hx hb dX5_followOrder_35 rfl (lv_at hl 2 rfl) ?_
  obtain ⟨σ_r6, h_r6, hf⟩ := bv_some hf
  refine cx_V (As := [.int x3]) (rest := []) cx (ct_xX5_reach l D C A adK adV hA h_r6) (cw_X5_57 hts ⟨Nat.le_of_ble_eq_true rfl, Nat.le_of_ble_eq_true rfl⟩) (va_recv hK hP (ci := 5) (q0 := 10) rfl (wX_10 A C _)) hP hS rfl hl.1 rfl (Nat.le_of_ble_eq_true rfl) dX5_followOrder_36 ⟨Nat.zero_le _, Nat.zero_le _⟩ (fun H locs hP hS => ?_)
  exact w_F_xX5_followOrder_39 hA cx _ _ _ _ _ _ hf (lv_sub hl [0, 1, 2] rfl) hP hS
set_option maxHeartbeats 4000000 in
set_option maxRecDepth 100000 in
theorem w_F_xX5_followOrder_22 {p : Program} {l : Launch} {e : Env} {s : State} {m : MethodId} {args : Array Value} {below : List Frame} {meth : Method} {c : Code} {D : va_G} {C : Nat → ClassId} {A adK adV : Nat → Nat} (hA : apA A 60) (cx : Cxx D C adK adV (fxA A 60) p s m args meth c cX5_followOrder 4 RX5 none) {res : St} : ∀ (x2 : Int32) (x3 : Int32) (σ : St) (H : Heap) (locs : List Loc) (ls : Array Slot), F_xX5_followOrder_22 x2 x3 σ = some res → lv_has ls 4 [(0, .ref (A 10)), (2, .int x2), (3, .int x3)] → va_P D vwCl (wX A C σ) H → va_S (fxA A 60) s.heap H locs → W p l e rm_X5_followOrder s m args below meth c H locs 0 0 (MQ below (Qcx D (wX A C) (fxA A 60) none res) args s 0 0 (fxA A 60)) (F0 m 22 ls []) := by
  obtain ⟨hx, hb, hml, hown, hts, hK, hr, hlk, hZ⟩ := id cx
  intro x2 x3 σ H locs ls hf hl hP hS
  refine lv_iload_n hx hb dX5_followOrder_22 rfl (lv_at hl 1 rfl) ?_
  refine lv_bipush (v := 6) hx hb dX5_followOrder_23 (by decide) ?_
  refine lv_icmp_eq (tgt := 34) hx hb dX5_followOrder_25 (by decide) (fun c7 => ?_) (fun c7 => ?_)
  · have hf := (if_pos c7).symm.trans hf
    exact w_F_xX5_followOrder_34 hA cx _ _ _ _ _ _ hf (lv_sub hl [0, 1, 2] rfl) hP hS
  · have hf := (if_neg c7).symm.trans hf
    refine lv_iload_n hx hb dX5_followOrder_28 rfl (lv_at hl 1 rfl) ?_
    refine lv_bipush (v := 7) hx hb dX5_followOrder_29 (by decide) ?_
    refine lv_icmp_ne (tgt := 39) hx hb dX5_followOrder_31 (by decide) (fun c8 => ?_) (fun c8 => ?_)
    · have hf := (if_neg c8).symm.trans hf
      exact w_F_xX5_followOrder_39 hA cx _ _ _ _ _ _ hf (lv_sub hl [0, 1, 2] rfl) hP hS
    · have hf := (if_pos c8).symm.trans hf
      exact w_F_xX5_followOrder_34 hA cx _ _ _ _ _ _ hf (lv_sub hl [0, 1, 2] rfl) hP hS
set_option maxHeartbeats 4000000 in
set_option maxRecDepth 100000 in
theorem ct_xX5_followOrder (l : Launch) (D : va_G) (C : Nat → ClassId) (A adK adV : Nat → Nat) (hA : apA A 60) {x1 : Int32} {σ : St} {res : St} (hf : F_xX5_followOrder x1 σ = some res) : Met l yX5_followOrder (Cond.code yX5_followOrder cX5_followOrder 4 none :: wsL_law) rm_X5_followOrder (Pcx D C (wX A C) adK adV (fxA A 60) [.ref (A 10), .int x1] σ) (Qcx D (wX A C) (fxA A 60) none res) 0 0 (fxA A 60) := by
  refine Met.ofW (cc := cX5_followOrder) (maxL := 4) (ret := none) (by decide) rfl ?_
  intro p e s m args below meth c s₁ B hml hv
  obtain ⟨rfl, hP, hK, hZ⟩ := hv
  have cx : Cxx D C adK adV (fxA A 60) p s m _ meth c cX5_followOrder 4 RX5 none := ⟨B.exec, B.bytes, hml, findClass_of_methodNamed B.named, fun w h => atoms_spec (ws := Cond.code yX5_followOrder cX5_followOrder 4 none :: wsL_law) B.pre w (List.mem_cons_of_mem _ h), hK, B.returns, B.notSynchronized, hZ⟩
  obtain ⟨hx, hb, -, hown, hts, -, hr, hlk, -⟩ := id cx
  have hS : va_S (fxA A 60) s.heap s.heap [] := va_S.rf
  have hl := lv_entry ([.ref (A 10), .int x1]) (n := 4) (Nat.le_of_ble_eq_true rfl)
  rw [lg_entry_eq]
  generalize (lg_sl ([.ref (A 10), .int x1]) ++ List.replicate (4 - (lg_sl ([.ref (A 10), .int x1])).length) Slot.unset).toArray = ls at hl ⊢
  have hl : lv_has ls 4 [(0, .ref (A 10)), (1, .int x1)] := hl
  show W p l e rm_X5_followOrder s m _ below meth c s.heap [] 0 0 _ _
  refine lv_iload_n hx hb dX5_followOrder_0 rfl (lv_at hl 1 rfl) ?_
  obtain ⟨⟨r9, σ_r9⟩, h_r9, hf⟩ := bd_some hf
  refine cx_S (As := [.int x1]) (rest := []) cx (ct_xX5_opOf l D C A adK adV hA h_r9) (cw_X5_34 hts ⟨Nat.le_of_ble_eq_true rfl, Nat.le_of_ble_eq_true rfl⟩) hP hS rfl hl.1 rfl (Nat.le_of_ble_eq_true rfl) dX5_followOrder_1 ⟨Nat.zero_le _, Nat.zero_le _⟩ (fun H locs hP hS => ?_)
  refine lv_istore_n (lv' := [(2, .int r9), (0, .ref (A 10)), (1, .int x1)]) hx hb dX5_followOrder_4 rfl hl (by decide) rfl (fun ls hl => ?_)
  refine lv_iload_n hx hb dX5_followOrder_5 rfl (lv_at hl 2 rfl) ?_
  obtain ⟨⟨r10, σ_r10⟩, h_r10, hf⟩ := bd_some hf
  refine cx_S (As := [.int x1]) (rest := []) cx (ct_xX5_wordOf l D C A adK adV hA h_r10) (cw_X5_38 hts ⟨Nat.le_of_ble_eq_true rfl, Nat.le_of_ble_eq_true rfl⟩) hP hS rfl hl.1 rfl (Nat.le_of_ble_eq_true rfl) dX5_followOrder_6 ⟨Nat.zero_le _, Nat.zero_le _⟩ (fun H locs hP hS => ?_)
  refine lv_istore_n (lv' := [(3, .int r10), (2, .int r9), (0, .ref (A 10)), (1, .int x1)]) hx hb dX5_followOrder_9 rfl hl (by decide) rfl (fun ls hl => ?_)
  refine lv_iload_n hx hb dX5_followOrder_10 rfl (lv_at hl 1 rfl) ?_
  refine lv_if_eq (tgt := 22) hx hb dX5_followOrder_11 (by decide) (fun c11 => ?_) (fun c11 => ?_)
  · have hf := (if_pos c11).symm.trans hf
    exact w_F_xX5_followOrder_22 hA cx _ _ _ _ _ _ hf (lv_sub hl [2, 1, 0] rfl) hP hS
  · have hf := (if_neg c11).symm.trans hf
    refine lv_aload_n hx hb dX5_followOrder_14 rfl (lv_at hl 2 rfl) ?_
    refine lv_iload_n hx hb dX5_followOrder_15 rfl (lv_at hl 3 rfl) ?_
    obtain ⟨⟨r12, σ_r12⟩, h_r12, hf⟩ := bd_some hf
    refine cx_S (As := [.int x1]) (rest := [.ref (A 10)]) cx (ct_xX5_nextOf l D C A adK adV hA h_r12) (cw_X5_45 hts ⟨Nat.le_of_ble_eq_true rfl, Nat.le_of_ble_eq_true rfl⟩) hP hS rfl hl.1 rfl (Nat.le_of_ble_eq_true rfl) dX5_followOrder_16 ⟨Nat.zero_le _, Nat.zero_le _⟩ (fun H locs hP hS => ?_)
    obtain ⟨σ_r13, h_r13, hf⟩ := bv_some hf
    refine cx_V (As := [.int r12]) (rest := []) cx (ct_xX5_reach l D C A adK adV hA h_r13) (cw_X5_57 hts ⟨Nat.le_of_ble_eq_true rfl, Nat.le_of_ble_eq_true rfl⟩) (va_recv hK hP (ci := 5) (q0 := 10) rfl (wX_10 A C _)) hP hS rfl hl.1 rfl (Nat.le_of_ble_eq_true rfl) dX5_followOrder_19 ⟨Nat.zero_le _, Nat.zero_le _⟩ (fun H locs hP hS => ?_)
    exact w_F_xX5_followOrder_22 hA cx _ _ _ _ _ _ hf (lv_sub hl [2, 1, 0] rfl) hP hS
set_option maxHeartbeats 4000000 in
set_option maxRecDepth 100000 in
theorem w_F_xJ7_fill_53178_5 {p : Program} {l : Launch} {e : Env} {s : State} {m : MethodId} {args : Array Value} {below : List Frame} {meth : Method} {c : Code} {D : va_G} {C : Nat → ClassId} {A adK adV : Nat → Nat} (hA : apA A 60) (cx : Cxx D C adK adV (fxA A 60) p s m args meth c cJ7_fill_53178 4 RJ7 none) {res : St} : ∀ (n : Nat), ∀ (x1 : Int32) (x2 : Int32) (x3 : Int32) (σ : St) (H : Heap) (locs : List Loc) (ls : Array Slot), F_xJ7_fill_53178_5 n x1 x2 x3 σ = some res → lv_has ls 4 [(0, .ref (A 12)), (1, .int x1), (2, .int x2), (3, .int x3)] → va_P D vwCl (wX A C σ) H → va_S (fxA A 60) s.heap H locs → W p l e rm_J7_fill_53178 s m args below meth c H locs 0 0 (MQ below (Qcx D (wX A C) (fxA A 60) none res) args s 0 0 (fxA A 60)) (F0 m 5 ls []) := by
  obtain ⟨hx, hb, hml, hown, hts, hK, hr, hlk, hZ⟩ := id cx
  intro n
  induction n with
  | zero =>
    intro x1 x2 x3 σ H locs ls hf hl hP hS
    exact absurd (show (none : Option St) = some res from hf) (by intro h; cases h)
  | succ n ih =>
    intro x1 x2 x3 σ H locs ls hf hl hP hS
    refine lv_iload_n hx hb dJ7_fill_53178_5 rfl (lv_at hl 2 rfl) ?_
    refine lv_iload_n hx hb dJ7_fill_53178_6 rfl (lv_at hl 3 rfl) ?_
    refine lv_icmp_ge (tgt := 20) hx hb dJ7_fill_53178_7 (by decide) (fun c1 => ?_) (fun c1 => ?_)
    · have hf := (if_pos c1).symm.trans hf
      exact cx_vret cx hP hS hf dJ7_fill_53178_20
    · have hf := (if_neg c1).symm.trans hf
      refine lv_aload_n hx hb dJ7_fill_53178_10 rfl (lv_at hl 0 rfl) ?_
      refine lv_iload_n hx hb dJ7_fill_53178_11 rfl (lv_at hl 2 rfl) ?_
      refine lv_iload_n hx hb dJ7_fill_53178_12 rfl (lv_at hl 1 rfl) ?_
      obtain ⟨z2, hf⟩ := gd_some hf
      refine pX_a12 hx hb hK hP hA hS (ib_in z2) dJ7_fill_53178_13 (fun H locs hP hS => ?_)
      refine lv_iinc (v := (x2 + 1)) (lv' := [(2, .int (x2 + 1)), (0, .ref (A 12)), (1, .int x1), (3, .int x3)]) hx hb dJ7_fill_53178_14 hl (k := 2) rfl rfl (by decide) rfl (fun ls hl => ?_)
      refine lv_goto (tgt := 5) hx hb dJ7_fill_53178_17 (by decide) ?_
      have hP : va_P D vwCl (wX A C (sA σ 12 (upd (σ.2.1 12) x2.toNatClampNeg x1))) H := hP
      exact ih _ _ _ _ _ _ _ hf (lv_sub hl [1, 2, 0, 3] rfl) hP hS
set_option maxHeartbeats 4000000 in
set_option maxRecDepth 100000 in
theorem ct_xJ7_fill_53178 (l : Launch) (D : va_G) (C : Nat → ClassId) (A adK adV : Nat → Nat) (hA : apA A 60) {x1 : Int32} {σ : St} {res : St} (hf : F_xJ7_fill_53178 x1 σ = some res) : Met l yJ7_fill_53178 (Cond.code yJ7_fill_53178 cJ7_fill_53178 4 none :: wsL_law) rm_J7_fill_53178 (Pcx D C (wX A C) adK adV (fxA A 60) [.ref (A 12), .int x1] σ) (Qcx D (wX A C) (fxA A 60) none res) 0 0 (fxA A 60) := by
  refine Met.ofW (cc := cJ7_fill_53178) (maxL := 4) (ret := none) (by decide) rfl ?_
  intro p e s m args below meth c s₁ B hml hv
  obtain ⟨rfl, hP, hK, hZ⟩ := hv
  have cx : Cxx D C adK adV (fxA A 60) p s m _ meth c cJ7_fill_53178 4 RJ7 none := ⟨B.exec, B.bytes, hml, findClass_of_methodNamed B.named, fun w h => atoms_spec (ws := Cond.code yJ7_fill_53178 cJ7_fill_53178 4 none :: wsL_law) B.pre w (List.mem_cons_of_mem _ h), hK, B.returns, B.notSynchronized, hZ⟩
  obtain ⟨hx, hb, -, hown, hts, -, hr, hlk, -⟩ := id cx
  have hS : va_S (fxA A 60) s.heap s.heap [] := va_S.rf
  have hl := lv_entry ([.ref (A 12), .int x1]) (n := 4) (Nat.le_of_ble_eq_true rfl)
  rw [lg_entry_eq]
  generalize (lg_sl ([.ref (A 12), .int x1]) ++ List.replicate (4 - (lg_sl ([.ref (A 12), .int x1])).length) Slot.unset).toArray = ls at hl ⊢
  have hl : lv_has ls 4 [(0, .ref (A 12)), (1, .int x1)] := hl
  show W p l e rm_J7_fill_53178 s m _ below meth c s.heap [] 0 0 _ _
  refine lv_iconst (v := 0) hx hb dJ7_fill_53178_0 (by decide) ?_
  refine lv_istore_n (lv' := [(2, .int 0), (0, .ref (A 12)), (1, .int x1)]) hx hb dJ7_fill_53178_1 rfl hl (by decide) rfl (fun ls hl => ?_)
  refine lv_aload_n hx hb dJ7_fill_53178_2 rfl (lv_at hl 1 rfl) ?_
  refine va_alen hx hb hK hP 12 1 (wX_12 A C _) rfl (v := 40) rfl dJ7_fill_53178_3 ?_
  refine lv_istore_n (lv' := [(3, .int 40), (2, .int 0), (0, .ref (A 12)), (1, .int x1)]) hx hb dJ7_fill_53178_4 rfl hl (by decide) rfl (fun ls hl => ?_)
  exact w_F_xJ7_fill_53178_5 hA cx FU _ _ _ _ _ _ _ hf (lv_sub hl [2, 3, 1, 0] rfl) hP hS
set_option maxHeartbeats 4000000 in
set_option maxRecDepth 100000 in
theorem w_F_xX5_kindOf_23 {p : Program} {l : Launch} {e : Env} {s : State} {m : MethodId} {args : Array Value} {below : List Frame} {meth : Method} {c : Code} {D : va_G} {C : Nat → ClassId} {A adK adV : Nat → Nat} (hA : apA A 60) (cx : Cxx D C adK adV (fxA A 60) p s m args meth c cX5_kindOf 3 RX5 (some .int)) {res : (Int32 × St)} : ∀ (n : Nat), ∀ (x1 : Int32) (x2 : Int32) (σ : St) (H : Heap) (locs : List Loc) (ls : Array Slot), F_xX5_kindOf_23 n x1 x2 σ = some res → lv_has ls 3 [(0, .ref (A 10)), (1, .int x1), (2, .int x2)] → va_P D vwCl (wX A C σ) H → va_S (fxA A 60) s.heap H locs → W p l e rm_X5_kindOf s m args below meth c H locs 0 0 (MQ below (Qcx D (wX A C) (fxA A 60) (some (.int res.1)) res.2) args s 0 0 (fxA A 60)) (F0 m 23 ls []) := by
  obtain ⟨hx, hb, hml, hown, hts, hK, hr, hlk, hZ⟩ := id cx
  intro n
  induction n with
  | zero =>
    intro x1 x2 σ H locs ls hf hl hP hS
    exact absurd (show (none : Option (Int32 × St)) = some res from hf) (by intro h; cases h)
  | succ n ih =>
    intro x1 x2 σ H locs ls hf hl hP hS
    refine lv_iload_n hx hb dX5_kindOf_23 rfl (lv_at hl 2 rfl) ?_
    refine lv_aload_n hx hb dX5_kindOf_24 rfl (lv_at hl 0 rfl) ?_
    refine gX_10_5 hx hb hts hown hK hP (v := (σ.1 13)) rfl (hts _ kw_1055) dX5_kindOf_25 ?_
    refine lv_icmp_ge (tgt := 58) hx hb dX5_kindOf_28 (by decide) (fun c1 => ?_) (fun c1 => ?_)
    · have hf := (if_pos c1).symm.trans hf
      refine lv_aload_n hx hb dX5_kindOf_58 rfl (lv_at hl 0 rfl) ?_
      refine gX_10_3 hx hb hts hown hK hP (hts _ kw_80) dX5_kindOf_59 ?_
      refine lv_iload_n hx hb dX5_kindOf_62 rfl (lv_at hl 1 rfl) ?_
      obtain ⟨z2, hf⟩ := gd_some hf
      refine gX_a12 hx hb hK hP (ib_in z2) (v := (σ.2.1 12 x1.toNatClampNeg)) rfl dX5_kindOf_63 ?_
      exact cx_iret cx hP hS hf dX5_kindOf_64
    · have hf := (if_neg c1).symm.trans hf
      refine lv_iload_n hx hb dX5_kindOf_31 rfl (lv_at hl 2 rfl) ?_
      refine lv_bipush (v := 40) hx hb dX5_kindOf_32 (by decide) ?_
      refine lv_icmp_ge (tgt := 58) hx hb dX5_kindOf_34 (by decide) (fun c3 => ?_) (fun c3 => ?_)
      · have hf := (if_pos c3).symm.trans hf
        refine lv_aload_n hx hb dX5_kindOf_58 rfl (lv_at hl 0 rfl) ?_
        refine gX_10_3 hx hb hts hown hK hP (hts _ kw_80) dX5_kindOf_59 ?_
        refine lv_iload_n hx hb dX5_kindOf_62 rfl (lv_at hl 1 rfl) ?_
        obtain ⟨z4, hf⟩ := gd_some hf
        refine gX_a12 hx hb hK hP (ib_in z4) (v := (σ.2.1 12 x1.toNatClampNeg)) rfl dX5_kindOf_63 ?_
        exact cx_iret cx hP hS hf dX5_kindOf_64
      · have hf := (if_neg c3).symm.trans hf
        refine lv_aload_n hx hb dX5_kindOf_37 rfl (lv_at hl 0 rfl) ?_
        refine lv_aload_n hx hb dX5_kindOf_38 rfl (lv_at hl 0 rfl) ?_
        refine gX_10_2 hx hb hts hown hK hP (hts _ kw_79) dX5_kindOf_39 ?_
        refine lv_aload_n hx hb dX5_kindOf_42 rfl (lv_at hl 0 rfl) ?_
        refine gX_10_4 hx hb hts hown hK hP (hts _ kw_81) dX5_kindOf_43 ?_
        refine lv_iload_n hx hb dX5_kindOf_46 rfl (lv_at hl 2 rfl) ?_
        obtain ⟨z5, hf⟩ := gd_some hf
        refine gX_a13 hx hb hK hP (ib_in z5) (v := (σ.2.1 13 x2.toNatClampNeg)) rfl dX5_kindOf_47 ?_
        obtain ⟨z6, hf⟩ := gd_some hf
        refine gX_a11 hx hb hK hP (ib_in z6) (v := (σ.2.1 11 (σ.2.1 13 x2.toNatClampNeg).toNatClampNeg)) rfl dX5_kindOf_48 ?_
        obtain ⟨σ_r7, h_r7, hf⟩ := bv_some hf
        refine cx_V (As := [.int (σ.2.1 11 (σ.2.1 13 x2.toNatClampNeg).toNatClampNeg)]) (rest := []) cx (ct_xX5_followOrder l D C A adK adV hA h_r7) (cw_X5_61 hts ⟨Nat.le_of_ble_eq_true rfl, Nat.le_of_ble_eq_true rfl⟩) (va_recv hK hP (ci := 5) (q0 := 10) rfl (wX_10 A C _)) hP hS rfl hl.1 rfl (Nat.le_of_ble_eq_true rfl) dX5_kindOf_49 ⟨Nat.zero_le _, Nat.zero_le _⟩ (fun H locs hP hS => ?_)
        refine lv_iinc (v := (x2 + 1)) (lv' := [(2, .int (x2 + 1)), (0, .ref (A 10)), (1, .int x1)]) hx hb dX5_kindOf_52 hl (k := 2) rfl rfl (by decide) rfl (fun ls hl => ?_)
        refine lv_goto (tgt := 23) hx hb dX5_kindOf_55 (by decide) ?_
        exact ih _ _ _ _ _ _ hf (lv_sub hl [1, 2, 0] rfl) hP hS
set_option maxHeartbeats 4000000 in
set_option maxRecDepth 100000 in
theorem ct_xX5_kindOf (l : Launch) (D : va_G) (C : Nat → ClassId) (A adK adV : Nat → Nat) (hA : apA A 60) {x1 : Int32} {σ : St} {res : (Int32 × St)} (hf : F_xX5_kindOf x1 σ = some res) : Met l yX5_kindOf (Cond.code yX5_kindOf cX5_kindOf 3 (some .int) :: wsL_law) rm_X5_kindOf (Pcx D C (wX A C) adK adV (fxA A 60) [.ref (A 10), .int x1] σ) (Qcx D (wX A C) (fxA A 60) (some (.int res.1)) res.2) 0 0 (fxA A 60) := by
  refine Met.ofW (cc := cX5_kindOf) (maxL := 3) (ret := (some .int)) (by decide) rfl ?_
  intro p e s m args below meth c s₁ B hml hv
  obtain ⟨rfl, hP, hK, hZ⟩ := hv
  have cx : Cxx D C adK adV (fxA A 60) p s m _ meth c cX5_kindOf 3 RX5 (some .int) := ⟨B.exec, B.bytes, hml, findClass_of_methodNamed B.named, fun w h => atoms_spec (ws := Cond.code yX5_kindOf cX5_kindOf 3 (some .int) :: wsL_law) B.pre w (List.mem_cons_of_mem _ h), hK, B.returns, B.notSynchronized, hZ⟩
  obtain ⟨hx, hb, -, hown, hts, -, hr, hlk, -⟩ := id cx
  have hS : va_S (fxA A 60) s.heap s.heap [] := va_S.rf
  have hl := lv_entry ([.ref (A 10), .int x1]) (n := 3) (Nat.le_of_ble_eq_true rfl)
  rw [lg_entry_eq]
  generalize (lg_sl ([.ref (A 10), .int x1]) ++ List.replicate (3 - (lg_sl ([.ref (A 10), .int x1])).length) Slot.unset).toArray = ls at hl ⊢
  have hl : lv_has ls 3 [(0, .ref (A 10)), (1, .int x1)] := hl
  show W p l e rm_X5_kindOf s m _ below meth c s.heap [] 0 0 _ _
  refine lv_aload_n hx hb dX5_kindOf_0 rfl (lv_at hl 0 rfl) ?_
  refine gX_10_3 hx hb hts hown hK hP (hts _ kw_80) dX5_kindOf_1 ?_
  refine lv_iconst (v := 0) hx hb dX5_kindOf_4 (by decide) ?_
  obtain ⟨σ_r8, h_r8, hf⟩ := bv_some hf
  refine cx_S (As := [.ref (A 12), .int 0]) (rest := []) cx (ct_xJ7_fill_53178 l D C A adK adV hA h_r8) (cw_X5_48 hts ⟨Nat.le_of_ble_eq_true rfl, Nat.le_of_ble_eq_true rfl⟩) hP hS rfl hl.1 rfl (Nat.le_of_ble_eq_true rfl) dX5_kindOf_5 ⟨Nat.zero_le _, Nat.zero_le _⟩ (fun H locs hP hS => ?_)
  refine lv_aload_n hx hb dX5_kindOf_8 rfl (lv_at hl 0 rfl) ?_
  refine lv_iconst (v := 0) hx hb dX5_kindOf_9 (by decide) ?_
  refine pX_10_5 hx hb hts hown hK hP hA hS (hts _ kw_1055) dX5_kindOf_10 (fun H locs hP hS => ?_)
  refine lv_aload_n hx hb dX5_kindOf_13 rfl (lv_at hl 0 rfl) ?_
  refine lv_aload_n hx hb dX5_kindOf_14 rfl (lv_at hl 0 rfl) ?_
  refine gX_10_1 hx hb hts hown hK hP (v := (σ_r8.1 12)) rfl (hts _ kw_368) dX5_kindOf_15 ?_
  have hP : va_P D vwCl (wX A C (sI σ_r8 13 0)) H := hP
  obtain ⟨σ_r9, h_r9, hf⟩ := bv_some hf
  refine cx_V (As := [.int (σ_r8.1 12)]) (rest := []) cx (ct_xX5_reach l D C A adK adV hA h_r9) (cw_X5_57 hts ⟨Nat.le_of_ble_eq_true rfl, Nat.le_of_ble_eq_true rfl⟩) (va_recv hK hP (ci := 5) (q0 := 10) rfl (wX_10 A C _)) hP hS rfl hl.1 rfl (Nat.le_of_ble_eq_true rfl) dX5_kindOf_18 ⟨Nat.zero_le _, Nat.zero_le _⟩ (fun H locs hP hS => ?_)
  refine lv_iconst (v := 0) hx hb dX5_kindOf_21 (by decide) ?_
  refine lv_istore_n (lv' := [(2, .int 0), (0, .ref (A 10)), (1, .int x1)]) hx hb dX5_kindOf_22 rfl hl (by decide) rfl (fun ls hl => ?_)
  exact w_F_xX5_kindOf_23 hA cx FU _ _ _ _ _ _ hf (lv_sub hl [1, 2, 0] rfl) hP hS
set_option maxHeartbeats 4000000 in
set_option maxRecDepth 100000 in
theorem ct_xX3_liesOnBad (l : Launch) (D : va_G) (C : Nat → ClassId) (A adK adV : Nat → Nat) (hA : apA A 60) {x1 : Int32} {σ : St} {res : (Int32 × St)} (hf : F_xX3_liesOnBad x1 σ = some res) : Met l yX3_liesOnBad (Cond.code yX3_liesOnBad cX3_liesOnBad 3 (some .boolean) :: wsL_law) rm_X3_liesOnBad (Pcx D C (wX A C) adK adV (fxA A 60) [.ref (A 25), .int x1] σ) (Qcx D (wX A C) (fxA A 60) (some (.int res.1)) res.2) 0 0 (fxA A 60) := by
  refine Met.ofW (cc := cX3_liesOnBad) (maxL := 3) (ret := (some .boolean)) (by decide) rfl ?_
  intro p e s m args below meth c s₁ B hml hv
  obtain ⟨rfl, hP, hK, hZ⟩ := hv
  have cx : Cxx D C adK adV (fxA A 60) p s m _ meth c cX3_liesOnBad 3 RX3 (some .boolean) := ⟨B.exec, B.bytes, hml, findClass_of_methodNamed B.named, fun w h => atoms_spec (ws := Cond.code yX3_liesOnBad cX3_liesOnBad 3 (some .boolean) :: wsL_law) B.pre w (List.mem_cons_of_mem _ h), hK, B.returns, B.notSynchronized, hZ⟩
  obtain ⟨hx, hb, -, hown, hts, -, hr, hlk, -⟩ := id cx
  have hS : va_S (fxA A 60) s.heap s.heap [] := va_S.rf
  have hl := lv_entry ([.ref (A 25), .int x1]) (n := 3) (Nat.le_of_ble_eq_true rfl)
  rw [lg_entry_eq]
  generalize (lg_sl ([.ref (A 25), .int x1]) ++ List.replicate (3 - (lg_sl ([.ref (A 25), .int x1])).length) Slot.unset).toArray = ls at hl ⊢
  have hl : lv_has ls 3 [(0, .ref (A 25)), (1, .int x1)] := hl
  show W p l e rm_X3_liesOnBad s m _ below meth c s.heap [] 0 0 _ _
  refine lv_iload_n hx hb dX3_liesOnBad_0 rfl (lv_at hl 1 rfl) ?_
  refine lv_if_lt (tgt := 10) hx hb dX3_liesOnBad_1 (by decide) (fun c1 => ?_) (fun c1 => ?_)
  · have hf := (if_pos c1).symm.trans hf
    refine lv_iconst (v := 0) hx hb dX3_liesOnBad_10 (by decide) ?_
    exact cx_zret cx rfl hP hS hf dX3_liesOnBad_11
  · have hf := (if_neg c1).symm.trans hf
    refine lv_iload_n hx hb dX3_liesOnBad_4 rfl (lv_at hl 1 rfl) ?_
    refine lv_bipush (v := 40) hx hb dX3_liesOnBad_5 (by decide) ?_
    refine lv_icmp_lt (tgt := 12) hx hb dX3_liesOnBad_7 (by decide) (fun c2 => ?_) (fun c2 => ?_)
    · have hf := (if_pos c2).symm.trans hf
      refine lv_aload_n hx hb dX3_liesOnBad_12 rfl (lv_at hl 0 rfl) ?_
      refine gX_25_2 hx hb hts hown hK hP (hts _ kw_99) dX3_liesOnBad_13 ?_
      refine lv_iload_n hx hb dX3_liesOnBad_16 rfl (lv_at hl 1 rfl) ?_
      obtain ⟨z3, hf⟩ := gd_some hf
      refine gX_a26 hx hb hK hP (ib_in z3) (v := (σ.2.1 26 x1.toNatClampNeg)) rfl dX3_liesOnBad_17 ?_
      refine lv_istore_n (lv' := [(2, .int (σ.2.1 26 x1.toNatClampNeg)), (0, .ref (A 25)), (1, .int x1)]) hx hb dX3_liesOnBad_18 rfl hl (by decide) rfl (fun ls hl => ?_)
      refine lv_iload_n hx hb dX3_liesOnBad_19 rfl (lv_at hl 0 rfl) ?_
      refine lv_if_lt (tgt := 43) hx hb dX3_liesOnBad_20 (by decide) (fun c4 => ?_) (fun c4 => ?_)
      · have hf := (if_pos c4).symm.trans hf
        refine lv_iconst (v := 0) hx hb dX3_liesOnBad_43 (by decide) ?_
        exact cx_zret cx rfl hP hS hf dX3_liesOnBad_44
      · have hf := (if_neg c4).symm.trans hf
        refine lv_iload_n hx hb dX3_liesOnBad_23 rfl (lv_at hl 0 rfl) ?_
        refine lv_sipush (v := 128) hx hb dX3_liesOnBad_24 (by decide) ?_
        refine lv_icmp_ge (tgt := 43) hx hb dX3_liesOnBad_27 (by decide) (fun c5 => ?_) (fun c5 => ?_)
        · have hf := (if_pos c5).symm.trans hf
          refine lv_iconst (v := 0) hx hb dX3_liesOnBad_43 (by decide) ?_
          exact cx_zret cx rfl hP hS hf dX3_liesOnBad_44
        · have hf := (if_neg c5).symm.trans hf
          refine lv_aload_n hx hb dX3_liesOnBad_30 rfl (lv_at hl 1 rfl) ?_
          refine gX_25_6 hx hb hts hown hK hP (hts _ kw_104) dX3_liesOnBad_31 ?_
          refine lv_iload_n hx hb dX3_liesOnBad_34 rfl (lv_at hl 0 rfl) ?_
          obtain ⟨z6, hf⟩ := gd_some hf
          refine gX_a30 hx hb hK hP (ib_in z6) (v := (σ.2.1 30 (σ.2.1 26 x1.toNatClampNeg).toNatClampNeg)) rfl dX3_liesOnBad_35 ?_
          refine lv_if_eq (tgt := 43) hx hb dX3_liesOnBad_36 (by decide) (fun c7 => ?_) (fun c7 => ?_)
          · have hf := (if_pos c7).symm.trans hf
            refine lv_iconst (v := 0) hx hb dX3_liesOnBad_43 (by decide) ?_
            exact cx_zret cx rfl hP hS hf dX3_liesOnBad_44
          · have hf := (if_neg c7).symm.trans hf
            refine lv_iconst (v := 1) hx hb dX3_liesOnBad_39 (by decide) ?_
            refine lv_goto (tgt := 44) hx hb dX3_liesOnBad_40 (by decide) ?_
            exact cx_zret cx rfl hP hS hf dX3_liesOnBad_44
    · have hf := (if_neg c2).symm.trans hf
      refine lv_iconst (v := 0) hx hb dX3_liesOnBad_10 (by decide) ?_
      exact cx_zret cx rfl hP hS hf dX3_liesOnBad_11
