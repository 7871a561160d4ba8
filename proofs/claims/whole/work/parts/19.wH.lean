set_option maxHeartbeats 4000000 in
set_option maxRecDepth 100000 in
theorem ct_xX5_clear (l : Launch) (D : va_G) (C : Nat → ClassId) (A adK adV : Nat → Nat) (hA : apA A 60)  {σ : St} {res : St} (hf : F_xX5_clear σ = some res) : Met l yX5_clear (Cond.code yX5_clear cX5_clear 1 none :: wsL_law) rm_X5_clear (Pcx D C (wX A C) adK adV (fxA A 60) [.ref (A 10)] σ) (Qcx D (wX A C) (fxA A 60) none res) 0 0 (fxA A 60) := by
  refine Met.ofW (cc := cX5_clear) (maxL := 1) (ret := none) (by decide) rfl ?_
  intro p e s m args below meth c s₁ B hml hv
  obtain ⟨rfl, hP, hK, hZ⟩ := hv
  have cx : Cxx D C adK adV (fxA A 60) p s m _ meth c cX5_clear 1 RX5 none := ⟨B.exec, B.bytes, hml, findClass_of_methodNamed B.named, fun w h => atoms_spec (ws := Cond.code yX5_clear cX5_clear 1 none :: wsL_law) B.pre w (List.mem_cons_of_mem _ h), hK, B.returns, B.notSynchronized, hZ⟩
  obtain ⟨hx, hb, -, hown, hts, -, hr, hlk, -⟩ := id cx
  have hS : va_S (fxA A 60) s.heap s.heap [] := va_S.rf
  have hl := lv_entry ([.ref (A 10)]) (n := 1) (Nat.le_of_ble_eq_true rfl)
  rw [lg_entry_eq]
  generalize (lg_sl ([.ref (A 10)]) ++ List.replicate (1 - (lg_sl ([.ref (A 10)])).length) Slot.unset).toArray = ls at hl ⊢
  have hl : lv_has ls 1 [(0, .ref (A 10))] := hl
  show W p l e rm_X5_clear s m _ below meth c s.heap [] 0 0 _ _
  refine lv_aload_n hx hb dX5_clear_0 rfl (lv_at hl 0 rfl) ?_
  refine lv_iconst (v := 0) hx hb dX5_clear_1 (by decide) ?_
  refine pX_10_0 hx hb hts hown hK hP hA hS (hts _ kw_367) dX5_clear_2 (fun H locs hP hS => ?_)
  refine lv_aload_n hx hb dX5_clear_5 rfl (lv_at hl 0 rfl) ?_
  refine lv_iconst (v := 0) hx hb dX5_clear_6 (by decide) ?_
  refine pX_10_1 hx hb hts hown hK hP hA hS (hts _ kw_368) dX5_clear_7 (fun H locs hP hS => ?_)
  have hP : va_P D vwCl (wX A C (sI (sI σ 11 0) 12 0)) H := hP
  exact cx_vret cx hP hS hf dX5_clear_10
set_option maxHeartbeats 4000000 in
set_option maxRecDepth 100000 in
theorem w_F_xX10_drum_60 {p : Program} {l : Launch} {e : Env} {s : State} {m : MethodId} {args : Array Value} {below : List Frame} {meth : Method} {c : Code} {D : va_G} {C : Nat → ClassId} {A adK adV : Nat → Nat} (hA : apA A 60) (cx : Cxx D C adK adV (fxA A 60) p s m args meth c cX10_drum 2 RX10 (some .int)) {res : (Int32 × St)} : ∀ (σ : St) (H : Heap) (locs : List Loc) (ls : Array Slot), F_xX10_drum_60 σ = some res → lv_has ls 2 [(0, .ref (A 0))] → va_P D vwCl (wX A C σ) H → va_S (fxA A 60) s.heap H locs → W p l e rm_X10_drum s m args below meth c H locs 0 0 (MQ below (Qcx D (wX A C) (fxA A 60) (some (.int res.1)) res.2) args s 0 0 (fxA A 60)) (F0 m 60 ls []) := by
  obtain ⟨hx, hb, hml, hown, hts, hK, hr, hlk, hZ⟩ := id cx
  intro σ H locs ls hf hl hP hS
  refine lv_aload_n hx hb dX10_drum_60 rfl (lv_at hl 0 rfl) ?_
  obtain ⟨σ_r1, h_r1, hf⟩ := bv_some hf
  refine cx_V (As := []) (rest := []) cx (ct_xX10_startAfresh l D C A adK adV hA h_r1) (cw_X10_117 hts ⟨Nat.le_of_ble_eq_true rfl, Nat.le_of_ble_eq_true rfl⟩) (va_recv hK hP (ci := 10) (q0 := 0) rfl (wX_0 A C _)) hP hS rfl hl.1 rfl (Nat.le_of_ble_eq_true rfl) dX10_drum_61 ⟨Nat.zero_le _, Nat.zero_le _⟩ (fun H locs hP hS => ?_)
  refine lv_aload_n hx hb dX10_drum_64 rfl (lv_at hl 0 rfl) ?_
  refine gX_0_1 hx hb hts hown hK hP (hts _ kw_20) dX10_drum_65 ?_
  obtain ⟨⟨r2, σ_r2⟩, h_r2, hf⟩ := bd_some hf
  refine cx_V (As := []) (rest := []) cx (ct_xX1_countSpots l D C A adK adV hA h_r2) (cw_X10_107 hts ⟨Nat.le_of_ble_eq_true rfl, Nat.le_of_ble_eq_true rfl⟩) (va_recv hK hP (ci := 1) (q0 := 3) rfl (wX_3 A C _)) hP hS rfl hl.1 rfl (Nat.le_of_ble_eq_true rfl) dX10_drum_68 ⟨Nat.zero_le _, Nat.zero_le _⟩ (fun H locs hP hS => ?_)
  exact cx_iret cx hP hS hf dX10_drum_71
set_option maxHeartbeats 4000000 in
set_option maxRecDepth 100000 in
theorem ct_xX10_drum (l : Launch) (D : va_G) (C : Nat → ClassId) (A adK adV : Nat → Nat) (hA : apA A 60)  {σ : St} {res : (Int32 × St)} (hf : F_xX10_drum σ = some res) : Met l yX10_drum (Cond.code yX10_drum cX10_drum 2 (some .int) :: wsL_law) rm_X10_drum (Pcx D C (wX A C) adK adV (fxA A 60) [.ref (A 0)] σ) (Qcx D (wX A C) (fxA A 60) (some (.int res.1)) res.2) 0 0 (fxA A 60) := by
  refine Met.ofW (cc := cX10_drum) (maxL := 2) (ret := (some .int)) (by decide) rfl ?_
  intro p e s m args below meth c s₁ B hml hv
  obtain ⟨rfl, hP, hK, hZ⟩ := hv
  have cx : Cxx D C adK adV (fxA A 60) p s m _ meth c cX10_drum 2 RX10 (some .int) := ⟨B.exec, B.bytes, hml, findClass_of_methodNamed B.named, fun w h => atoms_spec (ws := Cond.code yX10_drum cX10_drum 2 (some .int) :: wsL_law) B.pre w (List.mem_cons_of_mem _ h), hK, B.returns, B.notSynchronized, hZ⟩
  obtain ⟨hx, hb, -, hown, hts, -, hr, hlk, -⟩ := id cx
  have hS : va_S (fxA A 60) s.heap s.heap [] := va_S.rf
  have hl := lv_entry ([.ref (A 0)]) (n := 2) (Nat.le_of_ble_eq_true rfl)
  rw [lg_entry_eq]
  generalize (lg_sl ([.ref (A 0)]) ++ List.replicate (2 - (lg_sl ([.ref (A 0)])).length) Slot.unset).toArray = ls at hl ⊢
  have hl : lv_has ls 2 [(0, .ref (A 0))] := hl
  show W p l e rm_X10_drum s m _ below meth c s.heap [] 0 0 _ _
  refine lv_aload_n hx hb dX10_drum_0 rfl (lv_at hl 0 rfl) ?_
  refine gX_0_2 hx hb hts hown hK hP (hts _ kw_24) dX10_drum_1 ?_
  obtain ⟨⟨r3, σ_r3⟩, h_r3, hf⟩ := bd_some hf
  refine cx_V (As := []) (rest := []) cx (ct_xX2_read l D C A adK adV hA h_r3) (cw_X10_97 hts ⟨Nat.le_of_ble_eq_true rfl, Nat.le_of_ble_eq_true rfl⟩) (va_recv hK hP (ci := 2) (q0 := 6) rfl (wX_6 A C _)) hP hS rfl hl.1 rfl (Nat.le_of_ble_eq_true rfl) dX10_drum_4 ⟨Nat.zero_le _, Nat.zero_le _⟩ (fun H locs hP hS => ?_)
  refine lv_istore_n (lv' := [(1, .int r3), (0, .ref (A 0))]) hx hb dX10_drum_7 rfl hl (by decide) rfl (fun ls hl => ?_)
  refine lv_aload_n hx hb dX10_drum_8 rfl (lv_at hl 1 rfl) ?_
  refine gX_0_0 hx hb hts hown hK hP (hts _ kw_16) dX10_drum_9 ?_
  refine lv_iconst (v := 0) hx hb dX10_drum_12 (by decide) ?_
  refine pX_1_1 hx hb hts hown hK hP hA hS (hts _ kw_192) dX10_drum_13 (fun H locs hP hS => ?_)
  refine lv_iload_n hx hb dX10_drum_16 rfl (lv_at hl 0 rfl) ?_
  refine lv_if_ne (tgt := 22) hx hb dX10_drum_17 (by decide) (fun c4 => ?_) (fun c4 => ?_)
  · have hf := (if_neg c4).symm.trans hf
    refine lv_aload_n hx hb dX10_drum_22 rfl (lv_at hl 1 rfl) ?_
    refine gX_0_1 hx hb hts hown hK hP (hts _ kw_20) dX10_drum_23 ?_
    refine lv_aload_n hx hb dX10_drum_26 rfl (lv_at hl 1 rfl) ?_
    refine gX_0_2 hx hb hts hown hK hP (hts _ kw_24) dX10_drum_27 ?_
    refine gX_6_1 hx hb hts hown hK hP (hts _ kw_219) dX10_drum_30 ?_
    have hP : va_P D vwCl (wX A C (sI σ_r3 0 0)) H := hP
    obtain ⟨σ_r5, h_r5, hf⟩ := bv_some hf
    refine cx_V (As := [.ref (A 7)]) (rest := []) cx (ct_xX1_copyFrom l D C A adK adV hA h_r5) (cw_X10_104 hts ⟨Nat.le_of_ble_eq_true rfl, Nat.le_of_ble_eq_true rfl⟩) (va_recv hK hP (ci := 1) (q0 := 3) rfl (wX_3 A C _)) hP hS rfl hl.1 rfl (Nat.le_of_ble_eq_true rfl) dX10_drum_33 ⟨Nat.zero_le _, Nat.zero_le _⟩ (fun H locs hP hS => ?_)
    refine lv_aload_n hx hb dX10_drum_36 rfl (lv_at hl 1 rfl) ?_
    refine gX_0_1 hx hb hts hown hK hP (hts _ kw_20) dX10_drum_37 ?_
    obtain ⟨⟨r6, σ_r6⟩, h_r6, hf⟩ := bd_some hf
    refine cx_V (As := []) (rest := []) cx (ct_xX1_countSpots l D C A adK adV hA h_r6) (cw_X10_107 hts ⟨Nat.le_of_ble_eq_true rfl, Nat.le_of_ble_eq_true rfl⟩) (va_recv hK hP (ci := 1) (q0 := 3) rfl (wX_3 A C _)) hP hS rfl hl.1 rfl (Nat.le_of_ble_eq_true rfl) dX10_drum_40 ⟨Nat.zero_le _, Nat.zero_le _⟩ (fun H locs hP hS => ?_)
    refine lv_aload_n hx hb dX10_drum_43 rfl (lv_at hl 1 rfl) ?_
    refine gX_0_3 hx hb hts hown hK hP (hts _ kw_28) dX10_drum_44 ?_
    refine gX_10_0 hx hb hts hown hK hP (v := (σ_r6.1 11)) rfl (hts _ kw_220) dX10_drum_47 ?_
    refine lv_icmp_ge (tgt := 60) hx hb dX10_drum_50 (by decide) (fun c7 => ?_) (fun c7 => ?_)
    · have hf := (if_pos c7).symm.trans hf
      exact w_F_xX10_drum_60 hA cx _ _ _ _ hf (lv_sub hl [1] rfl) hP hS
    · have hf := (if_neg c7).symm.trans hf
      refine lv_aload_n hx hb dX10_drum_53 rfl (lv_at hl 1 rfl) ?_
      refine gX_0_3 hx hb hts hown hK hP (hts _ kw_28) dX10_drum_54 ?_
      obtain ⟨σ_r8, h_r8, hf⟩ := bv_some hf
      refine cx_V (As := []) (rest := []) cx (ct_xX5_clear l D C A adK adV hA h_r8) (cw_X10_114 hts ⟨Nat.le_of_ble_eq_true rfl, Nat.le_of_ble_eq_true rfl⟩) (va_recv hK hP (ci := 5) (q0 := 10) rfl (wX_10 A C _)) hP hS rfl hl.1 rfl (Nat.le_of_ble_eq_true rfl) dX10_drum_57 ⟨Nat.zero_le _, Nat.zero_le _⟩ (fun H locs hP hS => ?_)
      exact w_F_xX10_drum_60 hA cx _ _ _ _ hf (lv_sub hl [1] rfl) hP hS
  · have hf := (if_pos c4).symm.trans hf
    refine lv_iconst (v := (-1)) hx hb dX10_drum_20 (by decide) ?_
    have hP : va_P D vwCl (wX A C (sI σ_r3 0 0)) H := hP
    exact cx_iret cx hP hS hf dX10_drum_21
set_option maxHeartbeats 4000000 in
set_option maxRecDepth 100000 in
theorem w_F_xX6_find_2 {p : Program} {l : Launch} {e : Env} {s : State} {m : MethodId} {args : Array Value} {below : List Frame} {meth : Method} {c : Code} {D : va_G} {C : Nat → ClassId} {A adK adV : Nat → Nat} (hA : apA A 60) (cx : Cxx D C adK adV (fxA A 60) p s m args meth c cX6_find 3 RX6 (some .int)) {res : (Int32 × St)} : ∀ (n : Nat), ∀ (x1 : Int32) (x2 : Int32) (σ : St) (H : Heap) (locs : List Loc) (ls : Array Slot), F_xX6_find_2 n x1 x2 σ = some res → lv_has ls 3 [(0, .ref (A 14)), (1, .int x1), (2, .int x2)] → va_P D vwCl (wX A C σ) H → va_S (fxA A 60) s.heap H locs → W p l e rm_X6_find s m args below meth c H locs 0 0 (MQ below (Qcx D (wX A C) (fxA A 60) (some (.int res.1)) res.2) args s 0 0 (fxA A 60)) (F0 m 2 ls []) := by
  obtain ⟨hx, hb, hml, hown, hts, hK, hr, hlk, hZ⟩ := id cx
  intro n
  induction n with
  | zero =>
    intro x1 x2 σ H locs ls hf hl hP hS
    exact absurd (show (none : Option (Int32 × St)) = some res from hf) (by intro h; cases h)
  | succ n ih =>
    intro x1 x2 σ H locs ls hf hl hP hS
    refine lv_iload_n hx hb dX6_find_2 rfl (lv_at hl 2 rfl) ?_
    refine lv_aload_n hx hb dX6_find_3 rfl (lv_at hl 0 rfl) ?_
    refine gX_14_1 hx hb hts hown hK hP (hts _ kw_87) dX6_find_4 ?_
    refine gX_15_0 hx hb hts hown hK hP (v := (σ.1 14)) rfl (hts _ kw_489) dX6_find_7 ?_
    refine lv_icmp_ge (tgt := 37) hx hb dX6_find_10 (by decide) (fun c1 => ?_) (fun c1 => ?_)
    · have hf := (if_pos c1).symm.trans hf
      refine lv_iconst (v := (-1)) hx hb dX6_find_37 (by decide) ?_
      exact cx_iret cx hP hS hf dX6_find_38
    · have hf := (if_neg c1).symm.trans hf
      refine lv_iload_n hx hb dX6_find_13 rfl (lv_at hl 2 rfl) ?_
      refine lv_bipush (v := 40) hx hb dX6_find_14 (by decide) ?_
      refine lv_icmp_ge (tgt := 37) hx hb dX6_find_16 (by decide) (fun c2 => ?_) (fun c2 => ?_)
      · have hf := (if_pos c2).symm.trans hf
        refine lv_iconst (v := (-1)) hx hb dX6_find_37 (by decide) ?_
        exact cx_iret cx hP hS hf dX6_find_38
      · have hf := (if_neg c2).symm.trans hf
        refine lv_aload_n hx hb dX6_find_19 rfl (lv_at hl 0 rfl) ?_
        refine gX_14_2 hx hb hts hown hK hP (hts _ kw_88) dX6_find_20 ?_
        refine lv_iload_n hx hb dX6_find_23 rfl (lv_at hl 2 rfl) ?_
        obtain ⟨z3, hf⟩ := gd_some hf
        refine gX_a19 hx hb hK hP (ib_in z3) (v := (σ.2.1 19 x2.toNatClampNeg)) rfl dX6_find_24 ?_
        refine lv_iload_n hx hb dX6_find_25 rfl (lv_at hl 1 rfl) ?_
        refine lv_icmp_ne (tgt := 31) hx hb dX6_find_26 (by decide) (fun c4 => ?_) (fun c4 => ?_)
        · have hf := (if_neg c4).symm.trans hf
          refine lv_iinc (v := (x2 + 1)) (lv' := [(2, .int (x2 + 1)), (0, .ref (A 14)), (1, .int x1)]) hx hb dX6_find_31 hl (k := 2) rfl rfl (by decide) rfl (fun ls hl => ?_)
          refine lv_goto (tgt := 2) hx hb dX6_find_34 (by decide) ?_
          exact ih _ _ _ _ _ _ hf (lv_sub hl [1, 2, 0] rfl) hP hS
        · have hf := (if_pos c4).symm.trans hf
          refine lv_iload_n hx hb dX6_find_29 rfl (lv_at hl 2 rfl) ?_
          exact cx_iret cx hP hS hf dX6_find_30
set_option maxHeartbeats 4000000 in
set_option maxRecDepth 100000 in
theorem ct_xX6_find (l : Launch) (D : va_G) (C : Nat → ClassId) (A adK adV : Nat → Nat) (hA : apA A 60) {x1 : Int32} {σ : St} {res : (Int32 × St)} (hf : F_xX6_find x1 σ = some res) : Met l yX6_find (Cond.code yX6_find cX6_find 3 (some .int) :: wsL_law) rm_X6_find (Pcx D C (wX A C) adK adV (fxA A 60) [.ref (A 14), .int x1] σ) (Qcx D (wX A C) (fxA A 60) (some (.int res.1)) res.2) 0 0 (fxA A 60) := by
  refine Met.ofW (cc := cX6_find) (maxL := 3) (ret := (some .int)) (by decide) rfl ?_
  intro p e s m args below meth c s₁ B hml hv
  obtain ⟨rfl, hP, hK, hZ⟩ := hv
  have cx : Cxx D C adK adV (fxA A 60) p s m _ meth c cX6_find 3 RX6 (some .int) := ⟨B.exec, B.bytes, hml, findClass_of_methodNamed B.named, fun w h => atoms_spec (ws := Cond.code yX6_find cX6_find 3 (some .int) :: wsL_law) B.pre w (List.mem_cons_of_mem _ h), hK, B.returns, B.notSynchronized, hZ⟩
  obtain ⟨hx, hb, -, hown, hts, -, hr, hlk, -⟩ := id cx
  have hS : va_S (fxA A 60) s.heap s.heap [] := va_S.rf
  have hl := lv_entry ([.ref (A 14), .int x1]) (n := 3) (Nat.le_of_ble_eq_true rfl)
  rw [lg_entry_eq]
  generalize (lg_sl ([.ref (A 14), .int x1]) ++ List.replicate (3 - (lg_sl ([.ref (A 14), .int x1])).length) Slot.unset).toArray = ls at hl ⊢
  have hl : lv_has ls 3 [(0, .ref (A 14)), (1, .int x1)] := hl
  show W p l e rm_X6_find s m _ below meth c s.heap [] 0 0 _ _
  refine lv_iconst (v := 0) hx hb dX6_find_0 (by decide) ?_
  refine lv_istore_n (lv' := [(2, .int 0), (0, .ref (A 14)), (1, .int x1)]) hx hb dX6_find_1 rfl hl (by decide) rfl (fun ls hl => ?_)
  exact w_F_xX6_find_2 hA cx FU _ _ _ _ _ _ hf (lv_sub hl [1, 2, 0] rfl) hP hS
set_option maxHeartbeats 4000000 in
set_option maxRecDepth 100000 in
theorem w_F_xX6_resolve_80 {p : Program} {l : Launch} {e : Env} {s : State} {m : MethodId} {args : Array Value} {below : List Frame} {meth : Method} {c : Code} {D : va_G} {C : Nat → ClassId} {A adK adV : Nat → Nat} (hA : apA A 60) (cx : Cxx D C adK adV (fxA A 60) p s m args meth c cX6_resolve 4 RX6 (some .boolean)) {res : (Int32 × St)} : ∀ (x1 : Int32) (x2 : Int32) (x3 : Int32) (σ : St) (H : Heap) (locs : List Loc) (ls : Array Slot), F_xX6_resolve_80 x1 x2 x3 σ = some res → lv_has ls 4 [(0, .ref (A 14)), (1, .int x1), (2, .int x2), (3, .int x3)] → va_P D vwCl (wX A C σ) H → va_S (fxA A 60) s.heap H locs → W p l e rm_X6_resolve s m args below meth c H locs 0 0 (MQ below (Qcx D (wX A C) (fxA A 60) (some (.int res.1)) res.2) args s 0 0 (fxA A 60)) (F0 m 80 ls []) := by
  obtain ⟨hx, hb, hml, hown, hts, hK, hr, hlk, hZ⟩ := id cx
  intro x1 x2 x3 σ H locs ls hf hl hP hS
  refine lv_iload_n hx hb dX6_resolve_80 rfl (lv_at hl 3 rfl) ?_
  refine lv_iconst (v := (-1)) hx hb dX6_resolve_81 (by decide) ?_
  refine lv_icmp_ne (tgt := 100) hx hb dX6_resolve_82 (by decide) (fun c1 => ?_) (fun c1 => ?_)
  · have hf := (if_neg c1).symm.trans hf
    refine lv_aload_n hx hb dX6_resolve_100 rfl (lv_at hl 0 rfl) ?_
    refine gX_14_1 hx hb hts hown hK hP (hts _ kw_87) dX6_resolve_101 ?_
    refine gX_15_2 hx hb hts hown hK hP (hts _ kw_508) dX6_resolve_104 ?_
    refine lv_iload_n hx hb dX6_resolve_107 rfl (lv_at hl 1 rfl) ?_
    refine lv_aload_n hx hb dX6_resolve_108 rfl (lv_at hl 0 rfl) ?_
    refine gX_14_7 hx hb hts hown hK hP (hts _ kw_93) dX6_resolve_109 ?_
    refine lv_iload_n hx hb dX6_resolve_112 rfl (lv_at hl 1 rfl) ?_
    obtain ⟨z2, hf⟩ := gd_some hf
    refine gX_a24 hx hb hK hP (ib_in z2) (v := (σ.2.1 24 x1.toNatClampNeg)) rfl dX6_resolve_113 ?_
    refine lv_sipush (v := 10000) hx hb dX6_resolve_114 (by decide) ?_
    refine lv_imul hx hb dX6_resolve_117 ?_
    refine lv_iload_n hx hb dX6_resolve_118 rfl (lv_at hl 2 rfl) ?_
    refine lv_bipush (v := 100) hx hb dX6_resolve_119 (by decide) ?_
    refine lv_imul hx hb dX6_resolve_121 ?_
    refine lv_iadd hx hb dX6_resolve_122 ?_
    refine lv_iload_n hx hb dX6_resolve_123 rfl (lv_at hl 3 rfl) ?_
    refine lv_iadd hx hb dX6_resolve_124 ?_
    refine pX_a16 hx hb hK hP hA hS (ib_in z2) dX6_resolve_125 (fun H locs hP hS => ?_)
    refine lv_iconst (v := 1) hx hb dX6_resolve_126 (by decide) ?_
    have hP : va_P D vwCl (wX A C (sA σ 16 (upd (σ.2.1 16) x1.toNatClampNeg ((((σ.2.1 24 x1.toNatClampNeg) * 10000) + (x2 * 100)) + x3)))) H := hP
    exact cx_zret cx rfl hP hS hf dX6_resolve_127
  · have hf := (if_pos c1).symm.trans hf
    refine lv_aload_n hx hb dX6_resolve_85 rfl (lv_at hl 0 rfl) ?_
    refine gX_14_0 hx hb hts hown hK hP (hts _ kw_94) dX6_resolve_86 ?_
    refine lv_iconst (v := 5) hx hb dX6_resolve_89 (by decide) ?_
    refine lv_aload_n hx hb dX6_resolve_90 rfl (lv_at hl 0 rfl) ?_
    refine gX_14_6 hx hb hts hown hK hP (hts _ kw_92) dX6_resolve_91 ?_
    refine lv_iload_n hx hb dX6_resolve_94 rfl (lv_at hl 1 rfl) ?_
    obtain ⟨z3, hf⟩ := gd_some hf
    refine gX_a23 hx hb hK hP (ib_in z3) (v := (σ.2.1 23 x1.toNatClampNeg)) rfl dX6_resolve_95 ?_
    obtain ⟨⟨r4, σ_r4⟩, h_r4, hf⟩ := bd_some hf
    refine cx_V (As := [.int 5, .int (σ.2.1 23 x1.toNatClampNeg)]) (rest := []) cx (ct_xX9_fail l D C A adK adV hA h_r4) (cw_X6_67 hts ⟨Nat.le_of_ble_eq_true rfl, Nat.le_of_ble_eq_true rfl⟩) (va_recv hK hP (ci := 9) (q0 := 1) rfl (wX_1 A C _)) hP hS rfl hl.1 rfl (Nat.le_of_ble_eq_true rfl) dX6_resolve_96 ⟨Nat.zero_le _, Nat.zero_le _⟩ (fun H locs hP hS => ?_)
    obtain ⟨z5, hf⟩ := gd_some hf
    exact cx_zret cx (nb_ok z5) hP hS hf dX6_resolve_99
set_option maxHeartbeats 4000000 in
set_option maxRecDepth 100000 in
theorem w_F_xX6_resolve_23 {p : Program} {l : Launch} {e : Env} {s : State} {m : MethodId} {args : Array Value} {below : List Frame} {meth : Method} {c : Code} {D : va_G} {C : Nat → ClassId} {A adK adV : Nat → Nat} (hA : apA A 60) (cx : Cxx D C adK adV (fxA A 60) p s m args meth c cX6_resolve 4 RX6 (some .boolean)) {res : (Int32 × St)} : ∀ (x1 : Int32) (y0 : Int32) (σ : St) (H : Heap) (locs : List Loc) (ls : Array Slot), F_xX6_resolve_23 x1 y0 σ = some res → lv_has ls 4 [(0, .ref (A 14)), (1, .int x1)] → va_P D vwCl (wX A C σ) H → va_S (fxA A 60) s.heap H locs → W p l e rm_X6_resolve s m args below meth c H locs 0 0 (MQ below (Qcx D (wX A C) (fxA A 60) (some (.int res.1)) res.2) args s 0 0 (fxA A 60)) (F0 m 23 ls [.int y0]) := by
  obtain ⟨hx, hb, hml, hown, hts, hK, hr, hlk, hZ⟩ := id cx
  intro x1 y0 σ H locs ls hf hl hP hS
  refine lv_istore_n (lv' := [(2, .int y0), (0, .ref (A 14)), (1, .int x1)]) hx hb dX6_resolve_23 rfl hl (by decide) rfl (fun ls hl => ?_)
  refine lv_iload_n hx hb dX6_resolve_24 rfl (lv_at hl 0 rfl) ?_
  refine lv_iconst (v := (-1)) hx hb dX6_resolve_25 (by decide) ?_
  refine lv_icmp_ne (tgt := 44) hx hb dX6_resolve_26 (by decide) (fun c6 => ?_) (fun c6 => ?_)
  · have hf := (if_neg c6).symm.trans hf
    refine lv_iload_n hx hb dX6_resolve_44 rfl (lv_at hl 2 rfl) ?_
    refine lv_iconst (v := 1) hx hb dX6_resolve_45 (by decide) ?_
    refine lv_iadd hx hb dX6_resolve_46 ?_
    refine lv_aload_n hx hb dX6_resolve_47 rfl (lv_at hl 1 rfl) ?_
    refine gX_14_1 hx hb hts hown hK hP (hts _ kw_87) dX6_resolve_48 ?_
    refine gX_15_0 hx hb hts hown hK hP (v := (σ.1 14)) rfl (hts _ kw_489) dX6_resolve_51 ?_
    refine lv_iconst (v := 1) hx hb dX6_resolve_54 (by decide) ?_
    refine lv_isub hx hb dX6_resolve_55 ?_
    refine va_mmin hx hb (hml.trans hl.1.symm) hown (hts _ kw_523) (hts _ kw_352) (hts _ kw_353) (hts _ kw_354) (Nat.le_of_ble_eq_true rfl) (Nat.le_of_ble_eq_true rfl) (Nat.zero_le _) (Nat.zero_le _) dX6_resolve_56 ?_
    refine lv_topi (fun v7 e_v7 => ?_)
    have hf := nm_use e_v7 hf
    refine lv_istore_n (lv' := [(3, .int v7), (2, .int y0), (0, .ref (A 14)), (1, .int x1)]) hx hb dX6_resolve_59 rfl hl (by decide) rfl (fun ls hl => ?_)
    refine lv_aload_n hx hb dX6_resolve_60 rfl (lv_at hl 2 rfl) ?_
    refine gX_14_4 hx hb hts hown hK hP (hts _ kw_90) dX6_resolve_61 ?_
    refine lv_iload_n hx hb dX6_resolve_64 rfl (lv_at hl 3 rfl) ?_
    obtain ⟨z8, hf⟩ := gd_some hf
    refine gX_a21 hx hb hK hP (ib_in z8) (v := (σ.2.1 21 x1.toNatClampNeg)) rfl dX6_resolve_65 ?_
    refine lv_if_eq (tgt := 80) hx hb dX6_resolve_66 (by decide) (fun c9 => ?_) (fun c9 => ?_)
    · have hf := (if_pos c9).symm.trans hf
      exact w_F_xX6_resolve_80 hA cx _ _ _ _ _ _ _ hf (lv_sub hl [2, 3, 1, 0] rfl) hP hS
    · have hf := (if_neg c9).symm.trans hf
      refine lv_aload_n hx hb dX6_resolve_69 rfl (lv_at hl 2 rfl) ?_
      refine lv_aload_n hx hb dX6_resolve_70 rfl (lv_at hl 2 rfl) ?_
      refine gX_14_4 hx hb hts hown hK hP (hts _ kw_90) dX6_resolve_71 ?_
      refine lv_iload_n hx hb dX6_resolve_74 rfl (lv_at hl 3 rfl) ?_
      refine gX_a21 hx hb hK hP (ib_in z8) (v := (σ.2.1 21 x1.toNatClampNeg)) rfl dX6_resolve_75 ?_
      obtain ⟨⟨r10, σ_r10⟩, h_r10, hf⟩ := bd_some hf
      refine cx_V (As := [.int (σ.2.1 21 x1.toNatClampNeg)]) (rest := []) cx (ct_xX6_find l D C A adK adV hA h_r10) (cw_X6_74 hts ⟨Nat.le_of_ble_eq_true rfl, Nat.le_of_ble_eq_true rfl⟩) (va_recv hK hP (ci := 6) (q0 := 14) rfl (wX_14 A C _)) hP hS rfl hl.1 rfl (Nat.le_of_ble_eq_true rfl) dX6_resolve_76 ⟨Nat.zero_le _, Nat.zero_le _⟩ (fun H locs hP hS => ?_)
      refine lv_istore_n (lv' := [(3, .int r10), (2, .int y0), (0, .ref (A 14)), (1, .int x1)]) hx hb dX6_resolve_79 rfl hl (by decide) rfl (fun ls hl => ?_)
      exact w_F_xX6_resolve_80 hA cx _ _ _ _ _ _ _ hf (lv_sub hl [2, 3, 1, 0] rfl) hP hS
  · have hf := (if_pos c6).symm.trans hf
    refine lv_aload_n hx hb dX6_resolve_29 rfl (lv_at hl 1 rfl) ?_
    refine gX_14_0 hx hb hts hown hK hP (hts _ kw_94) dX6_resolve_30 ?_
    refine lv_iconst (v := 5) hx hb dX6_resolve_33 (by decide) ?_
    refine lv_aload_n hx hb dX6_resolve_34 rfl (lv_at hl 1 rfl) ?_
    refine gX_14_5 hx hb hts hown hK hP (hts _ kw_91) dX6_resolve_35 ?_
    refine lv_iload_n hx hb dX6_resolve_38 rfl (lv_at hl 2 rfl) ?_
    obtain ⟨z11, hf⟩ := gd_some hf
    refine gX_a22 hx hb hK hP (ib_in z11) (v := (σ.2.1 22 x1.toNatClampNeg)) rfl dX6_resolve_39 ?_
    obtain ⟨⟨r12, σ_r12⟩, h_r12, hf⟩ := bd_some hf
    refine cx_V (As := [.int 5, .int (σ.2.1 22 x1.toNatClampNeg)]) (rest := []) cx (ct_xX9_fail l D C A adK adV hA h_r12) (cw_X6_67 hts ⟨Nat.le_of_ble_eq_true rfl, Nat.le_of_ble_eq_true rfl⟩) (va_recv hK hP (ci := 9) (q0 := 1) rfl (wX_1 A C _)) hP hS rfl hl.1 rfl (Nat.le_of_ble_eq_true rfl) dX6_resolve_40 ⟨Nat.zero_le _, Nat.zero_le _⟩ (fun H locs hP hS => ?_)
    obtain ⟨z13, hf⟩ := gd_some hf
    exact cx_zret cx (nb_ok z13) hP hS hf dX6_resolve_43
set_option maxHeartbeats 4000000 in
set_option maxRecDepth 100000 in
theorem ct_xX6_resolve (l : Launch) (D : va_G) (C : Nat → ClassId) (A adK adV : Nat → Nat) (hA : apA A 60) {x1 : Int32} {σ : St} {res : (Int32 × St)} (hf : F_xX6_resolve x1 σ = some res) : Met l yX6_resolve (Cond.code yX6_resolve cX6_resolve 4 (some .boolean) :: wsL_law) rm_X6_resolve (Pcx D C (wX A C) adK adV (fxA A 60) [.ref (A 14), .int x1] σ) (Qcx D (wX A C) (fxA A 60) (some (.int res.1)) res.2) 0 0 (fxA A 60) := by
  refine Met.ofW (cc := cX6_resolve) (maxL := 4) (ret := (some .boolean)) (by decide) rfl ?_
  intro p e s m args below meth c s₁ B hml hv
  obtain ⟨rfl, hP, hK, hZ⟩ := hv
  have cx : Cxx D C adK adV (fxA A 60) p s m _ meth c cX6_resolve 4 RX6 (some .boolean) := ⟨B.exec, B.bytes, hml, findClass_of_methodNamed B.named, fun w h => atoms_spec (ws := Cond.code yX6_resolve cX6_resolve 4 (some .boolean) :: wsL_law) B.pre w (List.mem_cons_of_mem _ h), hK, B.returns, B.notSynchronized, hZ⟩
  obtain ⟨hx, hb, -, hown, hts, -, hr, hlk, -⟩ := id cx
  have hS : va_S (fxA A 60) s.heap s.heap [] := va_S.rf
  have hl := lv_entry ([.ref (A 14), .int x1]) (n := 4) (Nat.le_of_ble_eq_true rfl)
  rw [lg_entry_eq]
  generalize (lg_sl ([.ref (A 14), .int x1]) ++ List.replicate (4 - (lg_sl ([.ref (A 14), .int x1])).length) Slot.unset).toArray = ls at hl ⊢
  have hl : lv_has ls 4 [(0, .ref (A 14)), (1, .int x1)] := hl
  show W p l e rm_X6_resolve s m _ below meth c s.heap [] 0 0 _ _
  refine lv_aload_n hx hb dX6_resolve_0 rfl (lv_at hl 0 rfl) ?_
  refine gX_14_3 hx hb hts hown hK hP (hts _ kw_89) dX6_resolve_1 ?_
  refine lv_iload_n hx hb dX6_resolve_4 rfl (lv_at hl 1 rfl) ?_
  obtain ⟨z14, hf⟩ := gd_some hf
  refine gX_a20 hx hb hK hP (ib_in z14) (v := (σ.2.1 20 x1.toNatClampNeg)) rfl dX6_resolve_5 ?_
  refine lv_if_ne (tgt := 13) hx hb dX6_resolve_6 (by decide) (fun c15 => ?_) (fun c15 => ?_)
  · have hf := (if_neg c15).symm.trans hf
    refine lv_aload_n hx hb dX6_resolve_13 rfl (lv_at hl 0 rfl) ?_
    refine lv_aload_n hx hb dX6_resolve_14 rfl (lv_at hl 0 rfl) ?_
    refine gX_14_3 hx hb hts hown hK hP (hts _ kw_89) dX6_resolve_15 ?_
    refine lv_iload_n hx hb dX6_resolve_18 rfl (lv_at hl 1 rfl) ?_
    refine gX_a20 hx hb hK hP (ib_in z14) (v := (σ.2.1 20 x1.toNatClampNeg)) rfl dX6_resolve_19 ?_
    obtain ⟨⟨r16, σ_r16⟩, h_r16, hf⟩ := bd_some hf
    refine cx_V (As := [.int (σ.2.1 20 x1.toNatClampNeg)]) (rest := []) cx (ct_xX6_find l D C A adK adV hA h_r16) (cw_X6_74 hts ⟨Nat.le_of_ble_eq_true rfl, Nat.le_of_ble_eq_true rfl⟩) (va_recv hK hP (ci := 6) (q0 := 14) rfl (wX_14 A C _)) hP hS rfl hl.1 rfl (Nat.le_of_ble_eq_true rfl) dX6_resolve_20 ⟨Nat.zero_le _, Nat.zero_le _⟩ (fun H locs hP hS => ?_)
    exact w_F_xX6_resolve_23 hA cx _ _ _ _ _ _ hf (lv_sub hl [0, 1] rfl) hP hS
  · have hf := (if_pos c15).symm.trans hf
    refine lv_iconst (v := 0) hx hb dX6_resolve_9 (by decide) ?_
    refine lv_goto (tgt := 23) hx hb dX6_resolve_10 (by decide) ?_
    exact w_F_xX6_resolve_23 hA cx _ _ _ _ _ _ hf (lv_sub hl [0, 1] rfl) hP hS
set_option maxHeartbeats 4000000 in
set_option maxRecDepth 100000 in
theorem ct_xX6_opOnTape (l : Launch) (D : va_G) (C : Nat → ClassId) (A adK adV : Nat → Nat) (hA : apA A 60)  {σ : St} {res : (Int32 × St)} (hf : F_xX6_opOnTape σ = some res) : Met l yX6_opOnTape (Cond.code yX6_opOnTape cX6_opOnTape 1 (some .int) :: wsL_law) rm_X6_opOnTape (Pcx D C (wX A C) adK adV (fxA A 60) [.ref (A 14)] σ) (Qcx D (wX A C) (fxA A 60) (some (.int res.1)) res.2) 0 0 (fxA A 60) := by
  refine Met.ofW (cc := cX6_opOnTape) (maxL := 1) (ret := (some .int)) (by decide) rfl ?_
  intro p e s m args below meth c s₁ B hml hv
  obtain ⟨rfl, hP, hK, hZ⟩ := hv
  have cx : Cxx D C adK adV (fxA A 60) p s m _ meth c cX6_opOnTape 1 RX6 (some .int) := ⟨B.exec, B.bytes, hml, findClass_of_methodNamed B.named, fun w h => atoms_spec (ws := Cond.code yX6_opOnTape cX6_opOnTape 1 (some .int) :: wsL_law) B.pre w (List.mem_cons_of_mem _ h), hK, B.returns, B.notSynchronized, hZ⟩
  obtain ⟨hx, hb, -, hown, hts, -, hr, hlk, -⟩ := id cx
  have hS : va_S (fxA A 60) s.heap s.heap [] := va_S.rf
  have hl := lv_entry ([.ref (A 14)]) (n := 1) (Nat.le_of_ble_eq_true rfl)
  rw [lg_entry_eq]
  generalize (lg_sl ([.ref (A 14)]) ++ List.replicate (1 - (lg_sl ([.ref (A 14)])).length) Slot.unset).toArray = ls at hl ⊢
  have hl : lv_has ls 1 [(0, .ref (A 14))] := hl
  show W p l e rm_X6_opOnTape s m _ below meth c s.heap [] 0 0 _ _
  refine lv_aload_n hx hb dX6_opOnTape_0 rfl (lv_at hl 0 rfl) ?_
  refine gX_14_0 hx hb hts hown hK hP (hts _ kw_94) dX6_opOnTape_1 ?_
  refine va_ldcS hx hb hown (hZ.2.1 4 (by decide)) dX6_opOnTape_4 ?_
  obtain ⟨⟨r1, σ_r1⟩, h_r1, hf⟩ := bd_some hf
  refine cx_V (As := [.ref (adK 4)]) (rest := []) cx (ct_xX9_isWord l D C A adK adV hA (by decide) h_r1) (cw_X6_99 hts ⟨Nat.le_of_ble_eq_true rfl, Nat.le_of_ble_eq_true rfl⟩) (va_recv hK hP (ci := 9) (q0 := 1) rfl (wX_1 A C _)) hP hS rfl hl.1 rfl (Nat.le_of_ble_eq_true rfl) dX6_opOnTape_6 ⟨Nat.zero_le _, Nat.zero_le _⟩ (fun H locs hP hS => ?_)
  refine lv_if_eq (tgt := 14) hx hb dX6_opOnTape_9 (by decide) (fun c2 => ?_) (fun c2 => ?_)
  · have hf := (if_pos c2).symm.trans hf
    refine lv_aload_n hx hb dX6_opOnTape_14 rfl (lv_at hl 0 rfl) ?_
    refine gX_14_0 hx hb hts hown hK hP (hts _ kw_94) dX6_opOnTape_15 ?_
    refine va_ldcS hx hb hown (hZ.2.1 5 (by decide)) dX6_opOnTape_18 ?_
    obtain ⟨⟨r3, σ_r3⟩, h_r3, hf⟩ := bd_some hf
    refine cx_V (As := [.ref (adK 5)]) (rest := []) cx (ct_xX9_isWord l D C A adK adV hA (by decide) h_r3) (cw_X6_99 hts ⟨Nat.le_of_ble_eq_true rfl, Nat.le_of_ble_eq_true rfl⟩) (va_recv hK hP (ci := 9) (q0 := 1) rfl (wX_1 A C _)) hP hS rfl hl.1 rfl (Nat.le_of_ble_eq_true rfl) dX6_opOnTape_20 ⟨Nat.zero_le _, Nat.zero_le _⟩ (fun H locs hP hS => ?_)
    refine lv_if_eq (tgt := 28) hx hb dX6_opOnTape_23 (by decide) (fun c4 => ?_) (fun c4 => ?_)
    · have hf := (if_pos c4).symm.trans hf
      refine lv_aload_n hx hb dX6_opOnTape_28 rfl (lv_at hl 0 rfl) ?_
      refine gX_14_0 hx hb hts hown hK hP (hts _ kw_94) dX6_opOnTape_29 ?_
      refine va_ldcS hx hb hown (hZ.2.1 6 (by decide)) dX6_opOnTape_32 ?_
      obtain ⟨⟨r5, σ_r5⟩, h_r5, hf⟩ := bd_some hf
      refine cx_V (As := [.ref (adK 6)]) (rest := []) cx (ct_xX9_isWord l D C A adK adV hA (by decide) h_r5) (cw_X6_99 hts ⟨Nat.le_of_ble_eq_true rfl, Nat.le_of_ble_eq_true rfl⟩) (va_recv hK hP (ci := 9) (q0 := 1) rfl (wX_1 A C _)) hP hS rfl hl.1 rfl (Nat.le_of_ble_eq_true rfl) dX6_opOnTape_34 ⟨Nat.zero_le _, Nat.zero_le _⟩ (fun H locs hP hS => ?_)
      refine lv_if_eq (tgt := 42) hx hb dX6_opOnTape_37 (by decide) (fun c6 => ?_) (fun c6 => ?_)
      · have hf := (if_pos c6).symm.trans hf
        refine lv_aload_n hx hb dX6_opOnTape_42 rfl (lv_at hl 0 rfl) ?_
        refine gX_14_0 hx hb hts hown hK hP (hts _ kw_94) dX6_opOnTape_43 ?_
        refine va_ldcS hx hb hown (hZ.2.1 7 (by decide)) dX6_opOnTape_46 ?_
        obtain ⟨⟨r7, σ_r7⟩, h_r7, hf⟩ := bd_some hf
        refine cx_V (As := [.ref (adK 7)]) (rest := []) cx (ct_xX9_isWord l D C A adK adV hA (by decide) h_r7) (cw_X6_99 hts ⟨Nat.le_of_ble_eq_true rfl, Nat.le_of_ble_eq_true rfl⟩) (va_recv hK hP (ci := 9) (q0 := 1) rfl (wX_1 A C _)) hP hS rfl hl.1 rfl (Nat.le_of_ble_eq_true rfl) dX6_opOnTape_48 ⟨Nat.zero_le _, Nat.zero_le _⟩ (fun H locs hP hS => ?_)
        refine lv_if_eq (tgt := 56) hx hb dX6_opOnTape_51 (by decide) (fun c8 => ?_) (fun c8 => ?_)
        · have hf := (if_pos c8).symm.trans hf
          refine lv_aload_n hx hb dX6_opOnTape_56 rfl (lv_at hl 0 rfl) ?_
          refine gX_14_0 hx hb hts hown hK hP (hts _ kw_94) dX6_opOnTape_57 ?_
          refine va_ldcS hx hb hown (hZ.2.1 8 (by decide)) dX6_opOnTape_60 ?_
          obtain ⟨⟨r9, σ_r9⟩, h_r9, hf⟩ := bd_some hf
          refine cx_V (As := [.ref (adK 8)]) (rest := []) cx (ct_xX9_isWord l D C A adK adV hA (by decide) h_r9) (cw_X6_99 hts ⟨Nat.le_of_ble_eq_true rfl, Nat.le_of_ble_eq_true rfl⟩) (va_recv hK hP (ci := 9) (q0 := 1) rfl (wX_1 A C _)) hP hS rfl hl.1 rfl (Nat.le_of_ble_eq_true rfl) dX6_opOnTape_62 ⟨Nat.zero_le _, Nat.zero_le _⟩ (fun H locs hP hS => ?_)
          refine lv_if_eq (tgt := 70) hx hb dX6_opOnTape_65 (by decide) (fun c10 => ?_) (fun c10 => ?_)
          · have hf := (if_pos c10).symm.trans hf
            refine lv_aload_n hx hb dX6_opOnTape_70 rfl (lv_at hl 0 rfl) ?_
            refine gX_14_0 hx hb hts hown hK hP (hts _ kw_94) dX6_opOnTape_71 ?_
            refine va_ldcS hx hb hown (hZ.2.1 9 (by decide)) dX6_opOnTape_74 ?_
            obtain ⟨⟨r11, σ_r11⟩, h_r11, hf⟩ := bd_some hf
            refine cx_V (As := [.ref (adK 9)]) (rest := []) cx (ct_xX9_isWord l D C A adK adV hA (by decide) h_r11) (cw_X6_99 hts ⟨Nat.le_of_ble_eq_true rfl, Nat.le_of_ble_eq_true rfl⟩) (va_recv hK hP (ci := 9) (q0 := 1) rfl (wX_1 A C _)) hP hS rfl hl.1 rfl (Nat.le_of_ble_eq_true rfl) dX6_opOnTape_76 ⟨Nat.zero_le _, Nat.zero_le _⟩ (fun H locs hP hS => ?_)
            refine lv_if_eq (tgt := 84) hx hb dX6_opOnTape_79 (by decide) (fun c12 => ?_) (fun c12 => ?_)
            · have hf := (if_pos c12).symm.trans hf
              refine lv_aload_n hx hb dX6_opOnTape_84 rfl (lv_at hl 0 rfl) ?_
              refine gX_14_0 hx hb hts hown hK hP (hts _ kw_94) dX6_opOnTape_85 ?_
              refine va_ldcS hx hb hown (hZ.2.1 10 (by decide)) dX6_opOnTape_88 ?_
              obtain ⟨⟨r13, σ_r13⟩, h_r13, hf⟩ := bd_some hf
              refine cx_V (As := [.ref (adK 10)]) (rest := []) cx (ct_xX9_isWord l D C A adK adV hA (by decide) h_r13) (cw_X6_99 hts ⟨Nat.le_of_ble_eq_true rfl, Nat.le_of_ble_eq_true rfl⟩) (va_recv hK hP (ci := 9) (q0 := 1) rfl (wX_1 A C _)) hP hS rfl hl.1 rfl (Nat.le_of_ble_eq_true rfl) dX6_opOnTape_90 ⟨Nat.zero_le _, Nat.zero_le _⟩ (fun H locs hP hS => ?_)
              refine lv_if_eq (tgt := 99) hx hb dX6_opOnTape_93 (by decide) (fun c14 => ?_) (fun c14 => ?_)
              · have hf := (if_pos c14).symm.trans hf
                refine lv_aload_n hx hb dX6_opOnTape_99 rfl (lv_at hl 0 rfl) ?_
                refine gX_14_0 hx hb hts hown hK hP (hts _ kw_94) dX6_opOnTape_100 ?_
                refine va_ldcS hx hb hown (hZ.2.1 11 (by decide)) dX6_opOnTape_103 ?_
                obtain ⟨⟨r15, σ_r15⟩, h_r15, hf⟩ := bd_some hf
                refine cx_V (As := [.ref (adK 11)]) (rest := []) cx (ct_xX9_isWord l D C A adK adV hA (by decide) h_r15) (cw_X6_99 hts ⟨Nat.le_of_ble_eq_true rfl, Nat.le_of_ble_eq_true rfl⟩) (va_recv hK hP (ci := 9) (q0 := 1) rfl (wX_1 A C _)) hP hS rfl hl.1 rfl (Nat.le_of_ble_eq_true rfl) dX6_opOnTape_105 ⟨Nat.zero_le _, Nat.zero_le _⟩ (fun H locs hP hS => ?_)
                refine lv_if_eq (tgt := 114) hx hb dX6_opOnTape_108 (by decide) (fun c16 => ?_) (fun c16 => ?_)
                · have hf := (if_pos c16).symm.trans hf
                  refine lv_aload_n hx hb dX6_opOnTape_114 rfl (lv_at hl 0 rfl) ?_
                  refine gX_14_0 hx hb hts hown hK hP (hts _ kw_94) dX6_opOnTape_115 ?_
                  refine va_ldcS hx hb hown (hZ.2.1 12 (by decide)) dX6_opOnTape_118 ?_
                  obtain ⟨⟨r17, σ_r17⟩, h_r17, hf⟩ := bd_some hf
                  refine cx_V (As := [.ref (adK 12)]) (rest := []) cx (ct_xX9_isWord l D C A adK adV hA (by decide) h_r17) (cw_X6_99 hts ⟨Nat.le_of_ble_eq_true rfl, Nat.le_of_ble_eq_true rfl⟩) (va_recv hK hP (ci := 9) (q0 := 1) rfl (wX_1 A C _)) hP hS rfl hl.1 rfl (Nat.le_of_ble_eq_true rfl) dX6_opOnTape_120 ⟨Nat.zero_le _, Nat.zero_le _⟩ (fun H locs hP hS => ?_)
                  refine lv_if_eq (tgt := 129) hx hb dX6_opOnTape_123 (by decide) (fun c18 => ?_) (fun c18 => ?_)
                  · have hf := (if_pos c18).symm.trans hf
                    refine lv_aload_n hx hb dX6_opOnTape_129 rfl (lv_at hl 0 rfl) ?_
                    refine gX_14_0 hx hb hts hown hK hP (hts _ kw_94) dX6_opOnTape_130 ?_
                    refine va_ldcS hx hb hown (hZ.2.1 13 (by decide)) dX6_opOnTape_133 ?_
                    obtain ⟨⟨r19, σ_r19⟩, h_r19, hf⟩ := bd_some hf
                    refine cx_V (As := [.ref (adK 13)]) (rest := []) cx (ct_xX9_isWord l D C A adK adV hA (by decide) h_r19) (cw_X6_99 hts ⟨Nat.le_of_ble_eq_true rfl, Nat.le_of_ble_eq_true rfl⟩) (va_recv hK hP (ci := 9) (q0 := 1) rfl (wX_1 A C _)) hP hS rfl hl.1 rfl (Nat.le_of_ble_eq_true rfl) dX6_opOnTape_135 ⟨Nat.zero_le _, Nat.zero_le _⟩ (fun H locs hP hS => ?_)
                    refine lv_if_eq (tgt := 146) hx hb dX6_opOnTape_138 (by decide) (fun c20 => ?_) (fun c20 => ?_)
                    · have hf := (if_pos c20).symm.trans hf
                      refine lv_iconst (v := (-1)) hx hb dX6_opOnTape_146 (by decide) ?_
                      exact cx_iret cx hP hS hf dX6_opOnTape_147
                    · have hf := (if_neg c20).symm.trans hf
                      refine lv_bipush (v := 9) hx hb dX6_opOnTape_141 (by decide) ?_
                      refine lv_goto (tgt := 147) hx hb dX6_opOnTape_143 (by decide) ?_
                      exact cx_iret cx hP hS hf dX6_opOnTape_147
                  · have hf := (if_neg c18).symm.trans hf
                    refine lv_bipush (v := 8) hx hb dX6_opOnTape_126 (by decide) ?_
                    exact cx_iret cx hP hS hf dX6_opOnTape_128
                · have hf := (if_neg c16).symm.trans hf
                  refine lv_bipush (v := 7) hx hb dX6_opOnTape_111 (by decide) ?_
                  exact cx_iret cx hP hS hf dX6_opOnTape_113
              · have hf := (if_neg c14).symm.trans hf
                refine lv_bipush (v := 6) hx hb dX6_opOnTape_96 (by decide) ?_
                exact cx_iret cx hP hS hf dX6_opOnTape_98
            · have hf := (if_neg c12).symm.trans hf
              refine lv_iconst (v := 5) hx hb dX6_opOnTape_82 (by decide) ?_
              exact cx_iret cx hP hS hf dX6_opOnTape_83
          · have hf := (if_neg c10).symm.trans hf
            refine lv_iconst (v := 4) hx hb dX6_opOnTape_68 (by decide) ?_
            exact cx_iret cx hP hS hf dX6_opOnTape_69
        · have hf := (if_neg c8).symm.trans hf
          refine lv_iconst (v := 3) hx hb dX6_opOnTape_54 (by decide) ?_
          exact cx_iret cx hP hS hf dX6_opOnTape_55
      · have hf := (if_neg c6).symm.trans hf
        refine lv_iconst (v := 2) hx hb dX6_opOnTape_40 (by decide) ?_
        exact cx_iret cx hP hS hf dX6_opOnTape_41
    · have hf := (if_neg c4).symm.trans hf
      refine lv_iconst (v := 1) hx hb dX6_opOnTape_26 (by decide) ?_
      exact cx_iret cx hP hS hf dX6_opOnTape_27
  · have hf := (if_neg c2).symm.trans hf
    refine lv_iconst (v := 0) hx hb dX6_opOnTape_12 (by decide) ?_
    exact cx_iret cx hP hS hf dX6_opOnTape_13
set_option maxHeartbeats 4000000 in
set_option maxRecDepth 100000 in
theorem w_F_xX6_readOrderLine_162 {p : Program} {l : Launch} {e : Env} {s : State} {m : MethodId} {args : Array Value} {below : List Frame} {meth : Method} {c : Code} {D : va_G} {C : Nat → ClassId} {A adK adV : Nat → Nat} (hA : apA A 60) (cx : Cxx D C adK adV (fxA A 60) p s m args meth c cX6_readOrderLine 3 RX6 (some .boolean)) {res : (Int32 × St)} : ∀ (σ : St) (H : Heap) (locs : List Loc) (ls : Array Slot), F_xX6_readOrderLine_162 σ = some res → lv_has ls 3 [(0, .ref (A 14))] → va_P D vwCl (wX A C σ) H → va_S (fxA A 60) s.heap H locs → W p l e rm_X6_readOrderLine s m args below meth c H locs 0 0 (MQ below (Qcx D (wX A C) (fxA A 60) (some (.int res.1)) res.2) args s 0 0 (fxA A 60)) (F0 m 162 ls []) := by
  obtain ⟨hx, hb, hml, hown, hts, hK, hr, hlk, hZ⟩ := id cx
  intro σ H locs ls hf hl hP hS
  refine lv_aload_n hx hb dX6_readOrderLine_162 rfl (lv_at hl 0 rfl) ?_
  refine gX_14_0 hx hb hts hown hK hP (hts _ kw_94) dX6_readOrderLine_163 ?_
  refine lv_bipush (v := 59) hx hb dX6_readOrderLine_166 (by decide) ?_
  obtain ⟨⟨r1, σ_r1⟩, h_r1, hf⟩ := bd_some hf
  refine cx_V (As := [.int 59]) (rest := []) cx (ct_xX9_pass l D C A adK adV hA h_r1) (cw_X6_84 hts ⟨Nat.le_of_ble_eq_true rfl, Nat.le_of_ble_eq_true rfl⟩) (va_recv hK hP (ci := 9) (q0 := 1) rfl (wX_1 A C _)) hP hS rfl hl.1 rfl (Nat.le_of_ble_eq_true rfl) dX6_readOrderLine_168 ⟨Nat.zero_le _, Nat.zero_le _⟩ (fun H locs hP hS => ?_)
  obtain ⟨z2, hf⟩ := gd_some hf
  exact cx_zret cx (nb_ok z2) hP hS hf dX6_readOrderLine_171
set_option maxHeartbeats 4000000 in
set_option maxRecDepth 100000 in
theorem w_F_xX6_readOrderLine_104 {p : Program} {l : Launch} {e : Env} {s : State} {m : MethodId} {args : Array Value} {below : List Frame} {meth : Method} {c : Code} {D : va_G} {C : Nat → ClassId} {A adK adV : Nat → Nat} (hA : apA A 60) (cx : Cxx D C adK adV (fxA A 60) p s m args meth c cX6_readOrderLine 3 RX6 (some .boolean)) {res : (Int32 × St)} : ∀ (x1 : Int32) (σ : St) (H : Heap) (locs : List Loc) (ls : Array Slot), F_xX6_readOrderLine_104 x1 σ = some res → lv_has ls 3 [(0, .ref (A 14)), (1, .int x1)] → va_P D vwCl (wX A C σ) H → va_S (fxA A 60) s.heap H locs → W p l e rm_X6_readOrderLine s m args below meth c H locs 0 0 (MQ below (Qcx D (wX A C) (fxA A 60) (some (.int res.1)) res.2) args s 0 0 (fxA A 60)) (F0 m 104 ls []) := by
  obtain ⟨hx, hb, hml, hown, hts, hK, hr, hlk, hZ⟩ := id cx
  intro x1 σ H locs ls hf hl hP hS
  refine lv_aload_n hx hb dX6_readOrderLine_104 rfl (lv_at hl 0 rfl) ?_
  refine gX_14_0 hx hb hts hown hK hP (hts _ kw_94) dX6_readOrderLine_105 ?_
  refine va_ldcS hx hb hown (hZ.2.1 14 (by decide)) dX6_readOrderLine_108 ?_
  obtain ⟨⟨r3, σ_r3⟩, h_r3, hf⟩ := bd_some hf
  refine cx_V (As := [.ref (adK 14)]) (rest := []) cx (ct_xX9_isWord l D C A adK adV hA (by decide) h_r3) (cw_X6_99 hts ⟨Nat.le_of_ble_eq_true rfl, Nat.le_of_ble_eq_true rfl⟩) (va_recv hK hP (ci := 9) (q0 := 1) rfl (wX_1 A C _)) hP hS rfl hl.1 rfl (Nat.le_of_ble_eq_true rfl) dX6_readOrderLine_110 ⟨Nat.zero_le _, Nat.zero_le _⟩ (fun H locs hP hS => ?_)
  refine lv_if_eq (tgt := 162) hx hb dX6_readOrderLine_113 (by decide) (fun c4 => ?_) (fun c4 => ?_)
  · have hf := (if_pos c4).symm.trans hf
    exact w_F_xX6_readOrderLine_162 hA cx _ _ _ _ hf (lv_sub hl [0] rfl) hP hS
  · have hf := (if_neg c4).symm.trans hf
    refine lv_aload_n hx hb dX6_readOrderLine_116 rfl (lv_at hl 0 rfl) ?_
    refine gX_14_0 hx hb hts hown hK hP (hts _ kw_94) dX6_readOrderLine_117 ?_
    obtain ⟨σ_r5, h_r5, hf⟩ := bv_some hf
    refine cx_V (As := []) (rest := []) cx (ct_xX9_advance l D C A adK adV hA h_r5) (cw_X6_78 hts ⟨Nat.le_of_ble_eq_true rfl, Nat.le_of_ble_eq_true rfl⟩) (va_recv hK hP (ci := 9) (q0 := 1) rfl (wX_1 A C _)) hP hS rfl hl.1 rfl (Nat.le_of_ble_eq_true rfl) dX6_readOrderLine_120 ⟨Nat.zero_le _, Nat.zero_le _⟩ (fun H locs hP hS => ?_)
    refine lv_aload_n hx hb dX6_readOrderLine_123 rfl (lv_at hl 0 rfl) ?_
    refine gX_14_4 hx hb hts hown hK hP (hts _ kw_90) dX6_readOrderLine_124 ?_
    refine lv_iload_n hx hb dX6_readOrderLine_127 rfl (lv_at hl 1 rfl) ?_
    refine lv_aload_n hx hb dX6_readOrderLine_128 rfl (lv_at hl 0 rfl) ?_
    refine gX_14_0 hx hb hts hown hK hP (hts _ kw_94) dX6_readOrderLine_129 ?_
    refine gX_1_5 hx hb hts hown hK hP (v := (σ_r5.1 4)) rfl (hts _ kw_497) dX6_readOrderLine_132 ?_
    obtain ⟨z6, hf⟩ := gd_some hf
    refine pX_a21 hx hb hK hP hA hS (ib_in z6) dX6_readOrderLine_135 (fun H locs hP hS => ?_)
    refine lv_aload_n hx hb dX6_readOrderLine_136 rfl (lv_at hl 0 rfl) ?_
    refine gX_14_6 hx hb hts hown hK hP (hts _ kw_92) dX6_readOrderLine_137 ?_
    refine lv_iload_n hx hb dX6_readOrderLine_140 rfl (lv_at hl 1 rfl) ?_
    refine lv_aload_n hx hb dX6_readOrderLine_141 rfl (lv_at hl 0 rfl) ?_
    refine gX_14_0 hx hb hts hown hK hP (hts _ kw_94) dX6_readOrderLine_142 ?_
    refine gX_1_4 hx hb hts hown hK hP (v := (σ_r5.1 3)) rfl (hts _ kw_496) dX6_readOrderLine_145 ?_
    refine pX_a23 hx hb hK hP hA hS (ib_in z6) dX6_readOrderLine_148 (fun H locs hP hS => ?_)
    refine lv_aload_n hx hb dX6_readOrderLine_149 rfl (lv_at hl 0 rfl) ?_
    refine gX_14_0 hx hb hts hown hK hP (hts _ kw_94) dX6_readOrderLine_150 ?_
    refine lv_iconst (v := 1) hx hb dX6_readOrderLine_153 (by decide) ?_
    have hP : va_P D vwCl (wX A C (sA (sA σ_r5 21 (upd (σ_r5.2.1 21) x1.toNatClampNeg (σ_r5.1 4))) 23 (upd (σ_r5.2.1 23) x1.toNatClampNeg (σ_r5.1 3)))) H := hP
    obtain ⟨⟨r7, σ_r7⟩, h_r7, hf⟩ := bd_some hf
    refine cx_V (As := [.int 1]) (rest := []) cx (ct_xX9_pass l D C A adK adV hA h_r7) (cw_X6_84 hts ⟨Nat.le_of_ble_eq_true rfl, Nat.le_of_ble_eq_true rfl⟩) (va_recv hK hP (ci := 9) (q0 := 1) rfl (wX_1 A C _)) hP hS rfl hl.1 rfl (Nat.le_of_ble_eq_true rfl) dX6_readOrderLine_154 ⟨Nat.zero_le _, Nat.zero_le _⟩ (fun H locs hP hS => ?_)
    refine lv_if_ne (tgt := 162) hx hb dX6_readOrderLine_157 (by decide) (fun c8 => ?_) (fun c8 => ?_)
    · have hf := (if_neg c8).symm.trans hf
      exact w_F_xX6_readOrderLine_162 hA cx _ _ _ _ hf (lv_sub hl [0] rfl) hP hS
    · have hf := (if_pos c8).symm.trans hf
      refine lv_iconst (v := 0) hx hb dX6_readOrderLine_160 (by decide) ?_
      exact cx_zret cx rfl hP hS hf dX6_readOrderLine_161
set_option maxHeartbeats 4000000 in
set_option maxRecDepth 100000 in
theorem ct_xX6_readOrderLine (l : Launch) (D : va_G) (C : Nat → ClassId) (A adK adV : Nat → Nat) (hA : apA A 60) {x1 : Int32} {σ : St} {res : (Int32 × St)} (hf : F_xX6_readOrderLine x1 σ = some res) : Met l yX6_readOrderLine (Cond.code yX6_readOrderLine cX6_readOrderLine 3 (some .boolean) :: wsL_law) rm_X6_readOrderLine (Pcx D C (wX A C) adK adV (fxA A 60) [.ref (A 14), .int x1] σ) (Qcx D (wX A C) (fxA A 60) (some (.int res.1)) res.2) 0 0 (fxA A 60) := by
  refine Met.ofW (cc := cX6_readOrderLine) (maxL := 3) (ret := (some .boolean)) (by decide) rfl ?_
  intro p e s m args below meth c s₁ B hml hv
  obtain ⟨rfl, hP, hK, hZ⟩ := hv
  have cx : Cxx D C adK adV (fxA A 60) p s m _ meth c cX6_readOrderLine 3 RX6 (some .boolean) := ⟨B.exec, B.bytes, hml, findClass_of_methodNamed B.named, fun w h => atoms_spec (ws := Cond.code yX6_readOrderLine cX6_readOrderLine 3 (some .boolean) :: wsL_law) B.pre w (List.mem_cons_of_mem _ h), hK, B.returns, B.notSynchronized, hZ⟩
  obtain ⟨hx, hb, -, hown, hts, -, hr, hlk, -⟩ := id cx
  have hS : va_S (fxA A 60) s.heap s.heap [] := va_S.rf
  have hl := lv_entry ([.ref (A 14), .int x1]) (n := 3) (Nat.le_of_ble_eq_true rfl)
  rw [lg_entry_eq]
  generalize (lg_sl ([.ref (A 14), .int x1]) ++ List.replicate (3 - (lg_sl ([.ref (A 14), .int x1])).length) Slot.unset).toArray = ls at hl ⊢
  have hl : lv_has ls 3 [(0, .ref (A 14)), (1, .int x1)] := hl
  show W p l e rm_X6_readOrderLine s m _ below meth c s.heap [] 0 0 _ _
  refine lv_aload_n hx hb dX6_readOrderLine_0 rfl (lv_at hl 0 rfl) ?_
  obtain ⟨⟨r9, σ_r9⟩, h_r9, hf⟩ := bd_some hf
  refine cx_V (As := []) (rest := []) cx (ct_xX6_opOnTape l D C A adK adV hA h_r9) (cw_X6_93 hts ⟨Nat.le_of_ble_eq_true rfl, Nat.le_of_ble_eq_true rfl⟩) (va_recv hK hP (ci := 6) (q0 := 14) rfl (wX_14 A C _)) hP hS rfl hl.1 rfl (Nat.le_of_ble_eq_true rfl) dX6_readOrderLine_1 ⟨Nat.zero_le _, Nat.zero_le _⟩ (fun H locs hP hS => ?_)
  refine lv_istore_n (lv' := [(2, .int r9), (0, .ref (A 14)), (1, .int x1)]) hx hb dX6_readOrderLine_4 rfl hl (by decide) rfl (fun ls hl => ?_)
  refine lv_iload_n hx hb dX6_readOrderLine_5 rfl (lv_at hl 0 rfl) ?_
  refine lv_iconst (v := (-1)) hx hb dX6_readOrderLine_6 (by decide) ?_
  refine lv_icmp_ne (tgt := 26) hx hb dX6_readOrderLine_7 (by decide) (fun c10 => ?_) (fun c10 => ?_)
  · have hf := (if_neg c10).symm.trans hf
    refine lv_aload_n hx hb dX6_readOrderLine_26 rfl (lv_at hl 1 rfl) ?_
    refine gX_14_7 hx hb hts hown hK hP (hts _ kw_93) dX6_readOrderLine_27 ?_
    refine lv_iload_n hx hb dX6_readOrderLine_30 rfl (lv_at hl 2 rfl) ?_
    refine lv_iload_n hx hb dX6_readOrderLine_31 rfl (lv_at hl 0 rfl) ?_
    obtain ⟨z11, hf⟩ := gd_some hf
    refine pX_a24 hx hb hK hP hA hS (ib_in z11) dX6_readOrderLine_32 (fun H locs hP hS => ?_)
    refine lv_aload_n hx hb dX6_readOrderLine_33 rfl (lv_at hl 1 rfl) ?_
    refine gX_14_3 hx hb hts hown hK hP (hts _ kw_89) dX6_readOrderLine_34 ?_
    refine lv_iload_n hx hb dX6_readOrderLine_37 rfl (lv_at hl 2 rfl) ?_
    refine lv_iconst (v := 0) hx hb dX6_readOrderLine_38 (by decide) ?_
    refine pX_a20 hx hb hK hP hA hS (ib_in z11) dX6_readOrderLine_39 (fun H locs hP hS => ?_)
    refine lv_aload_n hx hb dX6_readOrderLine_40 rfl (lv_at hl 1 rfl) ?_
    refine gX_14_4 hx hb hts hown hK hP (hts _ kw_90) dX6_readOrderLine_41 ?_
    refine lv_iload_n hx hb dX6_readOrderLine_44 rfl (lv_at hl 2 rfl) ?_
    refine lv_iconst (v := 0) hx hb dX6_readOrderLine_45 (by decide) ?_
    refine pX_a21 hx hb hK hP hA hS (ib_in z11) dX6_readOrderLine_46 (fun H locs hP hS => ?_)
    refine lv_aload_n hx hb dX6_readOrderLine_47 rfl (lv_at hl 1 rfl) ?_
    refine gX_14_0 hx hb hts hown hK hP (hts _ kw_94) dX6_readOrderLine_48 ?_
    have hP : va_P D vwCl (wX A C (sA (sA (sA σ_r9 20 (upd (σ_r9.2.1 20) x1.toNatClampNeg 0)) 21 (upd (σ_r9.2.1 21) x1.toNatClampNeg 0)) 24 (upd (σ_r9.2.1 24) x1.toNatClampNeg r9))) H := hP
    obtain ⟨σ_r12, h_r12, hf⟩ := bv_some hf
    refine cx_V (As := []) (rest := []) cx (ct_xX9_advance l D C A adK adV hA h_r12) (cw_X6_78 hts ⟨Nat.le_of_ble_eq_true rfl, Nat.le_of_ble_eq_true rfl⟩) (va_recv hK hP (ci := 9) (q0 := 1) rfl (wX_1 A C _)) hP hS rfl hl.1 rfl (Nat.le_of_ble_eq_true rfl) dX6_readOrderLine_51 ⟨Nat.zero_le _, Nat.zero_le _⟩ (fun H locs hP hS => ?_)
    refine lv_iload_n hx hb dX6_readOrderLine_54 rfl (lv_at hl 0 rfl) ?_
    refine lv_iconst (v := 1) hx hb dX6_readOrderLine_55 (by decide) ?_
    refine lv_icmp_lt (tgt := 104) hx hb dX6_readOrderLine_56 (by decide) (fun c13 => ?_) (fun c13 => ?_)
    · have hf := (if_pos c13).symm.trans hf
      exact w_F_xX6_readOrderLine_104 hA cx _ _ _ _ _ hf (lv_sub hl [1, 2] rfl) hP hS
    · have hf := (if_neg c13).symm.trans hf
      refine lv_iload_n hx hb dX6_readOrderLine_59 rfl (lv_at hl 0 rfl) ?_
      refine lv_bipush (v := 7) hx hb dX6_readOrderLine_60 (by decide) ?_
      refine lv_icmp_gt (tgt := 104) hx hb dX6_readOrderLine_62 (by decide) (fun c14 => ?_) (fun c14 => ?_)
      · have hf := (if_pos c14).symm.trans hf
        exact w_F_xX6_readOrderLine_104 hA cx _ _ _ _ _ hf (lv_sub hl [1, 2] rfl) hP hS
      · have hf := (if_neg c14).symm.trans hf
        refine lv_aload_n hx hb dX6_readOrderLine_65 rfl (lv_at hl 1 rfl) ?_
        refine gX_14_3 hx hb hts hown hK hP (hts _ kw_89) dX6_readOrderLine_66 ?_
        refine lv_iload_n hx hb dX6_readOrderLine_69 rfl (lv_at hl 2 rfl) ?_
        refine lv_aload_n hx hb dX6_readOrderLine_70 rfl (lv_at hl 1 rfl) ?_
        refine gX_14_0 hx hb hts hown hK hP (hts _ kw_94) dX6_readOrderLine_71 ?_
        refine gX_1_5 hx hb hts hown hK hP (v := (σ_r12.1 4)) rfl (hts _ kw_497) dX6_readOrderLine_74 ?_
        refine pX_a20 hx hb hK hP hA hS (ib_in z11) dX6_readOrderLine_77 (fun H locs hP hS => ?_)
        refine lv_aload_n hx hb dX6_readOrderLine_78 rfl (lv_at hl 1 rfl) ?_
        refine gX_14_5 hx hb hts hown hK hP (hts _ kw_91) dX6_readOrderLine_79 ?_
        refine lv_iload_n hx hb dX6_readOrderLine_82 rfl (lv_at hl 2 rfl) ?_
        refine lv_aload_n hx hb dX6_readOrderLine_83 rfl (lv_at hl 1 rfl) ?_
        refine gX_14_0 hx hb hts hown hK hP (hts _ kw_94) dX6_readOrderLine_84 ?_
        refine gX_1_4 hx hb hts hown hK hP (v := (σ_r12.1 3)) rfl (hts _ kw_496) dX6_readOrderLine_87 ?_
        refine pX_a22 hx hb hK hP hA hS (ib_in z11) dX6_readOrderLine_90 (fun H locs hP hS => ?_)
        refine lv_aload_n hx hb dX6_readOrderLine_91 rfl (lv_at hl 1 rfl) ?_
        refine gX_14_0 hx hb hts hown hK hP (hts _ kw_94) dX6_readOrderLine_92 ?_
        refine lv_iconst (v := 1) hx hb dX6_readOrderLine_95 (by decide) ?_
        have hP : va_P D vwCl (wX A C (sA (sA σ_r12 20 (upd (σ_r12.2.1 20) x1.toNatClampNeg (σ_r12.1 4))) 22 (upd (σ_r12.2.1 22) x1.toNatClampNeg (σ_r12.1 3)))) H := hP
        obtain ⟨⟨r15, σ_r15⟩, h_r15, hf⟩ := bd_some hf
        refine cx_V (As := [.int 1]) (rest := []) cx (ct_xX9_pass l D C A adK adV hA h_r15) (cw_X6_84 hts ⟨Nat.le_of_ble_eq_true rfl, Nat.le_of_ble_eq_true rfl⟩) (va_recv hK hP (ci := 9) (q0 := 1) rfl (wX_1 A C _)) hP hS rfl hl.1 rfl (Nat.le_of_ble_eq_true rfl) dX6_readOrderLine_96 ⟨Nat.zero_le _, Nat.zero_le _⟩ (fun H locs hP hS => ?_)
        refine lv_if_ne (tgt := 104) hx hb dX6_readOrderLine_99 (by decide) (fun c16 => ?_) (fun c16 => ?_)
        · have hf := (if_neg c16).symm.trans hf
          exact w_F_xX6_readOrderLine_104 hA cx _ _ _ _ _ hf (lv_sub hl [1, 2] rfl) hP hS
        · have hf := (if_pos c16).symm.trans hf
          refine lv_iconst (v := 0) hx hb dX6_readOrderLine_102 (by decide) ?_
          exact cx_zret cx rfl hP hS hf dX6_readOrderLine_103
  · have hf := (if_pos c10).symm.trans hf
    refine lv_aload_n hx hb dX6_readOrderLine_10 rfl (lv_at hl 1 rfl) ?_
    refine gX_14_0 hx hb hts hown hK hP (hts _ kw_94) dX6_readOrderLine_11 ?_
    refine lv_iconst (v := 1) hx hb dX6_readOrderLine_14 (by decide) ?_
    refine lv_aload_n hx hb dX6_readOrderLine_15 rfl (lv_at hl 1 rfl) ?_
    refine gX_14_0 hx hb hts hown hK hP (hts _ kw_94) dX6_readOrderLine_16 ?_
    refine gX_1_4 hx hb hts hown hK hP (v := (σ_r9.1 3)) rfl (hts _ kw_496) dX6_readOrderLine_19 ?_
    obtain ⟨⟨r17, σ_r17⟩, h_r17, hf⟩ := bd_some hf
    refine cx_V (As := [.int 1, .int (σ_r9.1 3)]) (rest := []) cx (ct_xX9_fail l D C A adK adV hA h_r17) (cw_X6_67 hts ⟨Nat.le_of_ble_eq_true rfl, Nat.le_of_ble_eq_true rfl⟩) (va_recv hK hP (ci := 9) (q0 := 1) rfl (wX_1 A C _)) hP hS rfl hl.1 rfl (Nat.le_of_ble_eq_true rfl) dX6_readOrderLine_22 ⟨Nat.zero_le _, Nat.zero_le _⟩ (fun H locs hP hS => ?_)
    obtain ⟨z18, hf⟩ := gd_some hf
    exact cx_zret cx (nb_ok z18) hP hS hf dX6_readOrderLine_25
set_option maxHeartbeats 4000000 in
set_option maxRecDepth 100000 in
theorem w_F_xX6_readNumberLine_73 {p : Program} {l : Launch} {e : Env} {s : State} {m : MethodId} {args : Array Value} {below : List Frame} {meth : Method} {c : Code} {D : va_G} {C : Nat → ClassId} {A adK adV : Nat → Nat} (hA : apA A 60) (cx : Cxx D C adK adV (fxA A 60) p s m args meth c cX6_readNumberLine 3 RX6 (some .boolean)) {res : (Int32 × St)} : ∀ (y1 : Int32) (y2 : Int32) (σ : St) (H : Heap) (locs : List Loc) (ls : Array Slot), F_xX6_readNumberLine_73 y1 y2 σ = some res → lv_has ls 3 [(0, .ref (A 14))] → va_P D vwCl (wX A C σ) H → va_S (fxA A 60) s.heap H locs → W p l e rm_X6_readNumberLine s m args below meth c H locs 0 0 (MQ below (Qcx D (wX A C) (fxA A 60) (some (.int res.1)) res.2) args s 0 0 (fxA A 60)) (F0 m 73 ls [.int y2, .int y1, .ref (A 16)]) := by
  obtain ⟨hx, hb, hml, hown, hts, hK, hr, hlk, hZ⟩ := id cx
  intro y1 y2 σ H locs ls hf hl hP hS
  obtain ⟨z1, hf⟩ := gd_some hf
  refine pX_a16 hx hb hK hP hA hS (ib_in z1) dX6_readNumberLine_73 (fun H locs hP hS => ?_)
  refine lv_aload_n hx hb dX6_readNumberLine_74 rfl (lv_at hl 0 rfl) ?_
  refine gX_14_0 hx hb hts hown hK hP (hts _ kw_94) dX6_readNumberLine_75 ?_
  refine lv_iconst (v := 2) hx hb dX6_readNumberLine_78 (by decide) ?_
  have hP : va_P D vwCl (wX A C (sA σ 16 (upd (σ.2.1 16) y1.toNatClampNeg y2))) H := hP
  obtain ⟨⟨r2, σ_r2⟩, h_r2, hf⟩ := bd_some hf
  refine cx_V (As := [.int 2]) (rest := []) cx (ct_xX9_pass l D C A adK adV hA h_r2) (cw_X6_84 hts ⟨Nat.le_of_ble_eq_true rfl, Nat.le_of_ble_eq_true rfl⟩) (va_recv hK hP (ci := 9) (q0 := 1) rfl (wX_1 A C _)) hP hS rfl hl.1 rfl (Nat.le_of_ble_eq_true rfl) dX6_readNumberLine_79 ⟨Nat.zero_le _, Nat.zero_le _⟩ (fun H locs hP hS => ?_)
  refine lv_if_eq (tgt := 101) hx hb dX6_readNumberLine_82 (by decide) (fun c3 => ?_) (fun c3 => ?_)
  · have hf := (if_pos c3).symm.trans hf
    refine lv_iconst (v := 0) hx hb dX6_readNumberLine_101 (by decide) ?_
    exact cx_zret cx rfl hP hS hf dX6_readNumberLine_102
  · have hf := (if_neg c3).symm.trans hf
    refine lv_aload_n hx hb dX6_readNumberLine_85 rfl (lv_at hl 0 rfl) ?_
    refine gX_14_0 hx hb hts hown hK hP (hts _ kw_94) dX6_readNumberLine_86 ?_
    refine lv_bipush (v := 59) hx hb dX6_readNumberLine_89 (by decide) ?_
    obtain ⟨⟨r4, σ_r4⟩, h_r4, hf⟩ := bd_some hf
    refine cx_V (As := [.int 59]) (rest := []) cx (ct_xX9_pass l D C A adK adV hA h_r4) (cw_X6_84 hts ⟨Nat.le_of_ble_eq_true rfl, Nat.le_of_ble_eq_true rfl⟩) (va_recv hK hP (ci := 9) (q0 := 1) rfl (wX_1 A C _)) hP hS rfl hl.1 rfl (Nat.le_of_ble_eq_true rfl) dX6_readNumberLine_91 ⟨Nat.zero_le _, Nat.zero_le _⟩ (fun H locs hP hS => ?_)
    refine lv_if_eq (tgt := 101) hx hb dX6_readNumberLine_94 (by decide) (fun c5 => ?_) (fun c5 => ?_)
    · have hf := (if_pos c5).symm.trans hf
      refine lv_iconst (v := 0) hx hb dX6_readNumberLine_101 (by decide) ?_
      exact cx_zret cx rfl hP hS hf dX6_readNumberLine_102
    · have hf := (if_neg c5).symm.trans hf
      refine lv_iconst (v := 1) hx hb dX6_readNumberLine_97 (by decide) ?_
      refine lv_goto (tgt := 102) hx hb dX6_readNumberLine_98 (by decide) ?_
      exact cx_zret cx rfl hP hS hf dX6_readNumberLine_102
set_option maxHeartbeats 4000000 in
set_option maxRecDepth 100000 in
theorem w_F_xX6_readNumberLine_43 {p : Program} {l : Launch} {e : Env} {s : State} {m : MethodId} {args : Array Value} {below : List Frame} {meth : Method} {c : Code} {D : va_G} {C : Nat → ClassId} {A adK adV : Nat → Nat} (hA : apA A 60) (cx : Cxx D C adK adV (fxA A 60) p s m args meth c cX6_readNumberLine 3 RX6 (some .boolean)) {res : (Int32 × St)} : ∀ (x1 : Int32) (x2 : Int32) (σ : St) (H : Heap) (locs : List Loc) (ls : Array Slot), F_xX6_readNumberLine_43 x1 x2 σ = some res → lv_has ls 3 [(0, .ref (A 14)), (1, .int x1), (2, .int x2)] → va_P D vwCl (wX A C σ) H → va_S (fxA A 60) s.heap H locs → W p l e rm_X6_readNumberLine s m args below meth c H locs 0 0 (MQ below (Qcx D (wX A C) (fxA A 60) (some (.int res.1)) res.2) args s 0 0 (fxA A 60)) (F0 m 43 ls []) := by
  obtain ⟨hx, hb, hml, hown, hts, hK, hr, hlk, hZ⟩ := id cx
  intro x1 x2 σ H locs ls hf hl hP hS
  refine lv_aload_n hx hb dX6_readNumberLine_43 rfl (lv_at hl 0 rfl) ?_
  refine gX_14_1 hx hb hts hown hK hP (hts _ kw_87) dX6_readNumberLine_44 ?_
  refine gX_15_2 hx hb hts hown hK hP (hts _ kw_508) dX6_readNumberLine_47 ?_
  refine lv_iload_n hx hb dX6_readNumberLine_50 rfl (lv_at hl 1 rfl) ?_
  refine lv_iload_n hx hb dX6_readNumberLine_51 rfl (lv_at hl 2 rfl) ?_
  refine lv_if_eq (tgt := 66) hx hb dX6_readNumberLine_52 (by decide) (fun c6 => ?_) (fun c6 => ?_)
  · have hf := (if_pos c6).symm.trans hf
    refine lv_aload_n hx hb dX6_readNumberLine_66 rfl (lv_at hl 0 rfl) ?_
    refine gX_14_0 hx hb hts hown hK hP (hts _ kw_94) dX6_readNumberLine_67 ?_
    refine gX_1_5 hx hb hts hown hK hP (v := (σ.1 4)) rfl (hts _ kw_497) dX6_readNumberLine_70 ?_
    exact w_F_xX6_readNumberLine_73 hA cx _ _ _ _ _ _ hf (lv_sub hl [0] rfl) hP hS
  · have hf := (if_neg c6).symm.trans hf
    refine lv_aload_n hx hb dX6_readNumberLine_55 rfl (lv_at hl 0 rfl) ?_
    refine gX_14_0 hx hb hts hown hK hP (hts _ kw_94) dX6_readNumberLine_56 ?_
    refine gX_1_5 hx hb hts hown hK hP (v := (σ.1 4)) rfl (hts _ kw_497) dX6_readNumberLine_59 ?_
    refine lv_ineg hx hb dX6_readNumberLine_62 ?_
    refine lv_goto (tgt := 73) hx hb dX6_readNumberLine_63 (by decide) ?_
    exact w_F_xX6_readNumberLine_73 hA cx _ _ _ _ _ _ hf (lv_sub hl [0] rfl) hP hS
set_option maxHeartbeats 4000000 in
set_option maxRecDepth 100000 in
theorem w_F_xX6_readNumberLine_31 {p : Program} {l : Launch} {e : Env} {s : State} {m : MethodId} {args : Array Value} {below : List Frame} {meth : Method} {c : Code} {D : va_G} {C : Nat → ClassId} {A adK adV : Nat → Nat} (hA : apA A 60) (cx : Cxx D C adK adV (fxA A 60) p s m args meth c cX6_readNumberLine 3 RX6 (some .boolean)) {res : (Int32 × St)} : ∀ (x1 : Int32) (y0 : Int32) (σ : St) (H : Heap) (locs : List Loc) (ls : Array Slot), F_xX6_readNumberLine_31 x1 y0 σ = some res → lv_has ls 3 [(0, .ref (A 14)), (1, .int x1)] → va_P D vwCl (wX A C σ) H → va_S (fxA A 60) s.heap H locs → W p l e rm_X6_readNumberLine s m args below meth c H locs 0 0 (MQ below (Qcx D (wX A C) (fxA A 60) (some (.int res.1)) res.2) args s 0 0 (fxA A 60)) (F0 m 31 ls [.int y0]) := by
  obtain ⟨hx, hb, hml, hown, hts, hK, hr, hlk, hZ⟩ := id cx
  intro x1 y0 σ H locs ls hf hl hP hS
  refine lv_istore_n (lv' := [(2, .int y0), (0, .ref (A 14)), (1, .int x1)]) hx hb dX6_readNumberLine_31 rfl hl (by decide) rfl (fun ls hl => ?_)
  refine lv_iload_n hx hb dX6_readNumberLine_32 rfl (lv_at hl 0 rfl) ?_
  refine lv_if_eq (tgt := 43) hx hb dX6_readNumberLine_33 (by decide) (fun c7 => ?_) (fun c7 => ?_)
  · have hf := (if_pos c7).symm.trans hf
    exact w_F_xX6_readNumberLine_43 hA cx _ _ _ _ _ _ hf (lv_sub hl [1, 2, 0] rfl) hP hS
  · have hf := (if_neg c7).symm.trans hf
    refine lv_aload_n hx hb dX6_readNumberLine_36 rfl (lv_at hl 1 rfl) ?_
    refine gX_14_0 hx hb hts hown hK hP (hts _ kw_94) dX6_readNumberLine_37 ?_
    obtain ⟨σ_r8, h_r8, hf⟩ := bv_some hf
    refine cx_V (As := []) (rest := []) cx (ct_xX9_advance l D C A adK adV hA h_r8) (cw_X6_78 hts ⟨Nat.le_of_ble_eq_true rfl, Nat.le_of_ble_eq_true rfl⟩) (va_recv hK hP (ci := 9) (q0 := 1) rfl (wX_1 A C _)) hP hS rfl hl.1 rfl (Nat.le_of_ble_eq_true rfl) dX6_readNumberLine_40 ⟨Nat.zero_le _, Nat.zero_le _⟩ (fun H locs hP hS => ?_)
    exact w_F_xX6_readNumberLine_43 hA cx _ _ _ _ _ _ hf (lv_sub hl [1, 2, 0] rfl) hP hS
set_option maxHeartbeats 4000000 in
set_option maxRecDepth 100000 in
theorem ct_xX6_readNumberLine (l : Launch) (D : va_G) (C : Nat → ClassId) (A adK adV : Nat → Nat) (hA : apA A 60) {x1 : Int32} {σ : St} {res : (Int32 × St)} (hf : F_xX6_readNumberLine x1 σ = some res) : Met l yX6_readNumberLine (Cond.code yX6_readNumberLine cX6_readNumberLine 3 (some .boolean) :: wsL_law) rm_X6_readNumberLine (Pcx D C (wX A C) adK adV (fxA A 60) [.ref (A 14), .int x1] σ) (Qcx D (wX A C) (fxA A 60) (some (.int res.1)) res.2) 0 0 (fxA A 60) := by
  refine Met.ofW (cc := cX6_readNumberLine) (maxL := 3) (ret := (some .boolean)) (by decide) rfl ?_
  intro p e s m args below meth c s₁ B hml hv
  obtain ⟨rfl, hP, hK, hZ⟩ := hv
  have cx : Cxx D C adK adV (fxA A 60) p s m _ meth c cX6_readNumberLine 3 RX6 (some .boolean) := ⟨B.exec, B.bytes, hml, findClass_of_methodNamed B.named, fun w h => atoms_spec (ws := Cond.code yX6_readNumberLine cX6_readNumberLine 3 (some .boolean) :: wsL_law) B.pre w (List.mem_cons_of_mem _ h), hK, B.returns, B.notSynchronized, hZ⟩
  obtain ⟨hx, hb, -, hown, hts, -, hr, hlk, -⟩ := id cx
  have hS : va_S (fxA A 60) s.heap s.heap [] := va_S.rf
  have hl := lv_entry ([.ref (A 14), .int x1]) (n := 3) (Nat.le_of_ble_eq_true rfl)
  rw [lg_entry_eq]
  generalize (lg_sl ([.ref (A 14), .int x1]) ++ List.replicate (3 - (lg_sl ([.ref (A 14), .int x1])).length) Slot.unset).toArray = ls at hl ⊢
  have hl : lv_has ls 3 [(0, .ref (A 14)), (1, .int x1)] := hl
  show W p l e rm_X6_readNumberLine s m _ below meth c s.heap [] 0 0 _ _
  refine lv_aload_n hx hb dX6_readNumberLine_0 rfl (lv_at hl 0 rfl) ?_
  refine gX_14_7 hx hb hts hown hK hP (hts _ kw_93) dX6_readNumberLine_1 ?_
  refine lv_iload_n hx hb dX6_readNumberLine_4 rfl (lv_at hl 1 rfl) ?_
  refine lv_iconst (v := (-1)) hx hb dX6_readNumberLine_5 (by decide) ?_
  obtain ⟨z9, hf⟩ := gd_some hf
  refine pX_a24 hx hb hK hP hA hS (ib_in z9) dX6_readNumberLine_6 (fun H locs hP hS => ?_)
  refine lv_aload_n hx hb dX6_readNumberLine_7 rfl (lv_at hl 0 rfl) ?_
  refine gX_14_0 hx hb hts hown hK hP (hts _ kw_94) dX6_readNumberLine_8 ?_
  have hP : va_P D vwCl (wX A C (sA σ 24 (upd (σ.2.1 24) x1.toNatClampNeg (-1)))) H := hP
  obtain ⟨σ_r10, h_r10, hf⟩ := bv_some hf
  refine cx_V (As := []) (rest := []) cx (ct_xX9_advance l D C A adK adV hA h_r10) (cw_X6_78 hts ⟨Nat.le_of_ble_eq_true rfl, Nat.le_of_ble_eq_true rfl⟩) (va_recv hK hP (ci := 9) (q0 := 1) rfl (wX_1 A C _)) hP hS rfl hl.1 rfl (Nat.le_of_ble_eq_true rfl) dX6_readNumberLine_11 ⟨Nat.zero_le _, Nat.zero_le _⟩ (fun H locs hP hS => ?_)
  refine lv_aload_n hx hb dX6_readNumberLine_14 rfl (lv_at hl 0 rfl) ?_
  refine gX_14_0 hx hb hts hown hK hP (hts _ kw_94) dX6_readNumberLine_15 ?_
  refine gX_1_3 hx hb hts hown hK hP (v := (σ_r10.1 2)) rfl (hts _ kw_488) dX6_readNumberLine_18 ?_
  refine lv_bipush (v := 45) hx hb dX6_readNumberLine_21 (by decide) ?_
  refine lv_icmp_ne (tgt := 30) hx hb dX6_readNumberLine_23 (by decide) (fun c11 => ?_) (fun c11 => ?_)
  · have hf := (if_neg c11).symm.trans hf
    refine lv_iconst (v := 0) hx hb dX6_readNumberLine_30 (by decide) ?_
    exact w_F_xX6_readNumberLine_31 hA cx _ _ _ _ _ _ hf (lv_sub hl [0, 1] rfl) hP hS
  · have hf := (if_pos c11).symm.trans hf
    refine lv_iconst (v := 1) hx hb dX6_readNumberLine_26 (by decide) ?_
    refine lv_goto (tgt := 31) hx hb dX6_readNumberLine_27 (by decide) ?_
    exact w_F_xX6_readNumberLine_31 hA cx _ _ _ _ _ _ hf (lv_sub hl [0, 1] rfl) hP hS
set_option maxHeartbeats 4000000 in
set_option maxRecDepth 100000 in
theorem w_F_xX6_readLine_76 {p : Program} {l : Launch} {e : Env} {s : State} {m : MethodId} {args : Array Value} {below : List Frame} {meth : Method} {c : Code} {D : va_G} {C : Nat → ClassId} {A adK adV : Nat → Nat} (hA : apA A 60) (cx : Cxx D C adK adV (fxA A 60) p s m args meth c cX6_readLine 2 RX6 (some .boolean)) {res : (Int32 × St)} : ∀ (σ : St) (H : Heap) (locs : List Loc) (ls : Array Slot), F_xX6_readLine_76 σ = some res → lv_has ls 2 [(0, .ref (A 14))] → va_P D vwCl (wX A C σ) H → va_S (fxA A 60) s.heap H locs → W p l e rm_X6_readLine s m args below meth c H locs 0 0 (MQ below (Qcx D (wX A C) (fxA A 60) (some (.int res.1)) res.2) args s 0 0 (fxA A 60)) (F0 m 76 ls []) := by
  obtain ⟨hx, hb, hml, hown, hts, hK, hr, hlk, hZ⟩ := id cx
  intro σ H locs ls hf hl hP hS
  refine lv_aload_n hx hb dX6_readLine_76 rfl (lv_at hl 0 rfl) ?_
  refine gX_14_0 hx hb hts hown hK hP (hts _ kw_94) dX6_readLine_77 ?_
  refine lv_iconst (v := 4) hx hb dX6_readLine_80 (by decide) ?_
  refine lv_aload_n hx hb dX6_readLine_81 rfl (lv_at hl 0 rfl) ?_
  refine gX_14_0 hx hb hts hown hK hP (hts _ kw_94) dX6_readLine_82 ?_
  refine gX_1_4 hx hb hts hown hK hP (v := (σ.1 3)) rfl (hts _ kw_496) dX6_readLine_85 ?_
  obtain ⟨⟨r1, σ_r1⟩, h_r1, hf⟩ := bd_some hf
  refine cx_V (As := [.int 4, .int (σ.1 3)]) (rest := []) cx (ct_xX9_fail l D C A adK adV hA h_r1) (cw_X6_67 hts ⟨Nat.le_of_ble_eq_true rfl, Nat.le_of_ble_eq_true rfl⟩) (va_recv hK hP (ci := 9) (q0 := 1) rfl (wX_1 A C _)) hP hS rfl hl.1 rfl (Nat.le_of_ble_eq_true rfl) dX6_readLine_88 ⟨Nat.zero_le _, Nat.zero_le _⟩ (fun H locs hP hS => ?_)
  obtain ⟨z2, hf⟩ := gd_some hf
  exact cx_zret cx (nb_ok z2) hP hS hf dX6_readLine_91
set_option maxHeartbeats 4000000 in
set_option maxRecDepth 100000 in
theorem ct_xX6_readLine (l : Launch) (D : va_G) (C : Nat → ClassId) (A adK adV : Nat → Nat) (hA : apA A 60)  {σ : St} {res : (Int32 × St)} (hf : F_xX6_readLine σ = some res) : Met l yX6_readLine (Cond.code yX6_readLine cX6_readLine 2 (some .boolean) :: wsL_law) rm_X6_readLine (Pcx D C (wX A C) adK adV (fxA A 60) [.ref (A 14)] σ) (Qcx D (wX A C) (fxA A 60) (some (.int res.1)) res.2) 0 0 (fxA A 60) := by
  refine Met.ofW (cc := cX6_readLine) (maxL := 2) (ret := (some .boolean)) (by decide) rfl ?_
  intro p e s m args below meth c s₁ B hml hv
  obtain ⟨rfl, hP, hK, hZ⟩ := hv
  have cx : Cxx D C adK adV (fxA A 60) p s m _ meth c cX6_readLine 2 RX6 (some .boolean) := ⟨B.exec, B.bytes, hml, findClass_of_methodNamed B.named, fun w h => atoms_spec (ws := Cond.code yX6_readLine cX6_readLine 2 (some .boolean) :: wsL_law) B.pre w (List.mem_cons_of_mem _ h), hK, B.returns, B.notSynchronized, hZ⟩
  obtain ⟨hx, hb, -, hown, hts, -, hr, hlk, -⟩ := id cx
  have hS : va_S (fxA A 60) s.heap s.heap [] := va_S.rf
  have hl := lv_entry ([.ref (A 14)]) (n := 2) (Nat.le_of_ble_eq_true rfl)
  rw [lg_entry_eq]
  generalize (lg_sl ([.ref (A 14)]) ++ List.replicate (2 - (lg_sl ([.ref (A 14)])).length) Slot.unset).toArray = ls at hl ⊢
  have hl : lv_has ls 2 [(0, .ref (A 14))] := hl
  show W p l e rm_X6_readLine s m _ below meth c s.heap [] 0 0 _ _
  refine lv_aload_n hx hb dX6_readLine_0 rfl (lv_at hl 0 rfl) ?_
  refine gX_14_0 hx hb hts hown hK hP (hts _ kw_94) dX6_readLine_1 ?_
  refine gX_1_3 hx hb hts hown hK hP (v := (σ.1 2)) rfl (hts _ kw_488) dX6_readLine_4 ?_
  refine lv_iconst (v := 1) hx hb dX6_readLine_7 (by decide) ?_
  refine lv_icmp_eq (tgt := 27) hx hb dX6_readLine_8 (by decide) (fun c3 => ?_) (fun c3 => ?_)
  · have hf := (if_pos c3).symm.trans hf
    refine lv_aload_n hx hb dX6_readLine_27 rfl (lv_at hl 0 rfl) ?_
    refine lv_aload_n hx hb dX6_readLine_28 rfl (lv_at hl 0 rfl) ?_
    refine gX_14_0 hx hb hts hown hK hP (hts _ kw_94) dX6_readLine_29 ?_
    refine gX_1_5 hx hb hts hown hK hP (v := (σ.1 4)) rfl (hts _ kw_497) dX6_readLine_32 ?_
    obtain ⟨⟨r4, σ_r4⟩, h_r4, hf⟩ := bd_some hf
    refine cx_V (As := [.int (σ.1 4)]) (rest := []) cx (ct_xX6_find l D C A adK adV hA h_r4) (cw_X6_74 hts ⟨Nat.le_of_ble_eq_true rfl, Nat.le_of_ble_eq_true rfl⟩) (va_recv hK hP (ci := 6) (q0 := 14) rfl (wX_14 A C _)) hP hS rfl hl.1 rfl (Nat.le_of_ble_eq_true rfl) dX6_readLine_35 ⟨Nat.zero_le _, Nat.zero_le _⟩ (fun H locs hP hS => ?_)
    refine lv_iconst (v := (-1)) hx hb dX6_readLine_38 (by decide) ?_
    refine lv_icmp_eq (tgt := 58) hx hb dX6_readLine_39 (by decide) (fun c5 => ?_) (fun c5 => ?_)
    · have hf := (if_pos c5).symm.trans hf
      refine lv_aload_n hx hb dX6_readLine_58 rfl (lv_at hl 0 rfl) ?_
      refine gX_14_1 hx hb hts hown hK hP (hts _ kw_87) dX6_readLine_59 ?_
      refine gX_15_0 hx hb hts hown hK hP (v := (σ_r4.1 14)) rfl (hts _ kw_489) dX6_readLine_62 ?_
      refine lv_istore_n (lv' := [(1, .int (σ_r4.1 14)), (0, .ref (A 14))]) hx hb dX6_readLine_65 rfl hl (by decide) rfl (fun ls hl => ?_)
      refine lv_iload_n hx hb dX6_readLine_66 rfl (lv_at hl 0 rfl) ?_
      refine lv_if_lt (tgt := 76) hx hb dX6_readLine_67 (by decide) (fun c6 => ?_) (fun c6 => ?_)
      · have hf := (if_pos c6).symm.trans hf
        exact w_F_xX6_readLine_76 hA cx _ _ _ _ hf (lv_sub hl [1] rfl) hP hS
      · have hf := (if_neg c6).symm.trans hf
        refine lv_iload_n hx hb dX6_readLine_70 rfl (lv_at hl 0 rfl) ?_
        refine lv_bipush (v := 40) hx hb dX6_readLine_71 (by decide) ?_
        refine lv_icmp_lt (tgt := 92) hx hb dX6_readLine_73 (by decide) (fun c7 => ?_) (fun c7 => ?_)
        · have hf := (if_pos c7).symm.trans hf
          refine lv_aload_n hx hb dX6_readLine_92 rfl (lv_at hl 1 rfl) ?_
          refine gX_14_2 hx hb hts hown hK hP (hts _ kw_88) dX6_readLine_93 ?_
          refine lv_iload_n hx hb dX6_readLine_96 rfl (lv_at hl 0 rfl) ?_
          refine lv_aload_n hx hb dX6_readLine_97 rfl (lv_at hl 1 rfl) ?_
          refine gX_14_0 hx hb hts hown hK hP (hts _ kw_94) dX6_readLine_98 ?_
          refine gX_1_5 hx hb hts hown hK hP (v := (σ_r4.1 4)) rfl (hts _ kw_497) dX6_readLine_101 ?_
          obtain ⟨z8, hf⟩ := gd_some hf
          refine pX_a19 hx hb hK hP hA hS (ib_in z8) dX6_readLine_104 (fun H locs hP hS => ?_)
          refine lv_aload_n hx hb dX6_readLine_105 rfl (lv_at hl 1 rfl) ?_
          refine gX_14_1 hx hb hts hown hK hP (hts _ kw_87) dX6_readLine_106 ?_
          refine lv_dup hx hb dX6_readLine_109 rfl ?_
          refine gX_15_0 hx hb hts hown hK hP (v := (σ_r4.1 14)) rfl (hts _ kw_489) dX6_readLine_110 ?_
          refine lv_iconst (v := 1) hx hb dX6_readLine_113 (by decide) ?_
          refine lv_iadd hx hb dX6_readLine_114 ?_
          refine pX_15_0 hx hb hts hown hK hP hA hS (hts _ kw_489) dX6_readLine_115 (fun H locs hP hS => ?_)
          refine lv_aload_n hx hb dX6_readLine_118 rfl (lv_at hl 1 rfl) ?_
          refine gX_14_0 hx hb hts hown hK hP (hts _ kw_94) dX6_readLine_119 ?_
          have hP : va_P D vwCl (wX A C (sA (sI σ_r4 14 ((σ_r4.1 14) + 1)) 19 (upd (σ_r4.2.1 19) (σ_r4.1 14).toNatClampNeg (σ_r4.1 4)))) H := hP
          obtain ⟨σ_r9, h_r9, hf⟩ := bv_some hf
          refine cx_V (As := []) (rest := []) cx (ct_xX9_advance l D C A adK adV hA h_r9) (cw_X6_78 hts ⟨Nat.le_of_ble_eq_true rfl, Nat.le_of_ble_eq_true rfl⟩) (va_recv hK hP (ci := 9) (q0 := 1) rfl (wX_1 A C _)) hP hS rfl hl.1 rfl (Nat.le_of_ble_eq_true rfl) dX6_readLine_122 ⟨Nat.zero_le _, Nat.zero_le _⟩ (fun H locs hP hS => ?_)
          refine lv_aload_n hx hb dX6_readLine_125 rfl (lv_at hl 1 rfl) ?_
          refine gX_14_0 hx hb hts hown hK hP (hts _ kw_94) dX6_readLine_126 ?_
          refine gX_1_3 hx hb hts hown hK hP (v := (σ_r9.1 2)) rfl (hts _ kw_488) dX6_readLine_129 ?_
          refine lv_bipush (v := 61) hx hb dX6_readLine_132 (by decide) ?_
          refine lv_icmp_ne (tgt := 143) hx hb dX6_readLine_134 (by decide) (fun c10 => ?_) (fun c10 => ?_)
          · have hf := (if_neg c10).symm.trans hf
            refine lv_aload_n hx hb dX6_readLine_143 rfl (lv_at hl 1 rfl) ?_
            refine gX_14_0 hx hb hts hown hK hP (hts _ kw_94) dX6_readLine_144 ?_
            refine lv_bipush (v := 58) hx hb dX6_readLine_147 (by decide) ?_
            obtain ⟨⟨r11, σ_r11⟩, h_r11, hf⟩ := bd_some hf
            refine cx_V (As := [.int 58]) (rest := []) cx (ct_xX9_pass l D C A adK adV hA h_r11) (cw_X6_84 hts ⟨Nat.le_of_ble_eq_true rfl, Nat.le_of_ble_eq_true rfl⟩) (va_recv hK hP (ci := 9) (q0 := 1) rfl (wX_1 A C _)) hP hS rfl hl.1 rfl (Nat.le_of_ble_eq_true rfl) dX6_readLine_149 ⟨Nat.zero_le _, Nat.zero_le _⟩ (fun H locs hP hS => ?_)
            refine lv_if_eq (tgt := 167) hx hb dX6_readLine_152 (by decide) (fun c12 => ?_) (fun c12 => ?_)
            · have hf := (if_pos c12).symm.trans hf
              refine lv_iconst (v := 0) hx hb dX6_readLine_167 (by decide) ?_
              exact cx_zret cx rfl hP hS hf dX6_readLine_168
            · have hf := (if_neg c12).symm.trans hf
              refine lv_aload_n hx hb dX6_readLine_155 rfl (lv_at hl 1 rfl) ?_
              refine lv_iload_n hx hb dX6_readLine_156 rfl (lv_at hl 0 rfl) ?_
              obtain ⟨⟨r13, σ_r13⟩, h_r13, hf⟩ := bd_some hf
              refine cx_V (As := [.int (σ_r4.1 14)]) (rest := []) cx (ct_xX6_readOrderLine l D C A adK adV hA h_r13) (cw_X6_87 hts ⟨Nat.le_of_ble_eq_true rfl, Nat.le_of_ble_eq_true rfl⟩) (va_recv hK hP (ci := 6) (q0 := 14) rfl (wX_14 A C _)) hP hS rfl hl.1 rfl (Nat.le_of_ble_eq_true rfl) dX6_readLine_157 ⟨Nat.zero_le _, Nat.zero_le _⟩ (fun H locs hP hS => ?_)
              refine lv_if_eq (tgt := 167) hx hb dX6_readLine_160 (by decide) (fun c14 => ?_) (fun c14 => ?_)
              · have hf := (if_pos c14).symm.trans hf
                refine lv_iconst (v := 0) hx hb dX6_readLine_167 (by decide) ?_
                exact cx_zret cx rfl hP hS hf dX6_readLine_168
              · have hf := (if_neg c14).symm.trans hf
                refine lv_iconst (v := 1) hx hb dX6_readLine_163 (by decide) ?_
                refine lv_goto (tgt := 168) hx hb dX6_readLine_164 (by decide) ?_
                exact cx_zret cx rfl hP hS hf dX6_readLine_168
          · have hf := (if_pos c10).symm.trans hf
            refine lv_aload_n hx hb dX6_readLine_137 rfl (lv_at hl 1 rfl) ?_
            refine lv_iload_n hx hb dX6_readLine_138 rfl (lv_at hl 0 rfl) ?_
            obtain ⟨⟨r15, σ_r15⟩, h_r15, hf⟩ := bd_some hf
            refine cx_V (As := [.int (σ_r4.1 14)]) (rest := []) cx (ct_xX6_readNumberLine l D C A adK adV hA h_r15) (cw_X6_81 hts ⟨Nat.le_of_ble_eq_true rfl, Nat.le_of_ble_eq_true rfl⟩) (va_recv hK hP (ci := 6) (q0 := 14) rfl (wX_14 A C _)) hP hS rfl hl.1 rfl (Nat.le_of_ble_eq_true rfl) dX6_readLine_139 ⟨Nat.zero_le _, Nat.zero_le _⟩ (fun H locs hP hS => ?_)
            obtain ⟨z16, hf⟩ := gd_some hf
            exact cx_zret cx (nb_ok z16) hP hS hf dX6_readLine_142
        · have hf := (if_neg c7).symm.trans hf
          exact w_F_xX6_readLine_76 hA cx _ _ _ _ hf (lv_sub hl [1] rfl) hP hS
    · have hf := (if_neg c5).symm.trans hf
      refine lv_aload_n hx hb dX6_readLine_42 rfl (lv_at hl 0 rfl) ?_
      refine gX_14_0 hx hb hts hown hK hP (hts _ kw_94) dX6_readLine_43 ?_
      refine lv_iconst (v := 3) hx hb dX6_readLine_46 (by decide) ?_
      refine lv_aload_n hx hb dX6_readLine_47 rfl (lv_at hl 0 rfl) ?_
      refine gX_14_0 hx hb hts hown hK hP (hts _ kw_94) dX6_readLine_48 ?_
      refine gX_1_4 hx hb hts hown hK hP (v := (σ_r4.1 3)) rfl (hts _ kw_496) dX6_readLine_51 ?_
      obtain ⟨⟨r17, σ_r17⟩, h_r17, hf⟩ := bd_some hf
      refine cx_V (As := [.int 3, .int (σ_r4.1 3)]) (rest := []) cx (ct_xX9_fail l D C A adK adV hA h_r17) (cw_X6_67 hts ⟨Nat.le_of_ble_eq_true rfl, Nat.le_of_ble_eq_true rfl⟩) (va_recv hK hP (ci := 9) (q0 := 1) rfl (wX_1 A C _)) hP hS rfl hl.1 rfl (Nat.le_of_ble_eq_true rfl) dX6_readLine_54 ⟨Nat.zero_le _, Nat.zero_le _⟩ (fun H locs hP hS => ?_)
      obtain ⟨z18, hf⟩ := gd_some hf
      exact cx_zret cx (nb_ok z18) hP hS hf dX6_readLine_57
  · have hf := (if_neg c3).symm.trans hf
    refine lv_aload_n hx hb dX6_readLine_11 rfl (lv_at hl 0 rfl) ?_
    refine gX_14_0 hx hb hts hown hK hP (hts _ kw_94) dX6_readLine_12 ?_
    refine lv_iconst (v := 1) hx hb dX6_readLine_15 (by decide) ?_
    refine lv_aload_n hx hb dX6_readLine_16 rfl (lv_at hl 0 rfl) ?_
    refine gX_14_0 hx hb hts hown hK hP (hts _ kw_94) dX6_readLine_17 ?_
    refine gX_1_4 hx hb hts hown hK hP (v := (σ.1 3)) rfl (hts _ kw_496) dX6_readLine_20 ?_
    obtain ⟨⟨r19, σ_r19⟩, h_r19, hf⟩ := bd_some hf
    refine cx_V (As := [.int 1, .int (σ.1 3)]) (rest := []) cx (ct_xX9_fail l D C A adK adV hA h_r19) (cw_X6_67 hts ⟨Nat.le_of_ble_eq_true rfl, Nat.le_of_ble_eq_true rfl⟩) (va_recv hK hP (ci := 9) (q0 := 1) rfl (wX_1 A C _)) hP hS rfl hl.1 rfl (Nat.le_of_ble_eq_true rfl) dX6_readLine_23 ⟨Nat.zero_le _, Nat.zero_le _⟩ (fun H locs hP hS => ?_)
    obtain ⟨z20, hf⟩ := gd_some hf
    exact cx_zret cx (nb_ok z20) hP hS hf dX6_readLine_26
set_option maxHeartbeats 4000000 in
set_option maxRecDepth 100000 in
theorem ct_xX5_clearv2 (l : Launch) (D : va_G) (C : Nat → ClassId) (A adK adV : Nat → Nat) (hA : apA A 60)  {σ : St} {res : St} (hf : F_xX5_clearv2 σ = some res) : Met l yX5_clear (Cond.code yX5_clear cX5_clear 1 none :: wsL_law) rm_X5_clear (Pcx D C (wX A C) adK adV (fxA A 60) [.ref (A 15)] σ) (Qcx D (wX A C) (fxA A 60) none res) 0 0 (fxA A 60) := by
  refine Met.ofW (cc := cX5_clear) (maxL := 1) (ret := none) (by decide) rfl ?_
  intro p e s m args below meth c s₁ B hml hv
  obtain ⟨rfl, hP, hK, hZ⟩ := hv
  have cx : Cxx D C adK adV (fxA A 60) p s m _ meth c cX5_clear 1 RX5 none := ⟨B.exec, B.bytes, hml, findClass_of_methodNamed B.named, fun w h => atoms_spec (ws := Cond.code yX5_clear cX5_clear 1 none :: wsL_law) B.pre w (List.mem_cons_of_mem _ h), hK, B.returns, B.notSynchronized, hZ⟩
  obtain ⟨hx, hb, -, hown, hts, -, hr, hlk, -⟩ := id cx
  have hS : va_S (fxA A 60) s.heap s.heap [] := va_S.rf
  have hl := lv_entry ([.ref (A 15)]) (n := 1) (Nat.le_of_ble_eq_true rfl)
  rw [lg_entry_eq]
  generalize (lg_sl ([.ref (A 15)]) ++ List.replicate (1 - (lg_sl ([.ref (A 15)])).length) Slot.unset).toArray = ls at hl ⊢
  have hl : lv_has ls 1 [(0, .ref (A 15))] := hl
  show W p l e rm_X5_clear s m _ below meth c s.heap [] 0 0 _ _
  refine lv_aload_n hx hb dX5_clear_0 rfl (lv_at hl 0 rfl) ?_
  refine lv_iconst (v := 0) hx hb dX5_clear_1 (by decide) ?_
  refine pX_15_0 hx hb hts hown hK hP hA hS (hts _ kw_367) dX5_clear_2 (fun H locs hP hS => ?_)
  refine lv_aload_n hx hb dX5_clear_5 rfl (lv_at hl 0 rfl) ?_
  refine lv_iconst (v := 0) hx hb dX5_clear_6 (by decide) ?_
  refine pX_15_1 hx hb hts hown hK hP hA hS (hts _ kw_368) dX5_clear_7 (fun H locs hP hS => ?_)
  have hP : va_P D vwCl (wX A C (sI (sI σ 14 0) 15 0)) H := hP
  exact cx_vret cx hP hS hf dX5_clear_10
set_option maxHeartbeats 4000000 in
set_option maxRecDepth 100000 in
theorem w_F_xX6_read_49 {p : Program} {l : Launch} {e : Env} {s : State} {m : MethodId} {args : Array Value} {below : List Frame} {meth : Method} {c : Code} {D : va_G} {C : Nat → ClassId} {A adK adV : Nat → Nat} (hA : apA A 60) (cx : Cxx D C adK adV (fxA A 60) p s m args meth c cX6_read 2 RX6 (some .boolean)) {res : (Int32 × St)} : ∀ (n : Nat), ∀ (x1 : Int32) (σ : St) (H : Heap) (locs : List Loc) (ls : Array Slot), F_xX6_read_49 n x1 σ = some res → lv_has ls 2 [(0, .ref (A 14)), (1, .int x1)] → va_P D vwCl (wX A C σ) H → va_S (fxA A 60) s.heap H locs → W p l e rm_X6_read s m args below meth c H locs 0 0 (MQ below (Qcx D (wX A C) (fxA A 60) (some (.int res.1)) res.2) args s 0 0 (fxA A 60)) (F0 m 49 ls []) := by
  obtain ⟨hx, hb, hml, hown, hts, hK, hr, hlk, hZ⟩ := id cx
  intro n
  induction n with
  | zero =>
    intro x1 σ H locs ls hf hl hP hS
    exact absurd (show (none : Option (Int32 × St)) = some res from hf) (by intro h; cases h)
  | succ n ih =>
    intro x1 σ H locs ls hf hl hP hS
    refine lv_iload_n hx hb dX6_read_49 rfl (lv_at hl 1 rfl) ?_
    refine lv_aload_n hx hb dX6_read_50 rfl (lv_at hl 0 rfl) ?_
    refine gX_14_1 hx hb hts hown hK hP (hts _ kw_87) dX6_read_51 ?_
    refine gX_15_0 hx hb hts hown hK hP (v := (σ.1 14)) rfl (hts _ kw_489) dX6_read_54 ?_
    refine lv_icmp_ge (tgt := 92) hx hb dX6_read_57 (by decide) (fun c1 => ?_) (fun c1 => ?_)
    · have hf := (if_pos c1).symm.trans hf
      refine lv_iconst (v := 1) hx hb dX6_read_92 (by decide) ?_
      exact cx_zret cx rfl hP hS hf dX6_read_93
    · have hf := (if_neg c1).symm.trans hf
      refine lv_iload_n hx hb dX6_read_60 rfl (lv_at hl 1 rfl) ?_
      refine lv_bipush (v := 40) hx hb dX6_read_61 (by decide) ?_
      refine lv_icmp_ge (tgt := 92) hx hb dX6_read_63 (by decide) (fun c2 => ?_) (fun c2 => ?_)
      · have hf := (if_pos c2).symm.trans hf
        refine lv_iconst (v := 1) hx hb dX6_read_92 (by decide) ?_
        exact cx_zret cx rfl hP hS hf dX6_read_93
      · have hf := (if_neg c2).symm.trans hf
        refine lv_aload_n hx hb dX6_read_66 rfl (lv_at hl 0 rfl) ?_
        refine gX_14_7 hx hb hts hown hK hP (hts _ kw_93) dX6_read_67 ?_
        refine lv_iload_n hx hb dX6_read_70 rfl (lv_at hl 1 rfl) ?_
        obtain ⟨z3, hf⟩ := gd_some hf
        refine gX_a24 hx hb hK hP (ib_in z3) (v := (σ.2.1 24 x1.toNatClampNeg)) rfl dX6_read_71 ?_
        refine lv_iconst (v := (-1)) hx hb dX6_read_72 (by decide) ?_
        refine lv_icmp_eq (tgt := 86) hx hb dX6_read_73 (by decide) (fun c4 => ?_) (fun c4 => ?_)
        · have hf := (if_pos c4).symm.trans hf
          refine lv_iinc (v := (x1 + 1)) (lv' := [(1, .int (x1 + 1)), (0, .ref (A 14))]) hx hb dX6_read_86 hl (k := 1) rfl rfl (by decide) rfl (fun ls hl => ?_)
          refine lv_goto (tgt := 49) hx hb dX6_read_89 (by decide) ?_
          exact ih _ _ _ _ _ hf (lv_sub hl [1, 0] rfl) hP hS
        · have hf := (if_neg c4).symm.trans hf
          refine lv_aload_n hx hb dX6_read_76 rfl (lv_at hl 0 rfl) ?_
          refine lv_iload_n hx hb dX6_read_77 rfl (lv_at hl 1 rfl) ?_
          obtain ⟨⟨r5, σ_r5⟩, h_r5, hf⟩ := bd_some hf
          refine cx_V (As := [.int x1]) (rest := []) cx (ct_xX6_resolve l D C A adK adV hA h_r5) (cw_X6_60 hts ⟨Nat.le_of_ble_eq_true rfl, Nat.le_of_ble_eq_true rfl⟩) (va_recv hK hP (ci := 6) (q0 := 14) rfl (wX_14 A C _)) hP hS rfl hl.1 rfl (Nat.le_of_ble_eq_true rfl) dX6_read_78 ⟨Nat.zero_le _, Nat.zero_le _⟩ (fun H locs hP hS => ?_)
          refine lv_if_ne (tgt := 86) hx hb dX6_read_81 (by decide) (fun c6 => ?_) (fun c6 => ?_)
          · have hf := (if_neg c6).symm.trans hf
            refine lv_iinc (v := (x1 + 1)) (lv' := [(1, .int (x1 + 1)), (0, .ref (A 14))]) hx hb dX6_read_86 hl (k := 1) rfl rfl (by decide) rfl (fun ls hl => ?_)
            refine lv_goto (tgt := 49) hx hb dX6_read_89 (by decide) ?_
            exact ih _ _ _ _ _ hf (lv_sub hl [1, 0] rfl) hP hS
          · have hf := (if_pos c6).symm.trans hf
            refine lv_iconst (v := 0) hx hb dX6_read_84 (by decide) ?_
            exact cx_zret cx rfl hP hS hf dX6_read_85
set_option maxHeartbeats 4000000 in
set_option maxRecDepth 100000 in
theorem w_F_xX6_read_16 {p : Program} {l : Launch} {e : Env} {s : State} {m : MethodId} {args : Array Value} {below : List Frame} {meth : Method} {c : Code} {D : va_G} {C : Nat → ClassId} {A adK adV : Nat → Nat} (hA : apA A 60) (cx : Cxx D C adK adV (fxA A 60) p s m args meth c cX6_read 2 RX6 (some .boolean)) {res : (Int32 × St)} : ∀ (n : Nat), ∀ (x1 : Int32) (σ : St) (H : Heap) (locs : List Loc) (ls : Array Slot), F_xX6_read_16 n x1 σ = some res → lv_has ls 2 [(0, .ref (A 14)), (1, .int x1)] → va_P D vwCl (wX A C σ) H → va_S (fxA A 60) s.heap H locs → W p l e rm_X6_read s m args below meth c H locs 0 0 (MQ below (Qcx D (wX A C) (fxA A 60) (some (.int res.1)) res.2) args s 0 0 (fxA A 60)) (F0 m 16 ls []) := by
  obtain ⟨hx, hb, hml, hown, hts, hK, hr, hlk, hZ⟩ := id cx
  intro n
  induction n with
  | zero =>
    intro x1 σ H locs ls hf hl hP hS
    exact absurd (show (none : Option (Int32 × St)) = some res from hf) (by intro h; cases h)
  | succ n ih =>
    intro x1 σ H locs ls hf hl hP hS
    refine lv_iload_n hx hb dX6_read_16 rfl (lv_at hl 1 rfl) ?_
    refine lv_bipush (v := 40) hx hb dX6_read_17 (by decide) ?_
    refine lv_icmp_gt (tgt := 47) hx hb dX6_read_19 (by decide) (fun c7 => ?_) (fun c7 => ?_)
    · have hf := (if_pos c7).symm.trans hf
      refine lv_iconst (v := 0) hx hb dX6_read_47 (by decide) ?_
      refine lv_istore_n (lv' := [(1, .int 0), (0, .ref (A 14))]) hx hb dX6_read_48 rfl hl (by decide) rfl (fun ls hl => ?_)
      exact w_F_xX6_read_49 hA cx FU _ _ _ _ _ hf (lv_sub hl [1, 0] rfl) hP hS
    · have hf := (if_neg c7).symm.trans hf
      refine lv_aload_n hx hb dX6_read_22 rfl (lv_at hl 0 rfl) ?_
      refine gX_14_0 hx hb hts hown hK hP (hts _ kw_94) dX6_read_23 ?_
      refine gX_1_3 hx hb hts hown hK hP (v := (σ.1 2)) rfl (hts _ kw_488) dX6_read_26 ?_
      refine lv_if_eq (tgt := 47) hx hb dX6_read_29 (by decide) (fun c8 => ?_) (fun c8 => ?_)
      · have hf := (if_pos c8).symm.trans hf
        refine lv_iconst (v := 0) hx hb dX6_read_47 (by decide) ?_
        refine lv_istore_n (lv' := [(1, .int 0), (0, .ref (A 14))]) hx hb dX6_read_48 rfl hl (by decide) rfl (fun ls hl => ?_)
        exact w_F_xX6_read_49 hA cx FU _ _ _ _ _ hf (lv_sub hl [1, 0] rfl) hP hS
      · have hf := (if_neg c8).symm.trans hf
        refine lv_aload_n hx hb dX6_read_32 rfl (lv_at hl 0 rfl) ?_
        obtain ⟨⟨r9, σ_r9⟩, h_r9, hf⟩ := bd_some hf
        refine cx_V (As := []) (rest := []) cx (ct_xX6_readLine l D C A adK adV hA h_r9) (cw_X6_53 hts ⟨Nat.le_of_ble_eq_true rfl, Nat.le_of_ble_eq_true rfl⟩) (va_recv hK hP (ci := 6) (q0 := 14) rfl (wX_14 A C _)) hP hS rfl hl.1 rfl (Nat.le_of_ble_eq_true rfl) dX6_read_33 ⟨Nat.zero_le _, Nat.zero_le _⟩ (fun H locs hP hS => ?_)
        refine lv_if_ne (tgt := 41) hx hb dX6_read_36 (by decide) (fun c10 => ?_) (fun c10 => ?_)
        · have hf := (if_neg c10).symm.trans hf
          refine lv_iinc (v := (x1 + 1)) (lv' := [(1, .int (x1 + 1)), (0, .ref (A 14))]) hx hb dX6_read_41 hl (k := 1) rfl rfl (by decide) rfl (fun ls hl => ?_)
          refine lv_goto (tgt := 16) hx hb dX6_read_44 (by decide) ?_
          exact ih _ _ _ _ _ hf (lv_sub hl [1, 0] rfl) hP hS
        · have hf := (if_pos c10).symm.trans hf
          refine lv_iconst (v := 0) hx hb dX6_read_39 (by decide) ?_
          exact cx_zret cx rfl hP hS hf dX6_read_40
set_option maxHeartbeats 4000000 in
set_option maxRecDepth 100000 in
theorem ct_xX6_read (l : Launch) (D : va_G) (C : Nat → ClassId) (A adK adV : Nat → Nat) (hA : apA A 60)  {σ : St} {res : (Int32 × St)} (hf : F_xX6_read σ = some res) : Met l yX6_read (Cond.code yX6_read cX6_read 2 (some .boolean) :: wsL_law) rm_X6_read (Pcx D C (wX A C) adK adV (fxA A 60) [.ref (A 14)] σ) (Qcx D (wX A C) (fxA A 60) (some (.int res.1)) res.2) 0 0 (fxA A 60) := by
  refine Met.ofW (cc := cX6_read) (maxL := 2) (ret := (some .boolean)) (by decide) rfl ?_
  intro p e s m args below meth c s₁ B hml hv
  obtain ⟨rfl, hP, hK, hZ⟩ := hv
  have cx : Cxx D C adK adV (fxA A 60) p s m _ meth c cX6_read 2 RX6 (some .boolean) := ⟨B.exec, B.bytes, hml, findClass_of_methodNamed B.named, fun w h => atoms_spec (ws := Cond.code yX6_read cX6_read 2 (some .boolean) :: wsL_law) B.pre w (List.mem_cons_of_mem _ h), hK, B.returns, B.notSynchronized, hZ⟩
  obtain ⟨hx, hb, -, hown, hts, -, hr, hlk, -⟩ := id cx
  have hS : va_S (fxA A 60) s.heap s.heap [] := va_S.rf
  have hl := lv_entry ([.ref (A 14)]) (n := 2) (Nat.le_of_ble_eq_true rfl)
  rw [lg_entry_eq]
  generalize (lg_sl ([.ref (A 14)]) ++ List.replicate (2 - (lg_sl ([.ref (A 14)])).length) Slot.unset).toArray = ls at hl ⊢
  have hl : lv_has ls 2 [(0, .ref (A 14))] := hl
  show W p l e rm_X6_read s m _ below meth c s.heap [] 0 0 _ _
  refine lv_aload_n hx hb dX6_read_0 rfl (lv_at hl 0 rfl) ?_
  refine gX_14_0 hx hb hts hown hK hP (hts _ kw_94) dX6_read_1 ?_
  obtain ⟨σ_r11, h_r11, hf⟩ := bv_some hf
  refine cx_V (As := []) (rest := []) cx (ct_xX9_rewind l D C A adK adV hA h_r11) (cw_X6_41 hts ⟨Nat.le_of_ble_eq_true rfl, Nat.le_of_ble_eq_true rfl⟩) (va_recv hK hP (ci := 9) (q0 := 1) rfl (wX_1 A C _)) hP hS rfl hl.1 rfl (Nat.le_of_ble_eq_true rfl) dX6_read_4 ⟨Nat.zero_le _, Nat.zero_le _⟩ (fun H locs hP hS => ?_)
  refine lv_aload_n hx hb dX6_read_7 rfl (lv_at hl 0 rfl) ?_
  refine gX_14_1 hx hb hts hown hK hP (hts _ kw_87) dX6_read_8 ?_
  obtain ⟨σ_r12, h_r12, hf⟩ := bv_some hf
  refine cx_V (As := []) (rest := []) cx (ct_xX5_clearv2 l D C A adK adV hA h_r12) (cw_X6_46 hts ⟨Nat.le_of_ble_eq_true rfl, Nat.le_of_ble_eq_true rfl⟩) (va_recv hK hP (ci := 5) (q0 := 15) rfl (wX_15 A C _)) hP hS rfl hl.1 rfl (Nat.le_of_ble_eq_true rfl) dX6_read_11 ⟨Nat.zero_le _, Nat.zero_le _⟩ (fun H locs hP hS => ?_)
  refine lv_iconst (v := 0) hx hb dX6_read_14 (by decide) ?_
  refine lv_istore_n (lv' := [(1, .int 0), (0, .ref (A 14))]) hx hb dX6_read_15 rfl hl (by decide) rfl (fun ls hl => ?_)
  exact w_F_xX6_read_16 hA cx FU _ _ _ _ _ hf (lv_sub hl [1, 0] rfl) hP hS
set_option maxHeartbeats 4000000 in
set_option maxRecDepth 100000 in
theorem ct_xX5_copyFrom (l : Launch) (D : va_G) (C : Nat → ClassId) (A adK adV : Nat → Nat) (hA : apA A 60)  {σ : St} {res : St} (hf : F_xX5_copyFrom σ = some res) : Met l yX5_copyFrom (Cond.code yX5_copyFrom cX5_copyFrom 2 none :: wsL_law) rm_X5_copyFrom (Pcx D C (wX A C) adK adV (fxA A 60) [.ref (A 10), .ref (A 15)] σ) (Qcx D (wX A C) (fxA A 60) none res) 0 0 (fxA A 60) := by
  refine Met.ofW (cc := cX5_copyFrom) (maxL := 2) (ret := none) (by decide) rfl ?_
  intro p e s m args below meth c s₁ B hml hv
  obtain ⟨rfl, hP, hK, hZ⟩ := hv
  have cx : Cxx D C adK adV (fxA A 60) p s m _ meth c cX5_copyFrom 2 RX5 none := ⟨B.exec, B.bytes, hml, findClass_of_methodNamed B.named, fun w h => atoms_spec (ws := Cond.code yX5_copyFrom cX5_copyFrom 2 none :: wsL_law) B.pre w (List.mem_cons_of_mem _ h), hK, B.returns, B.notSynchronized, hZ⟩
  obtain ⟨hx, hb, -, hown, hts, -, hr, hlk, -⟩ := id cx
  have hS : va_S (fxA A 60) s.heap s.heap [] := va_S.rf
  have hl := lv_entry ([.ref (A 10), .ref (A 15)]) (n := 2) (Nat.le_of_ble_eq_true rfl)
  rw [lg_entry_eq]
  generalize (lg_sl ([.ref (A 10), .ref (A 15)]) ++ List.replicate (2 - (lg_sl ([.ref (A 10), .ref (A 15)])).length) Slot.unset).toArray = ls at hl ⊢
  have hl : lv_has ls 2 [(0, .ref (A 10)), (1, .ref (A 15))] := hl
  show W p l e rm_X5_copyFrom s m _ below meth c s.heap [] 0 0 _ _
  refine lv_aload_n hx hb dX5_copyFrom_0 rfl (lv_at hl 0 rfl) ?_
  refine lv_aload_n hx hb dX5_copyFrom_1 rfl (lv_at hl 1 rfl) ?_
  refine gX_15_0 hx hb hts hown hK hP (v := (σ.1 14)) rfl (hts _ kw_367) dX5_copyFrom_2 ?_
  refine pX_10_0 hx hb hts hown hK hP hA hS (hts _ kw_367) dX5_copyFrom_5 (fun H locs hP hS => ?_)
  refine lv_aload_n hx hb dX5_copyFrom_8 rfl (lv_at hl 0 rfl) ?_
  refine lv_iconst (v := 0) hx hb dX5_copyFrom_9 (by decide) ?_
  refine pX_10_1 hx hb hts hown hK hP hA hS (hts _ kw_368) dX5_copyFrom_10 (fun H locs hP hS => ?_)
  refine lv_aload_n hx hb dX5_copyFrom_13 rfl (lv_at hl 1 rfl) ?_
  refine gX_15_2 hx hb hts hown hK hP (hts _ kw_79) dX5_copyFrom_14 ?_
  refine lv_iconst (v := 0) hx hb dX5_copyFrom_17 (by decide) ?_
  refine lv_aload_n hx hb dX5_copyFrom_18 rfl (lv_at hl 0 rfl) ?_
  refine gX_10_2 hx hb hts hown hK hP (hts _ kw_79) dX5_copyFrom_19 ?_
  refine lv_iconst (v := 0) hx hb dX5_copyFrom_22 (by decide) ?_
  refine lv_bipush (v := 40) hx hb dX5_copyFrom_23 (by decide) ?_
  refine va_copyi hx hb (hml.trans hl.1.symm) hown (hts _ kw_528) (hts _ kw_529) (hts _ kw_530) (hts _ kw_531) hK hP (wX_D hA C _) hS 16 11 1 1 (wX_16 A C _) (wX_11 A C _) rfl rfl rfl (by decide) (by decide) (by decide) (by decide) (by decide) (fun _ _ => rfl) (Nat.le_of_ble_eq_true rfl) (by decide) dX5_copyFrom_25 (fun H locs hP _ hS => ?_)
  have hP : va_P D vwCl (wX A C (sA (sI (sI σ 11 (σ.1 14)) 12 0) 11 (va_cpy (σ.2.1 16) (σ.2.1 11) 0 0 40))) H := hP
  exact cx_vret cx hP hS hf dX5_copyFrom_28
set_option maxHeartbeats 4000000 in
set_option maxRecDepth 100000 in
theorem ct_xX10_program (l : Launch) (D : va_G) (C : Nat → ClassId) (A adK adV : Nat → Nat) (hA : apA A 60)  {σ : St} {res : (Int32 × St)} (hf : F_xX10_program σ = some res) : Met l yX10_program (Cond.code yX10_program cX10_program 2 (some .int) :: wsL_law) rm_X10_program (Pcx D C (wX A C) adK adV (fxA A 60) [.ref (A 0)] σ) (Qcx D (wX A C) (fxA A 60) (some (.int res.1)) res.2) 0 0 (fxA A 60) := by
  refine Met.ofW (cc := cX10_program) (maxL := 2) (ret := (some .int)) (by decide) rfl ?_
  intro p e s m args below meth c s₁ B hml hv
  obtain ⟨rfl, hP, hK, hZ⟩ := hv
  have cx : Cxx D C adK adV (fxA A 60) p s m _ meth c cX10_program 2 RX10 (some .int) := ⟨B.exec, B.bytes, hml, findClass_of_methodNamed B.named, fun w h => atoms_spec (ws := Cond.code yX10_program cX10_program 2 (some .int) :: wsL_law) B.pre w (List.mem_cons_of_mem _ h), hK, B.returns, B.notSynchronized, hZ⟩
  obtain ⟨hx, hb, -, hown, hts, -, hr, hlk, -⟩ := id cx
  have hS : va_S (fxA A 60) s.heap s.heap [] := va_S.rf
  have hl := lv_entry ([.ref (A 0)]) (n := 2) (Nat.le_of_ble_eq_true rfl)
  rw [lg_entry_eq]
  generalize (lg_sl ([.ref (A 0)]) ++ List.replicate (2 - (lg_sl ([.ref (A 0)])).length) Slot.unset).toArray = ls at hl ⊢
  have hl : lv_has ls 2 [(0, .ref (A 0))] := hl
  show W p l e rm_X10_program s m _ below meth c s.heap [] 0 0 _ _
  refine lv_aload_n hx hb dX10_program_0 rfl (lv_at hl 0 rfl) ?_
  refine gX_0_4 hx hb hts hown hK hP (hts _ kw_32) dX10_program_1 ?_
  obtain ⟨⟨r1, σ_r1⟩, h_r1, hf⟩ := bd_some hf
  refine cx_V (As := []) (rest := []) cx (ct_xX6_read l D C A adK adV hA h_r1) (cw_X10_120 hts ⟨Nat.le_of_ble_eq_true rfl, Nat.le_of_ble_eq_true rfl⟩) (va_recv hK hP (ci := 6) (q0 := 14) rfl (wX_14 A C _)) hP hS rfl hl.1 rfl (Nat.le_of_ble_eq_true rfl) dX10_program_4 ⟨Nat.zero_le _, Nat.zero_le _⟩ (fun H locs hP hS => ?_)
  refine lv_istore_n (lv' := [(1, .int r1), (0, .ref (A 0))]) hx hb dX10_program_7 rfl hl (by decide) rfl (fun ls hl => ?_)
  refine lv_aload_n hx hb dX10_program_8 rfl (lv_at hl 1 rfl) ?_
  refine gX_0_0 hx hb hts hown hK hP (hts _ kw_16) dX10_program_9 ?_
  refine lv_iconst (v := 0) hx hb dX10_program_12 (by decide) ?_
  refine pX_1_1 hx hb hts hown hK hP hA hS (hts _ kw_192) dX10_program_13 (fun H locs hP hS => ?_)
  refine lv_iload_n hx hb dX10_program_16 rfl (lv_at hl 0 rfl) ?_
  refine lv_if_ne (tgt := 22) hx hb dX10_program_17 (by decide) (fun c2 => ?_) (fun c2 => ?_)
  · have hf := (if_neg c2).symm.trans hf
    refine lv_aload_n hx hb dX10_program_22 rfl (lv_at hl 1 rfl) ?_
    refine gX_0_4 hx hb hts hown hK hP (hts _ kw_32) dX10_program_23 ?_
    refine gX_14_1 hx hb hts hown hK hP (hts _ kw_483) dX10_program_26 ?_
    refine gX_15_0 hx hb hts hown hK hP (v := (σ_r1.1 14)) rfl (hts _ kw_220) dX10_program_29 ?_
    refine lv_aload_n hx hb dX10_program_32 rfl (lv_at hl 1 rfl) ?_
    refine gX_0_1 hx hb hts hown hK hP (hts _ kw_20) dX10_program_33 ?_
    have hP : va_P D vwCl (wX A C (sI σ_r1 0 0)) H := hP
    obtain ⟨⟨r3, σ_r3⟩, h_r3, hf⟩ := bd_some hf
    refine cx_V (As := []) (rest := [.int (σ_r1.1 14)]) cx (ct_xX1_countSpots l D C A adK adV hA h_r3) (cw_X10_107 hts ⟨Nat.le_of_ble_eq_true rfl, Nat.le_of_ble_eq_true rfl⟩) (va_recv hK hP (ci := 1) (q0 := 3) rfl (wX_3 A C _)) hP hS rfl hl.1 rfl (Nat.le_of_ble_eq_true rfl) dX10_program_36 ⟨Nat.zero_le _, Nat.zero_le _⟩ (fun H locs hP hS => ?_)
    refine lv_icmp_le (tgt := 45) hx hb dX10_program_39 (by decide) (fun c4 => ?_) (fun c4 => ?_)
    · have hf := (if_pos c4).symm.trans hf
      refine lv_aload_n hx hb dX10_program_45 rfl (lv_at hl 1 rfl) ?_
      refine gX_0_3 hx hb hts hown hK hP (hts _ kw_28) dX10_program_46 ?_
      refine lv_aload_n hx hb dX10_program_49 rfl (lv_at hl 1 rfl) ?_
      refine gX_0_4 hx hb hts hown hK hP (hts _ kw_32) dX10_program_50 ?_
      refine gX_14_1 hx hb hts hown hK hP (hts _ kw_483) dX10_program_53 ?_
      obtain ⟨σ_r5, h_r5, hf⟩ := bv_some hf
      refine cx_V (As := [.ref (A 15)]) (rest := []) cx (ct_xX5_copyFrom l D C A adK adV hA h_r5) (cw_X10_123 hts ⟨Nat.le_of_ble_eq_true rfl, Nat.le_of_ble_eq_true rfl⟩) (va_recv hK hP (ci := 5) (q0 := 10) rfl (wX_10 A C _)) hP hS rfl hl.1 rfl (Nat.le_of_ble_eq_true rfl) dX10_program_56 ⟨Nat.zero_le _, Nat.zero_le _⟩ (fun H locs hP hS => ?_)
      refine lv_aload_n hx hb dX10_program_59 rfl (lv_at hl 1 rfl) ?_
      obtain ⟨σ_r6, h_r6, hf⟩ := bv_some hf
      refine cx_V (As := []) (rest := []) cx (ct_xX10_startAfresh l D C A adK adV hA h_r6) (cw_X10_117 hts ⟨Nat.le_of_ble_eq_true rfl, Nat.le_of_ble_eq_true rfl⟩) (va_recv hK hP (ci := 10) (q0 := 0) rfl (wX_0 A C _)) hP hS rfl hl.1 rfl (Nat.le_of_ble_eq_true rfl) dX10_program_60 ⟨Nat.zero_le _, Nat.zero_le _⟩ (fun H locs hP hS => ?_)
      refine lv_aload_n hx hb dX10_program_63 rfl (lv_at hl 1 rfl) ?_
      refine gX_0_3 hx hb hts hown hK hP (hts _ kw_28) dX10_program_64 ?_
      refine gX_10_0 hx hb hts hown hK hP (v := (σ_r6.1 11)) rfl (hts _ kw_220) dX10_program_67 ?_
      exact cx_iret cx hP hS hf dX10_program_70
    · have hf := (if_neg c4).symm.trans hf
      refine lv_bipush (v := (-3)) hx hb dX10_program_42 (by decide) ?_
      exact cx_iret cx hP hS hf dX10_program_44
  · have hf := (if_pos c2).symm.trans hf
    refine lv_iconst (v := (-1)) hx hb dX10_program_20 (by decide) ?_
    have hP : va_P D vwCl (wX A C (sI σ_r1 0 0)) H := hP
    exact cx_iret cx hP hS hf dX10_program_21
